theorem ic_b_72 : (Int8.ofInt (72)).toInt32 = (72 : Int32) := by decide +kernel
theorem ic_s_216 : (Int16.ofInt (216)).toInt32 = (216 : Int32) := by decide +kernel
theorem ic_s_300 : (Int16.ofInt (300)).toInt32 = (300 : Int32) := by decide +kernel
theorem ic_s_360 : (Int16.ofInt (360)).toInt32 = (360 : Int32) := by decide +kernel
theorem ic_s_600 : (Int16.ofInt (600)).toInt32 = (600 : Int32) := by decide +kernel
theorem ic_s_2264 : (Int16.ofInt (2264)).toInt32 = (2264 : Int32) := by decide +kernel
theorem ic_s_6006 : (Int16.ofInt (6006)).toInt32 = (6006 : Int32) := by decide +kernel
theorem ic_s_16000 : (Int16.ofInt (16000)).toInt32 = (16000 : Int32) := by decide +kernel
theorem gw_177 : Cond.code yX10_init cX10_init 2 (none) ∈ goodTbl := mgP tb_1 20 rfl (by decide +kernel)
theorem gw_178 : Cond.methodLink RX10 3 Lib.objectInit ∈ goodTbl := mgP tb_1 21 rfl (by decide +kernel)
theorem gw_179 : Cond.instanceMethod Lib.objectInit ∈ goodTbl := mgP tb_1 22 rfl (by decide +kernel)
theorem gw_180 : Cond.code Lib.objectInit ⟨#[0xb1]⟩ 1 none ∈ goodTbl := mgP tb_1 23 rfl (by decide +kernel)
theorem gw_181 : Cond.classLink RX10 9 RX8 ∈ goodTbl := mgP tb_1 24 rfl (by decide +kernel)
theorem gw_182 : Cond.instantiable RX8 3 ∈ goodTbl := mgP tb_1 25 rfl (by decide +kernel)
theorem gw_184 : Cond.instanceMethod yX8_init ∈ goodTbl := mgP tb_1 27 rfl (by decide +kernel)
theorem gw_185 : Cond.code yX8_init cX8_init 1 (none) ∈ goodTbl := mgP tb_1 28 rfl (by decide +kernel)
theorem gw_186 : Cond.methodLink RX8 3 Lib.objectInit ∈ goodTbl := mgP tb_1 29 rfl (by decide +kernel)
theorem gw_187 : Cond.classLink RX8 9 RX6 ∈ goodTbl := mgP tb_1 30 rfl (by decide +kernel)
theorem gw_188 : Cond.instantiable RX6 3 ∈ goodTbl := mgP tb_1 31 rfl (by decide +kernel)
theorem gw_190 : Cond.instanceMethod yX6_init ∈ goodTbl := mgP tb_1 33 rfl (by decide +kernel)
theorem gw_191 : Cond.code yX6_init cX6_init 1 (none) ∈ goodTbl := mgP tb_1 34 rfl (by decide +kernel)
theorem gw_192 : Cond.methodLink RX6 3 Lib.objectInit ∈ goodTbl := mgP tb_1 35 rfl (by decide +kernel)
theorem gw_214 : Cond.arrayClass .int ∈ goodTbl := mgP tb_1 57 rfl (by decide +kernel)
theorem gw_215 : Cond.classLink RX8 18 "[[J" ∈ goodTbl := mgP tb_1 58 rfl (by decide +kernel)
theorem gw_232 : Cond.arrayClass .long ∈ goodTbl := mgP tb_1 75 rfl (by decide +kernel)
theorem gw_234 : Cond.classLink RX10 41 RX2 ∈ goodTbl := mgP tb_1 77 rfl (by decide +kernel)
theorem gw_235 : Cond.instantiable RX2 7 ∈ goodTbl := mgP tb_1 78 rfl (by decide +kernel)
theorem gw_237 : Cond.instanceMethod yX2_init ∈ goodTbl := mgP tb_1 80 rfl (by decide +kernel)
theorem gw_238 : Cond.code yX2_init cX2_init 1 (none) ∈ goodTbl := mgP tb_1 81 rfl (by decide +kernel)
theorem gw_239 : Cond.methodLink RX2 5 Lib.objectInit ∈ goodTbl := mgP tb_1 82 rfl (by decide +kernel)
theorem gw_264 : Cond.classLink RX10 48 RX4 ∈ goodTbl := mgP tb_1 107 rfl (by decide +kernel)
theorem gw_265 : Cond.instantiable RX4 9 ∈ goodTbl := mgP tb_1 108 rfl (by decide +kernel)
theorem gw_266 : Cond.methodLink RX10 50 yX4_init ∈ goodTbl := mgP tb_1 109 rfl (by decide +kernel)
theorem gw_267 : Cond.instanceMethod yX4_init ∈ goodTbl := mgP tb_1 110 rfl (by decide +kernel)
theorem gw_268 : Cond.code yX4_init cX4_init 3 (none) ∈ goodTbl := mgP tb_1 111 rfl (by decide +kernel)
theorem gw_269 : Cond.methodLink RX4 3 Lib.objectInit ∈ goodTbl := mgP tb_1 112 rfl (by decide +kernel)
theorem gw_270 : Cond.classLink RX4 9 RX6 ∈ goodTbl := mgP tb_1 113 rfl (by decide +kernel)
theorem gw_272 : Cond.classLink RX4 18 RX9 ∈ goodTbl := mgP tb_1 115 rfl (by decide +kernel)
theorem gw_274 : Cond.instantiable RX9 4 ∈ goodTbl := mgP tb_1 117 rfl (by decide +kernel)
theorem gw_276 : Cond.instanceMethod yX9_init ∈ goodTbl := mgP tb_1 119 rfl (by decide +kernel)
theorem gw_277 : Cond.code yX9_init cX9_init 1 (none) ∈ goodTbl := mgP tb_1 120 rfl (by decide +kernel)
theorem gw_278 : Cond.methodLink RX9 3 Lib.objectInit ∈ goodTbl := mgP tb_1 121 rfl (by decide +kernel)
theorem gw_334 : Cond.classLink RX10 57 RX0 ∈ goodTbl := mgP tb_1 177 rfl (by decide +kernel)
theorem gw_335 : Cond.instantiable RX0 8 ∈ goodTbl := mgP tb_1 178 rfl (by decide +kernel)
theorem gw_336 : Cond.methodLink RX10 59 yX0_init ∈ goodTbl := mgP tb_1 179 rfl (by decide +kernel)
theorem gw_337 : Cond.instanceMethod yX0_init ∈ goodTbl := mgP tb_1 180 rfl (by decide +kernel)
theorem gw_338 : Cond.code yX0_init cX0_init 2 (none) ∈ goodTbl := mgP tb_1 181 rfl (by decide +kernel)
theorem gw_339 : Cond.methodLink RX0 3 Lib.objectInit ∈ goodTbl := mgP tb_1 182 rfl (by decide +kernel)
theorem gw_365 : Cond.classLink RX10 66 RX7 ∈ goodTbl := mgP tb_1 208 rfl (by decide +kernel)
theorem gw_366 : Cond.instantiable RX7 11 ∈ goodTbl := mgP tb_1 209 rfl (by decide +kernel)
theorem gw_367 : Cond.methodLink RX10 68 yX7_init ∈ goodTbl := mgP tb_1 210 rfl (by decide +kernel)
theorem gw_368 : Cond.instanceMethod yX7_init ∈ goodTbl := mgP tb_1 211 rfl (by decide +kernel)
theorem gw_369 : Cond.code yX7_init cX7_init 3 (none) ∈ goodTbl := mgP tb_1 212 rfl (by decide +kernel)
theorem gw_370 : Cond.methodLink RX7 3 Lib.objectInit ∈ goodTbl := mgP tb_1 213 rfl (by decide +kernel)
theorem gw_371 : Cond.classLink RX7 9 RX3 ∈ goodTbl := mgP tb_1 214 rfl (by decide +kernel)
theorem gw_372 : Cond.instantiable RX3 3 ∈ goodTbl := mgP tb_1 215 rfl (by decide +kernel)
theorem gw_374 : Cond.instanceMethod yX3_init ∈ goodTbl := mgP tb_1 217 rfl (by decide +kernel)
theorem gw_375 : Cond.code yX3_init cX3_init 1 (none) ∈ goodTbl := mgP tb_1 218 rfl (by decide +kernel)
theorem gw_376 : Cond.methodLink RX3 3 Lib.objectInit ∈ goodTbl := mgP tb_1 219 rfl (by decide +kernel)
theorem gw_377 : Cond.classLink RX3 15 "[[J" ∈ goodTbl := mgP tb_1 220 rfl (by decide +kernel)
theorem gw_389 : Cond.classLink RX7 21 RX9 ∈ goodTbl := mgP tb_1 232 rfl (by decide +kernel)
theorem gw_425 : Cond.classLink RX10 73 RX1 ∈ goodTbl := mgP tb_2 28 rfl (by decide +kernel)
theorem gw_426 : Cond.instantiable RX1 10 ∈ goodTbl := mgP tb_2 29 rfl (by decide +kernel)
theorem gw_427 : Cond.methodLink RX10 75 yX1_init ∈ goodTbl := mgP tb_2 30 rfl (by decide +kernel)
theorem gw_428 : Cond.instanceMethod yX1_init ∈ goodTbl := mgP tb_2 31 rfl (by decide +kernel)
theorem gw_429 : Cond.code yX1_init cX1_init 3 (none) ∈ goodTbl := mgP tb_2 32 rfl (by decide +kernel)
theorem gw_430 : Cond.methodLink RX1 3 Lib.objectInit ∈ goodTbl := mgP tb_2 33 rfl (by decide +kernel)
theorem gw_462 : Cond.classLink RX10 82 RX3 ∈ goodTbl := mgP tb_2 65 rfl (by decide +kernel)
theorem gw_464 : Cond.classLink RX10 89 RX5 ∈ goodTbl := mgP tb_2 67 rfl (by decide +kernel)
theorem gw_465 : Cond.instantiable RX5 11 ∈ goodTbl := mgP tb_2 68 rfl (by decide +kernel)
theorem gw_466 : Cond.methodLink RX10 91 yX5_init ∈ goodTbl := mgP tb_2 69 rfl (by decide +kernel)
theorem gw_467 : Cond.instanceMethod yX5_init ∈ goodTbl := mgP tb_2 70 rfl (by decide +kernel)
theorem gw_468 : Cond.code yX5_init cX5_init 3 (none) ∈ goodTbl := mgP tb_2 71 rfl (by decide +kernel)
theorem gw_469 : Cond.methodLink RX5 3 Lib.objectInit ∈ goodTbl := mgP tb_2 72 rfl (by decide +kernel)
theorem gw_470 : Cond.classLink RX5 18 "[[J" ∈ goodTbl := mgP tb_2 73 rfl (by decide +kernel)
theorem gw_1278 : Cond.code yX11_init cX11_init 1 (none) ∈ goodTbl := mgP tb_5 161 rfl (by decide +kernel)
theorem gw_1279 : Cond.methodLink RX11 7 Lib.objectInit ∈ goodTbl := mgP tb_5 162 rfl (by decide +kernel)
theorem gw_1280 : Cond.constant RX11 29 (54600) ∈ goodTbl := mgP tb_5 163 rfl (by decide +kernel)
theorem ent_all {w : Wd} {τ : Mem} {a : Nat} : entC w [] τ a = ent w τ a := by
  unfold entC ent fldC flds
  rfl
theorem wd_all {w : Wd} {n : Nat} (h : wn w = n) (τ : Mem) : wdC w n [] τ = wd w τ := by
  unfold wdC wd
  rw [h]
  exact List.map_congr_left (fun a _ => by rw [ent_all])
abbrev muI_X10 : MD := (yX10_init, cX10_init, 2, none, 7)
theorem okI_X10 : MOK muI_X10 0 := ⟨gw_177, gw_158, (by decide +kernel : plainFor yX10_init = true), ⟨(by decide +kernel : yX10_init.cls ≠ "java/lang/invoke/MethodHandle"), (by decide +kernel : yX10_init.cls ≠ "java/lang/invoke/VarHandle"), (by decide +kernel : (parseMethodDescriptor yX10_init.desc).map (fun d => d.parameters.length) = some 0)⟩, Nat.le_of_ble_eq_true rfl⟩
theorem defI_8 : ∀ j, j < 3 → defaultValue (tyX8 j) = vp_V ((ftl 8).map (fun b => if b then Value.null else .int 0)) j := by decide +kernel
abbrev muI_X8 : MD := (yX8_init, cX8_init, 1, none, 2)
theorem okI_X8 : MOK muI_X8 0 := ⟨gw_185, gw_159, (by decide +kernel : plainFor yX8_init = true), ⟨(by decide +kernel : yX8_init.cls ≠ "java/lang/invoke/MethodHandle"), (by decide +kernel : yX8_init.cls ≠ "java/lang/invoke/VarHandle"), (by decide +kernel : (parseMethodDescriptor yX8_init.desc).map (fun d => d.parameters.length) = some 0)⟩, Nat.le_of_ble_eq_true rfl⟩
theorem defI_6 : ∀ j, j < 3 → defaultValue (tyX6 j) = vp_V ((ftl 6).map (fun b => if b then Value.null else .int 0)) j := by decide +kernel
abbrev muI_X6 : MD := (yX6_init, cX6_init, 1, none, 1)
theorem okI_X6 : MOK muI_X6 0 := ⟨gw_191, gw_160, (by decide +kernel : plainFor yX6_init = true), ⟨(by decide +kernel : yX6_init.cls ≠ "java/lang/invoke/MethodHandle"), (by decide +kernel : yX6_init.cls ≠ "java/lang/invoke/VarHandle"), (by decide +kernel : (parseMethodDescriptor yX6_init.desc).map (fun d => d.parameters.length) = some 0)⟩, Nat.le_of_ble_eq_true rfl⟩
theorem okq_6_0 : FOKq 6 0 TX6 3 (.int) false := ⟨⟨tyX6, tyX6_ok⟩, nmX6, by decide +kernel, by decide +kernel, by decide +kernel⟩
theorem okq_6_1 : FOKq 6 1 TX6 3 (.array .int) true := ⟨⟨tyX6, tyX6_ok⟩, nmX6, by decide +kernel, by decide +kernel, by decide +kernel⟩
theorem okq_6_2 : FOKq 6 2 TX6 3 (.array .int) true := ⟨⟨tyX6, tyX6_ok⟩, nmX6, by decide +kernel, by decide +kernel, by decide +kernel⟩
theorem okq_8_0 : FOKq 8 0 TX8 3 (.object "HallRegisters$Rules") true := ⟨⟨tyX8, tyX8_ok⟩, nmX8, by decide +kernel, by decide +kernel, by decide +kernel⟩
theorem okq_8_1 : FOKq 8 1 TX8 3 (.array (.array .long)) true := ⟨⟨tyX8, tyX8_ok⟩, nmX8, by decide +kernel, by decide +kernel, by decide +kernel⟩
theorem okq_8_2 : FOKq 8 2 TX8 3 (.array .int) true := ⟨⟨tyX8, tyX8_ok⟩, nmX8, by decide +kernel, by decide +kernel, by decide +kernel⟩
theorem okq_10_0 : FOKq 10 0 TX10 17 (.object "HallRegisters$State") true := ⟨⟨tyX10, tyX10_ok⟩, nmX10, by decide +kernel, by decide +kernel, by decide +kernel⟩
theorem okq_10_1 : FOKq 10 1 TX10 17 (.object "HallRegisters$State") true := ⟨⟨tyX10, tyX10_ok⟩, nmX10, by decide +kernel, by decide +kernel, by decide +kernel⟩
theorem okq_10_2 : FOKq 10 2 TX10 17 (.boolean) false := ⟨⟨tyX10, tyX10_ok⟩, nmX10, by decide +kernel, by decide +kernel, by decide +kernel⟩
theorem okq_10_3 : FOKq 10 3 TX10 17 (.array (.object "HallRegisters$State")) true := ⟨⟨tyX10, tyX10_ok⟩, nmX10, by decide +kernel, by decide +kernel, by decide +kernel⟩
theorem okq_10_4 : FOKq 10 4 TX10 17 (.int) false := ⟨⟨tyX10, tyX10_ok⟩, nmX10, by decide +kernel, by decide +kernel, by decide +kernel⟩
theorem okq_10_5 : FOKq 10 5 TX10 17 (.int) false := ⟨⟨tyX10, tyX10_ok⟩, nmX10, by decide +kernel, by decide +kernel, by decide +kernel⟩
theorem okq_10_6 : FOKq 10 6 TX10 17 (.array .int) true := ⟨⟨tyX10, tyX10_ok⟩, nmX10, by decide +kernel, by decide +kernel, by decide +kernel⟩
theorem okq_10_7 : FOKq 10 7 TX10 17 (.int) false := ⟨⟨tyX10, tyX10_ok⟩, nmX10, by decide +kernel, by decide +kernel, by decide +kernel⟩
theorem defI_2 : ∀ j, j < 7 → defaultValue (tyX2 j) = vp_V ((ftl 2).map (fun b => if b then Value.null else .int 0)) j := by decide +kernel
abbrev muI_X2 : MD := (yX2_init, cX2_init, 1, none, 1)
theorem okI_X2 : MOK muI_X2 0 := ⟨gw_238, gw_161, (by decide +kernel : plainFor yX2_init = true), ⟨(by decide +kernel : yX2_init.cls ≠ "java/lang/invoke/MethodHandle"), (by decide +kernel : yX2_init.cls ≠ "java/lang/invoke/VarHandle"), (by decide +kernel : (parseMethodDescriptor yX2_init.desc).map (fun d => d.parameters.length) = some 0)⟩, Nat.le_of_ble_eq_true rfl⟩
theorem okq_2_0 : FOKq 2 0 TX2 7 (.array .int) true := ⟨⟨tyX2, tyX2_ok⟩, nmX2, by decide +kernel, by decide +kernel, by decide +kernel⟩
theorem okq_2_1 : FOKq 2 1 TX2 7 (.int) false := ⟨⟨tyX2, tyX2_ok⟩, nmX2, by decide +kernel, by decide +kernel, by decide +kernel⟩
theorem okq_2_2 : FOKq 2 2 TX2 7 (.array .int) true := ⟨⟨tyX2, tyX2_ok⟩, nmX2, by decide +kernel, by decide +kernel, by decide +kernel⟩
theorem okq_2_3 : FOKq 2 3 TX2 7 (.int) false := ⟨⟨tyX2, tyX2_ok⟩, nmX2, by decide +kernel, by decide +kernel, by decide +kernel⟩
theorem okq_2_4 : FOKq 2 4 TX2 7 (.array .int) true := ⟨⟨tyX2, tyX2_ok⟩, nmX2, by decide +kernel, by decide +kernel, by decide +kernel⟩
theorem okq_2_5 : FOKq 2 5 TX2 7 (.int) false := ⟨⟨tyX2, tyX2_ok⟩, nmX2, by decide +kernel, by decide +kernel, by decide +kernel⟩
theorem okq_2_6 : FOKq 2 6 TX2 7 (.array .int) true := ⟨⟨tyX2, tyX2_ok⟩, nmX2, by decide +kernel, by decide +kernel, by decide +kernel⟩
theorem okq_10_8 : FOKq 10 8 TX10 17 (.object "HallRegisters$Collector") true := ⟨⟨tyX10, tyX10_ok⟩, nmX10, by decide +kernel, by decide +kernel, by decide +kernel⟩
theorem defI_4 : ∀ j, j < 9 → defaultValue (tyX4 j) = vp_V ((ftl 4).map (fun b => if b then Value.null else .int 0)) j := by decide +kernel
abbrev muI_X4 : MD := (yX4_init, cX4_init, 3, none, 2)
theorem okI_X4 : MOK muI_X4 1 := ⟨gw_268, gw_162, (by decide +kernel : plainFor yX4_init = true), ⟨(by decide +kernel : yX4_init.cls ≠ "java/lang/invoke/MethodHandle"), (by decide +kernel : yX4_init.cls ≠ "java/lang/invoke/VarHandle"), (by decide +kernel : (parseMethodDescriptor yX4_init.desc).map (fun d => d.parameters.length) = some 1)⟩, Nat.le_of_ble_eq_true rfl⟩
theorem okq_4_0 : FOKq 4 0 TX4 9 (.object "HallRegisters$Rules") true := ⟨⟨tyX4, tyX4_ok⟩, nmX4, by decide +kernel, by decide +kernel, by decide +kernel⟩
theorem okq_4_2 : FOKq 4 2 TX4 9 (.array (.object "HallRegisters$Sum")) true := ⟨⟨tyX4, tyX4_ok⟩, nmX4, by decide +kernel, by decide +kernel, by decide +kernel⟩
theorem okq_4_3 : FOKq 4 3 TX4 9 (.boolean) false := ⟨⟨tyX4, tyX4_ok⟩, nmX4, by decide +kernel, by decide +kernel, by decide +kernel⟩
theorem okq_4_4 : FOKq 4 4 TX4 9 (.int) false := ⟨⟨tyX4, tyX4_ok⟩, nmX4, by decide +kernel, by decide +kernel, by decide +kernel⟩
theorem okq_4_5 : FOKq 4 5 TX4 9 (.array .int) true := ⟨⟨tyX4, tyX4_ok⟩, nmX4, by decide +kernel, by decide +kernel, by decide +kernel⟩
theorem okq_4_6 : FOKq 4 6 TX4 9 (.int) false := ⟨⟨tyX4, tyX4_ok⟩, nmX4, by decide +kernel, by decide +kernel, by decide +kernel⟩
theorem okq_4_7 : FOKq 4 7 TX4 9 (.array .long) true := ⟨⟨tyX4, tyX4_ok⟩, nmX4, by decide +kernel, by decide +kernel, by decide +kernel⟩
theorem okq_4_8 : FOKq 4 8 TX4 9 (.array .int) true := ⟨⟨tyX4, tyX4_ok⟩, nmX4, by decide +kernel, by decide +kernel, by decide +kernel⟩
theorem okq_4_1 : FOKq 4 1 TX4 9 (.object "HallRegisters$Collector") true := ⟨⟨tyX4, tyX4_ok⟩, nmX4, by decide +kernel, by decide +kernel, by decide +kernel⟩
theorem defI_9 : ∀ j, j < 4 → defaultValue (tyX9 j) = vp_V ((ftl 9).map (fun b => if b then Value.null else .int 0)) j := by decide +kernel
abbrev muI_X9 : MD := (yX9_init, cX9_init, 1, none, 1)
theorem okI_X9 : MOK muI_X9 0 := ⟨gw_277, gw_163, (by decide +kernel : plainFor yX9_init = true), ⟨(by decide +kernel : yX9_init.cls ≠ "java/lang/invoke/MethodHandle"), (by decide +kernel : yX9_init.cls ≠ "java/lang/invoke/VarHandle"), (by decide +kernel : (parseMethodDescriptor yX9_init.desc).map (fun d => d.parameters.length) = some 0)⟩, Nat.le_of_ble_eq_true rfl⟩
theorem okq_9_0 : FOKq 9 0 TX9 4 (.int) false := ⟨⟨tyX9, tyX9_ok⟩, nmX9, by decide +kernel, by decide +kernel, by decide +kernel⟩
theorem okq_9_1 : FOKq 9 1 TX9 4 (.array .int) true := ⟨⟨tyX9, tyX9_ok⟩, nmX9, by decide +kernel, by decide +kernel, by decide +kernel⟩
theorem okq_9_2 : FOKq 9 2 TX9 4 (.array .long) true := ⟨⟨tyX9, tyX9_ok⟩, nmX9, by decide +kernel, by decide +kernel, by decide +kernel⟩
theorem okq_9_3 : FOKq 9 3 TX9 4 (.array .int) true := ⟨⟨tyX9, tyX9_ok⟩, nmX9, by decide +kernel, by decide +kernel, by decide +kernel⟩
theorem okq_10_9 : FOKq 10 9 TX10 17 (.object "HallRegisters$Law") true := ⟨⟨tyX10, tyX10_ok⟩, nmX10, by decide +kernel, by decide +kernel, by decide +kernel⟩
theorem defI_0 : ∀ j, j < 8 → defaultValue (tyX0 j) = vp_V ((ftl 0).map (fun b => if b then Value.null else .int 0)) j := by decide +kernel
abbrev muI_X0 : MD := (yX0_init, cX0_init, 2, none, 1)
theorem okI_X0 : MOK muI_X0 1 := ⟨gw_338, gw_164, (by decide +kernel : plainFor yX0_init = true), ⟨(by decide +kernel : yX0_init.cls ≠ "java/lang/invoke/MethodHandle"), (by decide +kernel : yX0_init.cls ≠ "java/lang/invoke/VarHandle"), (by decide +kernel : (parseMethodDescriptor yX0_init.desc).map (fun d => d.parameters.length) = some 1)⟩, Nat.le_of_ble_eq_true rfl⟩
theorem okq_0_1 : FOKq 0 1 TX0 8 (.array .long) true := ⟨⟨tyX0, tyX0_ok⟩, nmX0, by decide +kernel, by decide +kernel, by decide +kernel⟩
theorem okq_0_2 : FOKq 0 2 TX0 8 (.array .long) true := ⟨⟨tyX0, tyX0_ok⟩, nmX0, by decide +kernel, by decide +kernel, by decide +kernel⟩
theorem okq_0_3 : FOKq 0 3 TX0 8 (.array .long) true := ⟨⟨tyX0, tyX0_ok⟩, nmX0, by decide +kernel, by decide +kernel, by decide +kernel⟩
theorem okq_0_4 : FOKq 0 4 TX0 8 (.array .long) true := ⟨⟨tyX0, tyX0_ok⟩, nmX0, by decide +kernel, by decide +kernel, by decide +kernel⟩
theorem okq_0_5 : FOKq 0 5 TX0 8 (.array .long) true := ⟨⟨tyX0, tyX0_ok⟩, nmX0, by decide +kernel, by decide +kernel, by decide +kernel⟩
theorem okq_0_6 : FOKq 0 6 TX0 8 (.array .long) true := ⟨⟨tyX0, tyX0_ok⟩, nmX0, by decide +kernel, by decide +kernel, by decide +kernel⟩
theorem okq_0_7 : FOKq 0 7 TX0 8 (.array .long) true := ⟨⟨tyX0, tyX0_ok⟩, nmX0, by decide +kernel, by decide +kernel, by decide +kernel⟩
theorem okq_0_0 : FOKq 0 0 TX0 8 (.object "HallRegisters$Law") true := ⟨⟨tyX0, tyX0_ok⟩, nmX0, by decide +kernel, by decide +kernel, by decide +kernel⟩
theorem okq_10_10 : FOKq 10 10 TX10 17 (.object "HallRegisters$Arithmetic") true := ⟨⟨tyX10, tyX10_ok⟩, nmX10, by decide +kernel, by decide +kernel, by decide +kernel⟩
theorem defI_7 : ∀ j, j < 11 → defaultValue (tyX7 j) = vp_V ((ftl 7).map (fun b => if b then Value.null else .int 0)) j := by decide +kernel
abbrev muI_X7 : MD := (yX7_init, cX7_init, 3, none, 2)
theorem okI_X7 : MOK muI_X7 1 := ⟨gw_369, gw_165, (by decide +kernel : plainFor yX7_init = true), ⟨(by decide +kernel : yX7_init.cls ≠ "java/lang/invoke/MethodHandle"), (by decide +kernel : yX7_init.cls ≠ "java/lang/invoke/VarHandle"), (by decide +kernel : (parseMethodDescriptor yX7_init.desc).map (fun d => d.parameters.length) = some 1)⟩, Nat.le_of_ble_eq_true rfl⟩
theorem defI_3 : ∀ j, j < 3 → defaultValue (tyX3 j) = vp_V ((ftl 3).map (fun b => if b then Value.null else .int 0)) j := by decide +kernel
abbrev muI_X3 : MD := (yX3_init, cX3_init, 1, none, 1)
theorem okI_X3 : MOK muI_X3 0 := ⟨gw_375, gw_166, (by decide +kernel : plainFor yX3_init = true), ⟨(by decide +kernel : yX3_init.cls ≠ "java/lang/invoke/MethodHandle"), (by decide +kernel : yX3_init.cls ≠ "java/lang/invoke/VarHandle"), (by decide +kernel : (parseMethodDescriptor yX3_init.desc).map (fun d => d.parameters.length) = some 0)⟩, Nat.le_of_ble_eq_true rfl⟩
theorem okq_3_0 : FOKq 3 0 TX3 3 (.int) false := ⟨⟨tyX3, tyX3_ok⟩, nmX3, by decide +kernel, by decide +kernel, by decide +kernel⟩
theorem okq_3_1 : FOKq 3 1 TX3 3 (.array (.array .long)) true := ⟨⟨tyX3, tyX3_ok⟩, nmX3, by decide +kernel, by decide +kernel, by decide +kernel⟩
theorem okq_3_2 : FOKq 3 2 TX3 3 (.array .long) true := ⟨⟨tyX3, tyX3_ok⟩, nmX3, by decide +kernel, by decide +kernel, by decide +kernel⟩
theorem okq_7_1 : FOKq 7 1 TX7 11 (.object "HallRegisters$Lattice") true := ⟨⟨tyX7, tyX7_ok⟩, nmX7, by decide +kernel, by decide +kernel, by decide +kernel⟩
theorem okq_7_2 : FOKq 7 2 TX7 11 (.object "HallRegisters$Lattice") true := ⟨⟨tyX7, tyX7_ok⟩, nmX7, by decide +kernel, by decide +kernel, by decide +kernel⟩
theorem okq_7_3 : FOKq 7 3 TX7 11 (.array (.object "HallRegisters$Sum")) true := ⟨⟨tyX7, tyX7_ok⟩, nmX7, by decide +kernel, by decide +kernel, by decide +kernel⟩
theorem okq_7_4 : FOKq 7 4 TX7 11 (.array .long) true := ⟨⟨tyX7, tyX7_ok⟩, nmX7, by decide +kernel, by decide +kernel, by decide +kernel⟩
theorem okq_7_5 : FOKq 7 5 TX7 11 (.array .long) true := ⟨⟨tyX7, tyX7_ok⟩, nmX7, by decide +kernel, by decide +kernel, by decide +kernel⟩
theorem okq_7_6 : FOKq 7 6 TX7 11 (.array .long) true := ⟨⟨tyX7, tyX7_ok⟩, nmX7, by decide +kernel, by decide +kernel, by decide +kernel⟩
theorem okq_7_7 : FOKq 7 7 TX7 11 (.array .long) true := ⟨⟨tyX7, tyX7_ok⟩, nmX7, by decide +kernel, by decide +kernel, by decide +kernel⟩
theorem okq_7_8 : FOKq 7 8 TX7 11 (.int) false := ⟨⟨tyX7, tyX7_ok⟩, nmX7, by decide +kernel, by decide +kernel, by decide +kernel⟩
theorem okq_7_9 : FOKq 7 9 TX7 11 (.int) false := ⟨⟨tyX7, tyX7_ok⟩, nmX7, by decide +kernel, by decide +kernel, by decide +kernel⟩
theorem okq_7_10 : FOKq 7 10 TX7 11 (.int) false := ⟨⟨tyX7, tyX7_ok⟩, nmX7, by decide +kernel, by decide +kernel, by decide +kernel⟩
theorem okq_7_0 : FOKq 7 0 TX7 11 (.object "HallRegisters$Law") true := ⟨⟨tyX7, tyX7_ok⟩, nmX7, by decide +kernel, by decide +kernel, by decide +kernel⟩
theorem okq_10_11 : FOKq 10 11 TX10 17 (.object "HallRegisters$Search") true := ⟨⟨tyX10, tyX10_ok⟩, nmX10, by decide +kernel, by decide +kernel, by decide +kernel⟩
theorem defI_1 : ∀ j, j < 10 → defaultValue (tyX1 j) = vp_V ((ftl 1).map (fun b => if b then Value.null else .int 0)) j := by decide +kernel
abbrev muI_X1 : MD := (yX1_init, cX1_init, 3, none, 1)
theorem okI_X1 : MOK muI_X1 2 := ⟨gw_429, gw_167, (by decide +kernel : plainFor yX1_init = true), ⟨(by decide +kernel : yX1_init.cls ≠ "java/lang/invoke/MethodHandle"), (by decide +kernel : yX1_init.cls ≠ "java/lang/invoke/VarHandle"), (by decide +kernel : (parseMethodDescriptor yX1_init.desc).map (fun d => d.parameters.length) = some 2)⟩, Nat.le_of_ble_eq_true rfl⟩
theorem okq_1_2 : FOKq 1 2 TX1 10 (.int) false := ⟨⟨tyX1, tyX1_ok⟩, nmX1, by decide +kernel, by decide +kernel, by decide +kernel⟩
theorem okq_1_3 : FOKq 1 3 TX1 10 (.array .int) true := ⟨⟨tyX1, tyX1_ok⟩, nmX1, by decide +kernel, by decide +kernel, by decide +kernel⟩
theorem okq_1_4 : FOKq 1 4 TX1 10 (.array .long) true := ⟨⟨tyX1, tyX1_ok⟩, nmX1, by decide +kernel, by decide +kernel, by decide +kernel⟩
theorem okq_1_5 : FOKq 1 5 TX1 10 (.array .int) true := ⟨⟨tyX1, tyX1_ok⟩, nmX1, by decide +kernel, by decide +kernel, by decide +kernel⟩
theorem okq_1_6 : FOKq 1 6 TX1 10 (.int) false := ⟨⟨tyX1, tyX1_ok⟩, nmX1, by decide +kernel, by decide +kernel, by decide +kernel⟩
theorem okq_1_7 : FOKq 1 7 TX1 10 (.array .long) true := ⟨⟨tyX1, tyX1_ok⟩, nmX1, by decide +kernel, by decide +kernel, by decide +kernel⟩
theorem okq_1_8 : FOKq 1 8 TX1 10 (.array .long) true := ⟨⟨tyX1, tyX1_ok⟩, nmX1, by decide +kernel, by decide +kernel, by decide +kernel⟩
theorem okq_1_9 : FOKq 1 9 TX1 10 (.array .long) true := ⟨⟨tyX1, tyX1_ok⟩, nmX1, by decide +kernel, by decide +kernel, by decide +kernel⟩
theorem okq_1_0 : FOKq 1 0 TX1 10 (.object "HallRegisters$Law") true := ⟨⟨tyX1, tyX1_ok⟩, nmX1, by decide +kernel, by decide +kernel, by decide +kernel⟩
theorem okq_1_1 : FOKq 1 1 TX1 10 (.object "HallRegisters$Arithmetic") true := ⟨⟨tyX1, tyX1_ok⟩, nmX1, by decide +kernel, by decide +kernel, by decide +kernel⟩
theorem okq_10_12 : FOKq 10 12 TX10 17 (.object "HallRegisters$Ball") true := ⟨⟨tyX10, tyX10_ok⟩, nmX10, by decide +kernel, by decide +kernel, by decide +kernel⟩
theorem okq_10_13 : FOKq 10 13 TX10 17 (.object "HallRegisters$Lattice") true := ⟨⟨tyX10, tyX10_ok⟩, nmX10, by decide +kernel, by decide +kernel, by decide +kernel⟩
theorem defI_5 : ∀ j, j < 11 → defaultValue (tyX5 j) = vp_V ((ftl 5).map (fun b => if b then Value.null else .int 0)) j := by decide +kernel
abbrev muI_X5 : MD := (yX5_init, cX5_init, 3, none, 1)
theorem okI_X5 : MOK muI_X5 2 := ⟨gw_468, gw_168, (by decide +kernel : plainFor yX5_init = true), ⟨(by decide +kernel : yX5_init.cls ≠ "java/lang/invoke/MethodHandle"), (by decide +kernel : yX5_init.cls ≠ "java/lang/invoke/VarHandle"), (by decide +kernel : (parseMethodDescriptor yX5_init.desc).map (fun d => d.parameters.length) = some 2)⟩, Nat.le_of_ble_eq_true rfl⟩
theorem okq_5_0 : FOKq 5 0 TX5 11 (.int) false := ⟨⟨tyX5, tyX5_ok⟩, nmX5, by decide +kernel, by decide +kernel, by decide +kernel⟩
theorem okq_5_1 : FOKq 5 1 TX5 11 (.int) false := ⟨⟨tyX5, tyX5_ok⟩, nmX5, by decide +kernel, by decide +kernel, by decide +kernel⟩
theorem okq_5_2 : FOKq 5 2 TX5 11 (.array (.array .long)) true := ⟨⟨tyX5, tyX5_ok⟩, nmX5, by decide +kernel, by decide +kernel, by decide +kernel⟩
theorem okq_5_3 : FOKq 5 3 TX5 11 (.array (.array .long)) true := ⟨⟨tyX5, tyX5_ok⟩, nmX5, by decide +kernel, by decide +kernel, by decide +kernel⟩
theorem okq_5_4 : FOKq 5 4 TX5 11 (.array (.array .long)) true := ⟨⟨tyX5, tyX5_ok⟩, nmX5, by decide +kernel, by decide +kernel, by decide +kernel⟩
theorem okq_5_7 : FOKq 5 7 TX5 11 (.array .int) true := ⟨⟨tyX5, tyX5_ok⟩, nmX5, by decide +kernel, by decide +kernel, by decide +kernel⟩
theorem okq_5_8 : FOKq 5 8 TX5 11 (.int) false := ⟨⟨tyX5, tyX5_ok⟩, nmX5, by decide +kernel, by decide +kernel, by decide +kernel⟩
theorem okq_5_9 : FOKq 5 9 TX5 11 (.int) false := ⟨⟨tyX5, tyX5_ok⟩, nmX5, by decide +kernel, by decide +kernel, by decide +kernel⟩
theorem okq_5_10 : FOKq 5 10 TX5 11 (.int) false := ⟨⟨tyX5, tyX5_ok⟩, nmX5, by decide +kernel, by decide +kernel, by decide +kernel⟩
theorem okq_5_5 : FOKq 5 5 TX5 11 (.object "HallRegisters$State") true := ⟨⟨tyX5, tyX5_ok⟩, nmX5, by decide +kernel, by decide +kernel, by decide +kernel⟩
theorem okq_5_6 : FOKq 5 6 TX5 11 (.object "HallRegisters$Arithmetic") true := ⟨⟨tyX5, tyX5_ok⟩, nmX5, by decide +kernel, by decide +kernel, by decide +kernel⟩
theorem okq_10_14 : FOKq 10 14 TX10 17 (.object "HallRegisters$Reader") true := ⟨⟨tyX10, tyX10_ok⟩, nmX10, by decide +kernel, by decide +kernel, by decide +kernel⟩
theorem okq_10_15 : FOKq 10 15 TX10 17 (.array .long) true := ⟨⟨tyX10, tyX10_ok⟩, nmX10, by decide +kernel, by decide +kernel, by decide +kernel⟩
theorem okq_10_16 : FOKq 10 16 TX10 17 (.array .long) true := ⟨⟨tyX10, tyX10_ok⟩, nmX10, by decide +kernel, by decide +kernel, by decide +kernel⟩
abbrev muI_X11 : MD := (yX11_init, cX11_init, 1, none, 2)
theorem okI_X11 : MOK muI_X11 0 := ⟨gw_1278, gw_171, (by decide +kernel : plainFor yX11_init = true), ⟨(by decide +kernel : yX11_init.cls ≠ "java/lang/invoke/MethodHandle"), (by decide +kernel : yX11_init.cls ≠ "java/lang/invoke/VarHandle"), (by decide +kernel : (parseMethodDescriptor yX11_init.desc).map (fun d => d.parameters.length) = some 0)⟩, Nat.le_of_ble_eq_true rfl⟩
theorem okq_11_1 : FOKq 11 1 TX11 39 (.array .int) true := ⟨⟨tyX11, tyX11_ok⟩, nmX11, by decide +kernel, by decide +kernel, by decide +kernel⟩
theorem okq_11_2 : FOKq 11 2 TX11 39 (.array .int) true := ⟨⟨tyX11, tyX11_ok⟩, nmX11, by decide +kernel, by decide +kernel, by decide +kernel⟩
theorem okq_11_5 : FOKq 11 5 TX11 39 (.array .int) true := ⟨⟨tyX11, tyX11_ok⟩, nmX11, by decide +kernel, by decide +kernel, by decide +kernel⟩
theorem okq_11_8 : FOKq 11 8 TX11 39 (.array .int) true := ⟨⟨tyX11, tyX11_ok⟩, nmX11, by decide +kernel, by decide +kernel, by decide +kernel⟩
theorem okq_11_11 : FOKq 11 11 TX11 39 (.array .int) true := ⟨⟨tyX11, tyX11_ok⟩, nmX11, by decide +kernel, by decide +kernel, by decide +kernel⟩
theorem okq_11_12 : FOKq 11 12 TX11 39 (.array .long) true := ⟨⟨tyX11, tyX11_ok⟩, nmX11, by decide +kernel, by decide +kernel, by decide +kernel⟩
theorem okq_11_13 : FOKq 11 13 TX11 39 (.array .long) true := ⟨⟨tyX11, tyX11_ok⟩, nmX11, by decide +kernel, by decide +kernel, by decide +kernel⟩
theorem okq_11_14 : FOKq 11 14 TX11 39 (.array .long) true := ⟨⟨tyX11, tyX11_ok⟩, nmX11, by decide +kernel, by decide +kernel, by decide +kernel⟩
theorem okq_11_15 : FOKq 11 15 TX11 39 (.array .int) true := ⟨⟨tyX11, tyX11_ok⟩, nmX11, by decide +kernel, by decide +kernel, by decide +kernel⟩
theorem okq_11_16 : FOKq 11 16 TX11 39 (.array .int) true := ⟨⟨tyX11, tyX11_ok⟩, nmX11, by decide +kernel, by decide +kernel, by decide +kernel⟩
theorem okq_11_17 : FOKq 11 17 TX11 39 (.array .int) true := ⟨⟨tyX11, tyX11_ok⟩, nmX11, by decide +kernel, by decide +kernel, by decide +kernel⟩
theorem okq_11_20 : FOKq 11 20 TX11 39 (.int) false := ⟨⟨tyX11, tyX11_ok⟩, nmX11, by decide +kernel, by decide +kernel, by decide +kernel⟩
theorem okq_11_24 : FOKq 11 24 TX11 39 (.int) false := ⟨⟨tyX11, tyX11_ok⟩, nmX11, by decide +kernel, by decide +kernel, by decide +kernel⟩
theorem okq_11_26 : FOKq 11 26 TX11 39 (.array .int) true := ⟨⟨tyX11, tyX11_ok⟩, nmX11, by decide +kernel, by decide +kernel, by decide +kernel⟩
theorem okq_11_28 : FOKq 11 28 TX11 39 (.array .long) true := ⟨⟨tyX11, tyX11_ok⟩, nmX11, by decide +kernel, by decide +kernel, by decide +kernel⟩
theorem okq_11_30 : FOKq 11 30 TX11 39 (.array .long) true := ⟨⟨tyX11, tyX11_ok⟩, nmX11, by decide +kernel, by decide +kernel, by decide +kernel⟩
theorem okq_11_32 : FOKq 11 32 TX11 39 (.array .long) true := ⟨⟨tyX11, tyX11_ok⟩, nmX11, by decide +kernel, by decide +kernel, by decide +kernel⟩
theorem okq_11_35 : FOKq 11 35 TX11 39 (.array .long) true := ⟨⟨tyX11, tyX11_ok⟩, nmX11, by decide +kernel, by decide +kernel, by decide +kernel⟩
theorem okq_11_38 : FOKq 11 38 TX11 39 (.array .int) true := ⟨⟨tyX11, tyX11_ok⟩, nmX11, by decide +kernel, by decide +kernel, by decide +kernel⟩
theorem cI_X6_2 {w : Wd} {σ : Mem} (hfr : Fresh σ 2) : MCC w muI_X6 2 222 [.ref (adr w 2)] 3 [(2, 1), (2, 2), (1, 0), (1, 1), (1, 2), (0, 0), (0, 1), (0, 3), (0, 6), (0, 8), (0, 9), (0, 10), (0, 11), (0, 12), (0, 13), (0, 14), (0, 15), (0, 16)] σ (5, [(1, 0), (1, 1), (1, 2), (0, 0), (0, 1), (0, 3), (0, 6), (0, 8), (0, 9), (0, 10), (0, 11), (0, 12), (0, 13), (0, 14), (0, 15), (0, 16)], σ) := by
  refine mcc_of (lv := [(0, .ref (adr w 2))]) okI_X6 rfl rfl (Nat.le_of_ble_eq_true rfl) ?_
  refine co_aload_n (pc := 0) 0 rfl dX6_init_0 rfl ?_
  refine co_objInit (pc := 1) gw_192 gw_179 gw_180 (ltb rfl) (Nat.le_of_ble_eq_true rfl) dX6_init_1 ?_
  refine co_aload_n (pc := 4) 0 rfl dX6_init_4 rfl ?_
  refine co_iconst (pc := 5) dX6_init_5 (ic_i_0) ?_
  refine co_putf (pc := 6) (σ' := σ) ok_6_0 okq_6_0 ⟨by rfl, by rfl⟩ (by decide) (by decide +kernel : kd 2 = 6) (wI_same ((hfr 2 (by decide) 0).1)) gw_193 dX6_init_6 ?_
  refine co_aload_n (pc := 9) 0 rfl dX6_init_9 rfl ?_
  refine co_bipush (pc := 10) dX6_init_10 (ic_b_6) ?_
  refine co_newI (pc := 12) (N := 6) (by decide +kernel : kd 3 = 12) (by decide +kernel : ln 3 = 6) (hfr.up (by decide)) gw_214 (by decide) (by decide) (by decide +kernel) (Nat.le_of_ble_eq_true rfl) (Nat.le_of_ble_eq_true rfl) dX6_init_12 ?_
  show CO w muI_X6 2 222 (5, [(1, 0), (1, 1), (1, 2), (0, 0), (0, 1), (0, 3), (0, 6), (0, 8), (0, 9), (0, 10), (0, 11), (0, 12), (0, 13), (0, 14), (0, 15), (0, 16)], σ) 4 [(2, 1), (2, 2), (1, 0), (1, 1), (1, 2), (0, 0), (0, 1), (0, 3), (0, 6), (0, 8), (0, 9), (0, 10), (0, 11), (0, 12), (0, 13), (0, 14), (0, 15), (0, 16)] σ 1 6 [(0, .ref (adr w 2))] [.ref (adr w 3), .ref (adr w 2)] 14
  refine co_putrF (pc := 14) (L' := [(2, 2), (1, 0), (1, 1), (1, 2), (0, 0), (0, 1), (0, 3), (0, 6), (0, 8), (0, 9), (0, 10), (0, 11), (0, 12), (0, 13), (0, 14), (0, 15), (0, 16)]) ok_6_1 okq_6_1 rfl rfl (by decide) (by decide +kernel : kd 2 = 6) (by decide +kernel : rf 2 1 = 3) (by rfl) gw_200 dX6_init_14 ?_
  refine co_aload_n (pc := 17) 0 rfl dX6_init_17 rfl ?_
  refine co_sipush (pc := 18) dX6_init_18 (ic_s_216) ?_
  refine co_newI (pc := 21) (N := 216) (by decide +kernel : kd 4 = 12) (by decide +kernel : ln 4 = 216) (hfr.up (by decide)) gw_214 (by decide) (by decide) (by decide +kernel) (Nat.le_of_ble_eq_true rfl) (Nat.le_of_ble_eq_true rfl) dX6_init_21 ?_
  show CO w muI_X6 2 222 (5, [(1, 0), (1, 1), (1, 2), (0, 0), (0, 1), (0, 3), (0, 6), (0, 8), (0, 9), (0, 10), (0, 11), (0, 12), (0, 13), (0, 14), (0, 15), (0, 16)], σ) 5 [(2, 2), (1, 0), (1, 1), (1, 2), (0, 0), (0, 1), (0, 3), (0, 6), (0, 8), (0, 9), (0, 10), (0, 11), (0, 12), (0, 13), (0, 14), (0, 15), (0, 16)] σ 2 222 [(0, .ref (adr w 2))] [.ref (adr w 4), .ref (adr w 2)] 23
  refine co_putrF (pc := 23) (L' := [(1, 0), (1, 1), (1, 2), (0, 0), (0, 1), (0, 3), (0, 6), (0, 8), (0, 9), (0, 10), (0, 11), (0, 12), (0, 13), (0, 14), (0, 15), (0, 16)]) ok_6_2 okq_6_2 rfl rfl (by decide) (by decide +kernel : kd 2 = 6) (by decide +kernel : rf 2 2 = 4) (by rfl) gw_206 dX6_init_23 ?_
  exact co_ret (pc := 26) rfl rfl rfl dX6_init_26 rfl
theorem cI_X8_1 {w : Wd} {σ : Mem} (hfr : Fresh σ 1) : MCC w muI_X8 15 303 [.ref (adr w 1)] 2 [(1, 0), (1, 1), (1, 2), (0, 0), (0, 1), (0, 3), (0, 6), (0, 8), (0, 9), (0, 10), (0, 11), (0, 12), (0, 13), (0, 14), (0, 15), (0, 16)] σ (17, [(0, 0), (0, 1), (0, 3), (0, 6), (0, 8), (0, 9), (0, 10), (0, 11), (0, 12), (0, 13), (0, 14), (0, 15), (0, 16)], σ) := by
  refine mcc_of (lv := [(0, .ref (adr w 1))]) okI_X8 rfl rfl (Nat.le_of_ble_eq_true rfl) ?_
  refine co_aload_n (pc := 0) 0 rfl dX8_init_0 rfl ?_
  refine co_objInit (pc := 1) gw_186 gw_179 gw_180 (ltb rfl) (Nat.le_of_ble_eq_true rfl) dX8_init_1 ?_
  refine co_aload_n (pc := 4) 0 rfl dX8_init_4 rfl ?_
  refine co_new (pc := 5) (R := [(2, 1), (2, 2)]) tyX6 tyX6_ok ws_6 rfl (by decide) (by decide +kernel : kd 2 = 6) (hfr.up (by decide)) gw_187 gw_188 gw_160 (by decide) defI_6 (by decide +kernel) (Nat.le_of_ble_eq_true rfl) (Nat.le_of_ble_eq_true rfl) dX8_init_5 ?_
  show CO w muI_X8 15 303 (17, [(0, 0), (0, 1), (0, 3), (0, 6), (0, 8), (0, 9), (0, 10), (0, 11), (0, 12), (0, 13), (0, 14), (0, 15), (0, 16)], σ) 3 [(2, 1), (2, 2), (1, 0), (1, 1), (1, 2), (0, 0), (0, 1), (0, 3), (0, 6), (0, 8), (0, 9), (0, 10), (0, 11), (0, 12), (0, 13), (0, 14), (0, 15), (0, 16)] σ 1 3 [(0, .ref (adr w 1))] [.ref (adr w 2), .ref (adr w 1)] 8
  refine co_dup (pc := 8) dX8_init_8 rfl ?_
  refine co_callN (pc := 9) (As := []) (cI_X6_2 (hfr.up (by decide))) okI_X6 rfl rfl (ltb rfl) (host := "HallRegisters") (by decide +kernel) gw_190 rfl rfl (Nat.le_of_ble_eq_true rfl) rfl (Nat.le_of_ble_eq_true rfl) (Nat.le_of_ble_eq_true rfl) dX8_init_9 ?_
  show CO w muI_X8 15 303 (17, [(0, 0), (0, 1), (0, 3), (0, 6), (0, 8), (0, 9), (0, 10), (0, 11), (0, 12), (0, 13), (0, 14), (0, 15), (0, 16)], σ) 5 [(1, 0), (1, 1), (1, 2), (0, 0), (0, 1), (0, 3), (0, 6), (0, 8), (0, 9), (0, 10), (0, 11), (0, 12), (0, 13), (0, 14), (0, 15), (0, 16)] σ 3 225 [(0, .ref (adr w 1))] [.ref (adr w 2), .ref (adr w 1)] 12
  refine co_putrF (pc := 12) (L' := [(1, 1), (1, 2), (0, 0), (0, 1), (0, 3), (0, 6), (0, 8), (0, 9), (0, 10), (0, 11), (0, 12), (0, 13), (0, 14), (0, 15), (0, 16)]) ok_8_0 okq_8_0 rfl rfl (by decide) (by decide +kernel : kd 1 = 8) (by decide +kernel : rf 1 0 = 2) (by rfl) gw_217 dX8_init_12 ?_
  refine co_aload_n (pc := 15) 0 rfl dX8_init_15 rfl ?_
  refine co_bipush (pc := 16) dX8_init_16 (ic_b_10) ?_
  refine co_bipush (pc := 18) dX8_init_18 (ic_b_6) ?_
  refine co_mna (pc := 20) (N := 10) (M := 6) (by decide +kernel : kd 5 = 16) (by decide +kernel : ln 5 = 10) (by decide +kernel) (hfr.up (by decide)) (by decide) gw_215 gw_232 (by decide) (by decide) (by decide) (by decide) (by decide +kernel) (by decide +kernel) (by decide +kernel) (Nat.le_of_ble_eq_true rfl) (Nat.le_of_ble_eq_true rfl) dX8_init_20 ?_
  show CO w muI_X8 15 303 (17, [(0, 0), (0, 1), (0, 3), (0, 6), (0, 8), (0, 9), (0, 10), (0, 11), (0, 12), (0, 13), (0, 14), (0, 15), (0, 16)], σ) 16 [(1, 1), (1, 2), (0, 0), (0, 1), (0, 3), (0, 6), (0, 8), (0, 9), (0, 10), (0, 11), (0, 12), (0, 13), (0, 14), (0, 15), (0, 16)] σ 14 295 [(0, .ref (adr w 1))] [.ref (adr w 5), .ref (adr w 1)] 24
  refine co_putrF (pc := 24) (L' := [(1, 2), (0, 0), (0, 1), (0, 3), (0, 6), (0, 8), (0, 9), (0, 10), (0, 11), (0, 12), (0, 13), (0, 14), (0, 15), (0, 16)]) ok_8_1 okq_8_1 rfl rfl (by decide) (by decide +kernel : kd 1 = 8) (by decide +kernel : rf 1 1 = 5) (by rfl) gw_220 dX8_init_24 ?_
  refine co_aload_n (pc := 27) 0 rfl dX8_init_27 rfl ?_
  refine co_bipush (pc := 28) dX8_init_28 (ic_b_8) ?_
  refine co_newI (pc := 30) (N := 8) (by decide +kernel : kd 16 = 12) (by decide +kernel : ln 16 = 8) (hfr.up (by decide)) gw_214 (by decide) (by decide) (by decide +kernel) (Nat.le_of_ble_eq_true rfl) (Nat.le_of_ble_eq_true rfl) dX8_init_30 ?_
  show CO w muI_X8 15 303 (17, [(0, 0), (0, 1), (0, 3), (0, 6), (0, 8), (0, 9), (0, 10), (0, 11), (0, 12), (0, 13), (0, 14), (0, 15), (0, 16)], σ) 17 [(1, 2), (0, 0), (0, 1), (0, 3), (0, 6), (0, 8), (0, 9), (0, 10), (0, 11), (0, 12), (0, 13), (0, 14), (0, 15), (0, 16)] σ 15 303 [(0, .ref (adr w 1))] [.ref (adr w 16), .ref (adr w 1)] 32
  refine co_putrF (pc := 32) (L' := [(0, 0), (0, 1), (0, 3), (0, 6), (0, 8), (0, 9), (0, 10), (0, 11), (0, 12), (0, 13), (0, 14), (0, 15), (0, 16)]) ok_8_2 okq_8_2 rfl rfl (by decide) (by decide +kernel : kd 1 = 8) (by decide +kernel : rf 1 2 = 16) (by rfl) gw_223 dX8_init_32 ?_
  exact co_ret (pc := 35) rfl rfl rfl dX8_init_35 rfl
theorem cI_X6_18 {w : Wd} {σ : Mem} (hfr : Fresh σ 18) : MCC w muI_X6 2 222 [.ref (adr w 18)] 19 [(18, 1), (18, 2), (17, 0), (17, 1), (17, 2), (0, 1), (0, 3), (0, 6), (0, 8), (0, 9), (0, 10), (0, 11), (0, 12), (0, 13), (0, 14), (0, 15), (0, 16)] σ (21, [(17, 0), (17, 1), (17, 2), (0, 1), (0, 3), (0, 6), (0, 8), (0, 9), (0, 10), (0, 11), (0, 12), (0, 13), (0, 14), (0, 15), (0, 16)], σ) := by
  refine mcc_of (lv := [(0, .ref (adr w 18))]) okI_X6 rfl rfl (Nat.le_of_ble_eq_true rfl) ?_
  refine co_aload_n (pc := 0) 0 rfl dX6_init_0 rfl ?_
  refine co_objInit (pc := 1) gw_192 gw_179 gw_180 (ltb rfl) (Nat.le_of_ble_eq_true rfl) dX6_init_1 ?_
  refine co_aload_n (pc := 4) 0 rfl dX6_init_4 rfl ?_
  refine co_iconst (pc := 5) dX6_init_5 (ic_i_0) ?_
  refine co_putf (pc := 6) (σ' := σ) ok_6_0 okq_6_0 ⟨by rfl, by rfl⟩ (by decide) (by decide +kernel : kd 18 = 6) (wI_same ((hfr 18 (by decide) 0).1)) gw_193 dX6_init_6 ?_
  refine co_aload_n (pc := 9) 0 rfl dX6_init_9 rfl ?_
  refine co_bipush (pc := 10) dX6_init_10 (ic_b_6) ?_
  refine co_newI (pc := 12) (N := 6) (by decide +kernel : kd 19 = 12) (by decide +kernel : ln 19 = 6) (hfr.up (by decide)) gw_214 (by decide) (by decide) (by decide +kernel) (Nat.le_of_ble_eq_true rfl) (Nat.le_of_ble_eq_true rfl) dX6_init_12 ?_
  show CO w muI_X6 2 222 (21, [(17, 0), (17, 1), (17, 2), (0, 1), (0, 3), (0, 6), (0, 8), (0, 9), (0, 10), (0, 11), (0, 12), (0, 13), (0, 14), (0, 15), (0, 16)], σ) 20 [(18, 1), (18, 2), (17, 0), (17, 1), (17, 2), (0, 1), (0, 3), (0, 6), (0, 8), (0, 9), (0, 10), (0, 11), (0, 12), (0, 13), (0, 14), (0, 15), (0, 16)] σ 1 6 [(0, .ref (adr w 18))] [.ref (adr w 19), .ref (adr w 18)] 14
  refine co_putrF (pc := 14) (L' := [(18, 2), (17, 0), (17, 1), (17, 2), (0, 1), (0, 3), (0, 6), (0, 8), (0, 9), (0, 10), (0, 11), (0, 12), (0, 13), (0, 14), (0, 15), (0, 16)]) ok_6_1 okq_6_1 rfl rfl (by decide) (by decide +kernel : kd 18 = 6) (by decide +kernel : rf 18 1 = 19) (by rfl) gw_200 dX6_init_14 ?_
  refine co_aload_n (pc := 17) 0 rfl dX6_init_17 rfl ?_
  refine co_sipush (pc := 18) dX6_init_18 (ic_s_216) ?_
  refine co_newI (pc := 21) (N := 216) (by decide +kernel : kd 20 = 12) (by decide +kernel : ln 20 = 216) (hfr.up (by decide)) gw_214 (by decide) (by decide) (by decide +kernel) (Nat.le_of_ble_eq_true rfl) (Nat.le_of_ble_eq_true rfl) dX6_init_21 ?_
  show CO w muI_X6 2 222 (21, [(17, 0), (17, 1), (17, 2), (0, 1), (0, 3), (0, 6), (0, 8), (0, 9), (0, 10), (0, 11), (0, 12), (0, 13), (0, 14), (0, 15), (0, 16)], σ) 21 [(18, 2), (17, 0), (17, 1), (17, 2), (0, 1), (0, 3), (0, 6), (0, 8), (0, 9), (0, 10), (0, 11), (0, 12), (0, 13), (0, 14), (0, 15), (0, 16)] σ 2 222 [(0, .ref (adr w 18))] [.ref (adr w 20), .ref (adr w 18)] 23
  refine co_putrF (pc := 23) (L' := [(17, 0), (17, 1), (17, 2), (0, 1), (0, 3), (0, 6), (0, 8), (0, 9), (0, 10), (0, 11), (0, 12), (0, 13), (0, 14), (0, 15), (0, 16)]) ok_6_2 okq_6_2 rfl rfl (by decide) (by decide +kernel : kd 18 = 6) (by decide +kernel : rf 18 2 = 20) (by rfl) gw_206 dX6_init_23 ?_
  exact co_ret (pc := 26) rfl rfl rfl dX6_init_26 rfl
theorem cI_X8_17 {w : Wd} {σ : Mem} (hfr : Fresh σ 17) : MCC w muI_X8 15 303 [.ref (adr w 17)] 18 [(17, 0), (17, 1), (17, 2), (0, 1), (0, 3), (0, 6), (0, 8), (0, 9), (0, 10), (0, 11), (0, 12), (0, 13), (0, 14), (0, 15), (0, 16)] σ (33, [(0, 1), (0, 3), (0, 6), (0, 8), (0, 9), (0, 10), (0, 11), (0, 12), (0, 13), (0, 14), (0, 15), (0, 16)], σ) := by
  refine mcc_of (lv := [(0, .ref (adr w 17))]) okI_X8 rfl rfl (Nat.le_of_ble_eq_true rfl) ?_
  refine co_aload_n (pc := 0) 0 rfl dX8_init_0 rfl ?_
  refine co_objInit (pc := 1) gw_186 gw_179 gw_180 (ltb rfl) (Nat.le_of_ble_eq_true rfl) dX8_init_1 ?_
  refine co_aload_n (pc := 4) 0 rfl dX8_init_4 rfl ?_
  refine co_new (pc := 5) (R := [(18, 1), (18, 2)]) tyX6 tyX6_ok ws_6 rfl (by decide) (by decide +kernel : kd 18 = 6) (hfr.up (by decide)) gw_187 gw_188 gw_160 (by decide) defI_6 (by decide +kernel) (Nat.le_of_ble_eq_true rfl) (Nat.le_of_ble_eq_true rfl) dX8_init_5 ?_
  show CO w muI_X8 15 303 (33, [(0, 1), (0, 3), (0, 6), (0, 8), (0, 9), (0, 10), (0, 11), (0, 12), (0, 13), (0, 14), (0, 15), (0, 16)], σ) 19 [(18, 1), (18, 2), (17, 0), (17, 1), (17, 2), (0, 1), (0, 3), (0, 6), (0, 8), (0, 9), (0, 10), (0, 11), (0, 12), (0, 13), (0, 14), (0, 15), (0, 16)] σ 1 3 [(0, .ref (adr w 17))] [.ref (adr w 18), .ref (adr w 17)] 8
  refine co_dup (pc := 8) dX8_init_8 rfl ?_
  refine co_callN (pc := 9) (As := []) (cI_X6_18 (hfr.up (by decide))) okI_X6 rfl rfl (ltb rfl) (host := "HallRegisters") (by decide +kernel) gw_190 rfl rfl (Nat.le_of_ble_eq_true rfl) rfl (Nat.le_of_ble_eq_true rfl) (Nat.le_of_ble_eq_true rfl) dX8_init_9 ?_
  show CO w muI_X8 15 303 (33, [(0, 1), (0, 3), (0, 6), (0, 8), (0, 9), (0, 10), (0, 11), (0, 12), (0, 13), (0, 14), (0, 15), (0, 16)], σ) 21 [(17, 0), (17, 1), (17, 2), (0, 1), (0, 3), (0, 6), (0, 8), (0, 9), (0, 10), (0, 11), (0, 12), (0, 13), (0, 14), (0, 15), (0, 16)] σ 3 225 [(0, .ref (adr w 17))] [.ref (adr w 18), .ref (adr w 17)] 12
  refine co_putrF (pc := 12) (L' := [(17, 1), (17, 2), (0, 1), (0, 3), (0, 6), (0, 8), (0, 9), (0, 10), (0, 11), (0, 12), (0, 13), (0, 14), (0, 15), (0, 16)]) ok_8_0 okq_8_0 rfl rfl (by decide) (by decide +kernel : kd 17 = 8) (by decide +kernel : rf 17 0 = 18) (by rfl) gw_217 dX8_init_12 ?_
  refine co_aload_n (pc := 15) 0 rfl dX8_init_15 rfl ?_
  refine co_bipush (pc := 16) dX8_init_16 (ic_b_10) ?_
  refine co_bipush (pc := 18) dX8_init_18 (ic_b_6) ?_
  refine co_mna (pc := 20) (N := 10) (M := 6) (by decide +kernel : kd 21 = 16) (by decide +kernel : ln 21 = 10) (by decide +kernel) (hfr.up (by decide)) (by decide) gw_215 gw_232 (by decide) (by decide) (by decide) (by decide) (by decide +kernel) (by decide +kernel) (by decide +kernel) (Nat.le_of_ble_eq_true rfl) (Nat.le_of_ble_eq_true rfl) dX8_init_20 ?_
  show CO w muI_X8 15 303 (33, [(0, 1), (0, 3), (0, 6), (0, 8), (0, 9), (0, 10), (0, 11), (0, 12), (0, 13), (0, 14), (0, 15), (0, 16)], σ) 32 [(17, 1), (17, 2), (0, 1), (0, 3), (0, 6), (0, 8), (0, 9), (0, 10), (0, 11), (0, 12), (0, 13), (0, 14), (0, 15), (0, 16)] σ 14 295 [(0, .ref (adr w 17))] [.ref (adr w 21), .ref (adr w 17)] 24
  refine co_putrF (pc := 24) (L' := [(17, 2), (0, 1), (0, 3), (0, 6), (0, 8), (0, 9), (0, 10), (0, 11), (0, 12), (0, 13), (0, 14), (0, 15), (0, 16)]) ok_8_1 okq_8_1 rfl rfl (by decide) (by decide +kernel : kd 17 = 8) (by decide +kernel : rf 17 1 = 21) (by rfl) gw_220 dX8_init_24 ?_
  refine co_aload_n (pc := 27) 0 rfl dX8_init_27 rfl ?_
  refine co_bipush (pc := 28) dX8_init_28 (ic_b_8) ?_
  refine co_newI (pc := 30) (N := 8) (by decide +kernel : kd 32 = 12) (by decide +kernel : ln 32 = 8) (hfr.up (by decide)) gw_214 (by decide) (by decide) (by decide +kernel) (Nat.le_of_ble_eq_true rfl) (Nat.le_of_ble_eq_true rfl) dX8_init_30 ?_
  show CO w muI_X8 15 303 (33, [(0, 1), (0, 3), (0, 6), (0, 8), (0, 9), (0, 10), (0, 11), (0, 12), (0, 13), (0, 14), (0, 15), (0, 16)], σ) 33 [(17, 2), (0, 1), (0, 3), (0, 6), (0, 8), (0, 9), (0, 10), (0, 11), (0, 12), (0, 13), (0, 14), (0, 15), (0, 16)] σ 15 303 [(0, .ref (adr w 17))] [.ref (adr w 32), .ref (adr w 17)] 32
  refine co_putrF (pc := 32) (L' := [(0, 1), (0, 3), (0, 6), (0, 8), (0, 9), (0, 10), (0, 11), (0, 12), (0, 13), (0, 14), (0, 15), (0, 16)]) ok_8_2 okq_8_2 rfl rfl (by decide) (by decide +kernel : kd 17 = 8) (by decide +kernel : rf 17 2 = 32) (by rfl) gw_223 dX8_init_32 ?_
  exact co_ret (pc := 35) rfl rfl rfl dX8_init_35 rfl
theorem cI_X2_35 {w : Wd} {σ : Mem} (hfr : Fresh σ 35) : MCC w muI_X2 4 24222 [.ref (adr w 35)] 36 [(35, 0), (35, 2), (35, 4), (35, 6), (33, 0), (33, 1), (33, 2), (33, 3), (33, 4), (33, 5), (33, 6), (33, 7), (0, 8), (0, 9), (0, 10), (0, 11), (0, 12), (0, 13), (0, 14), (0, 15), (0, 16)] σ (40, [(33, 0), (33, 1), (33, 2), (33, 3), (33, 4), (33, 5), (33, 6), (33, 7), (0, 8), (0, 9), (0, 10), (0, 11), (0, 12), (0, 13), (0, 14), (0, 15), (0, 16)], σ) := by
  refine mcc_of (lv := [(0, .ref (adr w 35))]) okI_X2 rfl rfl (Nat.le_of_ble_eq_true rfl) ?_
  refine co_aload_n (pc := 0) 0 rfl dX2_init_0 rfl ?_
  refine co_objInit (pc := 1) gw_239 gw_179 gw_180 (ltb rfl) (Nat.le_of_ble_eq_true rfl) dX2_init_1 ?_
  refine co_aload_n (pc := 4) 0 rfl dX2_init_4 rfl ?_
  refine co_bipush (pc := 5) dX2_init_5 (ic_b_64) ?_
  refine co_newI (pc := 7) (N := 64) (by decide +kernel : kd 36 = 12) (by decide +kernel : ln 36 = 64) (hfr.up (by decide)) gw_214 (by decide) (by decide) (by decide +kernel) (Nat.le_of_ble_eq_true rfl) (Nat.le_of_ble_eq_true rfl) dX2_init_7 ?_
  show CO w muI_X2 4 24222 (40, [(33, 0), (33, 1), (33, 2), (33, 3), (33, 4), (33, 5), (33, 6), (33, 7), (0, 8), (0, 9), (0, 10), (0, 11), (0, 12), (0, 13), (0, 14), (0, 15), (0, 16)], σ) 37 [(35, 0), (35, 2), (35, 4), (35, 6), (33, 0), (33, 1), (33, 2), (33, 3), (33, 4), (33, 5), (33, 6), (33, 7), (0, 8), (0, 9), (0, 10), (0, 11), (0, 12), (0, 13), (0, 14), (0, 15), (0, 16)] σ 1 64 [(0, .ref (adr w 35))] [.ref (adr w 36), .ref (adr w 35)] 9
  refine co_putrF (pc := 9) (L' := [(35, 2), (35, 4), (35, 6), (33, 0), (33, 1), (33, 2), (33, 3), (33, 4), (33, 5), (33, 6), (33, 7), (0, 8), (0, 9), (0, 10), (0, 11), (0, 12), (0, 13), (0, 14), (0, 15), (0, 16)]) ok_2_0 okq_2_0 rfl rfl (by decide) (by decide +kernel : kd 35 = 2) (by decide +kernel : rf 35 0 = 36) (by rfl) gw_240 dX2_init_9 ?_
  refine co_aload_n (pc := 12) 0 rfl dX2_init_12 rfl ?_
  refine co_iconst (pc := 13) dX2_init_13 (ic_i_0) ?_
  refine co_putf (pc := 14) (σ' := σ) ok_2_1 okq_2_1 ⟨by rfl, by rfl⟩ (by decide) (by decide +kernel : kd 35 = 2) (wI_same ((hfr 35 (by decide) 1).1)) gw_241 dX2_init_14 ?_
  refine co_aload_n (pc := 17) 0 rfl dX2_init_17 rfl ?_
  refine co_sipush (pc := 18) dX2_init_18 (ic_s_12076) ?_
  refine co_newI (pc := 21) (N := 12076) (by decide +kernel : kd 37 = 12) (by decide +kernel : ln 37 = 12076) (hfr.up (by decide)) gw_214 (by decide) (by decide) (by decide +kernel) (Nat.le_of_ble_eq_true rfl) (Nat.le_of_ble_eq_true rfl) dX2_init_21 ?_
  show CO w muI_X2 4 24222 (40, [(33, 0), (33, 1), (33, 2), (33, 3), (33, 4), (33, 5), (33, 6), (33, 7), (0, 8), (0, 9), (0, 10), (0, 11), (0, 12), (0, 13), (0, 14), (0, 15), (0, 16)], σ) 38 [(35, 2), (35, 4), (35, 6), (33, 0), (33, 1), (33, 2), (33, 3), (33, 4), (33, 5), (33, 6), (33, 7), (0, 8), (0, 9), (0, 10), (0, 11), (0, 12), (0, 13), (0, 14), (0, 15), (0, 16)] σ 2 12140 [(0, .ref (adr w 35))] [.ref (adr w 37), .ref (adr w 35)] 23
  refine co_putrF (pc := 23) (L' := [(35, 4), (35, 6), (33, 0), (33, 1), (33, 2), (33, 3), (33, 4), (33, 5), (33, 6), (33, 7), (0, 8), (0, 9), (0, 10), (0, 11), (0, 12), (0, 13), (0, 14), (0, 15), (0, 16)]) ok_2_2 okq_2_2 rfl rfl (by decide) (by decide +kernel : kd 35 = 2) (by decide +kernel : rf 35 2 = 37) (by rfl) gw_242 dX2_init_23 ?_
  refine co_aload_n (pc := 26) 0 rfl dX2_init_26 rfl ?_
  refine co_iconst (pc := 27) dX2_init_27 (ic_i_0) ?_
  refine co_putf (pc := 28) (σ' := σ) ok_2_3 okq_2_3 ⟨by rfl, by rfl⟩ (by decide) (by decide +kernel : kd 35 = 2) (wI_same ((hfr 35 (by decide) 3).1)) gw_243 dX2_init_28 ?_
  refine co_aload_n (pc := 31) 0 rfl dX2_init_31 rfl ?_
  refine co_sipush (pc := 32) dX2_init_32 (ic_s_12076) ?_
  refine co_newI (pc := 35) (N := 12076) (by decide +kernel : kd 38 = 12) (by decide +kernel : ln 38 = 12076) (hfr.up (by decide)) gw_214 (by decide) (by decide) (by decide +kernel) (Nat.le_of_ble_eq_true rfl) (Nat.le_of_ble_eq_true rfl) dX2_init_35 ?_
  show CO w muI_X2 4 24222 (40, [(33, 0), (33, 1), (33, 2), (33, 3), (33, 4), (33, 5), (33, 6), (33, 7), (0, 8), (0, 9), (0, 10), (0, 11), (0, 12), (0, 13), (0, 14), (0, 15), (0, 16)], σ) 39 [(35, 4), (35, 6), (33, 0), (33, 1), (33, 2), (33, 3), (33, 4), (33, 5), (33, 6), (33, 7), (0, 8), (0, 9), (0, 10), (0, 11), (0, 12), (0, 13), (0, 14), (0, 15), (0, 16)] σ 3 24216 [(0, .ref (adr w 35))] [.ref (adr w 38), .ref (adr w 35)] 37
  refine co_putrF (pc := 37) (L' := [(35, 6), (33, 0), (33, 1), (33, 2), (33, 3), (33, 4), (33, 5), (33, 6), (33, 7), (0, 8), (0, 9), (0, 10), (0, 11), (0, 12), (0, 13), (0, 14), (0, 15), (0, 16)]) ok_2_4 okq_2_4 rfl rfl (by decide) (by decide +kernel : kd 35 = 2) (by decide +kernel : rf 35 4 = 38) (by rfl) gw_244 dX2_init_37 ?_
  refine co_aload_n (pc := 40) 0 rfl dX2_init_40 rfl ?_
  refine co_iconst (pc := 41) dX2_init_41 (ic_i_0) ?_
  refine co_putf (pc := 42) (σ' := σ) ok_2_5 okq_2_5 ⟨by rfl, by rfl⟩ (by decide) (by decide +kernel : kd 35 = 2) (wI_same ((hfr 35 (by decide) 5).1)) gw_245 dX2_init_42 ?_
  refine co_aload_n (pc := 45) 0 rfl dX2_init_45 rfl ?_
  refine co_bipush (pc := 46) dX2_init_46 (ic_b_6) ?_
  refine co_newI (pc := 48) (N := 6) (by decide +kernel : kd 39 = 12) (by decide +kernel : ln 39 = 6) (hfr.up (by decide)) gw_214 (by decide) (by decide) (by decide +kernel) (Nat.le_of_ble_eq_true rfl) (Nat.le_of_ble_eq_true rfl) dX2_init_48 ?_
  show CO w muI_X2 4 24222 (40, [(33, 0), (33, 1), (33, 2), (33, 3), (33, 4), (33, 5), (33, 6), (33, 7), (0, 8), (0, 9), (0, 10), (0, 11), (0, 12), (0, 13), (0, 14), (0, 15), (0, 16)], σ) 40 [(35, 6), (33, 0), (33, 1), (33, 2), (33, 3), (33, 4), (33, 5), (33, 6), (33, 7), (0, 8), (0, 9), (0, 10), (0, 11), (0, 12), (0, 13), (0, 14), (0, 15), (0, 16)] σ 4 24222 [(0, .ref (adr w 35))] [.ref (adr w 39), .ref (adr w 35)] 50
  refine co_putrF (pc := 50) (L' := [(33, 0), (33, 1), (33, 2), (33, 3), (33, 4), (33, 5), (33, 6), (33, 7), (0, 8), (0, 9), (0, 10), (0, 11), (0, 12), (0, 13), (0, 14), (0, 15), (0, 16)]) ok_2_6 okq_2_6 rfl rfl (by decide) (by decide +kernel : kd 35 = 2) (by decide +kernel : rf 35 6 = 39) (by rfl) gw_246 dX2_init_50 ?_
  exact co_ret (pc := 53) rfl rfl rfl dX2_init_53 rfl
theorem cI_X6_41 {w : Wd} {σ : Mem} (hfr : Fresh σ 41) : MCC w muI_X6 2 222 [.ref (adr w 41)] 42 [(41, 1), (41, 2), (40, 0), (40, 2), (40, 5), (40, 7), (40, 8), (40, 1), (33, 0), (33, 1), (33, 2), (33, 3), (33, 4), (33, 5), (33, 6), (33, 7), (0, 9), (0, 10), (0, 11), (0, 12), (0, 13), (0, 14), (0, 15), (0, 16)] σ (44, [(40, 0), (40, 2), (40, 5), (40, 7), (40, 8), (40, 1), (33, 0), (33, 1), (33, 2), (33, 3), (33, 4), (33, 5), (33, 6), (33, 7), (0, 9), (0, 10), (0, 11), (0, 12), (0, 13), (0, 14), (0, 15), (0, 16)], σ) := by
  refine mcc_of (lv := [(0, .ref (adr w 41))]) okI_X6 rfl rfl (Nat.le_of_ble_eq_true rfl) ?_
  refine co_aload_n (pc := 0) 0 rfl dX6_init_0 rfl ?_
  refine co_objInit (pc := 1) gw_192 gw_179 gw_180 (ltb rfl) (Nat.le_of_ble_eq_true rfl) dX6_init_1 ?_
  refine co_aload_n (pc := 4) 0 rfl dX6_init_4 rfl ?_
  refine co_iconst (pc := 5) dX6_init_5 (ic_i_0) ?_
  refine co_putf (pc := 6) (σ' := σ) ok_6_0 okq_6_0 ⟨by rfl, by rfl⟩ (by decide) (by decide +kernel : kd 41 = 6) (wI_same ((hfr 41 (by decide) 0).1)) gw_193 dX6_init_6 ?_
  refine co_aload_n (pc := 9) 0 rfl dX6_init_9 rfl ?_
  refine co_bipush (pc := 10) dX6_init_10 (ic_b_6) ?_
  refine co_newI (pc := 12) (N := 6) (by decide +kernel : kd 42 = 12) (by decide +kernel : ln 42 = 6) (hfr.up (by decide)) gw_214 (by decide) (by decide) (by decide +kernel) (Nat.le_of_ble_eq_true rfl) (Nat.le_of_ble_eq_true rfl) dX6_init_12 ?_
  show CO w muI_X6 2 222 (44, [(40, 0), (40, 2), (40, 5), (40, 7), (40, 8), (40, 1), (33, 0), (33, 1), (33, 2), (33, 3), (33, 4), (33, 5), (33, 6), (33, 7), (0, 9), (0, 10), (0, 11), (0, 12), (0, 13), (0, 14), (0, 15), (0, 16)], σ) 43 [(41, 1), (41, 2), (40, 0), (40, 2), (40, 5), (40, 7), (40, 8), (40, 1), (33, 0), (33, 1), (33, 2), (33, 3), (33, 4), (33, 5), (33, 6), (33, 7), (0, 9), (0, 10), (0, 11), (0, 12), (0, 13), (0, 14), (0, 15), (0, 16)] σ 1 6 [(0, .ref (adr w 41))] [.ref (adr w 42), .ref (adr w 41)] 14
  refine co_putrF (pc := 14) (L' := [(41, 2), (40, 0), (40, 2), (40, 5), (40, 7), (40, 8), (40, 1), (33, 0), (33, 1), (33, 2), (33, 3), (33, 4), (33, 5), (33, 6), (33, 7), (0, 9), (0, 10), (0, 11), (0, 12), (0, 13), (0, 14), (0, 15), (0, 16)]) ok_6_1 okq_6_1 rfl rfl (by decide) (by decide +kernel : kd 41 = 6) (by decide +kernel : rf 41 1 = 42) (by rfl) gw_200 dX6_init_14 ?_
  refine co_aload_n (pc := 17) 0 rfl dX6_init_17 rfl ?_
  refine co_sipush (pc := 18) dX6_init_18 (ic_s_216) ?_
  refine co_newI (pc := 21) (N := 216) (by decide +kernel : kd 43 = 12) (by decide +kernel : ln 43 = 216) (hfr.up (by decide)) gw_214 (by decide) (by decide) (by decide +kernel) (Nat.le_of_ble_eq_true rfl) (Nat.le_of_ble_eq_true rfl) dX6_init_21 ?_
  show CO w muI_X6 2 222 (44, [(40, 0), (40, 2), (40, 5), (40, 7), (40, 8), (40, 1), (33, 0), (33, 1), (33, 2), (33, 3), (33, 4), (33, 5), (33, 6), (33, 7), (0, 9), (0, 10), (0, 11), (0, 12), (0, 13), (0, 14), (0, 15), (0, 16)], σ) 44 [(41, 2), (40, 0), (40, 2), (40, 5), (40, 7), (40, 8), (40, 1), (33, 0), (33, 1), (33, 2), (33, 3), (33, 4), (33, 5), (33, 6), (33, 7), (0, 9), (0, 10), (0, 11), (0, 12), (0, 13), (0, 14), (0, 15), (0, 16)] σ 2 222 [(0, .ref (adr w 41))] [.ref (adr w 43), .ref (adr w 41)] 23
  refine co_putrF (pc := 23) (L' := [(40, 0), (40, 2), (40, 5), (40, 7), (40, 8), (40, 1), (33, 0), (33, 1), (33, 2), (33, 3), (33, 4), (33, 5), (33, 6), (33, 7), (0, 9), (0, 10), (0, 11), (0, 12), (0, 13), (0, 14), (0, 15), (0, 16)]) ok_6_2 okq_6_2 rfl rfl (by decide) (by decide +kernel : kd 41 = 6) (by decide +kernel : rf 41 2 = 43) (by rfl) gw_206 dX6_init_23 ?_
  exact co_ret (pc := 26) rfl rfl rfl dX6_init_26 rfl
theorem cI_X9_48 {w : Wd} {σ : Mem} (hfr : Fresh σ 48) : MCC w muI_X9 3 1365 [.ref (adr w 48)] 49 [(48, 1), (48, 2), (48, 3), (44, 0), (44, 1), (44, 2), (44, 3), (44, 4), (44, 5), (33, 0), (33, 1), (33, 2), (33, 3), (33, 4), (33, 5), (33, 6), (33, 7), (0, 9), (0, 10), (0, 11), (0, 12), (0, 13), (0, 14), (0, 15), (0, 16)] σ (52, [(44, 0), (44, 1), (44, 2), (44, 3), (44, 4), (44, 5), (33, 0), (33, 1), (33, 2), (33, 3), (33, 4), (33, 5), (33, 6), (33, 7), (0, 9), (0, 10), (0, 11), (0, 12), (0, 13), (0, 14), (0, 15), (0, 16)], σ) := by
  refine mcc_of (lv := [(0, .ref (adr w 48))]) okI_X9 rfl rfl (Nat.le_of_ble_eq_true rfl) ?_
  refine co_aload_n (pc := 0) 0 rfl dX9_init_0 rfl ?_
  refine co_objInit (pc := 1) gw_278 gw_179 gw_180 (ltb rfl) (Nat.le_of_ble_eq_true rfl) dX9_init_1 ?_
  refine co_aload_n (pc := 4) 0 rfl dX9_init_4 rfl ?_
  refine co_iconst (pc := 5) dX9_init_5 (ic_i_0) ?_
  refine co_putf (pc := 6) (σ' := σ) ok_9_0 okq_9_0 ⟨by rfl, by rfl⟩ (by decide) (by decide +kernel : kd 48 = 9) (wI_same ((hfr 48 (by decide) 0).1)) gw_279 dX9_init_6 ?_
  refine co_aload_n (pc := 9) 0 rfl dX9_init_9 rfl ?_
  refine co_sipush (pc := 10) dX9_init_10 (ic_s_455) ?_
  refine co_newI (pc := 13) (N := 455) (by decide +kernel : kd 49 = 12) (by decide +kernel : ln 49 = 455) (hfr.up (by decide)) gw_214 (by decide) (by decide) (by decide +kernel) (Nat.le_of_ble_eq_true rfl) (Nat.le_of_ble_eq_true rfl) dX9_init_13 ?_
  show CO w muI_X9 3 1365 (52, [(44, 0), (44, 1), (44, 2), (44, 3), (44, 4), (44, 5), (33, 0), (33, 1), (33, 2), (33, 3), (33, 4), (33, 5), (33, 6), (33, 7), (0, 9), (0, 10), (0, 11), (0, 12), (0, 13), (0, 14), (0, 15), (0, 16)], σ) 50 [(48, 1), (48, 2), (48, 3), (44, 0), (44, 1), (44, 2), (44, 3), (44, 4), (44, 5), (33, 0), (33, 1), (33, 2), (33, 3), (33, 4), (33, 5), (33, 6), (33, 7), (0, 9), (0, 10), (0, 11), (0, 12), (0, 13), (0, 14), (0, 15), (0, 16)] σ 1 455 [(0, .ref (adr w 48))] [.ref (adr w 49), .ref (adr w 48)] 15
  refine co_putrF (pc := 15) (L' := [(48, 2), (48, 3), (44, 0), (44, 1), (44, 2), (44, 3), (44, 4), (44, 5), (33, 0), (33, 1), (33, 2), (33, 3), (33, 4), (33, 5), (33, 6), (33, 7), (0, 9), (0, 10), (0, 11), (0, 12), (0, 13), (0, 14), (0, 15), (0, 16)]) ok_9_1 okq_9_1 rfl rfl (by decide) (by decide +kernel : kd 48 = 9) (by decide +kernel : rf 48 1 = 49) (by rfl) gw_283 dX9_init_15 ?_
  refine co_aload_n (pc := 18) 0 rfl dX9_init_18 rfl ?_
  refine co_sipush (pc := 19) dX9_init_19 (ic_s_455) ?_
  refine co_newL (pc := 22) (N := 455) (by decide +kernel : kd 50 = 13) (by decide +kernel : ln 50 = 455) (hfr.up (by decide)) gw_232 (by decide) (by decide) (by decide +kernel) (Nat.le_of_ble_eq_true rfl) (Nat.le_of_ble_eq_true rfl) dX9_init_22 ?_
  show CO w muI_X9 3 1365 (52, [(44, 0), (44, 1), (44, 2), (44, 3), (44, 4), (44, 5), (33, 0), (33, 1), (33, 2), (33, 3), (33, 4), (33, 5), (33, 6), (33, 7), (0, 9), (0, 10), (0, 11), (0, 12), (0, 13), (0, 14), (0, 15), (0, 16)], σ) 51 [(48, 2), (48, 3), (44, 0), (44, 1), (44, 2), (44, 3), (44, 4), (44, 5), (33, 0), (33, 1), (33, 2), (33, 3), (33, 4), (33, 5), (33, 6), (33, 7), (0, 9), (0, 10), (0, 11), (0, 12), (0, 13), (0, 14), (0, 15), (0, 16)] σ 2 910 [(0, .ref (adr w 48))] [.ref (adr w 50), .ref (adr w 48)] 24
  refine co_putrF (pc := 24) (L' := [(48, 3), (44, 0), (44, 1), (44, 2), (44, 3), (44, 4), (44, 5), (33, 0), (33, 1), (33, 2), (33, 3), (33, 4), (33, 5), (33, 6), (33, 7), (0, 9), (0, 10), (0, 11), (0, 12), (0, 13), (0, 14), (0, 15), (0, 16)]) ok_9_2 okq_9_2 rfl rfl (by decide) (by decide +kernel : kd 48 = 9) (by decide +kernel : rf 48 2 = 50) (by rfl) gw_286 dX9_init_24 ?_
  refine co_aload_n (pc := 27) 0 rfl dX9_init_27 rfl ?_
  refine co_sipush (pc := 28) dX9_init_28 (ic_s_455) ?_
  refine co_newI (pc := 31) (N := 455) (by decide +kernel : kd 51 = 12) (by decide +kernel : ln 51 = 455) (hfr.up (by decide)) gw_214 (by decide) (by decide) (by decide +kernel) (Nat.le_of_ble_eq_true rfl) (Nat.le_of_ble_eq_true rfl) dX9_init_31 ?_
  show CO w muI_X9 3 1365 (52, [(44, 0), (44, 1), (44, 2), (44, 3), (44, 4), (44, 5), (33, 0), (33, 1), (33, 2), (33, 3), (33, 4), (33, 5), (33, 6), (33, 7), (0, 9), (0, 10), (0, 11), (0, 12), (0, 13), (0, 14), (0, 15), (0, 16)], σ) 52 [(48, 3), (44, 0), (44, 1), (44, 2), (44, 3), (44, 4), (44, 5), (33, 0), (33, 1), (33, 2), (33, 3), (33, 4), (33, 5), (33, 6), (33, 7), (0, 9), (0, 10), (0, 11), (0, 12), (0, 13), (0, 14), (0, 15), (0, 16)] σ 3 1365 [(0, .ref (adr w 48))] [.ref (adr w 51), .ref (adr w 48)] 33
  refine co_putrF (pc := 33) (L' := [(44, 0), (44, 1), (44, 2), (44, 3), (44, 4), (44, 5), (33, 0), (33, 1), (33, 2), (33, 3), (33, 4), (33, 5), (33, 6), (33, 7), (0, 9), (0, 10), (0, 11), (0, 12), (0, 13), (0, 14), (0, 15), (0, 16)]) ok_9_3 okq_9_3 rfl rfl (by decide) (by decide +kernel : kd 48 = 9) (by decide +kernel : rf 48 3 = 51) (by rfl) gw_289 dX9_init_33 ?_
  exact co_ret (pc := 36) rfl rfl rfl dX9_init_36 rfl
theorem cI_X9_52 {w : Wd} {σ : Mem} (hfr : Fresh σ 52) : MCC w muI_X9 3 1365 [.ref (adr w 52)] 53 [(52, 1), (52, 2), (52, 3), (44, 1), (44, 2), (44, 3), (44, 4), (44, 5), (33, 0), (33, 1), (33, 2), (33, 3), (33, 4), (33, 5), (33, 6), (33, 7), (0, 9), (0, 10), (0, 11), (0, 12), (0, 13), (0, 14), (0, 15), (0, 16)] σ (56, [(44, 1), (44, 2), (44, 3), (44, 4), (44, 5), (33, 0), (33, 1), (33, 2), (33, 3), (33, 4), (33, 5), (33, 6), (33, 7), (0, 9), (0, 10), (0, 11), (0, 12), (0, 13), (0, 14), (0, 15), (0, 16)], σ) := by
  refine mcc_of (lv := [(0, .ref (adr w 52))]) okI_X9 rfl rfl (Nat.le_of_ble_eq_true rfl) ?_
  refine co_aload_n (pc := 0) 0 rfl dX9_init_0 rfl ?_
  refine co_objInit (pc := 1) gw_278 gw_179 gw_180 (ltb rfl) (Nat.le_of_ble_eq_true rfl) dX9_init_1 ?_
  refine co_aload_n (pc := 4) 0 rfl dX9_init_4 rfl ?_
  refine co_iconst (pc := 5) dX9_init_5 (ic_i_0) ?_
  refine co_putf (pc := 6) (σ' := σ) ok_9_0 okq_9_0 ⟨by rfl, by rfl⟩ (by decide) (by decide +kernel : kd 52 = 9) (wI_same ((hfr 52 (by decide) 0).1)) gw_279 dX9_init_6 ?_
  refine co_aload_n (pc := 9) 0 rfl dX9_init_9 rfl ?_
  refine co_sipush (pc := 10) dX9_init_10 (ic_s_455) ?_
  refine co_newI (pc := 13) (N := 455) (by decide +kernel : kd 53 = 12) (by decide +kernel : ln 53 = 455) (hfr.up (by decide)) gw_214 (by decide) (by decide) (by decide +kernel) (Nat.le_of_ble_eq_true rfl) (Nat.le_of_ble_eq_true rfl) dX9_init_13 ?_
  show CO w muI_X9 3 1365 (56, [(44, 1), (44, 2), (44, 3), (44, 4), (44, 5), (33, 0), (33, 1), (33, 2), (33, 3), (33, 4), (33, 5), (33, 6), (33, 7), (0, 9), (0, 10), (0, 11), (0, 12), (0, 13), (0, 14), (0, 15), (0, 16)], σ) 54 [(52, 1), (52, 2), (52, 3), (44, 1), (44, 2), (44, 3), (44, 4), (44, 5), (33, 0), (33, 1), (33, 2), (33, 3), (33, 4), (33, 5), (33, 6), (33, 7), (0, 9), (0, 10), (0, 11), (0, 12), (0, 13), (0, 14), (0, 15), (0, 16)] σ 1 455 [(0, .ref (adr w 52))] [.ref (adr w 53), .ref (adr w 52)] 15
  refine co_putrF (pc := 15) (L' := [(52, 2), (52, 3), (44, 1), (44, 2), (44, 3), (44, 4), (44, 5), (33, 0), (33, 1), (33, 2), (33, 3), (33, 4), (33, 5), (33, 6), (33, 7), (0, 9), (0, 10), (0, 11), (0, 12), (0, 13), (0, 14), (0, 15), (0, 16)]) ok_9_1 okq_9_1 rfl rfl (by decide) (by decide +kernel : kd 52 = 9) (by decide +kernel : rf 52 1 = 53) (by rfl) gw_283 dX9_init_15 ?_
  refine co_aload_n (pc := 18) 0 rfl dX9_init_18 rfl ?_
  refine co_sipush (pc := 19) dX9_init_19 (ic_s_455) ?_
  refine co_newL (pc := 22) (N := 455) (by decide +kernel : kd 54 = 13) (by decide +kernel : ln 54 = 455) (hfr.up (by decide)) gw_232 (by decide) (by decide) (by decide +kernel) (Nat.le_of_ble_eq_true rfl) (Nat.le_of_ble_eq_true rfl) dX9_init_22 ?_
  show CO w muI_X9 3 1365 (56, [(44, 1), (44, 2), (44, 3), (44, 4), (44, 5), (33, 0), (33, 1), (33, 2), (33, 3), (33, 4), (33, 5), (33, 6), (33, 7), (0, 9), (0, 10), (0, 11), (0, 12), (0, 13), (0, 14), (0, 15), (0, 16)], σ) 55 [(52, 2), (52, 3), (44, 1), (44, 2), (44, 3), (44, 4), (44, 5), (33, 0), (33, 1), (33, 2), (33, 3), (33, 4), (33, 5), (33, 6), (33, 7), (0, 9), (0, 10), (0, 11), (0, 12), (0, 13), (0, 14), (0, 15), (0, 16)] σ 2 910 [(0, .ref (adr w 52))] [.ref (adr w 54), .ref (adr w 52)] 24
  refine co_putrF (pc := 24) (L' := [(52, 3), (44, 1), (44, 2), (44, 3), (44, 4), (44, 5), (33, 0), (33, 1), (33, 2), (33, 3), (33, 4), (33, 5), (33, 6), (33, 7), (0, 9), (0, 10), (0, 11), (0, 12), (0, 13), (0, 14), (0, 15), (0, 16)]) ok_9_2 okq_9_2 rfl rfl (by decide) (by decide +kernel : kd 52 = 9) (by decide +kernel : rf 52 2 = 54) (by rfl) gw_286 dX9_init_24 ?_
  refine co_aload_n (pc := 27) 0 rfl dX9_init_27 rfl ?_
  refine co_sipush (pc := 28) dX9_init_28 (ic_s_455) ?_
  refine co_newI (pc := 31) (N := 455) (by decide +kernel : kd 55 = 12) (by decide +kernel : ln 55 = 455) (hfr.up (by decide)) gw_214 (by decide) (by decide) (by decide +kernel) (Nat.le_of_ble_eq_true rfl) (Nat.le_of_ble_eq_true rfl) dX9_init_31 ?_
  show CO w muI_X9 3 1365 (56, [(44, 1), (44, 2), (44, 3), (44, 4), (44, 5), (33, 0), (33, 1), (33, 2), (33, 3), (33, 4), (33, 5), (33, 6), (33, 7), (0, 9), (0, 10), (0, 11), (0, 12), (0, 13), (0, 14), (0, 15), (0, 16)], σ) 56 [(52, 3), (44, 1), (44, 2), (44, 3), (44, 4), (44, 5), (33, 0), (33, 1), (33, 2), (33, 3), (33, 4), (33, 5), (33, 6), (33, 7), (0, 9), (0, 10), (0, 11), (0, 12), (0, 13), (0, 14), (0, 15), (0, 16)] σ 3 1365 [(0, .ref (adr w 52))] [.ref (adr w 55), .ref (adr w 52)] 33
  refine co_putrF (pc := 33) (L' := [(44, 1), (44, 2), (44, 3), (44, 4), (44, 5), (33, 0), (33, 1), (33, 2), (33, 3), (33, 4), (33, 5), (33, 6), (33, 7), (0, 9), (0, 10), (0, 11), (0, 12), (0, 13), (0, 14), (0, 15), (0, 16)]) ok_9_3 okq_9_3 rfl rfl (by decide) (by decide +kernel : kd 52 = 9) (by decide +kernel : rf 52 3 = 55) (by rfl) gw_289 dX9_init_33 ?_
  exact co_ret (pc := 36) rfl rfl rfl dX9_init_36 rfl
theorem cI_X9_56 {w : Wd} {σ : Mem} (hfr : Fresh σ 56) : MCC w muI_X9 3 1365 [.ref (adr w 56)] 57 [(56, 1), (56, 2), (56, 3), (44, 2), (44, 3), (44, 4), (44, 5), (33, 0), (33, 1), (33, 2), (33, 3), (33, 4), (33, 5), (33, 6), (33, 7), (0, 9), (0, 10), (0, 11), (0, 12), (0, 13), (0, 14), (0, 15), (0, 16)] σ (60, [(44, 2), (44, 3), (44, 4), (44, 5), (33, 0), (33, 1), (33, 2), (33, 3), (33, 4), (33, 5), (33, 6), (33, 7), (0, 9), (0, 10), (0, 11), (0, 12), (0, 13), (0, 14), (0, 15), (0, 16)], σ) := by
  refine mcc_of (lv := [(0, .ref (adr w 56))]) okI_X9 rfl rfl (Nat.le_of_ble_eq_true rfl) ?_
  refine co_aload_n (pc := 0) 0 rfl dX9_init_0 rfl ?_
  refine co_objInit (pc := 1) gw_278 gw_179 gw_180 (ltb rfl) (Nat.le_of_ble_eq_true rfl) dX9_init_1 ?_
  refine co_aload_n (pc := 4) 0 rfl dX9_init_4 rfl ?_
  refine co_iconst (pc := 5) dX9_init_5 (ic_i_0) ?_
  refine co_putf (pc := 6) (σ' := σ) ok_9_0 okq_9_0 ⟨by rfl, by rfl⟩ (by decide) (by decide +kernel : kd 56 = 9) (wI_same ((hfr 56 (by decide) 0).1)) gw_279 dX9_init_6 ?_
  refine co_aload_n (pc := 9) 0 rfl dX9_init_9 rfl ?_
  refine co_sipush (pc := 10) dX9_init_10 (ic_s_455) ?_
  refine co_newI (pc := 13) (N := 455) (by decide +kernel : kd 57 = 12) (by decide +kernel : ln 57 = 455) (hfr.up (by decide)) gw_214 (by decide) (by decide) (by decide +kernel) (Nat.le_of_ble_eq_true rfl) (Nat.le_of_ble_eq_true rfl) dX9_init_13 ?_
  show CO w muI_X9 3 1365 (60, [(44, 2), (44, 3), (44, 4), (44, 5), (33, 0), (33, 1), (33, 2), (33, 3), (33, 4), (33, 5), (33, 6), (33, 7), (0, 9), (0, 10), (0, 11), (0, 12), (0, 13), (0, 14), (0, 15), (0, 16)], σ) 58 [(56, 1), (56, 2), (56, 3), (44, 2), (44, 3), (44, 4), (44, 5), (33, 0), (33, 1), (33, 2), (33, 3), (33, 4), (33, 5), (33, 6), (33, 7), (0, 9), (0, 10), (0, 11), (0, 12), (0, 13), (0, 14), (0, 15), (0, 16)] σ 1 455 [(0, .ref (adr w 56))] [.ref (adr w 57), .ref (adr w 56)] 15
  refine co_putrF (pc := 15) (L' := [(56, 2), (56, 3), (44, 2), (44, 3), (44, 4), (44, 5), (33, 0), (33, 1), (33, 2), (33, 3), (33, 4), (33, 5), (33, 6), (33, 7), (0, 9), (0, 10), (0, 11), (0, 12), (0, 13), (0, 14), (0, 15), (0, 16)]) ok_9_1 okq_9_1 rfl rfl (by decide) (by decide +kernel : kd 56 = 9) (by decide +kernel : rf 56 1 = 57) (by rfl) gw_283 dX9_init_15 ?_
  refine co_aload_n (pc := 18) 0 rfl dX9_init_18 rfl ?_
  refine co_sipush (pc := 19) dX9_init_19 (ic_s_455) ?_
  refine co_newL (pc := 22) (N := 455) (by decide +kernel : kd 58 = 13) (by decide +kernel : ln 58 = 455) (hfr.up (by decide)) gw_232 (by decide) (by decide) (by decide +kernel) (Nat.le_of_ble_eq_true rfl) (Nat.le_of_ble_eq_true rfl) dX9_init_22 ?_
  show CO w muI_X9 3 1365 (60, [(44, 2), (44, 3), (44, 4), (44, 5), (33, 0), (33, 1), (33, 2), (33, 3), (33, 4), (33, 5), (33, 6), (33, 7), (0, 9), (0, 10), (0, 11), (0, 12), (0, 13), (0, 14), (0, 15), (0, 16)], σ) 59 [(56, 2), (56, 3), (44, 2), (44, 3), (44, 4), (44, 5), (33, 0), (33, 1), (33, 2), (33, 3), (33, 4), (33, 5), (33, 6), (33, 7), (0, 9), (0, 10), (0, 11), (0, 12), (0, 13), (0, 14), (0, 15), (0, 16)] σ 2 910 [(0, .ref (adr w 56))] [.ref (adr w 58), .ref (adr w 56)] 24
  refine co_putrF (pc := 24) (L' := [(56, 3), (44, 2), (44, 3), (44, 4), (44, 5), (33, 0), (33, 1), (33, 2), (33, 3), (33, 4), (33, 5), (33, 6), (33, 7), (0, 9), (0, 10), (0, 11), (0, 12), (0, 13), (0, 14), (0, 15), (0, 16)]) ok_9_2 okq_9_2 rfl rfl (by decide) (by decide +kernel : kd 56 = 9) (by decide +kernel : rf 56 2 = 58) (by rfl) gw_286 dX9_init_24 ?_
  refine co_aload_n (pc := 27) 0 rfl dX9_init_27 rfl ?_
  refine co_sipush (pc := 28) dX9_init_28 (ic_s_455) ?_
  refine co_newI (pc := 31) (N := 455) (by decide +kernel : kd 59 = 12) (by decide +kernel : ln 59 = 455) (hfr.up (by decide)) gw_214 (by decide) (by decide) (by decide +kernel) (Nat.le_of_ble_eq_true rfl) (Nat.le_of_ble_eq_true rfl) dX9_init_31 ?_
  show CO w muI_X9 3 1365 (60, [(44, 2), (44, 3), (44, 4), (44, 5), (33, 0), (33, 1), (33, 2), (33, 3), (33, 4), (33, 5), (33, 6), (33, 7), (0, 9), (0, 10), (0, 11), (0, 12), (0, 13), (0, 14), (0, 15), (0, 16)], σ) 60 [(56, 3), (44, 2), (44, 3), (44, 4), (44, 5), (33, 0), (33, 1), (33, 2), (33, 3), (33, 4), (33, 5), (33, 6), (33, 7), (0, 9), (0, 10), (0, 11), (0, 12), (0, 13), (0, 14), (0, 15), (0, 16)] σ 3 1365 [(0, .ref (adr w 56))] [.ref (adr w 59), .ref (adr w 56)] 33
  refine co_putrF (pc := 33) (L' := [(44, 2), (44, 3), (44, 4), (44, 5), (33, 0), (33, 1), (33, 2), (33, 3), (33, 4), (33, 5), (33, 6), (33, 7), (0, 9), (0, 10), (0, 11), (0, 12), (0, 13), (0, 14), (0, 15), (0, 16)]) ok_9_3 okq_9_3 rfl rfl (by decide) (by decide +kernel : kd 56 = 9) (by decide +kernel : rf 56 3 = 59) (by rfl) gw_289 dX9_init_33 ?_
  exact co_ret (pc := 36) rfl rfl rfl dX9_init_36 rfl
theorem cI_X9_60 {w : Wd} {σ : Mem} (hfr : Fresh σ 60) : MCC w muI_X9 3 1365 [.ref (adr w 60)] 61 [(60, 1), (60, 2), (60, 3), (44, 3), (44, 4), (44, 5), (33, 0), (33, 1), (33, 2), (33, 3), (33, 4), (33, 5), (33, 6), (33, 7), (0, 9), (0, 10), (0, 11), (0, 12), (0, 13), (0, 14), (0, 15), (0, 16)] σ (64, [(44, 3), (44, 4), (44, 5), (33, 0), (33, 1), (33, 2), (33, 3), (33, 4), (33, 5), (33, 6), (33, 7), (0, 9), (0, 10), (0, 11), (0, 12), (0, 13), (0, 14), (0, 15), (0, 16)], σ) := by
  refine mcc_of (lv := [(0, .ref (adr w 60))]) okI_X9 rfl rfl (Nat.le_of_ble_eq_true rfl) ?_
  refine co_aload_n (pc := 0) 0 rfl dX9_init_0 rfl ?_
  refine co_objInit (pc := 1) gw_278 gw_179 gw_180 (ltb rfl) (Nat.le_of_ble_eq_true rfl) dX9_init_1 ?_
  refine co_aload_n (pc := 4) 0 rfl dX9_init_4 rfl ?_
  refine co_iconst (pc := 5) dX9_init_5 (ic_i_0) ?_
  refine co_putf (pc := 6) (σ' := σ) ok_9_0 okq_9_0 ⟨by rfl, by rfl⟩ (by decide) (by decide +kernel : kd 60 = 9) (wI_same ((hfr 60 (by decide) 0).1)) gw_279 dX9_init_6 ?_
  refine co_aload_n (pc := 9) 0 rfl dX9_init_9 rfl ?_
  refine co_sipush (pc := 10) dX9_init_10 (ic_s_455) ?_
  refine co_newI (pc := 13) (N := 455) (by decide +kernel : kd 61 = 12) (by decide +kernel : ln 61 = 455) (hfr.up (by decide)) gw_214 (by decide) (by decide) (by decide +kernel) (Nat.le_of_ble_eq_true rfl) (Nat.le_of_ble_eq_true rfl) dX9_init_13 ?_
  show CO w muI_X9 3 1365 (64, [(44, 3), (44, 4), (44, 5), (33, 0), (33, 1), (33, 2), (33, 3), (33, 4), (33, 5), (33, 6), (33, 7), (0, 9), (0, 10), (0, 11), (0, 12), (0, 13), (0, 14), (0, 15), (0, 16)], σ) 62 [(60, 1), (60, 2), (60, 3), (44, 3), (44, 4), (44, 5), (33, 0), (33, 1), (33, 2), (33, 3), (33, 4), (33, 5), (33, 6), (33, 7), (0, 9), (0, 10), (0, 11), (0, 12), (0, 13), (0, 14), (0, 15), (0, 16)] σ 1 455 [(0, .ref (adr w 60))] [.ref (adr w 61), .ref (adr w 60)] 15
  refine co_putrF (pc := 15) (L' := [(60, 2), (60, 3), (44, 3), (44, 4), (44, 5), (33, 0), (33, 1), (33, 2), (33, 3), (33, 4), (33, 5), (33, 6), (33, 7), (0, 9), (0, 10), (0, 11), (0, 12), (0, 13), (0, 14), (0, 15), (0, 16)]) ok_9_1 okq_9_1 rfl rfl (by decide) (by decide +kernel : kd 60 = 9) (by decide +kernel : rf 60 1 = 61) (by rfl) gw_283 dX9_init_15 ?_
  refine co_aload_n (pc := 18) 0 rfl dX9_init_18 rfl ?_
  refine co_sipush (pc := 19) dX9_init_19 (ic_s_455) ?_
  refine co_newL (pc := 22) (N := 455) (by decide +kernel : kd 62 = 13) (by decide +kernel : ln 62 = 455) (hfr.up (by decide)) gw_232 (by decide) (by decide) (by decide +kernel) (Nat.le_of_ble_eq_true rfl) (Nat.le_of_ble_eq_true rfl) dX9_init_22 ?_
  show CO w muI_X9 3 1365 (64, [(44, 3), (44, 4), (44, 5), (33, 0), (33, 1), (33, 2), (33, 3), (33, 4), (33, 5), (33, 6), (33, 7), (0, 9), (0, 10), (0, 11), (0, 12), (0, 13), (0, 14), (0, 15), (0, 16)], σ) 63 [(60, 2), (60, 3), (44, 3), (44, 4), (44, 5), (33, 0), (33, 1), (33, 2), (33, 3), (33, 4), (33, 5), (33, 6), (33, 7), (0, 9), (0, 10), (0, 11), (0, 12), (0, 13), (0, 14), (0, 15), (0, 16)] σ 2 910 [(0, .ref (adr w 60))] [.ref (adr w 62), .ref (adr w 60)] 24
  refine co_putrF (pc := 24) (L' := [(60, 3), (44, 3), (44, 4), (44, 5), (33, 0), (33, 1), (33, 2), (33, 3), (33, 4), (33, 5), (33, 6), (33, 7), (0, 9), (0, 10), (0, 11), (0, 12), (0, 13), (0, 14), (0, 15), (0, 16)]) ok_9_2 okq_9_2 rfl rfl (by decide) (by decide +kernel : kd 60 = 9) (by decide +kernel : rf 60 2 = 62) (by rfl) gw_286 dX9_init_24 ?_
  refine co_aload_n (pc := 27) 0 rfl dX9_init_27 rfl ?_
  refine co_sipush (pc := 28) dX9_init_28 (ic_s_455) ?_
  refine co_newI (pc := 31) (N := 455) (by decide +kernel : kd 63 = 12) (by decide +kernel : ln 63 = 455) (hfr.up (by decide)) gw_214 (by decide) (by decide) (by decide +kernel) (Nat.le_of_ble_eq_true rfl) (Nat.le_of_ble_eq_true rfl) dX9_init_31 ?_
  show CO w muI_X9 3 1365 (64, [(44, 3), (44, 4), (44, 5), (33, 0), (33, 1), (33, 2), (33, 3), (33, 4), (33, 5), (33, 6), (33, 7), (0, 9), (0, 10), (0, 11), (0, 12), (0, 13), (0, 14), (0, 15), (0, 16)], σ) 64 [(60, 3), (44, 3), (44, 4), (44, 5), (33, 0), (33, 1), (33, 2), (33, 3), (33, 4), (33, 5), (33, 6), (33, 7), (0, 9), (0, 10), (0, 11), (0, 12), (0, 13), (0, 14), (0, 15), (0, 16)] σ 3 1365 [(0, .ref (adr w 60))] [.ref (adr w 63), .ref (adr w 60)] 33
  refine co_putrF (pc := 33) (L' := [(44, 3), (44, 4), (44, 5), (33, 0), (33, 1), (33, 2), (33, 3), (33, 4), (33, 5), (33, 6), (33, 7), (0, 9), (0, 10), (0, 11), (0, 12), (0, 13), (0, 14), (0, 15), (0, 16)]) ok_9_3 okq_9_3 rfl rfl (by decide) (by decide +kernel : kd 60 = 9) (by decide +kernel : rf 60 3 = 63) (by rfl) gw_289 dX9_init_33 ?_
  exact co_ret (pc := 36) rfl rfl rfl dX9_init_36 rfl
theorem cI_X9_64 {w : Wd} {σ : Mem} (hfr : Fresh σ 64) : MCC w muI_X9 3 1365 [.ref (adr w 64)] 65 [(64, 1), (64, 2), (64, 3), (44, 4), (44, 5), (33, 0), (33, 1), (33, 2), (33, 3), (33, 4), (33, 5), (33, 6), (33, 7), (0, 9), (0, 10), (0, 11), (0, 12), (0, 13), (0, 14), (0, 15), (0, 16)] σ (68, [(44, 4), (44, 5), (33, 0), (33, 1), (33, 2), (33, 3), (33, 4), (33, 5), (33, 6), (33, 7), (0, 9), (0, 10), (0, 11), (0, 12), (0, 13), (0, 14), (0, 15), (0, 16)], σ) := by
  refine mcc_of (lv := [(0, .ref (adr w 64))]) okI_X9 rfl rfl (Nat.le_of_ble_eq_true rfl) ?_
  refine co_aload_n (pc := 0) 0 rfl dX9_init_0 rfl ?_
  refine co_objInit (pc := 1) gw_278 gw_179 gw_180 (ltb rfl) (Nat.le_of_ble_eq_true rfl) dX9_init_1 ?_
  refine co_aload_n (pc := 4) 0 rfl dX9_init_4 rfl ?_
  refine co_iconst (pc := 5) dX9_init_5 (ic_i_0) ?_
  refine co_putf (pc := 6) (σ' := σ) ok_9_0 okq_9_0 ⟨by rfl, by rfl⟩ (by decide) (by decide +kernel : kd 64 = 9) (wI_same ((hfr 64 (by decide) 0).1)) gw_279 dX9_init_6 ?_
  refine co_aload_n (pc := 9) 0 rfl dX9_init_9 rfl ?_
  refine co_sipush (pc := 10) dX9_init_10 (ic_s_455) ?_
  refine co_newI (pc := 13) (N := 455) (by decide +kernel : kd 65 = 12) (by decide +kernel : ln 65 = 455) (hfr.up (by decide)) gw_214 (by decide) (by decide) (by decide +kernel) (Nat.le_of_ble_eq_true rfl) (Nat.le_of_ble_eq_true rfl) dX9_init_13 ?_
  show CO w muI_X9 3 1365 (68, [(44, 4), (44, 5), (33, 0), (33, 1), (33, 2), (33, 3), (33, 4), (33, 5), (33, 6), (33, 7), (0, 9), (0, 10), (0, 11), (0, 12), (0, 13), (0, 14), (0, 15), (0, 16)], σ) 66 [(64, 1), (64, 2), (64, 3), (44, 4), (44, 5), (33, 0), (33, 1), (33, 2), (33, 3), (33, 4), (33, 5), (33, 6), (33, 7), (0, 9), (0, 10), (0, 11), (0, 12), (0, 13), (0, 14), (0, 15), (0, 16)] σ 1 455 [(0, .ref (adr w 64))] [.ref (adr w 65), .ref (adr w 64)] 15
  refine co_putrF (pc := 15) (L' := [(64, 2), (64, 3), (44, 4), (44, 5), (33, 0), (33, 1), (33, 2), (33, 3), (33, 4), (33, 5), (33, 6), (33, 7), (0, 9), (0, 10), (0, 11), (0, 12), (0, 13), (0, 14), (0, 15), (0, 16)]) ok_9_1 okq_9_1 rfl rfl (by decide) (by decide +kernel : kd 64 = 9) (by decide +kernel : rf 64 1 = 65) (by rfl) gw_283 dX9_init_15 ?_
  refine co_aload_n (pc := 18) 0 rfl dX9_init_18 rfl ?_
  refine co_sipush (pc := 19) dX9_init_19 (ic_s_455) ?_
  refine co_newL (pc := 22) (N := 455) (by decide +kernel : kd 66 = 13) (by decide +kernel : ln 66 = 455) (hfr.up (by decide)) gw_232 (by decide) (by decide) (by decide +kernel) (Nat.le_of_ble_eq_true rfl) (Nat.le_of_ble_eq_true rfl) dX9_init_22 ?_
  show CO w muI_X9 3 1365 (68, [(44, 4), (44, 5), (33, 0), (33, 1), (33, 2), (33, 3), (33, 4), (33, 5), (33, 6), (33, 7), (0, 9), (0, 10), (0, 11), (0, 12), (0, 13), (0, 14), (0, 15), (0, 16)], σ) 67 [(64, 2), (64, 3), (44, 4), (44, 5), (33, 0), (33, 1), (33, 2), (33, 3), (33, 4), (33, 5), (33, 6), (33, 7), (0, 9), (0, 10), (0, 11), (0, 12), (0, 13), (0, 14), (0, 15), (0, 16)] σ 2 910 [(0, .ref (adr w 64))] [.ref (adr w 66), .ref (adr w 64)] 24
  refine co_putrF (pc := 24) (L' := [(64, 3), (44, 4), (44, 5), (33, 0), (33, 1), (33, 2), (33, 3), (33, 4), (33, 5), (33, 6), (33, 7), (0, 9), (0, 10), (0, 11), (0, 12), (0, 13), (0, 14), (0, 15), (0, 16)]) ok_9_2 okq_9_2 rfl rfl (by decide) (by decide +kernel : kd 64 = 9) (by decide +kernel : rf 64 2 = 66) (by rfl) gw_286 dX9_init_24 ?_
  refine co_aload_n (pc := 27) 0 rfl dX9_init_27 rfl ?_
  refine co_sipush (pc := 28) dX9_init_28 (ic_s_455) ?_
  refine co_newI (pc := 31) (N := 455) (by decide +kernel : kd 67 = 12) (by decide +kernel : ln 67 = 455) (hfr.up (by decide)) gw_214 (by decide) (by decide) (by decide +kernel) (Nat.le_of_ble_eq_true rfl) (Nat.le_of_ble_eq_true rfl) dX9_init_31 ?_
  show CO w muI_X9 3 1365 (68, [(44, 4), (44, 5), (33, 0), (33, 1), (33, 2), (33, 3), (33, 4), (33, 5), (33, 6), (33, 7), (0, 9), (0, 10), (0, 11), (0, 12), (0, 13), (0, 14), (0, 15), (0, 16)], σ) 68 [(64, 3), (44, 4), (44, 5), (33, 0), (33, 1), (33, 2), (33, 3), (33, 4), (33, 5), (33, 6), (33, 7), (0, 9), (0, 10), (0, 11), (0, 12), (0, 13), (0, 14), (0, 15), (0, 16)] σ 3 1365 [(0, .ref (adr w 64))] [.ref (adr w 67), .ref (adr w 64)] 33
  refine co_putrF (pc := 33) (L' := [(44, 4), (44, 5), (33, 0), (33, 1), (33, 2), (33, 3), (33, 4), (33, 5), (33, 6), (33, 7), (0, 9), (0, 10), (0, 11), (0, 12), (0, 13), (0, 14), (0, 15), (0, 16)]) ok_9_3 okq_9_3 rfl rfl (by decide) (by decide +kernel : kd 64 = 9) (by decide +kernel : rf 64 3 = 67) (by rfl) gw_289 dX9_init_33 ?_
  exact co_ret (pc := 36) rfl rfl rfl dX9_init_36 rfl
theorem cI_X9_68 {w : Wd} {σ : Mem} (hfr : Fresh σ 68) : MCC w muI_X9 3 1365 [.ref (adr w 68)] 69 [(68, 1), (68, 2), (68, 3), (44, 5), (33, 0), (33, 1), (33, 2), (33, 3), (33, 4), (33, 5), (33, 6), (33, 7), (0, 9), (0, 10), (0, 11), (0, 12), (0, 13), (0, 14), (0, 15), (0, 16)] σ (72, [(44, 5), (33, 0), (33, 1), (33, 2), (33, 3), (33, 4), (33, 5), (33, 6), (33, 7), (0, 9), (0, 10), (0, 11), (0, 12), (0, 13), (0, 14), (0, 15), (0, 16)], σ) := by
  refine mcc_of (lv := [(0, .ref (adr w 68))]) okI_X9 rfl rfl (Nat.le_of_ble_eq_true rfl) ?_
  refine co_aload_n (pc := 0) 0 rfl dX9_init_0 rfl ?_
  refine co_objInit (pc := 1) gw_278 gw_179 gw_180 (ltb rfl) (Nat.le_of_ble_eq_true rfl) dX9_init_1 ?_
  refine co_aload_n (pc := 4) 0 rfl dX9_init_4 rfl ?_
  refine co_iconst (pc := 5) dX9_init_5 (ic_i_0) ?_
  refine co_putf (pc := 6) (σ' := σ) ok_9_0 okq_9_0 ⟨by rfl, by rfl⟩ (by decide) (by decide +kernel : kd 68 = 9) (wI_same ((hfr 68 (by decide) 0).1)) gw_279 dX9_init_6 ?_
  refine co_aload_n (pc := 9) 0 rfl dX9_init_9 rfl ?_
  refine co_sipush (pc := 10) dX9_init_10 (ic_s_455) ?_
  refine co_newI (pc := 13) (N := 455) (by decide +kernel : kd 69 = 12) (by decide +kernel : ln 69 = 455) (hfr.up (by decide)) gw_214 (by decide) (by decide) (by decide +kernel) (Nat.le_of_ble_eq_true rfl) (Nat.le_of_ble_eq_true rfl) dX9_init_13 ?_
  show CO w muI_X9 3 1365 (72, [(44, 5), (33, 0), (33, 1), (33, 2), (33, 3), (33, 4), (33, 5), (33, 6), (33, 7), (0, 9), (0, 10), (0, 11), (0, 12), (0, 13), (0, 14), (0, 15), (0, 16)], σ) 70 [(68, 1), (68, 2), (68, 3), (44, 5), (33, 0), (33, 1), (33, 2), (33, 3), (33, 4), (33, 5), (33, 6), (33, 7), (0, 9), (0, 10), (0, 11), (0, 12), (0, 13), (0, 14), (0, 15), (0, 16)] σ 1 455 [(0, .ref (adr w 68))] [.ref (adr w 69), .ref (adr w 68)] 15
  refine co_putrF (pc := 15) (L' := [(68, 2), (68, 3), (44, 5), (33, 0), (33, 1), (33, 2), (33, 3), (33, 4), (33, 5), (33, 6), (33, 7), (0, 9), (0, 10), (0, 11), (0, 12), (0, 13), (0, 14), (0, 15), (0, 16)]) ok_9_1 okq_9_1 rfl rfl (by decide) (by decide +kernel : kd 68 = 9) (by decide +kernel : rf 68 1 = 69) (by rfl) gw_283 dX9_init_15 ?_
  refine co_aload_n (pc := 18) 0 rfl dX9_init_18 rfl ?_
  refine co_sipush (pc := 19) dX9_init_19 (ic_s_455) ?_
  refine co_newL (pc := 22) (N := 455) (by decide +kernel : kd 70 = 13) (by decide +kernel : ln 70 = 455) (hfr.up (by decide)) gw_232 (by decide) (by decide) (by decide +kernel) (Nat.le_of_ble_eq_true rfl) (Nat.le_of_ble_eq_true rfl) dX9_init_22 ?_
  show CO w muI_X9 3 1365 (72, [(44, 5), (33, 0), (33, 1), (33, 2), (33, 3), (33, 4), (33, 5), (33, 6), (33, 7), (0, 9), (0, 10), (0, 11), (0, 12), (0, 13), (0, 14), (0, 15), (0, 16)], σ) 71 [(68, 2), (68, 3), (44, 5), (33, 0), (33, 1), (33, 2), (33, 3), (33, 4), (33, 5), (33, 6), (33, 7), (0, 9), (0, 10), (0, 11), (0, 12), (0, 13), (0, 14), (0, 15), (0, 16)] σ 2 910 [(0, .ref (adr w 68))] [.ref (adr w 70), .ref (adr w 68)] 24
  refine co_putrF (pc := 24) (L' := [(68, 3), (44, 5), (33, 0), (33, 1), (33, 2), (33, 3), (33, 4), (33, 5), (33, 6), (33, 7), (0, 9), (0, 10), (0, 11), (0, 12), (0, 13), (0, 14), (0, 15), (0, 16)]) ok_9_2 okq_9_2 rfl rfl (by decide) (by decide +kernel : kd 68 = 9) (by decide +kernel : rf 68 2 = 70) (by rfl) gw_286 dX9_init_24 ?_
  refine co_aload_n (pc := 27) 0 rfl dX9_init_27 rfl ?_
  refine co_sipush (pc := 28) dX9_init_28 (ic_s_455) ?_
  refine co_newI (pc := 31) (N := 455) (by decide +kernel : kd 71 = 12) (by decide +kernel : ln 71 = 455) (hfr.up (by decide)) gw_214 (by decide) (by decide) (by decide +kernel) (Nat.le_of_ble_eq_true rfl) (Nat.le_of_ble_eq_true rfl) dX9_init_31 ?_
  show CO w muI_X9 3 1365 (72, [(44, 5), (33, 0), (33, 1), (33, 2), (33, 3), (33, 4), (33, 5), (33, 6), (33, 7), (0, 9), (0, 10), (0, 11), (0, 12), (0, 13), (0, 14), (0, 15), (0, 16)], σ) 72 [(68, 3), (44, 5), (33, 0), (33, 1), (33, 2), (33, 3), (33, 4), (33, 5), (33, 6), (33, 7), (0, 9), (0, 10), (0, 11), (0, 12), (0, 13), (0, 14), (0, 15), (0, 16)] σ 3 1365 [(0, .ref (adr w 68))] [.ref (adr w 71), .ref (adr w 68)] 33
  refine co_putrF (pc := 33) (L' := [(44, 5), (33, 0), (33, 1), (33, 2), (33, 3), (33, 4), (33, 5), (33, 6), (33, 7), (0, 9), (0, 10), (0, 11), (0, 12), (0, 13), (0, 14), (0, 15), (0, 16)]) ok_9_3 okq_9_3 rfl rfl (by decide) (by decide +kernel : kd 68 = 9) (by decide +kernel : rf 68 3 = 71) (by rfl) gw_289 dX9_init_33 ?_
  exact co_ret (pc := 36) rfl rfl rfl dX9_init_36 rfl
theorem cI_X4_40 {w : Wd} {σ : Mem} (hfr : Fresh σ 40) : MCC w muI_X4 31 8527 [.ref (adr w 40), .ref (adr w 35)] 41 [(40, 0), (40, 2), (40, 5), (40, 7), (40, 8), (40, 1), (33, 0), (33, 1), (33, 2), (33, 3), (33, 4), (33, 5), (33, 6), (33, 7), (0, 9), (0, 10), (0, 11), (0, 12), (0, 13), (0, 14), (0, 15), (0, 16)] σ (72, [(33, 0), (33, 1), (33, 2), (33, 3), (33, 4), (33, 5), (33, 6), (33, 7), (0, 9), (0, 10), (0, 11), (0, 12), (0, 13), (0, 14), (0, 15), (0, 16)], σ) := by
  refine mcc_of (lv := [(0, .ref (adr w 40)), (1, .ref (adr w 35))]) okI_X4 rfl rfl (Nat.le_of_ble_eq_true rfl) ?_
  refine co_aload_n (pc := 0) 0 rfl dX4_init_0 rfl ?_
  refine co_objInit (pc := 1) gw_269 gw_179 gw_180 (ltb rfl) (Nat.le_of_ble_eq_true rfl) dX4_init_1 ?_
  refine co_aload_n (pc := 4) 0 rfl dX4_init_4 rfl ?_
  refine co_new (pc := 5) (R := [(41, 1), (41, 2)]) tyX6 tyX6_ok ws_6 rfl (by decide) (by decide +kernel : kd 41 = 6) (hfr.up (by decide)) gw_270 gw_188 gw_160 (by decide) defI_6 (by decide +kernel) (Nat.le_of_ble_eq_true rfl) (Nat.le_of_ble_eq_true rfl) dX4_init_5 ?_
  show CO w muI_X4 31 8527 (72, [(33, 0), (33, 1), (33, 2), (33, 3), (33, 4), (33, 5), (33, 6), (33, 7), (0, 9), (0, 10), (0, 11), (0, 12), (0, 13), (0, 14), (0, 15), (0, 16)], σ) 42 [(41, 1), (41, 2), (40, 0), (40, 2), (40, 5), (40, 7), (40, 8), (40, 1), (33, 0), (33, 1), (33, 2), (33, 3), (33, 4), (33, 5), (33, 6), (33, 7), (0, 9), (0, 10), (0, 11), (0, 12), (0, 13), (0, 14), (0, 15), (0, 16)] σ 1 3 [(0, .ref (adr w 40)), (1, .ref (adr w 35))] [.ref (adr w 41), .ref (adr w 40)] 8
  refine co_dup (pc := 8) dX4_init_8 rfl ?_
  refine co_callN (pc := 9) (As := []) (cI_X6_41 (hfr.up (by decide))) okI_X6 rfl rfl (ltb rfl) (host := "HallRegisters") (by decide +kernel) gw_190 rfl rfl (Nat.le_of_ble_eq_true rfl) rfl (Nat.le_of_ble_eq_true rfl) (Nat.le_of_ble_eq_true rfl) dX4_init_9 ?_
  show CO w muI_X4 31 8527 (72, [(33, 0), (33, 1), (33, 2), (33, 3), (33, 4), (33, 5), (33, 6), (33, 7), (0, 9), (0, 10), (0, 11), (0, 12), (0, 13), (0, 14), (0, 15), (0, 16)], σ) 44 [(40, 0), (40, 2), (40, 5), (40, 7), (40, 8), (40, 1), (33, 0), (33, 1), (33, 2), (33, 3), (33, 4), (33, 5), (33, 6), (33, 7), (0, 9), (0, 10), (0, 11), (0, 12), (0, 13), (0, 14), (0, 15), (0, 16)] σ 3 225 [(0, .ref (adr w 40)), (1, .ref (adr w 35))] [.ref (adr w 41), .ref (adr w 40)] 12
  refine co_putrF (pc := 12) (L' := [(40, 2), (40, 5), (40, 7), (40, 8), (40, 1), (33, 0), (33, 1), (33, 2), (33, 3), (33, 4), (33, 5), (33, 6), (33, 7), (0, 9), (0, 10), (0, 11), (0, 12), (0, 13), (0, 14), (0, 15), (0, 16)]) ok_4_0 okq_4_0 rfl rfl (by decide) (by decide +kernel : kd 40 = 4) (by decide +kernel : rf 40 0 = 41) (by rfl) gw_299 dX4_init_12 ?_
  refine co_aload_n (pc := 15) 0 rfl dX4_init_15 rfl ?_
  refine co_bipush (pc := 16) dX4_init_16 (ic_b_6) ?_
  refine co_anew (pc := 18) (N := 6) (R := [(44, 0), (44, 1), (44, 2), (44, 3), (44, 4), (44, 5)]) (c := 15) (t0 := 3) (by decide) (by decide +kernel : kd 44 = 15) (by decide +kernel : ln 44 = 6) rfl (fun _ h => h.2.2.2.1) (by decide) (by decide) gw_272 (by decide) (by decide) (by decide) (Nat.le_of_ble_eq_true rfl) (Nat.le_of_ble_eq_true rfl) dX4_init_18 ?_
  show CO w muI_X4 31 8527 (72, [(33, 0), (33, 1), (33, 2), (33, 3), (33, 4), (33, 5), (33, 6), (33, 7), (0, 9), (0, 10), (0, 11), (0, 12), (0, 13), (0, 14), (0, 15), (0, 16)], σ) 45 [(44, 0), (44, 1), (44, 2), (44, 3), (44, 4), (44, 5), (40, 2), (40, 5), (40, 7), (40, 8), (40, 1), (33, 0), (33, 1), (33, 2), (33, 3), (33, 4), (33, 5), (33, 6), (33, 7), (0, 9), (0, 10), (0, 11), (0, 12), (0, 13), (0, 14), (0, 15), (0, 16)] σ 4 231 [(0, .ref (adr w 40)), (1, .ref (adr w 35))] [.ref (adr w 44), .ref (adr w 40)] 21
  refine co_putrF (pc := 21) (L' := [(44, 0), (44, 1), (44, 2), (44, 3), (44, 4), (44, 5), (40, 5), (40, 7), (40, 8), (40, 1), (33, 0), (33, 1), (33, 2), (33, 3), (33, 4), (33, 5), (33, 6), (33, 7), (0, 9), (0, 10), (0, 11), (0, 12), (0, 13), (0, 14), (0, 15), (0, 16)]) ok_4_2 okq_4_2 rfl rfl (by decide) (by decide +kernel : kd 40 = 4) (by decide +kernel : rf 40 2 = 44) (by rfl) gw_303 dX4_init_21 ?_
  refine co_aload_n (pc := 24) 0 rfl dX4_init_24 rfl ?_
  refine co_iconst (pc := 25) dX4_init_25 (ic_i_0) ?_
  refine co_putf (pc := 26) (σ' := σ) ok_4_3 okq_4_3 ⟨by rfl, by rfl⟩ (by decide) (by decide +kernel : kd 40 = 4) (wI_same ((hfr 40 (by decide) 3).1)) gw_307 dX4_init_26 ?_
  refine co_aload_n (pc := 29) 0 rfl dX4_init_29 rfl ?_
  refine co_iconst (pc := 30) dX4_init_30 (ic_i_0) ?_
  refine co_putf (pc := 31) (σ' := σ) ok_4_4 okq_4_4 ⟨by rfl, by rfl⟩ (by decide) (by decide +kernel : kd 40 = 4) (wI_same ((hfr 40 (by decide) 4).1)) gw_309 dX4_init_31 ?_
  refine co_aload_n (pc := 34) 0 rfl dX4_init_34 rfl ?_
  refine co_bipush (pc := 35) dX4_init_35 (ic_b_12) ?_
  refine co_newI (pc := 37) (N := 12) (by decide +kernel : kd 45 = 12) (by decide +kernel : ln 45 = 12) (hfr.up (by decide)) gw_214 (by decide) (by decide) (by decide +kernel) (Nat.le_of_ble_eq_true rfl) (Nat.le_of_ble_eq_true rfl) dX4_init_37 ?_
  show CO w muI_X4 31 8527 (72, [(33, 0), (33, 1), (33, 2), (33, 3), (33, 4), (33, 5), (33, 6), (33, 7), (0, 9), (0, 10), (0, 11), (0, 12), (0, 13), (0, 14), (0, 15), (0, 16)], σ) 46 [(44, 0), (44, 1), (44, 2), (44, 3), (44, 4), (44, 5), (40, 5), (40, 7), (40, 8), (40, 1), (33, 0), (33, 1), (33, 2), (33, 3), (33, 4), (33, 5), (33, 6), (33, 7), (0, 9), (0, 10), (0, 11), (0, 12), (0, 13), (0, 14), (0, 15), (0, 16)] σ 5 243 [(0, .ref (adr w 40)), (1, .ref (adr w 35))] [.ref (adr w 45), .ref (adr w 40)] 39
  refine co_putrF (pc := 39) (L' := [(44, 0), (44, 1), (44, 2), (44, 3), (44, 4), (44, 5), (40, 7), (40, 8), (40, 1), (33, 0), (33, 1), (33, 2), (33, 3), (33, 4), (33, 5), (33, 6), (33, 7), (0, 9), (0, 10), (0, 11), (0, 12), (0, 13), (0, 14), (0, 15), (0, 16)]) ok_4_5 okq_4_5 rfl rfl (by decide) (by decide +kernel : kd 40 = 4) (by decide +kernel : rf 40 5 = 45) (by rfl) gw_311 dX4_init_39 ?_
  refine co_aload_n (pc := 42) 0 rfl dX4_init_42 rfl ?_
  refine co_iconst (pc := 43) dX4_init_43 (ic_i_0) ?_
  refine co_putf (pc := 44) (σ' := σ) ok_4_6 okq_4_6 ⟨by rfl, by rfl⟩ (by decide) (by decide +kernel : kd 40 = 4) (wI_same ((hfr 40 (by decide) 6).1)) gw_312 dX4_init_44 ?_
  refine co_aload_n (pc := 47) 0 rfl dX4_init_47 rfl ?_
  refine co_bipush (pc := 48) dX4_init_48 (ic_b_64) ?_
  refine co_newL (pc := 50) (N := 64) (by decide +kernel : kd 46 = 13) (by decide +kernel : ln 46 = 64) (hfr.up (by decide)) gw_232 (by decide) (by decide) (by decide +kernel) (Nat.le_of_ble_eq_true rfl) (Nat.le_of_ble_eq_true rfl) dX4_init_50 ?_
  show CO w muI_X4 31 8527 (72, [(33, 0), (33, 1), (33, 2), (33, 3), (33, 4), (33, 5), (33, 6), (33, 7), (0, 9), (0, 10), (0, 11), (0, 12), (0, 13), (0, 14), (0, 15), (0, 16)], σ) 47 [(44, 0), (44, 1), (44, 2), (44, 3), (44, 4), (44, 5), (40, 7), (40, 8), (40, 1), (33, 0), (33, 1), (33, 2), (33, 3), (33, 4), (33, 5), (33, 6), (33, 7), (0, 9), (0, 10), (0, 11), (0, 12), (0, 13), (0, 14), (0, 15), (0, 16)] σ 6 307 [(0, .ref (adr w 40)), (1, .ref (adr w 35))] [.ref (adr w 46), .ref (adr w 40)] 52
  refine co_putrF (pc := 52) (L' := [(44, 0), (44, 1), (44, 2), (44, 3), (44, 4), (44, 5), (40, 8), (40, 1), (33, 0), (33, 1), (33, 2), (33, 3), (33, 4), (33, 5), (33, 6), (33, 7), (0, 9), (0, 10), (0, 11), (0, 12), (0, 13), (0, 14), (0, 15), (0, 16)]) ok_4_7 okq_4_7 rfl rfl (by decide) (by decide +kernel : kd 40 = 4) (by decide +kernel : rf 40 7 = 46) (by rfl) gw_313 dX4_init_52 ?_
  refine co_aload_n (pc := 55) 0 rfl dX4_init_55 rfl ?_
  refine co_bipush (pc := 56) dX4_init_56 (ic_b_6) ?_
  refine co_newI (pc := 58) (N := 6) (by decide +kernel : kd 47 = 12) (by decide +kernel : ln 47 = 6) (hfr.up (by decide)) gw_214 (by decide) (by decide) (by decide +kernel) (Nat.le_of_ble_eq_true rfl) (Nat.le_of_ble_eq_true rfl) dX4_init_58 ?_
  show CO w muI_X4 31 8527 (72, [(33, 0), (33, 1), (33, 2), (33, 3), (33, 4), (33, 5), (33, 6), (33, 7), (0, 9), (0, 10), (0, 11), (0, 12), (0, 13), (0, 14), (0, 15), (0, 16)], σ) 48 [(44, 0), (44, 1), (44, 2), (44, 3), (44, 4), (44, 5), (40, 8), (40, 1), (33, 0), (33, 1), (33, 2), (33, 3), (33, 4), (33, 5), (33, 6), (33, 7), (0, 9), (0, 10), (0, 11), (0, 12), (0, 13), (0, 14), (0, 15), (0, 16)] σ 7 313 [(0, .ref (adr w 40)), (1, .ref (adr w 35))] [.ref (adr w 47), .ref (adr w 40)] 60
  refine co_putrF (pc := 60) (L' := [(44, 0), (44, 1), (44, 2), (44, 3), (44, 4), (44, 5), (40, 1), (33, 0), (33, 1), (33, 2), (33, 3), (33, 4), (33, 5), (33, 6), (33, 7), (0, 9), (0, 10), (0, 11), (0, 12), (0, 13), (0, 14), (0, 15), (0, 16)]) ok_4_8 okq_4_8 rfl rfl (by decide) (by decide +kernel : kd 40 = 4) (by decide +kernel : rf 40 8 = 47) (by rfl) gw_314 dX4_init_60 ?_
  refine co_aload_n (pc := 63) 0 rfl dX4_init_63 rfl ?_
  refine co_aload_n (pc := 64) 1 rfl dX4_init_64 rfl ?_
  refine co_putrF (pc := 65) (L' := [(44, 0), (44, 1), (44, 2), (44, 3), (44, 4), (44, 5), (33, 0), (33, 1), (33, 2), (33, 3), (33, 4), (33, 5), (33, 6), (33, 7), (0, 9), (0, 10), (0, 11), (0, 12), (0, 13), (0, 14), (0, 15), (0, 16)]) ok_4_1 okq_4_1 rfl rfl (by decide) (by decide +kernel : kd 40 = 4) (by decide +kernel : rf 40 1 = 35) (by rfl) gw_302 dX4_init_65 ?_
  refine co_iconst (pc := 68) dX4_init_68 (ic_i_0) ?_
  refine co_istore_n (pc := 69) (lv' := [(2, .int 0), (0, .ref (adr w 40)), (1, .ref (adr w 35))]) dX4_init_69 rfl (ltb rfl) rfl ?_
  refine co_iload_n (pc := 70) 0 rfl dX4_init_70 rfl ?_
  refine co_bipush (pc := 71) dX4_init_71 (ic_b_6) ?_
  refine co_ge_f (pc := 73) dX4_init_73 (tgt := 95) rfl (by decide) ?_
  refine co_aload_n (pc := 76) 1 rfl dX4_init_76 rfl ?_
  refine co_getr (pc := 77) ok_4_2 (by decide) (by decide +kernel : kd 40 = 4) (by decide) (by decide +kernel : rf 40 2 = 44) gw_303 dX4_init_77 ?_
  refine co_iload_n (pc := 80) 0 rfl dX4_init_80 rfl ?_
  refine co_new (pc := 81) (R := [(48, 1), (48, 2), (48, 3)]) tyX9 tyX9_ok ws_9 rfl (by decide) (by decide +kernel : kd 48 = 9) (hfr.up (by decide)) gw_272 gw_274 gw_163 (by decide) defI_9 (by decide +kernel) (Nat.le_of_ble_eq_true rfl) (Nat.le_of_ble_eq_true rfl) dX4_init_81 ?_
  show CO w muI_X4 31 8527 (72, [(33, 0), (33, 1), (33, 2), (33, 3), (33, 4), (33, 5), (33, 6), (33, 7), (0, 9), (0, 10), (0, 11), (0, 12), (0, 13), (0, 14), (0, 15), (0, 16)], σ) 49 [(48, 1), (48, 2), (48, 3), (44, 0), (44, 1), (44, 2), (44, 3), (44, 4), (44, 5), (33, 0), (33, 1), (33, 2), (33, 3), (33, 4), (33, 5), (33, 6), (33, 7), (0, 9), (0, 10), (0, 11), (0, 12), (0, 13), (0, 14), (0, 15), (0, 16)] σ 8 317 [(2, .int 0), (0, .ref (adr w 40)), (1, .ref (adr w 35))] [.ref (adr w 48), .int 0, .ref (adr w 44)] 84
  refine co_dup (pc := 84) dX4_init_84 rfl ?_
  refine co_callN (pc := 85) (As := []) (cI_X9_48 (hfr.up (by decide))) okI_X9 rfl rfl (ltb rfl) (host := "HallRegisters") (by decide +kernel) gw_276 rfl rfl (Nat.le_of_ble_eq_true rfl) rfl (Nat.le_of_ble_eq_true rfl) (Nat.le_of_ble_eq_true rfl) dX4_init_85 ?_
  show CO w muI_X4 31 8527 (72, [(33, 0), (33, 1), (33, 2), (33, 3), (33, 4), (33, 5), (33, 6), (33, 7), (0, 9), (0, 10), (0, 11), (0, 12), (0, 13), (0, 14), (0, 15), (0, 16)], σ) 52 [(44, 0), (44, 1), (44, 2), (44, 3), (44, 4), (44, 5), (33, 0), (33, 1), (33, 2), (33, 3), (33, 4), (33, 5), (33, 6), (33, 7), (0, 9), (0, 10), (0, 11), (0, 12), (0, 13), (0, 14), (0, 15), (0, 16)] σ 11 1682 [(2, .int 0), (0, .ref (adr w 40)), (1, .ref (adr w 35))] [.ref (adr w 48), .int 0, .ref (adr w 44)] 88
  refine co_aast (pc := 88) (L' := [(44, 1), (44, 2), (44, 3), (44, 4), (44, 5), (33, 0), (33, 1), (33, 2), (33, 3), (33, 4), (33, 5), (33, 6), (33, 7), (0, 9), (0, 10), (0, 11), (0, 12), (0, 13), (0, 14), (0, 15), (0, 16)]) (c := 15) (ci := 9) (j := 0) (t0 := 3) (by decide) (by decide) (by decide +kernel : kd 44 = 15) (by decide) (by decide +kernel : kd 48 = 9) (by decide) rfl rfl (by decide) (by unfold vp_in; decide +kernel) (by decide +kernel : rf 44 0 = 48) (by rfl) dX4_init_88 ?_
  refine co_iinc (pc := 89) (lv' := [(2, .int 1), (0, .ref (adr w 40)), (1, .ref (adr w 35))]) 0 rfl dX4_init_89 (v := 1) (by decide +kernel) (ltb rfl) rfl ?_
  refine co_goto (pc := 92) dX4_init_92 (tgt := 70) rfl ?_
  refine co_iload_n (pc := 70) 0 rfl dX4_init_70 rfl ?_
  refine co_bipush (pc := 71) dX4_init_71 (ic_b_6) ?_
  refine co_ge_f (pc := 73) dX4_init_73 (tgt := 95) rfl (by decide) ?_
  refine co_aload_n (pc := 76) 1 rfl dX4_init_76 rfl ?_
  refine co_getr (pc := 77) ok_4_2 (by decide) (by decide +kernel : kd 40 = 4) (by decide) (by decide +kernel : rf 40 2 = 44) gw_303 dX4_init_77 ?_
  refine co_iload_n (pc := 80) 0 rfl dX4_init_80 rfl ?_
  refine co_new (pc := 81) (R := [(52, 1), (52, 2), (52, 3)]) tyX9 tyX9_ok ws_9 rfl (by decide) (by decide +kernel : kd 52 = 9) (hfr.up (by decide)) gw_272 gw_274 gw_163 (by decide) defI_9 (by decide +kernel) (Nat.le_of_ble_eq_true rfl) (Nat.le_of_ble_eq_true rfl) dX4_init_81 ?_
  show CO w muI_X4 31 8527 (72, [(33, 0), (33, 1), (33, 2), (33, 3), (33, 4), (33, 5), (33, 6), (33, 7), (0, 9), (0, 10), (0, 11), (0, 12), (0, 13), (0, 14), (0, 15), (0, 16)], σ) 53 [(52, 1), (52, 2), (52, 3), (44, 1), (44, 2), (44, 3), (44, 4), (44, 5), (33, 0), (33, 1), (33, 2), (33, 3), (33, 4), (33, 5), (33, 6), (33, 7), (0, 9), (0, 10), (0, 11), (0, 12), (0, 13), (0, 14), (0, 15), (0, 16)] σ 12 1686 [(2, .int 1), (0, .ref (adr w 40)), (1, .ref (adr w 35))] [.ref (adr w 52), .int 1, .ref (adr w 44)] 84
  refine co_dup (pc := 84) dX4_init_84 rfl ?_
  refine co_callN (pc := 85) (As := []) (cI_X9_52 (hfr.up (by decide))) okI_X9 rfl rfl (ltb rfl) (host := "HallRegisters") (by decide +kernel) gw_276 rfl rfl (Nat.le_of_ble_eq_true rfl) rfl (Nat.le_of_ble_eq_true rfl) (Nat.le_of_ble_eq_true rfl) dX4_init_85 ?_
  show CO w muI_X4 31 8527 (72, [(33, 0), (33, 1), (33, 2), (33, 3), (33, 4), (33, 5), (33, 6), (33, 7), (0, 9), (0, 10), (0, 11), (0, 12), (0, 13), (0, 14), (0, 15), (0, 16)], σ) 56 [(44, 1), (44, 2), (44, 3), (44, 4), (44, 5), (33, 0), (33, 1), (33, 2), (33, 3), (33, 4), (33, 5), (33, 6), (33, 7), (0, 9), (0, 10), (0, 11), (0, 12), (0, 13), (0, 14), (0, 15), (0, 16)] σ 15 3051 [(2, .int 1), (0, .ref (adr w 40)), (1, .ref (adr w 35))] [.ref (adr w 52), .int 1, .ref (adr w 44)] 88
  refine co_aast (pc := 88) (L' := [(44, 2), (44, 3), (44, 4), (44, 5), (33, 0), (33, 1), (33, 2), (33, 3), (33, 4), (33, 5), (33, 6), (33, 7), (0, 9), (0, 10), (0, 11), (0, 12), (0, 13), (0, 14), (0, 15), (0, 16)]) (c := 15) (ci := 9) (j := 1) (t0 := 3) (by decide) (by decide) (by decide +kernel : kd 44 = 15) (by decide) (by decide +kernel : kd 52 = 9) (by decide) rfl rfl (by decide) (by unfold vp_in; decide +kernel) (by decide +kernel : rf 44 1 = 52) (by rfl) dX4_init_88 ?_
  refine co_iinc (pc := 89) (lv' := [(2, .int 2), (0, .ref (adr w 40)), (1, .ref (adr w 35))]) 0 rfl dX4_init_89 (v := 2) (by decide +kernel) (ltb rfl) rfl ?_
  refine co_goto (pc := 92) dX4_init_92 (tgt := 70) rfl ?_
  refine co_iload_n (pc := 70) 0 rfl dX4_init_70 rfl ?_
  refine co_bipush (pc := 71) dX4_init_71 (ic_b_6) ?_
  refine co_ge_f (pc := 73) dX4_init_73 (tgt := 95) rfl (by decide) ?_
  refine co_aload_n (pc := 76) 1 rfl dX4_init_76 rfl ?_
  refine co_getr (pc := 77) ok_4_2 (by decide) (by decide +kernel : kd 40 = 4) (by decide) (by decide +kernel : rf 40 2 = 44) gw_303 dX4_init_77 ?_
  refine co_iload_n (pc := 80) 0 rfl dX4_init_80 rfl ?_
  refine co_new (pc := 81) (R := [(56, 1), (56, 2), (56, 3)]) tyX9 tyX9_ok ws_9 rfl (by decide) (by decide +kernel : kd 56 = 9) (hfr.up (by decide)) gw_272 gw_274 gw_163 (by decide) defI_9 (by decide +kernel) (Nat.le_of_ble_eq_true rfl) (Nat.le_of_ble_eq_true rfl) dX4_init_81 ?_
  show CO w muI_X4 31 8527 (72, [(33, 0), (33, 1), (33, 2), (33, 3), (33, 4), (33, 5), (33, 6), (33, 7), (0, 9), (0, 10), (0, 11), (0, 12), (0, 13), (0, 14), (0, 15), (0, 16)], σ) 57 [(56, 1), (56, 2), (56, 3), (44, 2), (44, 3), (44, 4), (44, 5), (33, 0), (33, 1), (33, 2), (33, 3), (33, 4), (33, 5), (33, 6), (33, 7), (0, 9), (0, 10), (0, 11), (0, 12), (0, 13), (0, 14), (0, 15), (0, 16)] σ 16 3055 [(2, .int 2), (0, .ref (adr w 40)), (1, .ref (adr w 35))] [.ref (adr w 56), .int 2, .ref (adr w 44)] 84
  refine co_dup (pc := 84) dX4_init_84 rfl ?_
  refine co_callN (pc := 85) (As := []) (cI_X9_56 (hfr.up (by decide))) okI_X9 rfl rfl (ltb rfl) (host := "HallRegisters") (by decide +kernel) gw_276 rfl rfl (Nat.le_of_ble_eq_true rfl) rfl (Nat.le_of_ble_eq_true rfl) (Nat.le_of_ble_eq_true rfl) dX4_init_85 ?_
  show CO w muI_X4 31 8527 (72, [(33, 0), (33, 1), (33, 2), (33, 3), (33, 4), (33, 5), (33, 6), (33, 7), (0, 9), (0, 10), (0, 11), (0, 12), (0, 13), (0, 14), (0, 15), (0, 16)], σ) 60 [(44, 2), (44, 3), (44, 4), (44, 5), (33, 0), (33, 1), (33, 2), (33, 3), (33, 4), (33, 5), (33, 6), (33, 7), (0, 9), (0, 10), (0, 11), (0, 12), (0, 13), (0, 14), (0, 15), (0, 16)] σ 19 4420 [(2, .int 2), (0, .ref (adr w 40)), (1, .ref (adr w 35))] [.ref (adr w 56), .int 2, .ref (adr w 44)] 88
  refine co_aast (pc := 88) (L' := [(44, 3), (44, 4), (44, 5), (33, 0), (33, 1), (33, 2), (33, 3), (33, 4), (33, 5), (33, 6), (33, 7), (0, 9), (0, 10), (0, 11), (0, 12), (0, 13), (0, 14), (0, 15), (0, 16)]) (c := 15) (ci := 9) (j := 2) (t0 := 3) (by decide) (by decide) (by decide +kernel : kd 44 = 15) (by decide) (by decide +kernel : kd 56 = 9) (by decide) rfl rfl (by decide) (by unfold vp_in; decide +kernel) (by decide +kernel : rf 44 2 = 56) (by rfl) dX4_init_88 ?_
  refine co_iinc (pc := 89) (lv' := [(2, .int 3), (0, .ref (adr w 40)), (1, .ref (adr w 35))]) 0 rfl dX4_init_89 (v := 3) (by decide +kernel) (ltb rfl) rfl ?_
  refine co_goto (pc := 92) dX4_init_92 (tgt := 70) rfl ?_
  refine co_iload_n (pc := 70) 0 rfl dX4_init_70 rfl ?_
  refine co_bipush (pc := 71) dX4_init_71 (ic_b_6) ?_
  refine co_ge_f (pc := 73) dX4_init_73 (tgt := 95) rfl (by decide) ?_
  refine co_aload_n (pc := 76) 1 rfl dX4_init_76 rfl ?_
  refine co_getr (pc := 77) ok_4_2 (by decide) (by decide +kernel : kd 40 = 4) (by decide) (by decide +kernel : rf 40 2 = 44) gw_303 dX4_init_77 ?_
  refine co_iload_n (pc := 80) 0 rfl dX4_init_80 rfl ?_
  refine co_new (pc := 81) (R := [(60, 1), (60, 2), (60, 3)]) tyX9 tyX9_ok ws_9 rfl (by decide) (by decide +kernel : kd 60 = 9) (hfr.up (by decide)) gw_272 gw_274 gw_163 (by decide) defI_9 (by decide +kernel) (Nat.le_of_ble_eq_true rfl) (Nat.le_of_ble_eq_true rfl) dX4_init_81 ?_
  show CO w muI_X4 31 8527 (72, [(33, 0), (33, 1), (33, 2), (33, 3), (33, 4), (33, 5), (33, 6), (33, 7), (0, 9), (0, 10), (0, 11), (0, 12), (0, 13), (0, 14), (0, 15), (0, 16)], σ) 61 [(60, 1), (60, 2), (60, 3), (44, 3), (44, 4), (44, 5), (33, 0), (33, 1), (33, 2), (33, 3), (33, 4), (33, 5), (33, 6), (33, 7), (0, 9), (0, 10), (0, 11), (0, 12), (0, 13), (0, 14), (0, 15), (0, 16)] σ 20 4424 [(2, .int 3), (0, .ref (adr w 40)), (1, .ref (adr w 35))] [.ref (adr w 60), .int 3, .ref (adr w 44)] 84
  refine co_dup (pc := 84) dX4_init_84 rfl ?_
  refine co_callN (pc := 85) (As := []) (cI_X9_60 (hfr.up (by decide))) okI_X9 rfl rfl (ltb rfl) (host := "HallRegisters") (by decide +kernel) gw_276 rfl rfl (Nat.le_of_ble_eq_true rfl) rfl (Nat.le_of_ble_eq_true rfl) (Nat.le_of_ble_eq_true rfl) dX4_init_85 ?_
  show CO w muI_X4 31 8527 (72, [(33, 0), (33, 1), (33, 2), (33, 3), (33, 4), (33, 5), (33, 6), (33, 7), (0, 9), (0, 10), (0, 11), (0, 12), (0, 13), (0, 14), (0, 15), (0, 16)], σ) 64 [(44, 3), (44, 4), (44, 5), (33, 0), (33, 1), (33, 2), (33, 3), (33, 4), (33, 5), (33, 6), (33, 7), (0, 9), (0, 10), (0, 11), (0, 12), (0, 13), (0, 14), (0, 15), (0, 16)] σ 23 5789 [(2, .int 3), (0, .ref (adr w 40)), (1, .ref (adr w 35))] [.ref (adr w 60), .int 3, .ref (adr w 44)] 88
  refine co_aast (pc := 88) (L' := [(44, 4), (44, 5), (33, 0), (33, 1), (33, 2), (33, 3), (33, 4), (33, 5), (33, 6), (33, 7), (0, 9), (0, 10), (0, 11), (0, 12), (0, 13), (0, 14), (0, 15), (0, 16)]) (c := 15) (ci := 9) (j := 3) (t0 := 3) (by decide) (by decide) (by decide +kernel : kd 44 = 15) (by decide) (by decide +kernel : kd 60 = 9) (by decide) rfl rfl (by decide) (by unfold vp_in; decide +kernel) (by decide +kernel : rf 44 3 = 60) (by rfl) dX4_init_88 ?_
  refine co_iinc (pc := 89) (lv' := [(2, .int 4), (0, .ref (adr w 40)), (1, .ref (adr w 35))]) 0 rfl dX4_init_89 (v := 4) (by decide +kernel) (ltb rfl) rfl ?_
  refine co_goto (pc := 92) dX4_init_92 (tgt := 70) rfl ?_
  refine co_iload_n (pc := 70) 0 rfl dX4_init_70 rfl ?_
  refine co_bipush (pc := 71) dX4_init_71 (ic_b_6) ?_
  refine co_ge_f (pc := 73) dX4_init_73 (tgt := 95) rfl (by decide) ?_
  refine co_aload_n (pc := 76) 1 rfl dX4_init_76 rfl ?_
  refine co_getr (pc := 77) ok_4_2 (by decide) (by decide +kernel : kd 40 = 4) (by decide) (by decide +kernel : rf 40 2 = 44) gw_303 dX4_init_77 ?_
  refine co_iload_n (pc := 80) 0 rfl dX4_init_80 rfl ?_
  refine co_new (pc := 81) (R := [(64, 1), (64, 2), (64, 3)]) tyX9 tyX9_ok ws_9 rfl (by decide) (by decide +kernel : kd 64 = 9) (hfr.up (by decide)) gw_272 gw_274 gw_163 (by decide) defI_9 (by decide +kernel) (Nat.le_of_ble_eq_true rfl) (Nat.le_of_ble_eq_true rfl) dX4_init_81 ?_
  show CO w muI_X4 31 8527 (72, [(33, 0), (33, 1), (33, 2), (33, 3), (33, 4), (33, 5), (33, 6), (33, 7), (0, 9), (0, 10), (0, 11), (0, 12), (0, 13), (0, 14), (0, 15), (0, 16)], σ) 65 [(64, 1), (64, 2), (64, 3), (44, 4), (44, 5), (33, 0), (33, 1), (33, 2), (33, 3), (33, 4), (33, 5), (33, 6), (33, 7), (0, 9), (0, 10), (0, 11), (0, 12), (0, 13), (0, 14), (0, 15), (0, 16)] σ 24 5793 [(2, .int 4), (0, .ref (adr w 40)), (1, .ref (adr w 35))] [.ref (adr w 64), .int 4, .ref (adr w 44)] 84
  refine co_dup (pc := 84) dX4_init_84 rfl ?_
  refine co_callN (pc := 85) (As := []) (cI_X9_64 (hfr.up (by decide))) okI_X9 rfl rfl (ltb rfl) (host := "HallRegisters") (by decide +kernel) gw_276 rfl rfl (Nat.le_of_ble_eq_true rfl) rfl (Nat.le_of_ble_eq_true rfl) (Nat.le_of_ble_eq_true rfl) dX4_init_85 ?_
  show CO w muI_X4 31 8527 (72, [(33, 0), (33, 1), (33, 2), (33, 3), (33, 4), (33, 5), (33, 6), (33, 7), (0, 9), (0, 10), (0, 11), (0, 12), (0, 13), (0, 14), (0, 15), (0, 16)], σ) 68 [(44, 4), (44, 5), (33, 0), (33, 1), (33, 2), (33, 3), (33, 4), (33, 5), (33, 6), (33, 7), (0, 9), (0, 10), (0, 11), (0, 12), (0, 13), (0, 14), (0, 15), (0, 16)] σ 27 7158 [(2, .int 4), (0, .ref (adr w 40)), (1, .ref (adr w 35))] [.ref (adr w 64), .int 4, .ref (adr w 44)] 88
  refine co_aast (pc := 88) (L' := [(44, 5), (33, 0), (33, 1), (33, 2), (33, 3), (33, 4), (33, 5), (33, 6), (33, 7), (0, 9), (0, 10), (0, 11), (0, 12), (0, 13), (0, 14), (0, 15), (0, 16)]) (c := 15) (ci := 9) (j := 4) (t0 := 3) (by decide) (by decide) (by decide +kernel : kd 44 = 15) (by decide) (by decide +kernel : kd 64 = 9) (by decide) rfl rfl (by decide) (by unfold vp_in; decide +kernel) (by decide +kernel : rf 44 4 = 64) (by rfl) dX4_init_88 ?_
  refine co_iinc (pc := 89) (lv' := [(2, .int 5), (0, .ref (adr w 40)), (1, .ref (adr w 35))]) 0 rfl dX4_init_89 (v := 5) (by decide +kernel) (ltb rfl) rfl ?_
  refine co_goto (pc := 92) dX4_init_92 (tgt := 70) rfl ?_
  refine co_iload_n (pc := 70) 0 rfl dX4_init_70 rfl ?_
  refine co_bipush (pc := 71) dX4_init_71 (ic_b_6) ?_
  refine co_ge_f (pc := 73) dX4_init_73 (tgt := 95) rfl (by decide) ?_
  refine co_aload_n (pc := 76) 1 rfl dX4_init_76 rfl ?_
  refine co_getr (pc := 77) ok_4_2 (by decide) (by decide +kernel : kd 40 = 4) (by decide) (by decide +kernel : rf 40 2 = 44) gw_303 dX4_init_77 ?_
  refine co_iload_n (pc := 80) 0 rfl dX4_init_80 rfl ?_
  refine co_new (pc := 81) (R := [(68, 1), (68, 2), (68, 3)]) tyX9 tyX9_ok ws_9 rfl (by decide) (by decide +kernel : kd 68 = 9) (hfr.up (by decide)) gw_272 gw_274 gw_163 (by decide) defI_9 (by decide +kernel) (Nat.le_of_ble_eq_true rfl) (Nat.le_of_ble_eq_true rfl) dX4_init_81 ?_
  show CO w muI_X4 31 8527 (72, [(33, 0), (33, 1), (33, 2), (33, 3), (33, 4), (33, 5), (33, 6), (33, 7), (0, 9), (0, 10), (0, 11), (0, 12), (0, 13), (0, 14), (0, 15), (0, 16)], σ) 69 [(68, 1), (68, 2), (68, 3), (44, 5), (33, 0), (33, 1), (33, 2), (33, 3), (33, 4), (33, 5), (33, 6), (33, 7), (0, 9), (0, 10), (0, 11), (0, 12), (0, 13), (0, 14), (0, 15), (0, 16)] σ 28 7162 [(2, .int 5), (0, .ref (adr w 40)), (1, .ref (adr w 35))] [.ref (adr w 68), .int 5, .ref (adr w 44)] 84
  refine co_dup (pc := 84) dX4_init_84 rfl ?_
  refine co_callN (pc := 85) (As := []) (cI_X9_68 (hfr.up (by decide))) okI_X9 rfl rfl (ltb rfl) (host := "HallRegisters") (by decide +kernel) gw_276 rfl rfl (Nat.le_of_ble_eq_true rfl) rfl (Nat.le_of_ble_eq_true rfl) (Nat.le_of_ble_eq_true rfl) dX4_init_85 ?_
  show CO w muI_X4 31 8527 (72, [(33, 0), (33, 1), (33, 2), (33, 3), (33, 4), (33, 5), (33, 6), (33, 7), (0, 9), (0, 10), (0, 11), (0, 12), (0, 13), (0, 14), (0, 15), (0, 16)], σ) 72 [(44, 5), (33, 0), (33, 1), (33, 2), (33, 3), (33, 4), (33, 5), (33, 6), (33, 7), (0, 9), (0, 10), (0, 11), (0, 12), (0, 13), (0, 14), (0, 15), (0, 16)] σ 31 8527 [(2, .int 5), (0, .ref (adr w 40)), (1, .ref (adr w 35))] [.ref (adr w 68), .int 5, .ref (adr w 44)] 88
  refine co_aast (pc := 88) (L' := [(33, 0), (33, 1), (33, 2), (33, 3), (33, 4), (33, 5), (33, 6), (33, 7), (0, 9), (0, 10), (0, 11), (0, 12), (0, 13), (0, 14), (0, 15), (0, 16)]) (c := 15) (ci := 9) (j := 5) (t0 := 3) (by decide) (by decide) (by decide +kernel : kd 44 = 15) (by decide) (by decide +kernel : kd 68 = 9) (by decide) rfl rfl (by decide) (by unfold vp_in; decide +kernel) (by decide +kernel : rf 44 5 = 68) (by rfl) dX4_init_88 ?_
  refine co_iinc (pc := 89) (lv' := [(2, .int 6), (0, .ref (adr w 40)), (1, .ref (adr w 35))]) 0 rfl dX4_init_89 (v := 6) (by decide +kernel) (ltb rfl) rfl ?_
  refine co_goto (pc := 92) dX4_init_92 (tgt := 70) rfl ?_
  refine co_iload_n (pc := 70) 0 rfl dX4_init_70 rfl ?_
  refine co_bipush (pc := 71) dX4_init_71 (ic_b_6) ?_
  refine co_ge_t (pc := 73) dX4_init_73 (tgt := 95) rfl (by decide) ?_
  exact co_ret (pc := 95) rfl rfl rfl dX4_init_95 rfl
theorem cI_X0_72 {w : Wd} {σ : Mem} (hfr : Fresh σ 72) : MCC w muI_X0 7 158 [.ref (adr w 72), .ref (adr w 40)] 73 [(72, 1), (72, 2), (72, 3), (72, 4), (72, 5), (72, 6), (72, 7), (72, 0), (33, 0), (33, 1), (33, 2), (33, 3), (33, 4), (33, 5), (33, 6), (33, 7), (0, 10), (0, 11), (0, 12), (0, 13), (0, 14), (0, 15), (0, 16)] σ (80, [(33, 0), (33, 1), (33, 2), (33, 3), (33, 4), (33, 5), (33, 6), (33, 7), (0, 10), (0, 11), (0, 12), (0, 13), (0, 14), (0, 15), (0, 16)], σ) := by
  refine mcc_of (lv := [(0, .ref (adr w 72)), (1, .ref (adr w 40))]) okI_X0 rfl rfl (Nat.le_of_ble_eq_true rfl) ?_
  refine co_aload_n (pc := 0) 0 rfl dX0_init_0 rfl ?_
  refine co_objInit (pc := 1) gw_339 gw_179 gw_180 (ltb rfl) (Nat.le_of_ble_eq_true rfl) dX0_init_1 ?_
  refine co_aload_n (pc := 4) 0 rfl dX0_init_4 rfl ?_
  refine co_bipush (pc := 5) dX0_init_5 (ic_b_64) ?_
  refine co_newL (pc := 7) (N := 64) (by decide +kernel : kd 73 = 13) (by decide +kernel : ln 73 = 64) (hfr.up (by decide)) gw_232 (by decide) (by decide) (by decide +kernel) (Nat.le_of_ble_eq_true rfl) (Nat.le_of_ble_eq_true rfl) dX0_init_7 ?_
  show CO w muI_X0 7 158 (80, [(33, 0), (33, 1), (33, 2), (33, 3), (33, 4), (33, 5), (33, 6), (33, 7), (0, 10), (0, 11), (0, 12), (0, 13), (0, 14), (0, 15), (0, 16)], σ) 74 [(72, 1), (72, 2), (72, 3), (72, 4), (72, 5), (72, 6), (72, 7), (72, 0), (33, 0), (33, 1), (33, 2), (33, 3), (33, 4), (33, 5), (33, 6), (33, 7), (0, 10), (0, 11), (0, 12), (0, 13), (0, 14), (0, 15), (0, 16)] σ 1 64 [(0, .ref (adr w 72)), (1, .ref (adr w 40))] [.ref (adr w 73), .ref (adr w 72)] 9
  refine co_putrF (pc := 9) (L' := [(72, 2), (72, 3), (72, 4), (72, 5), (72, 6), (72, 7), (72, 0), (33, 0), (33, 1), (33, 2), (33, 3), (33, 4), (33, 5), (33, 6), (33, 7), (0, 10), (0, 11), (0, 12), (0, 13), (0, 14), (0, 15), (0, 16)]) ok_0_1 okq_0_1 rfl rfl (by decide) (by decide +kernel : kd 72 = 0) (by decide +kernel : rf 72 1 = 73) (by rfl) gw_341 dX0_init_9 ?_
  refine co_aload_n (pc := 12) 0 rfl dX0_init_12 rfl ?_
  refine co_bipush (pc := 13) dX0_init_13 (ic_b_64) ?_
  refine co_newL (pc := 15) (N := 64) (by decide +kernel : kd 74 = 13) (by decide +kernel : ln 74 = 64) (hfr.up (by decide)) gw_232 (by decide) (by decide) (by decide +kernel) (Nat.le_of_ble_eq_true rfl) (Nat.le_of_ble_eq_true rfl) dX0_init_15 ?_
  show CO w muI_X0 7 158 (80, [(33, 0), (33, 1), (33, 2), (33, 3), (33, 4), (33, 5), (33, 6), (33, 7), (0, 10), (0, 11), (0, 12), (0, 13), (0, 14), (0, 15), (0, 16)], σ) 75 [(72, 2), (72, 3), (72, 4), (72, 5), (72, 6), (72, 7), (72, 0), (33, 0), (33, 1), (33, 2), (33, 3), (33, 4), (33, 5), (33, 6), (33, 7), (0, 10), (0, 11), (0, 12), (0, 13), (0, 14), (0, 15), (0, 16)] σ 2 128 [(0, .ref (adr w 72)), (1, .ref (adr w 40))] [.ref (adr w 74), .ref (adr w 72)] 17
  refine co_putrF (pc := 17) (L' := [(72, 3), (72, 4), (72, 5), (72, 6), (72, 7), (72, 0), (33, 0), (33, 1), (33, 2), (33, 3), (33, 4), (33, 5), (33, 6), (33, 7), (0, 10), (0, 11), (0, 12), (0, 13), (0, 14), (0, 15), (0, 16)]) ok_0_2 okq_0_2 rfl rfl (by decide) (by decide +kernel : kd 72 = 0) (by decide +kernel : rf 72 2 = 74) (by rfl) gw_342 dX0_init_17 ?_
  refine co_aload_n (pc := 20) 0 rfl dX0_init_20 rfl ?_
  refine co_bipush (pc := 21) dX0_init_21 (ic_b_6) ?_
  refine co_newL (pc := 23) (N := 6) (by decide +kernel : kd 75 = 13) (by decide +kernel : ln 75 = 6) (hfr.up (by decide)) gw_232 (by decide) (by decide) (by decide +kernel) (Nat.le_of_ble_eq_true rfl) (Nat.le_of_ble_eq_true rfl) dX0_init_23 ?_
  show CO w muI_X0 7 158 (80, [(33, 0), (33, 1), (33, 2), (33, 3), (33, 4), (33, 5), (33, 6), (33, 7), (0, 10), (0, 11), (0, 12), (0, 13), (0, 14), (0, 15), (0, 16)], σ) 76 [(72, 3), (72, 4), (72, 5), (72, 6), (72, 7), (72, 0), (33, 0), (33, 1), (33, 2), (33, 3), (33, 4), (33, 5), (33, 6), (33, 7), (0, 10), (0, 11), (0, 12), (0, 13), (0, 14), (0, 15), (0, 16)] σ 3 134 [(0, .ref (adr w 72)), (1, .ref (adr w 40))] [.ref (adr w 75), .ref (adr w 72)] 25
  refine co_putrF (pc := 25) (L' := [(72, 4), (72, 5), (72, 6), (72, 7), (72, 0), (33, 0), (33, 1), (33, 2), (33, 3), (33, 4), (33, 5), (33, 6), (33, 7), (0, 10), (0, 11), (0, 12), (0, 13), (0, 14), (0, 15), (0, 16)]) ok_0_3 okq_0_3 rfl rfl (by decide) (by decide +kernel : kd 72 = 0) (by decide +kernel : rf 72 3 = 75) (by rfl) gw_343 dX0_init_25 ?_
  refine co_aload_n (pc := 28) 0 rfl dX0_init_28 rfl ?_
  refine co_bipush (pc := 29) dX0_init_29 (ic_b_6) ?_
  refine co_newL (pc := 31) (N := 6) (by decide +kernel : kd 76 = 13) (by decide +kernel : ln 76 = 6) (hfr.up (by decide)) gw_232 (by decide) (by decide) (by decide +kernel) (Nat.le_of_ble_eq_true rfl) (Nat.le_of_ble_eq_true rfl) dX0_init_31 ?_
  show CO w muI_X0 7 158 (80, [(33, 0), (33, 1), (33, 2), (33, 3), (33, 4), (33, 5), (33, 6), (33, 7), (0, 10), (0, 11), (0, 12), (0, 13), (0, 14), (0, 15), (0, 16)], σ) 77 [(72, 4), (72, 5), (72, 6), (72, 7), (72, 0), (33, 0), (33, 1), (33, 2), (33, 3), (33, 4), (33, 5), (33, 6), (33, 7), (0, 10), (0, 11), (0, 12), (0, 13), (0, 14), (0, 15), (0, 16)] σ 4 140 [(0, .ref (adr w 72)), (1, .ref (adr w 40))] [.ref (adr w 76), .ref (adr w 72)] 33
  refine co_putrF (pc := 33) (L' := [(72, 5), (72, 6), (72, 7), (72, 0), (33, 0), (33, 1), (33, 2), (33, 3), (33, 4), (33, 5), (33, 6), (33, 7), (0, 10), (0, 11), (0, 12), (0, 13), (0, 14), (0, 15), (0, 16)]) ok_0_4 okq_0_4 rfl rfl (by decide) (by decide +kernel : kd 72 = 0) (by decide +kernel : rf 72 4 = 76) (by rfl) gw_344 dX0_init_33 ?_
  refine co_aload_n (pc := 36) 0 rfl dX0_init_36 rfl ?_
  refine co_bipush (pc := 37) dX0_init_37 (ic_b_6) ?_
  refine co_newL (pc := 39) (N := 6) (by decide +kernel : kd 77 = 13) (by decide +kernel : ln 77 = 6) (hfr.up (by decide)) gw_232 (by decide) (by decide) (by decide +kernel) (Nat.le_of_ble_eq_true rfl) (Nat.le_of_ble_eq_true rfl) dX0_init_39 ?_
  show CO w muI_X0 7 158 (80, [(33, 0), (33, 1), (33, 2), (33, 3), (33, 4), (33, 5), (33, 6), (33, 7), (0, 10), (0, 11), (0, 12), (0, 13), (0, 14), (0, 15), (0, 16)], σ) 78 [(72, 5), (72, 6), (72, 7), (72, 0), (33, 0), (33, 1), (33, 2), (33, 3), (33, 4), (33, 5), (33, 6), (33, 7), (0, 10), (0, 11), (0, 12), (0, 13), (0, 14), (0, 15), (0, 16)] σ 5 146 [(0, .ref (adr w 72)), (1, .ref (adr w 40))] [.ref (adr w 77), .ref (adr w 72)] 41
  refine co_putrF (pc := 41) (L' := [(72, 6), (72, 7), (72, 0), (33, 0), (33, 1), (33, 2), (33, 3), (33, 4), (33, 5), (33, 6), (33, 7), (0, 10), (0, 11), (0, 12), (0, 13), (0, 14), (0, 15), (0, 16)]) ok_0_5 okq_0_5 rfl rfl (by decide) (by decide +kernel : kd 72 = 0) (by decide +kernel : rf 72 5 = 77) (by rfl) gw_345 dX0_init_41 ?_
  refine co_aload_n (pc := 44) 0 rfl dX0_init_44 rfl ?_
  refine co_bipush (pc := 45) dX0_init_45 (ic_b_6) ?_
  refine co_newL (pc := 47) (N := 6) (by decide +kernel : kd 78 = 13) (by decide +kernel : ln 78 = 6) (hfr.up (by decide)) gw_232 (by decide) (by decide) (by decide +kernel) (Nat.le_of_ble_eq_true rfl) (Nat.le_of_ble_eq_true rfl) dX0_init_47 ?_
  show CO w muI_X0 7 158 (80, [(33, 0), (33, 1), (33, 2), (33, 3), (33, 4), (33, 5), (33, 6), (33, 7), (0, 10), (0, 11), (0, 12), (0, 13), (0, 14), (0, 15), (0, 16)], σ) 79 [(72, 6), (72, 7), (72, 0), (33, 0), (33, 1), (33, 2), (33, 3), (33, 4), (33, 5), (33, 6), (33, 7), (0, 10), (0, 11), (0, 12), (0, 13), (0, 14), (0, 15), (0, 16)] σ 6 152 [(0, .ref (adr w 72)), (1, .ref (adr w 40))] [.ref (adr w 78), .ref (adr w 72)] 49
  refine co_putrF (pc := 49) (L' := [(72, 7), (72, 0), (33, 0), (33, 1), (33, 2), (33, 3), (33, 4), (33, 5), (33, 6), (33, 7), (0, 10), (0, 11), (0, 12), (0, 13), (0, 14), (0, 15), (0, 16)]) ok_0_6 okq_0_6 rfl rfl (by decide) (by decide +kernel : kd 72 = 0) (by decide +kernel : rf 72 6 = 78) (by rfl) gw_346 dX0_init_49 ?_
  refine co_aload_n (pc := 52) 0 rfl dX0_init_52 rfl ?_
  refine co_bipush (pc := 53) dX0_init_53 (ic_b_6) ?_
  refine co_newL (pc := 55) (N := 6) (by decide +kernel : kd 79 = 13) (by decide +kernel : ln 79 = 6) (hfr.up (by decide)) gw_232 (by decide) (by decide) (by decide +kernel) (Nat.le_of_ble_eq_true rfl) (Nat.le_of_ble_eq_true rfl) dX0_init_55 ?_
  show CO w muI_X0 7 158 (80, [(33, 0), (33, 1), (33, 2), (33, 3), (33, 4), (33, 5), (33, 6), (33, 7), (0, 10), (0, 11), (0, 12), (0, 13), (0, 14), (0, 15), (0, 16)], σ) 80 [(72, 7), (72, 0), (33, 0), (33, 1), (33, 2), (33, 3), (33, 4), (33, 5), (33, 6), (33, 7), (0, 10), (0, 11), (0, 12), (0, 13), (0, 14), (0, 15), (0, 16)] σ 7 158 [(0, .ref (adr w 72)), (1, .ref (adr w 40))] [.ref (adr w 79), .ref (adr w 72)] 57
  refine co_putrF (pc := 57) (L' := [(72, 0), (33, 0), (33, 1), (33, 2), (33, 3), (33, 4), (33, 5), (33, 6), (33, 7), (0, 10), (0, 11), (0, 12), (0, 13), (0, 14), (0, 15), (0, 16)]) ok_0_7 okq_0_7 rfl rfl (by decide) (by decide +kernel : kd 72 = 0) (by decide +kernel : rf 72 7 = 79) (by rfl) gw_347 dX0_init_57 ?_
  refine co_aload_n (pc := 60) 0 rfl dX0_init_60 rfl ?_
  refine co_aload_n (pc := 61) 1 rfl dX0_init_61 rfl ?_
  refine co_putrF (pc := 62) (L' := [(33, 0), (33, 1), (33, 2), (33, 3), (33, 4), (33, 5), (33, 6), (33, 7), (0, 10), (0, 11), (0, 12), (0, 13), (0, 14), (0, 15), (0, 16)]) ok_0_0 okq_0_0 rfl rfl (by decide) (by decide +kernel : kd 72 = 0) (by decide +kernel : rf 72 0 = 40) (by rfl) gw_340 dX0_init_62 ?_
  exact co_ret (pc := 65) rfl rfl rfl dX0_init_65 rfl
theorem cI_X3_81 {w : Wd} {σ : Mem} (hfr : Fresh σ 81) : MCC w muI_X3 8 48 [.ref (adr w 81)] 82 [(81, 1), (81, 2), (80, 1), (80, 2), (80, 3), (80, 4), (80, 5), (80, 6), (80, 7), (80, 0), (33, 0), (33, 1), (33, 2), (33, 3), (33, 4), (33, 5), (33, 6), (33, 7), (0, 11), (0, 12), (0, 13), (0, 14), (0, 15), (0, 16)] σ (90, [(80, 1), (80, 2), (80, 3), (80, 4), (80, 5), (80, 6), (80, 7), (80, 0), (33, 0), (33, 1), (33, 2), (33, 3), (33, 4), (33, 5), (33, 6), (33, 7), (0, 11), (0, 12), (0, 13), (0, 14), (0, 15), (0, 16)], σ) := by
  refine mcc_of (lv := [(0, .ref (adr w 81))]) okI_X3 rfl rfl (Nat.le_of_ble_eq_true rfl) ?_
  refine co_aload_n (pc := 0) 0 rfl dX3_init_0 rfl ?_
  refine co_objInit (pc := 1) gw_376 gw_179 gw_180 (ltb rfl) (Nat.le_of_ble_eq_true rfl) dX3_init_1 ?_
  refine co_aload_n (pc := 4) 0 rfl dX3_init_4 rfl ?_
  refine co_iconst (pc := 5) dX3_init_5 (ic_i_0) ?_
  refine co_putf (pc := 6) (σ' := σ) ok_3_0 okq_3_0 ⟨by rfl, by rfl⟩ (by decide) (by decide +kernel : kd 81 = 3) (wI_same ((hfr 81 (by decide) 0).1)) gw_378 dX3_init_6 ?_
  refine co_aload_n (pc := 9) 0 rfl dX3_init_9 rfl ?_
  refine co_bipush (pc := 10) dX3_init_10 (ic_b_6) ?_
  refine co_bipush (pc := 12) dX3_init_12 (ic_b_6) ?_
  refine co_mna (pc := 14) (N := 6) (M := 6) (by decide +kernel : kd 82 = 16) (by decide +kernel : ln 82 = 6) (by decide +kernel) (hfr.up (by decide)) (by decide) gw_377 gw_232 (by decide) (by decide) (by decide) (by decide) (by decide +kernel) (by decide +kernel) (by decide +kernel) (Nat.le_of_ble_eq_true rfl) (Nat.le_of_ble_eq_true rfl) dX3_init_14 ?_
  show CO w muI_X3 8 48 (90, [(80, 1), (80, 2), (80, 3), (80, 4), (80, 5), (80, 6), (80, 7), (80, 0), (33, 0), (33, 1), (33, 2), (33, 3), (33, 4), (33, 5), (33, 6), (33, 7), (0, 11), (0, 12), (0, 13), (0, 14), (0, 15), (0, 16)], σ) 89 [(81, 1), (81, 2), (80, 1), (80, 2), (80, 3), (80, 4), (80, 5), (80, 6), (80, 7), (80, 0), (33, 0), (33, 1), (33, 2), (33, 3), (33, 4), (33, 5), (33, 6), (33, 7), (0, 11), (0, 12), (0, 13), (0, 14), (0, 15), (0, 16)] σ 7 42 [(0, .ref (adr w 81))] [.ref (adr w 82), .ref (adr w 81)] 18
  refine co_putrF (pc := 18) (L' := [(81, 2), (80, 1), (80, 2), (80, 3), (80, 4), (80, 5), (80, 6), (80, 7), (80, 0), (33, 0), (33, 1), (33, 2), (33, 3), (33, 4), (33, 5), (33, 6), (33, 7), (0, 11), (0, 12), (0, 13), (0, 14), (0, 15), (0, 16)]) ok_3_1 okq_3_1 rfl rfl (by decide) (by decide +kernel : kd 81 = 3) (by decide +kernel : rf 81 1 = 82) (by rfl) gw_379 dX3_init_18 ?_
  refine co_aload_n (pc := 21) 0 rfl dX3_init_21 rfl ?_
  refine co_bipush (pc := 22) dX3_init_22 (ic_b_6) ?_
  refine co_newL (pc := 24) (N := 6) (by decide +kernel : kd 89 = 13) (by decide +kernel : ln 89 = 6) (hfr.up (by decide)) gw_232 (by decide) (by decide) (by decide +kernel) (Nat.le_of_ble_eq_true rfl) (Nat.le_of_ble_eq_true rfl) dX3_init_24 ?_
  show CO w muI_X3 8 48 (90, [(80, 1), (80, 2), (80, 3), (80, 4), (80, 5), (80, 6), (80, 7), (80, 0), (33, 0), (33, 1), (33, 2), (33, 3), (33, 4), (33, 5), (33, 6), (33, 7), (0, 11), (0, 12), (0, 13), (0, 14), (0, 15), (0, 16)], σ) 90 [(81, 2), (80, 1), (80, 2), (80, 3), (80, 4), (80, 5), (80, 6), (80, 7), (80, 0), (33, 0), (33, 1), (33, 2), (33, 3), (33, 4), (33, 5), (33, 6), (33, 7), (0, 11), (0, 12), (0, 13), (0, 14), (0, 15), (0, 16)] σ 8 48 [(0, .ref (adr w 81))] [.ref (adr w 89), .ref (adr w 81)] 26
  refine co_putrF (pc := 26) (L' := [(80, 1), (80, 2), (80, 3), (80, 4), (80, 5), (80, 6), (80, 7), (80, 0), (33, 0), (33, 1), (33, 2), (33, 3), (33, 4), (33, 5), (33, 6), (33, 7), (0, 11), (0, 12), (0, 13), (0, 14), (0, 15), (0, 16)]) ok_3_2 okq_3_2 rfl rfl (by decide) (by decide +kernel : kd 81 = 3) (by decide +kernel : rf 81 2 = 89) (by rfl) gw_381 dX3_init_26 ?_
  exact co_ret (pc := 29) rfl rfl rfl dX3_init_29 rfl
theorem cI_X3_90 {w : Wd} {σ : Mem} (hfr : Fresh σ 90) : MCC w muI_X3 8 48 [.ref (adr w 90)] 91 [(90, 1), (90, 2), (80, 2), (80, 3), (80, 4), (80, 5), (80, 6), (80, 7), (80, 0), (33, 0), (33, 1), (33, 2), (33, 3), (33, 4), (33, 5), (33, 6), (33, 7), (0, 11), (0, 12), (0, 13), (0, 14), (0, 15), (0, 16)] σ (99, [(80, 2), (80, 3), (80, 4), (80, 5), (80, 6), (80, 7), (80, 0), (33, 0), (33, 1), (33, 2), (33, 3), (33, 4), (33, 5), (33, 6), (33, 7), (0, 11), (0, 12), (0, 13), (0, 14), (0, 15), (0, 16)], σ) := by
  refine mcc_of (lv := [(0, .ref (adr w 90))]) okI_X3 rfl rfl (Nat.le_of_ble_eq_true rfl) ?_
  refine co_aload_n (pc := 0) 0 rfl dX3_init_0 rfl ?_
  refine co_objInit (pc := 1) gw_376 gw_179 gw_180 (ltb rfl) (Nat.le_of_ble_eq_true rfl) dX3_init_1 ?_
  refine co_aload_n (pc := 4) 0 rfl dX3_init_4 rfl ?_
  refine co_iconst (pc := 5) dX3_init_5 (ic_i_0) ?_
  refine co_putf (pc := 6) (σ' := σ) ok_3_0 okq_3_0 ⟨by rfl, by rfl⟩ (by decide) (by decide +kernel : kd 90 = 3) (wI_same ((hfr 90 (by decide) 0).1)) gw_378 dX3_init_6 ?_
  refine co_aload_n (pc := 9) 0 rfl dX3_init_9 rfl ?_
  refine co_bipush (pc := 10) dX3_init_10 (ic_b_6) ?_
  refine co_bipush (pc := 12) dX3_init_12 (ic_b_6) ?_
  refine co_mna (pc := 14) (N := 6) (M := 6) (by decide +kernel : kd 91 = 16) (by decide +kernel : ln 91 = 6) (by decide +kernel) (hfr.up (by decide)) (by decide) gw_377 gw_232 (by decide) (by decide) (by decide) (by decide) (by decide +kernel) (by decide +kernel) (by decide +kernel) (Nat.le_of_ble_eq_true rfl) (Nat.le_of_ble_eq_true rfl) dX3_init_14 ?_
  show CO w muI_X3 8 48 (99, [(80, 2), (80, 3), (80, 4), (80, 5), (80, 6), (80, 7), (80, 0), (33, 0), (33, 1), (33, 2), (33, 3), (33, 4), (33, 5), (33, 6), (33, 7), (0, 11), (0, 12), (0, 13), (0, 14), (0, 15), (0, 16)], σ) 98 [(90, 1), (90, 2), (80, 2), (80, 3), (80, 4), (80, 5), (80, 6), (80, 7), (80, 0), (33, 0), (33, 1), (33, 2), (33, 3), (33, 4), (33, 5), (33, 6), (33, 7), (0, 11), (0, 12), (0, 13), (0, 14), (0, 15), (0, 16)] σ 7 42 [(0, .ref (adr w 90))] [.ref (adr w 91), .ref (adr w 90)] 18
  refine co_putrF (pc := 18) (L' := [(90, 2), (80, 2), (80, 3), (80, 4), (80, 5), (80, 6), (80, 7), (80, 0), (33, 0), (33, 1), (33, 2), (33, 3), (33, 4), (33, 5), (33, 6), (33, 7), (0, 11), (0, 12), (0, 13), (0, 14), (0, 15), (0, 16)]) ok_3_1 okq_3_1 rfl rfl (by decide) (by decide +kernel : kd 90 = 3) (by decide +kernel : rf 90 1 = 91) (by rfl) gw_379 dX3_init_18 ?_
  refine co_aload_n (pc := 21) 0 rfl dX3_init_21 rfl ?_
  refine co_bipush (pc := 22) dX3_init_22 (ic_b_6) ?_
  refine co_newL (pc := 24) (N := 6) (by decide +kernel : kd 98 = 13) (by decide +kernel : ln 98 = 6) (hfr.up (by decide)) gw_232 (by decide) (by decide) (by decide +kernel) (Nat.le_of_ble_eq_true rfl) (Nat.le_of_ble_eq_true rfl) dX3_init_24 ?_
  show CO w muI_X3 8 48 (99, [(80, 2), (80, 3), (80, 4), (80, 5), (80, 6), (80, 7), (80, 0), (33, 0), (33, 1), (33, 2), (33, 3), (33, 4), (33, 5), (33, 6), (33, 7), (0, 11), (0, 12), (0, 13), (0, 14), (0, 15), (0, 16)], σ) 99 [(90, 2), (80, 2), (80, 3), (80, 4), (80, 5), (80, 6), (80, 7), (80, 0), (33, 0), (33, 1), (33, 2), (33, 3), (33, 4), (33, 5), (33, 6), (33, 7), (0, 11), (0, 12), (0, 13), (0, 14), (0, 15), (0, 16)] σ 8 48 [(0, .ref (adr w 90))] [.ref (adr w 98), .ref (adr w 90)] 26
  refine co_putrF (pc := 26) (L' := [(80, 2), (80, 3), (80, 4), (80, 5), (80, 6), (80, 7), (80, 0), (33, 0), (33, 1), (33, 2), (33, 3), (33, 4), (33, 5), (33, 6), (33, 7), (0, 11), (0, 12), (0, 13), (0, 14), (0, 15), (0, 16)]) ok_3_2 okq_3_2 rfl rfl (by decide) (by decide +kernel : kd 90 = 3) (by decide +kernel : rf 90 2 = 98) (by rfl) gw_381 dX3_init_26 ?_
  exact co_ret (pc := 29) rfl rfl rfl dX3_init_29 rfl
theorem cI_X9_104 {w : Wd} {σ : Mem} (hfr : Fresh σ 104) : MCC w muI_X9 3 1365 [.ref (adr w 104)] 105 [(104, 1), (104, 2), (104, 3), (99, 0), (99, 1), (99, 2), (99, 3), (99, 4), (99, 5), (33, 0), (33, 1), (33, 2), (33, 3), (33, 4), (33, 5), (33, 6), (33, 7), (0, 11), (0, 12), (0, 13), (0, 14), (0, 15), (0, 16)] σ (108, [(99, 0), (99, 1), (99, 2), (99, 3), (99, 4), (99, 5), (33, 0), (33, 1), (33, 2), (33, 3), (33, 4), (33, 5), (33, 6), (33, 7), (0, 11), (0, 12), (0, 13), (0, 14), (0, 15), (0, 16)], σ) := by
  refine mcc_of (lv := [(0, .ref (adr w 104))]) okI_X9 rfl rfl (Nat.le_of_ble_eq_true rfl) ?_
  refine co_aload_n (pc := 0) 0 rfl dX9_init_0 rfl ?_
  refine co_objInit (pc := 1) gw_278 gw_179 gw_180 (ltb rfl) (Nat.le_of_ble_eq_true rfl) dX9_init_1 ?_
  refine co_aload_n (pc := 4) 0 rfl dX9_init_4 rfl ?_
  refine co_iconst (pc := 5) dX9_init_5 (ic_i_0) ?_
  refine co_putf (pc := 6) (σ' := σ) ok_9_0 okq_9_0 ⟨by rfl, by rfl⟩ (by decide) (by decide +kernel : kd 104 = 9) (wI_same ((hfr 104 (by decide) 0).1)) gw_279 dX9_init_6 ?_
  refine co_aload_n (pc := 9) 0 rfl dX9_init_9 rfl ?_
  refine co_sipush (pc := 10) dX9_init_10 (ic_s_455) ?_
  refine co_newI (pc := 13) (N := 455) (by decide +kernel : kd 105 = 12) (by decide +kernel : ln 105 = 455) (hfr.up (by decide)) gw_214 (by decide) (by decide) (by decide +kernel) (Nat.le_of_ble_eq_true rfl) (Nat.le_of_ble_eq_true rfl) dX9_init_13 ?_
  show CO w muI_X9 3 1365 (108, [(99, 0), (99, 1), (99, 2), (99, 3), (99, 4), (99, 5), (33, 0), (33, 1), (33, 2), (33, 3), (33, 4), (33, 5), (33, 6), (33, 7), (0, 11), (0, 12), (0, 13), (0, 14), (0, 15), (0, 16)], σ) 106 [(104, 1), (104, 2), (104, 3), (99, 0), (99, 1), (99, 2), (99, 3), (99, 4), (99, 5), (33, 0), (33, 1), (33, 2), (33, 3), (33, 4), (33, 5), (33, 6), (33, 7), (0, 11), (0, 12), (0, 13), (0, 14), (0, 15), (0, 16)] σ 1 455 [(0, .ref (adr w 104))] [.ref (adr w 105), .ref (adr w 104)] 15
  refine co_putrF (pc := 15) (L' := [(104, 2), (104, 3), (99, 0), (99, 1), (99, 2), (99, 3), (99, 4), (99, 5), (33, 0), (33, 1), (33, 2), (33, 3), (33, 4), (33, 5), (33, 6), (33, 7), (0, 11), (0, 12), (0, 13), (0, 14), (0, 15), (0, 16)]) ok_9_1 okq_9_1 rfl rfl (by decide) (by decide +kernel : kd 104 = 9) (by decide +kernel : rf 104 1 = 105) (by rfl) gw_283 dX9_init_15 ?_
  refine co_aload_n (pc := 18) 0 rfl dX9_init_18 rfl ?_
  refine co_sipush (pc := 19) dX9_init_19 (ic_s_455) ?_
  refine co_newL (pc := 22) (N := 455) (by decide +kernel : kd 106 = 13) (by decide +kernel : ln 106 = 455) (hfr.up (by decide)) gw_232 (by decide) (by decide) (by decide +kernel) (Nat.le_of_ble_eq_true rfl) (Nat.le_of_ble_eq_true rfl) dX9_init_22 ?_
  show CO w muI_X9 3 1365 (108, [(99, 0), (99, 1), (99, 2), (99, 3), (99, 4), (99, 5), (33, 0), (33, 1), (33, 2), (33, 3), (33, 4), (33, 5), (33, 6), (33, 7), (0, 11), (0, 12), (0, 13), (0, 14), (0, 15), (0, 16)], σ) 107 [(104, 2), (104, 3), (99, 0), (99, 1), (99, 2), (99, 3), (99, 4), (99, 5), (33, 0), (33, 1), (33, 2), (33, 3), (33, 4), (33, 5), (33, 6), (33, 7), (0, 11), (0, 12), (0, 13), (0, 14), (0, 15), (0, 16)] σ 2 910 [(0, .ref (adr w 104))] [.ref (adr w 106), .ref (adr w 104)] 24
  refine co_putrF (pc := 24) (L' := [(104, 3), (99, 0), (99, 1), (99, 2), (99, 3), (99, 4), (99, 5), (33, 0), (33, 1), (33, 2), (33, 3), (33, 4), (33, 5), (33, 6), (33, 7), (0, 11), (0, 12), (0, 13), (0, 14), (0, 15), (0, 16)]) ok_9_2 okq_9_2 rfl rfl (by decide) (by decide +kernel : kd 104 = 9) (by decide +kernel : rf 104 2 = 106) (by rfl) gw_286 dX9_init_24 ?_
  refine co_aload_n (pc := 27) 0 rfl dX9_init_27 rfl ?_
  refine co_sipush (pc := 28) dX9_init_28 (ic_s_455) ?_
  refine co_newI (pc := 31) (N := 455) (by decide +kernel : kd 107 = 12) (by decide +kernel : ln 107 = 455) (hfr.up (by decide)) gw_214 (by decide) (by decide) (by decide +kernel) (Nat.le_of_ble_eq_true rfl) (Nat.le_of_ble_eq_true rfl) dX9_init_31 ?_
  show CO w muI_X9 3 1365 (108, [(99, 0), (99, 1), (99, 2), (99, 3), (99, 4), (99, 5), (33, 0), (33, 1), (33, 2), (33, 3), (33, 4), (33, 5), (33, 6), (33, 7), (0, 11), (0, 12), (0, 13), (0, 14), (0, 15), (0, 16)], σ) 108 [(104, 3), (99, 0), (99, 1), (99, 2), (99, 3), (99, 4), (99, 5), (33, 0), (33, 1), (33, 2), (33, 3), (33, 4), (33, 5), (33, 6), (33, 7), (0, 11), (0, 12), (0, 13), (0, 14), (0, 15), (0, 16)] σ 3 1365 [(0, .ref (adr w 104))] [.ref (adr w 107), .ref (adr w 104)] 33
  refine co_putrF (pc := 33) (L' := [(99, 0), (99, 1), (99, 2), (99, 3), (99, 4), (99, 5), (33, 0), (33, 1), (33, 2), (33, 3), (33, 4), (33, 5), (33, 6), (33, 7), (0, 11), (0, 12), (0, 13), (0, 14), (0, 15), (0, 16)]) ok_9_3 okq_9_3 rfl rfl (by decide) (by decide +kernel : kd 104 = 9) (by decide +kernel : rf 104 3 = 107) (by rfl) gw_289 dX9_init_33 ?_
  exact co_ret (pc := 36) rfl rfl rfl dX9_init_36 rfl
theorem cI_X9_108 {w : Wd} {σ : Mem} (hfr : Fresh σ 108) : MCC w muI_X9 3 1365 [.ref (adr w 108)] 109 [(108, 1), (108, 2), (108, 3), (99, 1), (99, 2), (99, 3), (99, 4), (99, 5), (33, 0), (33, 1), (33, 2), (33, 3), (33, 4), (33, 5), (33, 6), (33, 7), (0, 11), (0, 12), (0, 13), (0, 14), (0, 15), (0, 16)] σ (112, [(99, 1), (99, 2), (99, 3), (99, 4), (99, 5), (33, 0), (33, 1), (33, 2), (33, 3), (33, 4), (33, 5), (33, 6), (33, 7), (0, 11), (0, 12), (0, 13), (0, 14), (0, 15), (0, 16)], σ) := by
  refine mcc_of (lv := [(0, .ref (adr w 108))]) okI_X9 rfl rfl (Nat.le_of_ble_eq_true rfl) ?_
  refine co_aload_n (pc := 0) 0 rfl dX9_init_0 rfl ?_
  refine co_objInit (pc := 1) gw_278 gw_179 gw_180 (ltb rfl) (Nat.le_of_ble_eq_true rfl) dX9_init_1 ?_
  refine co_aload_n (pc := 4) 0 rfl dX9_init_4 rfl ?_
  refine co_iconst (pc := 5) dX9_init_5 (ic_i_0) ?_
  refine co_putf (pc := 6) (σ' := σ) ok_9_0 okq_9_0 ⟨by rfl, by rfl⟩ (by decide) (by decide +kernel : kd 108 = 9) (wI_same ((hfr 108 (by decide) 0).1)) gw_279 dX9_init_6 ?_
  refine co_aload_n (pc := 9) 0 rfl dX9_init_9 rfl ?_
  refine co_sipush (pc := 10) dX9_init_10 (ic_s_455) ?_
  refine co_newI (pc := 13) (N := 455) (by decide +kernel : kd 109 = 12) (by decide +kernel : ln 109 = 455) (hfr.up (by decide)) gw_214 (by decide) (by decide) (by decide +kernel) (Nat.le_of_ble_eq_true rfl) (Nat.le_of_ble_eq_true rfl) dX9_init_13 ?_
  show CO w muI_X9 3 1365 (112, [(99, 1), (99, 2), (99, 3), (99, 4), (99, 5), (33, 0), (33, 1), (33, 2), (33, 3), (33, 4), (33, 5), (33, 6), (33, 7), (0, 11), (0, 12), (0, 13), (0, 14), (0, 15), (0, 16)], σ) 110 [(108, 1), (108, 2), (108, 3), (99, 1), (99, 2), (99, 3), (99, 4), (99, 5), (33, 0), (33, 1), (33, 2), (33, 3), (33, 4), (33, 5), (33, 6), (33, 7), (0, 11), (0, 12), (0, 13), (0, 14), (0, 15), (0, 16)] σ 1 455 [(0, .ref (adr w 108))] [.ref (adr w 109), .ref (adr w 108)] 15
  refine co_putrF (pc := 15) (L' := [(108, 2), (108, 3), (99, 1), (99, 2), (99, 3), (99, 4), (99, 5), (33, 0), (33, 1), (33, 2), (33, 3), (33, 4), (33, 5), (33, 6), (33, 7), (0, 11), (0, 12), (0, 13), (0, 14), (0, 15), (0, 16)]) ok_9_1 okq_9_1 rfl rfl (by decide) (by decide +kernel : kd 108 = 9) (by decide +kernel : rf 108 1 = 109) (by rfl) gw_283 dX9_init_15 ?_
  refine co_aload_n (pc := 18) 0 rfl dX9_init_18 rfl ?_
  refine co_sipush (pc := 19) dX9_init_19 (ic_s_455) ?_
  refine co_newL (pc := 22) (N := 455) (by decide +kernel : kd 110 = 13) (by decide +kernel : ln 110 = 455) (hfr.up (by decide)) gw_232 (by decide) (by decide) (by decide +kernel) (Nat.le_of_ble_eq_true rfl) (Nat.le_of_ble_eq_true rfl) dX9_init_22 ?_
  show CO w muI_X9 3 1365 (112, [(99, 1), (99, 2), (99, 3), (99, 4), (99, 5), (33, 0), (33, 1), (33, 2), (33, 3), (33, 4), (33, 5), (33, 6), (33, 7), (0, 11), (0, 12), (0, 13), (0, 14), (0, 15), (0, 16)], σ) 111 [(108, 2), (108, 3), (99, 1), (99, 2), (99, 3), (99, 4), (99, 5), (33, 0), (33, 1), (33, 2), (33, 3), (33, 4), (33, 5), (33, 6), (33, 7), (0, 11), (0, 12), (0, 13), (0, 14), (0, 15), (0, 16)] σ 2 910 [(0, .ref (adr w 108))] [.ref (adr w 110), .ref (adr w 108)] 24
  refine co_putrF (pc := 24) (L' := [(108, 3), (99, 1), (99, 2), (99, 3), (99, 4), (99, 5), (33, 0), (33, 1), (33, 2), (33, 3), (33, 4), (33, 5), (33, 6), (33, 7), (0, 11), (0, 12), (0, 13), (0, 14), (0, 15), (0, 16)]) ok_9_2 okq_9_2 rfl rfl (by decide) (by decide +kernel : kd 108 = 9) (by decide +kernel : rf 108 2 = 110) (by rfl) gw_286 dX9_init_24 ?_
  refine co_aload_n (pc := 27) 0 rfl dX9_init_27 rfl ?_
  refine co_sipush (pc := 28) dX9_init_28 (ic_s_455) ?_
  refine co_newI (pc := 31) (N := 455) (by decide +kernel : kd 111 = 12) (by decide +kernel : ln 111 = 455) (hfr.up (by decide)) gw_214 (by decide) (by decide) (by decide +kernel) (Nat.le_of_ble_eq_true rfl) (Nat.le_of_ble_eq_true rfl) dX9_init_31 ?_
  show CO w muI_X9 3 1365 (112, [(99, 1), (99, 2), (99, 3), (99, 4), (99, 5), (33, 0), (33, 1), (33, 2), (33, 3), (33, 4), (33, 5), (33, 6), (33, 7), (0, 11), (0, 12), (0, 13), (0, 14), (0, 15), (0, 16)], σ) 112 [(108, 3), (99, 1), (99, 2), (99, 3), (99, 4), (99, 5), (33, 0), (33, 1), (33, 2), (33, 3), (33, 4), (33, 5), (33, 6), (33, 7), (0, 11), (0, 12), (0, 13), (0, 14), (0, 15), (0, 16)] σ 3 1365 [(0, .ref (adr w 108))] [.ref (adr w 111), .ref (adr w 108)] 33
  refine co_putrF (pc := 33) (L' := [(99, 1), (99, 2), (99, 3), (99, 4), (99, 5), (33, 0), (33, 1), (33, 2), (33, 3), (33, 4), (33, 5), (33, 6), (33, 7), (0, 11), (0, 12), (0, 13), (0, 14), (0, 15), (0, 16)]) ok_9_3 okq_9_3 rfl rfl (by decide) (by decide +kernel : kd 108 = 9) (by decide +kernel : rf 108 3 = 111) (by rfl) gw_289 dX9_init_33 ?_
  exact co_ret (pc := 36) rfl rfl rfl dX9_init_36 rfl
theorem cI_X9_112 {w : Wd} {σ : Mem} (hfr : Fresh σ 112) : MCC w muI_X9 3 1365 [.ref (adr w 112)] 113 [(112, 1), (112, 2), (112, 3), (99, 2), (99, 3), (99, 4), (99, 5), (33, 0), (33, 1), (33, 2), (33, 3), (33, 4), (33, 5), (33, 6), (33, 7), (0, 11), (0, 12), (0, 13), (0, 14), (0, 15), (0, 16)] σ (116, [(99, 2), (99, 3), (99, 4), (99, 5), (33, 0), (33, 1), (33, 2), (33, 3), (33, 4), (33, 5), (33, 6), (33, 7), (0, 11), (0, 12), (0, 13), (0, 14), (0, 15), (0, 16)], σ) := by
  refine mcc_of (lv := [(0, .ref (adr w 112))]) okI_X9 rfl rfl (Nat.le_of_ble_eq_true rfl) ?_
  refine co_aload_n (pc := 0) 0 rfl dX9_init_0 rfl ?_
  refine co_objInit (pc := 1) gw_278 gw_179 gw_180 (ltb rfl) (Nat.le_of_ble_eq_true rfl) dX9_init_1 ?_
  refine co_aload_n (pc := 4) 0 rfl dX9_init_4 rfl ?_
  refine co_iconst (pc := 5) dX9_init_5 (ic_i_0) ?_
  refine co_putf (pc := 6) (σ' := σ) ok_9_0 okq_9_0 ⟨by rfl, by rfl⟩ (by decide) (by decide +kernel : kd 112 = 9) (wI_same ((hfr 112 (by decide) 0).1)) gw_279 dX9_init_6 ?_
  refine co_aload_n (pc := 9) 0 rfl dX9_init_9 rfl ?_
  refine co_sipush (pc := 10) dX9_init_10 (ic_s_455) ?_
  refine co_newI (pc := 13) (N := 455) (by decide +kernel : kd 113 = 12) (by decide +kernel : ln 113 = 455) (hfr.up (by decide)) gw_214 (by decide) (by decide) (by decide +kernel) (Nat.le_of_ble_eq_true rfl) (Nat.le_of_ble_eq_true rfl) dX9_init_13 ?_
  show CO w muI_X9 3 1365 (116, [(99, 2), (99, 3), (99, 4), (99, 5), (33, 0), (33, 1), (33, 2), (33, 3), (33, 4), (33, 5), (33, 6), (33, 7), (0, 11), (0, 12), (0, 13), (0, 14), (0, 15), (0, 16)], σ) 114 [(112, 1), (112, 2), (112, 3), (99, 2), (99, 3), (99, 4), (99, 5), (33, 0), (33, 1), (33, 2), (33, 3), (33, 4), (33, 5), (33, 6), (33, 7), (0, 11), (0, 12), (0, 13), (0, 14), (0, 15), (0, 16)] σ 1 455 [(0, .ref (adr w 112))] [.ref (adr w 113), .ref (adr w 112)] 15
  refine co_putrF (pc := 15) (L' := [(112, 2), (112, 3), (99, 2), (99, 3), (99, 4), (99, 5), (33, 0), (33, 1), (33, 2), (33, 3), (33, 4), (33, 5), (33, 6), (33, 7), (0, 11), (0, 12), (0, 13), (0, 14), (0, 15), (0, 16)]) ok_9_1 okq_9_1 rfl rfl (by decide) (by decide +kernel : kd 112 = 9) (by decide +kernel : rf 112 1 = 113) (by rfl) gw_283 dX9_init_15 ?_
  refine co_aload_n (pc := 18) 0 rfl dX9_init_18 rfl ?_
  refine co_sipush (pc := 19) dX9_init_19 (ic_s_455) ?_
  refine co_newL (pc := 22) (N := 455) (by decide +kernel : kd 114 = 13) (by decide +kernel : ln 114 = 455) (hfr.up (by decide)) gw_232 (by decide) (by decide) (by decide +kernel) (Nat.le_of_ble_eq_true rfl) (Nat.le_of_ble_eq_true rfl) dX9_init_22 ?_
  show CO w muI_X9 3 1365 (116, [(99, 2), (99, 3), (99, 4), (99, 5), (33, 0), (33, 1), (33, 2), (33, 3), (33, 4), (33, 5), (33, 6), (33, 7), (0, 11), (0, 12), (0, 13), (0, 14), (0, 15), (0, 16)], σ) 115 [(112, 2), (112, 3), (99, 2), (99, 3), (99, 4), (99, 5), (33, 0), (33, 1), (33, 2), (33, 3), (33, 4), (33, 5), (33, 6), (33, 7), (0, 11), (0, 12), (0, 13), (0, 14), (0, 15), (0, 16)] σ 2 910 [(0, .ref (adr w 112))] [.ref (adr w 114), .ref (adr w 112)] 24
  refine co_putrF (pc := 24) (L' := [(112, 3), (99, 2), (99, 3), (99, 4), (99, 5), (33, 0), (33, 1), (33, 2), (33, 3), (33, 4), (33, 5), (33, 6), (33, 7), (0, 11), (0, 12), (0, 13), (0, 14), (0, 15), (0, 16)]) ok_9_2 okq_9_2 rfl rfl (by decide) (by decide +kernel : kd 112 = 9) (by decide +kernel : rf 112 2 = 114) (by rfl) gw_286 dX9_init_24 ?_
  refine co_aload_n (pc := 27) 0 rfl dX9_init_27 rfl ?_
  refine co_sipush (pc := 28) dX9_init_28 (ic_s_455) ?_
  refine co_newI (pc := 31) (N := 455) (by decide +kernel : kd 115 = 12) (by decide +kernel : ln 115 = 455) (hfr.up (by decide)) gw_214 (by decide) (by decide) (by decide +kernel) (Nat.le_of_ble_eq_true rfl) (Nat.le_of_ble_eq_true rfl) dX9_init_31 ?_
  show CO w muI_X9 3 1365 (116, [(99, 2), (99, 3), (99, 4), (99, 5), (33, 0), (33, 1), (33, 2), (33, 3), (33, 4), (33, 5), (33, 6), (33, 7), (0, 11), (0, 12), (0, 13), (0, 14), (0, 15), (0, 16)], σ) 116 [(112, 3), (99, 2), (99, 3), (99, 4), (99, 5), (33, 0), (33, 1), (33, 2), (33, 3), (33, 4), (33, 5), (33, 6), (33, 7), (0, 11), (0, 12), (0, 13), (0, 14), (0, 15), (0, 16)] σ 3 1365 [(0, .ref (adr w 112))] [.ref (adr w 115), .ref (adr w 112)] 33
  refine co_putrF (pc := 33) (L' := [(99, 2), (99, 3), (99, 4), (99, 5), (33, 0), (33, 1), (33, 2), (33, 3), (33, 4), (33, 5), (33, 6), (33, 7), (0, 11), (0, 12), (0, 13), (0, 14), (0, 15), (0, 16)]) ok_9_3 okq_9_3 rfl rfl (by decide) (by decide +kernel : kd 112 = 9) (by decide +kernel : rf 112 3 = 115) (by rfl) gw_289 dX9_init_33 ?_
  exact co_ret (pc := 36) rfl rfl rfl dX9_init_36 rfl
theorem cI_X9_116 {w : Wd} {σ : Mem} (hfr : Fresh σ 116) : MCC w muI_X9 3 1365 [.ref (adr w 116)] 117 [(116, 1), (116, 2), (116, 3), (99, 3), (99, 4), (99, 5), (33, 0), (33, 1), (33, 2), (33, 3), (33, 4), (33, 5), (33, 6), (33, 7), (0, 11), (0, 12), (0, 13), (0, 14), (0, 15), (0, 16)] σ (120, [(99, 3), (99, 4), (99, 5), (33, 0), (33, 1), (33, 2), (33, 3), (33, 4), (33, 5), (33, 6), (33, 7), (0, 11), (0, 12), (0, 13), (0, 14), (0, 15), (0, 16)], σ) := by
  refine mcc_of (lv := [(0, .ref (adr w 116))]) okI_X9 rfl rfl (Nat.le_of_ble_eq_true rfl) ?_
  refine co_aload_n (pc := 0) 0 rfl dX9_init_0 rfl ?_
  refine co_objInit (pc := 1) gw_278 gw_179 gw_180 (ltb rfl) (Nat.le_of_ble_eq_true rfl) dX9_init_1 ?_
  refine co_aload_n (pc := 4) 0 rfl dX9_init_4 rfl ?_
  refine co_iconst (pc := 5) dX9_init_5 (ic_i_0) ?_
  refine co_putf (pc := 6) (σ' := σ) ok_9_0 okq_9_0 ⟨by rfl, by rfl⟩ (by decide) (by decide +kernel : kd 116 = 9) (wI_same ((hfr 116 (by decide) 0).1)) gw_279 dX9_init_6 ?_
  refine co_aload_n (pc := 9) 0 rfl dX9_init_9 rfl ?_
  refine co_sipush (pc := 10) dX9_init_10 (ic_s_455) ?_
  refine co_newI (pc := 13) (N := 455) (by decide +kernel : kd 117 = 12) (by decide +kernel : ln 117 = 455) (hfr.up (by decide)) gw_214 (by decide) (by decide) (by decide +kernel) (Nat.le_of_ble_eq_true rfl) (Nat.le_of_ble_eq_true rfl) dX9_init_13 ?_
  show CO w muI_X9 3 1365 (120, [(99, 3), (99, 4), (99, 5), (33, 0), (33, 1), (33, 2), (33, 3), (33, 4), (33, 5), (33, 6), (33, 7), (0, 11), (0, 12), (0, 13), (0, 14), (0, 15), (0, 16)], σ) 118 [(116, 1), (116, 2), (116, 3), (99, 3), (99, 4), (99, 5), (33, 0), (33, 1), (33, 2), (33, 3), (33, 4), (33, 5), (33, 6), (33, 7), (0, 11), (0, 12), (0, 13), (0, 14), (0, 15), (0, 16)] σ 1 455 [(0, .ref (adr w 116))] [.ref (adr w 117), .ref (adr w 116)] 15
  refine co_putrF (pc := 15) (L' := [(116, 2), (116, 3), (99, 3), (99, 4), (99, 5), (33, 0), (33, 1), (33, 2), (33, 3), (33, 4), (33, 5), (33, 6), (33, 7), (0, 11), (0, 12), (0, 13), (0, 14), (0, 15), (0, 16)]) ok_9_1 okq_9_1 rfl rfl (by decide) (by decide +kernel : kd 116 = 9) (by decide +kernel : rf 116 1 = 117) (by rfl) gw_283 dX9_init_15 ?_
  refine co_aload_n (pc := 18) 0 rfl dX9_init_18 rfl ?_
  refine co_sipush (pc := 19) dX9_init_19 (ic_s_455) ?_
  refine co_newL (pc := 22) (N := 455) (by decide +kernel : kd 118 = 13) (by decide +kernel : ln 118 = 455) (hfr.up (by decide)) gw_232 (by decide) (by decide) (by decide +kernel) (Nat.le_of_ble_eq_true rfl) (Nat.le_of_ble_eq_true rfl) dX9_init_22 ?_
  show CO w muI_X9 3 1365 (120, [(99, 3), (99, 4), (99, 5), (33, 0), (33, 1), (33, 2), (33, 3), (33, 4), (33, 5), (33, 6), (33, 7), (0, 11), (0, 12), (0, 13), (0, 14), (0, 15), (0, 16)], σ) 119 [(116, 2), (116, 3), (99, 3), (99, 4), (99, 5), (33, 0), (33, 1), (33, 2), (33, 3), (33, 4), (33, 5), (33, 6), (33, 7), (0, 11), (0, 12), (0, 13), (0, 14), (0, 15), (0, 16)] σ 2 910 [(0, .ref (adr w 116))] [.ref (adr w 118), .ref (adr w 116)] 24
  refine co_putrF (pc := 24) (L' := [(116, 3), (99, 3), (99, 4), (99, 5), (33, 0), (33, 1), (33, 2), (33, 3), (33, 4), (33, 5), (33, 6), (33, 7), (0, 11), (0, 12), (0, 13), (0, 14), (0, 15), (0, 16)]) ok_9_2 okq_9_2 rfl rfl (by decide) (by decide +kernel : kd 116 = 9) (by decide +kernel : rf 116 2 = 118) (by rfl) gw_286 dX9_init_24 ?_
  refine co_aload_n (pc := 27) 0 rfl dX9_init_27 rfl ?_
  refine co_sipush (pc := 28) dX9_init_28 (ic_s_455) ?_
  refine co_newI (pc := 31) (N := 455) (by decide +kernel : kd 119 = 12) (by decide +kernel : ln 119 = 455) (hfr.up (by decide)) gw_214 (by decide) (by decide) (by decide +kernel) (Nat.le_of_ble_eq_true rfl) (Nat.le_of_ble_eq_true rfl) dX9_init_31 ?_
  show CO w muI_X9 3 1365 (120, [(99, 3), (99, 4), (99, 5), (33, 0), (33, 1), (33, 2), (33, 3), (33, 4), (33, 5), (33, 6), (33, 7), (0, 11), (0, 12), (0, 13), (0, 14), (0, 15), (0, 16)], σ) 120 [(116, 3), (99, 3), (99, 4), (99, 5), (33, 0), (33, 1), (33, 2), (33, 3), (33, 4), (33, 5), (33, 6), (33, 7), (0, 11), (0, 12), (0, 13), (0, 14), (0, 15), (0, 16)] σ 3 1365 [(0, .ref (adr w 116))] [.ref (adr w 119), .ref (adr w 116)] 33
  refine co_putrF (pc := 33) (L' := [(99, 3), (99, 4), (99, 5), (33, 0), (33, 1), (33, 2), (33, 3), (33, 4), (33, 5), (33, 6), (33, 7), (0, 11), (0, 12), (0, 13), (0, 14), (0, 15), (0, 16)]) ok_9_3 okq_9_3 rfl rfl (by decide) (by decide +kernel : kd 116 = 9) (by decide +kernel : rf 116 3 = 119) (by rfl) gw_289 dX9_init_33 ?_
  exact co_ret (pc := 36) rfl rfl rfl dX9_init_36 rfl
theorem cI_X9_120 {w : Wd} {σ : Mem} (hfr : Fresh σ 120) : MCC w muI_X9 3 1365 [.ref (adr w 120)] 121 [(120, 1), (120, 2), (120, 3), (99, 4), (99, 5), (33, 0), (33, 1), (33, 2), (33, 3), (33, 4), (33, 5), (33, 6), (33, 7), (0, 11), (0, 12), (0, 13), (0, 14), (0, 15), (0, 16)] σ (124, [(99, 4), (99, 5), (33, 0), (33, 1), (33, 2), (33, 3), (33, 4), (33, 5), (33, 6), (33, 7), (0, 11), (0, 12), (0, 13), (0, 14), (0, 15), (0, 16)], σ) := by
  refine mcc_of (lv := [(0, .ref (adr w 120))]) okI_X9 rfl rfl (Nat.le_of_ble_eq_true rfl) ?_
  refine co_aload_n (pc := 0) 0 rfl dX9_init_0 rfl ?_
  refine co_objInit (pc := 1) gw_278 gw_179 gw_180 (ltb rfl) (Nat.le_of_ble_eq_true rfl) dX9_init_1 ?_
  refine co_aload_n (pc := 4) 0 rfl dX9_init_4 rfl ?_
  refine co_iconst (pc := 5) dX9_init_5 (ic_i_0) ?_
  refine co_putf (pc := 6) (σ' := σ) ok_9_0 okq_9_0 ⟨by rfl, by rfl⟩ (by decide) (by decide +kernel : kd 120 = 9) (wI_same ((hfr 120 (by decide) 0).1)) gw_279 dX9_init_6 ?_
  refine co_aload_n (pc := 9) 0 rfl dX9_init_9 rfl ?_
  refine co_sipush (pc := 10) dX9_init_10 (ic_s_455) ?_
  refine co_newI (pc := 13) (N := 455) (by decide +kernel : kd 121 = 12) (by decide +kernel : ln 121 = 455) (hfr.up (by decide)) gw_214 (by decide) (by decide) (by decide +kernel) (Nat.le_of_ble_eq_true rfl) (Nat.le_of_ble_eq_true rfl) dX9_init_13 ?_
  show CO w muI_X9 3 1365 (124, [(99, 4), (99, 5), (33, 0), (33, 1), (33, 2), (33, 3), (33, 4), (33, 5), (33, 6), (33, 7), (0, 11), (0, 12), (0, 13), (0, 14), (0, 15), (0, 16)], σ) 122 [(120, 1), (120, 2), (120, 3), (99, 4), (99, 5), (33, 0), (33, 1), (33, 2), (33, 3), (33, 4), (33, 5), (33, 6), (33, 7), (0, 11), (0, 12), (0, 13), (0, 14), (0, 15), (0, 16)] σ 1 455 [(0, .ref (adr w 120))] [.ref (adr w 121), .ref (adr w 120)] 15
  refine co_putrF (pc := 15) (L' := [(120, 2), (120, 3), (99, 4), (99, 5), (33, 0), (33, 1), (33, 2), (33, 3), (33, 4), (33, 5), (33, 6), (33, 7), (0, 11), (0, 12), (0, 13), (0, 14), (0, 15), (0, 16)]) ok_9_1 okq_9_1 rfl rfl (by decide) (by decide +kernel : kd 120 = 9) (by decide +kernel : rf 120 1 = 121) (by rfl) gw_283 dX9_init_15 ?_
  refine co_aload_n (pc := 18) 0 rfl dX9_init_18 rfl ?_
  refine co_sipush (pc := 19) dX9_init_19 (ic_s_455) ?_
  refine co_newL (pc := 22) (N := 455) (by decide +kernel : kd 122 = 13) (by decide +kernel : ln 122 = 455) (hfr.up (by decide)) gw_232 (by decide) (by decide) (by decide +kernel) (Nat.le_of_ble_eq_true rfl) (Nat.le_of_ble_eq_true rfl) dX9_init_22 ?_
  show CO w muI_X9 3 1365 (124, [(99, 4), (99, 5), (33, 0), (33, 1), (33, 2), (33, 3), (33, 4), (33, 5), (33, 6), (33, 7), (0, 11), (0, 12), (0, 13), (0, 14), (0, 15), (0, 16)], σ) 123 [(120, 2), (120, 3), (99, 4), (99, 5), (33, 0), (33, 1), (33, 2), (33, 3), (33, 4), (33, 5), (33, 6), (33, 7), (0, 11), (0, 12), (0, 13), (0, 14), (0, 15), (0, 16)] σ 2 910 [(0, .ref (adr w 120))] [.ref (adr w 122), .ref (adr w 120)] 24
  refine co_putrF (pc := 24) (L' := [(120, 3), (99, 4), (99, 5), (33, 0), (33, 1), (33, 2), (33, 3), (33, 4), (33, 5), (33, 6), (33, 7), (0, 11), (0, 12), (0, 13), (0, 14), (0, 15), (0, 16)]) ok_9_2 okq_9_2 rfl rfl (by decide) (by decide +kernel : kd 120 = 9) (by decide +kernel : rf 120 2 = 122) (by rfl) gw_286 dX9_init_24 ?_
  refine co_aload_n (pc := 27) 0 rfl dX9_init_27 rfl ?_
  refine co_sipush (pc := 28) dX9_init_28 (ic_s_455) ?_
  refine co_newI (pc := 31) (N := 455) (by decide +kernel : kd 123 = 12) (by decide +kernel : ln 123 = 455) (hfr.up (by decide)) gw_214 (by decide) (by decide) (by decide +kernel) (Nat.le_of_ble_eq_true rfl) (Nat.le_of_ble_eq_true rfl) dX9_init_31 ?_
  show CO w muI_X9 3 1365 (124, [(99, 4), (99, 5), (33, 0), (33, 1), (33, 2), (33, 3), (33, 4), (33, 5), (33, 6), (33, 7), (0, 11), (0, 12), (0, 13), (0, 14), (0, 15), (0, 16)], σ) 124 [(120, 3), (99, 4), (99, 5), (33, 0), (33, 1), (33, 2), (33, 3), (33, 4), (33, 5), (33, 6), (33, 7), (0, 11), (0, 12), (0, 13), (0, 14), (0, 15), (0, 16)] σ 3 1365 [(0, .ref (adr w 120))] [.ref (adr w 123), .ref (adr w 120)] 33
  refine co_putrF (pc := 33) (L' := [(99, 4), (99, 5), (33, 0), (33, 1), (33, 2), (33, 3), (33, 4), (33, 5), (33, 6), (33, 7), (0, 11), (0, 12), (0, 13), (0, 14), (0, 15), (0, 16)]) ok_9_3 okq_9_3 rfl rfl (by decide) (by decide +kernel : kd 120 = 9) (by decide +kernel : rf 120 3 = 123) (by rfl) gw_289 dX9_init_33 ?_
  exact co_ret (pc := 36) rfl rfl rfl dX9_init_36 rfl
theorem cI_X9_124 {w : Wd} {σ : Mem} (hfr : Fresh σ 124) : MCC w muI_X9 3 1365 [.ref (adr w 124)] 125 [(124, 1), (124, 2), (124, 3), (99, 5), (33, 0), (33, 1), (33, 2), (33, 3), (33, 4), (33, 5), (33, 6), (33, 7), (0, 11), (0, 12), (0, 13), (0, 14), (0, 15), (0, 16)] σ (128, [(99, 5), (33, 0), (33, 1), (33, 2), (33, 3), (33, 4), (33, 5), (33, 6), (33, 7), (0, 11), (0, 12), (0, 13), (0, 14), (0, 15), (0, 16)], σ) := by
  refine mcc_of (lv := [(0, .ref (adr w 124))]) okI_X9 rfl rfl (Nat.le_of_ble_eq_true rfl) ?_
  refine co_aload_n (pc := 0) 0 rfl dX9_init_0 rfl ?_
  refine co_objInit (pc := 1) gw_278 gw_179 gw_180 (ltb rfl) (Nat.le_of_ble_eq_true rfl) dX9_init_1 ?_
  refine co_aload_n (pc := 4) 0 rfl dX9_init_4 rfl ?_
  refine co_iconst (pc := 5) dX9_init_5 (ic_i_0) ?_
  refine co_putf (pc := 6) (σ' := σ) ok_9_0 okq_9_0 ⟨by rfl, by rfl⟩ (by decide) (by decide +kernel : kd 124 = 9) (wI_same ((hfr 124 (by decide) 0).1)) gw_279 dX9_init_6 ?_
  refine co_aload_n (pc := 9) 0 rfl dX9_init_9 rfl ?_
  refine co_sipush (pc := 10) dX9_init_10 (ic_s_455) ?_
  refine co_newI (pc := 13) (N := 455) (by decide +kernel : kd 125 = 12) (by decide +kernel : ln 125 = 455) (hfr.up (by decide)) gw_214 (by decide) (by decide) (by decide +kernel) (Nat.le_of_ble_eq_true rfl) (Nat.le_of_ble_eq_true rfl) dX9_init_13 ?_
  show CO w muI_X9 3 1365 (128, [(99, 5), (33, 0), (33, 1), (33, 2), (33, 3), (33, 4), (33, 5), (33, 6), (33, 7), (0, 11), (0, 12), (0, 13), (0, 14), (0, 15), (0, 16)], σ) 126 [(124, 1), (124, 2), (124, 3), (99, 5), (33, 0), (33, 1), (33, 2), (33, 3), (33, 4), (33, 5), (33, 6), (33, 7), (0, 11), (0, 12), (0, 13), (0, 14), (0, 15), (0, 16)] σ 1 455 [(0, .ref (adr w 124))] [.ref (adr w 125), .ref (adr w 124)] 15
  refine co_putrF (pc := 15) (L' := [(124, 2), (124, 3), (99, 5), (33, 0), (33, 1), (33, 2), (33, 3), (33, 4), (33, 5), (33, 6), (33, 7), (0, 11), (0, 12), (0, 13), (0, 14), (0, 15), (0, 16)]) ok_9_1 okq_9_1 rfl rfl (by decide) (by decide +kernel : kd 124 = 9) (by decide +kernel : rf 124 1 = 125) (by rfl) gw_283 dX9_init_15 ?_
  refine co_aload_n (pc := 18) 0 rfl dX9_init_18 rfl ?_
  refine co_sipush (pc := 19) dX9_init_19 (ic_s_455) ?_
  refine co_newL (pc := 22) (N := 455) (by decide +kernel : kd 126 = 13) (by decide +kernel : ln 126 = 455) (hfr.up (by decide)) gw_232 (by decide) (by decide) (by decide +kernel) (Nat.le_of_ble_eq_true rfl) (Nat.le_of_ble_eq_true rfl) dX9_init_22 ?_
  show CO w muI_X9 3 1365 (128, [(99, 5), (33, 0), (33, 1), (33, 2), (33, 3), (33, 4), (33, 5), (33, 6), (33, 7), (0, 11), (0, 12), (0, 13), (0, 14), (0, 15), (0, 16)], σ) 127 [(124, 2), (124, 3), (99, 5), (33, 0), (33, 1), (33, 2), (33, 3), (33, 4), (33, 5), (33, 6), (33, 7), (0, 11), (0, 12), (0, 13), (0, 14), (0, 15), (0, 16)] σ 2 910 [(0, .ref (adr w 124))] [.ref (adr w 126), .ref (adr w 124)] 24
  refine co_putrF (pc := 24) (L' := [(124, 3), (99, 5), (33, 0), (33, 1), (33, 2), (33, 3), (33, 4), (33, 5), (33, 6), (33, 7), (0, 11), (0, 12), (0, 13), (0, 14), (0, 15), (0, 16)]) ok_9_2 okq_9_2 rfl rfl (by decide) (by decide +kernel : kd 124 = 9) (by decide +kernel : rf 124 2 = 126) (by rfl) gw_286 dX9_init_24 ?_
  refine co_aload_n (pc := 27) 0 rfl dX9_init_27 rfl ?_
  refine co_sipush (pc := 28) dX9_init_28 (ic_s_455) ?_
  refine co_newI (pc := 31) (N := 455) (by decide +kernel : kd 127 = 12) (by decide +kernel : ln 127 = 455) (hfr.up (by decide)) gw_214 (by decide) (by decide) (by decide +kernel) (Nat.le_of_ble_eq_true rfl) (Nat.le_of_ble_eq_true rfl) dX9_init_31 ?_
  show CO w muI_X9 3 1365 (128, [(99, 5), (33, 0), (33, 1), (33, 2), (33, 3), (33, 4), (33, 5), (33, 6), (33, 7), (0, 11), (0, 12), (0, 13), (0, 14), (0, 15), (0, 16)], σ) 128 [(124, 3), (99, 5), (33, 0), (33, 1), (33, 2), (33, 3), (33, 4), (33, 5), (33, 6), (33, 7), (0, 11), (0, 12), (0, 13), (0, 14), (0, 15), (0, 16)] σ 3 1365 [(0, .ref (adr w 124))] [.ref (adr w 127), .ref (adr w 124)] 33
  refine co_putrF (pc := 33) (L' := [(99, 5), (33, 0), (33, 1), (33, 2), (33, 3), (33, 4), (33, 5), (33, 6), (33, 7), (0, 11), (0, 12), (0, 13), (0, 14), (0, 15), (0, 16)]) ok_9_3 okq_9_3 rfl rfl (by decide) (by decide +kernel : kd 124 = 9) (by decide +kernel : rf 124 3 = 127) (by rfl) gw_289 dX9_init_33 ?_
  exact co_ret (pc := 36) rfl rfl rfl dX9_init_36 rfl
theorem cI_X7_80 {w : Wd} {σ : Mem} (hfr : Fresh σ 80) : MCC w muI_X7 47 8404 [.ref (adr w 80), .ref (adr w 40)] 81 [(80, 1), (80, 2), (80, 3), (80, 4), (80, 5), (80, 6), (80, 7), (80, 0), (33, 0), (33, 1), (33, 2), (33, 3), (33, 4), (33, 5), (33, 6), (33, 7), (0, 11), (0, 12), (0, 13), (0, 14), (0, 15), (0, 16)] σ (128, [(33, 0), (33, 1), (33, 2), (33, 3), (33, 4), (33, 5), (33, 6), (33, 7), (0, 11), (0, 12), (0, 13), (0, 14), (0, 15), (0, 16)], σ) := by
  refine mcc_of (lv := [(0, .ref (adr w 80)), (1, .ref (adr w 40))]) okI_X7 rfl rfl (Nat.le_of_ble_eq_true rfl) ?_
  refine co_aload_n (pc := 0) 0 rfl dX7_init_0 rfl ?_
  refine co_objInit (pc := 1) gw_370 gw_179 gw_180 (ltb rfl) (Nat.le_of_ble_eq_true rfl) dX7_init_1 ?_
  refine co_aload_n (pc := 4) 0 rfl dX7_init_4 rfl ?_
  refine co_new (pc := 5) (R := [(81, 1), (81, 2)]) tyX3 tyX3_ok ws_3 rfl (by decide) (by decide +kernel : kd 81 = 3) (hfr.up (by decide)) gw_371 gw_372 gw_166 (by decide) defI_3 (by decide +kernel) (Nat.le_of_ble_eq_true rfl) (Nat.le_of_ble_eq_true rfl) dX7_init_5 ?_
  show CO w muI_X7 47 8404 (128, [(33, 0), (33, 1), (33, 2), (33, 3), (33, 4), (33, 5), (33, 6), (33, 7), (0, 11), (0, 12), (0, 13), (0, 14), (0, 15), (0, 16)], σ) 82 [(81, 1), (81, 2), (80, 1), (80, 2), (80, 3), (80, 4), (80, 5), (80, 6), (80, 7), (80, 0), (33, 0), (33, 1), (33, 2), (33, 3), (33, 4), (33, 5), (33, 6), (33, 7), (0, 11), (0, 12), (0, 13), (0, 14), (0, 15), (0, 16)] σ 1 3 [(0, .ref (adr w 80)), (1, .ref (adr w 40))] [.ref (adr w 81), .ref (adr w 80)] 8
  refine co_dup (pc := 8) dX7_init_8 rfl ?_
  refine co_callN (pc := 9) (As := []) (cI_X3_81 (hfr.up (by decide))) okI_X3 rfl rfl (ltb rfl) (host := "HallRegisters") (by decide +kernel) gw_374 rfl rfl (Nat.le_of_ble_eq_true rfl) rfl (Nat.le_of_ble_eq_true rfl) (Nat.le_of_ble_eq_true rfl) dX7_init_9 ?_
  show CO w muI_X7 47 8404 (128, [(33, 0), (33, 1), (33, 2), (33, 3), (33, 4), (33, 5), (33, 6), (33, 7), (0, 11), (0, 12), (0, 13), (0, 14), (0, 15), (0, 16)], σ) 90 [(80, 1), (80, 2), (80, 3), (80, 4), (80, 5), (80, 6), (80, 7), (80, 0), (33, 0), (33, 1), (33, 2), (33, 3), (33, 4), (33, 5), (33, 6), (33, 7), (0, 11), (0, 12), (0, 13), (0, 14), (0, 15), (0, 16)] σ 9 51 [(0, .ref (adr w 80)), (1, .ref (adr w 40))] [.ref (adr w 81), .ref (adr w 80)] 12
  refine co_putrF (pc := 12) (L' := [(80, 2), (80, 3), (80, 4), (80, 5), (80, 6), (80, 7), (80, 0), (33, 0), (33, 1), (33, 2), (33, 3), (33, 4), (33, 5), (33, 6), (33, 7), (0, 11), (0, 12), (0, 13), (0, 14), (0, 15), (0, 16)]) ok_7_1 okq_7_1 rfl rfl (by decide) (by decide +kernel : kd 80 = 7) (by decide +kernel : rf 80 1 = 81) (by rfl) gw_392 dX7_init_12 ?_
  refine co_aload_n (pc := 15) 0 rfl dX7_init_15 rfl ?_
  refine co_new (pc := 16) (R := [(90, 1), (90, 2)]) tyX3 tyX3_ok ws_3 rfl (by decide) (by decide +kernel : kd 90 = 3) (hfr.up (by decide)) gw_371 gw_372 gw_166 (by decide) defI_3 (by decide +kernel) (Nat.le_of_ble_eq_true rfl) (Nat.le_of_ble_eq_true rfl) dX7_init_16 ?_
  show CO w muI_X7 47 8404 (128, [(33, 0), (33, 1), (33, 2), (33, 3), (33, 4), (33, 5), (33, 6), (33, 7), (0, 11), (0, 12), (0, 13), (0, 14), (0, 15), (0, 16)], σ) 91 [(90, 1), (90, 2), (80, 2), (80, 3), (80, 4), (80, 5), (80, 6), (80, 7), (80, 0), (33, 0), (33, 1), (33, 2), (33, 3), (33, 4), (33, 5), (33, 6), (33, 7), (0, 11), (0, 12), (0, 13), (0, 14), (0, 15), (0, 16)] σ 10 54 [(0, .ref (adr w 80)), (1, .ref (adr w 40))] [.ref (adr w 90), .ref (adr w 80)] 19
  refine co_dup (pc := 19) dX7_init_19 rfl ?_
  refine co_callN (pc := 20) (As := []) (cI_X3_90 (hfr.up (by decide))) okI_X3 rfl rfl (ltb rfl) (host := "HallRegisters") (by decide +kernel) gw_374 rfl rfl (Nat.le_of_ble_eq_true rfl) rfl (Nat.le_of_ble_eq_true rfl) (Nat.le_of_ble_eq_true rfl) dX7_init_20 ?_
  show CO w muI_X7 47 8404 (128, [(33, 0), (33, 1), (33, 2), (33, 3), (33, 4), (33, 5), (33, 6), (33, 7), (0, 11), (0, 12), (0, 13), (0, 14), (0, 15), (0, 16)], σ) 99 [(80, 2), (80, 3), (80, 4), (80, 5), (80, 6), (80, 7), (80, 0), (33, 0), (33, 1), (33, 2), (33, 3), (33, 4), (33, 5), (33, 6), (33, 7), (0, 11), (0, 12), (0, 13), (0, 14), (0, 15), (0, 16)] σ 18 102 [(0, .ref (adr w 80)), (1, .ref (adr w 40))] [.ref (adr w 90), .ref (adr w 80)] 23
  refine co_putrF (pc := 23) (L' := [(80, 3), (80, 4), (80, 5), (80, 6), (80, 7), (80, 0), (33, 0), (33, 1), (33, 2), (33, 3), (33, 4), (33, 5), (33, 6), (33, 7), (0, 11), (0, 12), (0, 13), (0, 14), (0, 15), (0, 16)]) ok_7_2 okq_7_2 rfl rfl (by decide) (by decide +kernel : kd 80 = 7) (by decide +kernel : rf 80 2 = 90) (by rfl) gw_393 dX7_init_23 ?_
  refine co_aload_n (pc := 26) 0 rfl dX7_init_26 rfl ?_
  refine co_bipush (pc := 27) dX7_init_27 (ic_b_6) ?_
  refine co_anew (pc := 29) (N := 6) (R := [(99, 0), (99, 1), (99, 2), (99, 3), (99, 4), (99, 5)]) (c := 15) (t0 := 3) (by decide) (by decide +kernel : kd 99 = 15) (by decide +kernel : ln 99 = 6) rfl (fun _ h => h.2.2.2.1) (by decide) (by decide) gw_389 (by decide) (by decide) (by decide) (Nat.le_of_ble_eq_true rfl) (Nat.le_of_ble_eq_true rfl) dX7_init_29 ?_
  show CO w muI_X7 47 8404 (128, [(33, 0), (33, 1), (33, 2), (33, 3), (33, 4), (33, 5), (33, 6), (33, 7), (0, 11), (0, 12), (0, 13), (0, 14), (0, 15), (0, 16)], σ) 100 [(99, 0), (99, 1), (99, 2), (99, 3), (99, 4), (99, 5), (80, 3), (80, 4), (80, 5), (80, 6), (80, 7), (80, 0), (33, 0), (33, 1), (33, 2), (33, 3), (33, 4), (33, 5), (33, 6), (33, 7), (0, 11), (0, 12), (0, 13), (0, 14), (0, 15), (0, 16)] σ 19 108 [(0, .ref (adr w 80)), (1, .ref (adr w 40))] [.ref (adr w 99), .ref (adr w 80)] 32
  refine co_putrF (pc := 32) (L' := [(99, 0), (99, 1), (99, 2), (99, 3), (99, 4), (99, 5), (80, 4), (80, 5), (80, 6), (80, 7), (80, 0), (33, 0), (33, 1), (33, 2), (33, 3), (33, 4), (33, 5), (33, 6), (33, 7), (0, 11), (0, 12), (0, 13), (0, 14), (0, 15), (0, 16)]) ok_7_3 okq_7_3 rfl rfl (by decide) (by decide +kernel : kd 80 = 7) (by decide +kernel : rf 80 3 = 99) (by rfl) gw_394 dX7_init_32 ?_
  refine co_aload_n (pc := 35) 0 rfl dX7_init_35 rfl ?_
  refine co_bipush (pc := 36) dX7_init_36 (ic_b_64) ?_
  refine co_newL (pc := 38) (N := 64) (by decide +kernel : kd 100 = 13) (by decide +kernel : ln 100 = 64) (hfr.up (by decide)) gw_232 (by decide) (by decide) (by decide +kernel) (Nat.le_of_ble_eq_true rfl) (Nat.le_of_ble_eq_true rfl) dX7_init_38 ?_
  show CO w muI_X7 47 8404 (128, [(33, 0), (33, 1), (33, 2), (33, 3), (33, 4), (33, 5), (33, 6), (33, 7), (0, 11), (0, 12), (0, 13), (0, 14), (0, 15), (0, 16)], σ) 101 [(99, 0), (99, 1), (99, 2), (99, 3), (99, 4), (99, 5), (80, 4), (80, 5), (80, 6), (80, 7), (80, 0), (33, 0), (33, 1), (33, 2), (33, 3), (33, 4), (33, 5), (33, 6), (33, 7), (0, 11), (0, 12), (0, 13), (0, 14), (0, 15), (0, 16)] σ 20 172 [(0, .ref (adr w 80)), (1, .ref (adr w 40))] [.ref (adr w 100), .ref (adr w 80)] 40
  refine co_putrF (pc := 40) (L' := [(99, 0), (99, 1), (99, 2), (99, 3), (99, 4), (99, 5), (80, 5), (80, 6), (80, 7), (80, 0), (33, 0), (33, 1), (33, 2), (33, 3), (33, 4), (33, 5), (33, 6), (33, 7), (0, 11), (0, 12), (0, 13), (0, 14), (0, 15), (0, 16)]) ok_7_4 okq_7_4 rfl rfl (by decide) (by decide +kernel : kd 80 = 7) (by decide +kernel : rf 80 4 = 100) (by rfl) gw_395 dX7_init_40 ?_
  refine co_aload_n (pc := 43) 0 rfl dX7_init_43 rfl ?_
  refine co_bipush (pc := 44) dX7_init_44 (ic_b_6) ?_
  refine co_newL (pc := 46) (N := 6) (by decide +kernel : kd 101 = 13) (by decide +kernel : ln 101 = 6) (hfr.up (by decide)) gw_232 (by decide) (by decide) (by decide +kernel) (Nat.le_of_ble_eq_true rfl) (Nat.le_of_ble_eq_true rfl) dX7_init_46 ?_
  show CO w muI_X7 47 8404 (128, [(33, 0), (33, 1), (33, 2), (33, 3), (33, 4), (33, 5), (33, 6), (33, 7), (0, 11), (0, 12), (0, 13), (0, 14), (0, 15), (0, 16)], σ) 102 [(99, 0), (99, 1), (99, 2), (99, 3), (99, 4), (99, 5), (80, 5), (80, 6), (80, 7), (80, 0), (33, 0), (33, 1), (33, 2), (33, 3), (33, 4), (33, 5), (33, 6), (33, 7), (0, 11), (0, 12), (0, 13), (0, 14), (0, 15), (0, 16)] σ 21 178 [(0, .ref (adr w 80)), (1, .ref (adr w 40))] [.ref (adr w 101), .ref (adr w 80)] 48
  refine co_putrF (pc := 48) (L' := [(99, 0), (99, 1), (99, 2), (99, 3), (99, 4), (99, 5), (80, 6), (80, 7), (80, 0), (33, 0), (33, 1), (33, 2), (33, 3), (33, 4), (33, 5), (33, 6), (33, 7), (0, 11), (0, 12), (0, 13), (0, 14), (0, 15), (0, 16)]) ok_7_5 okq_7_5 rfl rfl (by decide) (by decide +kernel : kd 80 = 7) (by decide +kernel : rf 80 5 = 101) (by rfl) gw_396 dX7_init_48 ?_
  refine co_aload_n (pc := 51) 0 rfl dX7_init_51 rfl ?_
  refine co_bipush (pc := 52) dX7_init_52 (ic_b_6) ?_
  refine co_newL (pc := 54) (N := 6) (by decide +kernel : kd 102 = 13) (by decide +kernel : ln 102 = 6) (hfr.up (by decide)) gw_232 (by decide) (by decide) (by decide +kernel) (Nat.le_of_ble_eq_true rfl) (Nat.le_of_ble_eq_true rfl) dX7_init_54 ?_
  show CO w muI_X7 47 8404 (128, [(33, 0), (33, 1), (33, 2), (33, 3), (33, 4), (33, 5), (33, 6), (33, 7), (0, 11), (0, 12), (0, 13), (0, 14), (0, 15), (0, 16)], σ) 103 [(99, 0), (99, 1), (99, 2), (99, 3), (99, 4), (99, 5), (80, 6), (80, 7), (80, 0), (33, 0), (33, 1), (33, 2), (33, 3), (33, 4), (33, 5), (33, 6), (33, 7), (0, 11), (0, 12), (0, 13), (0, 14), (0, 15), (0, 16)] σ 22 184 [(0, .ref (adr w 80)), (1, .ref (adr w 40))] [.ref (adr w 102), .ref (adr w 80)] 56
  refine co_putrF (pc := 56) (L' := [(99, 0), (99, 1), (99, 2), (99, 3), (99, 4), (99, 5), (80, 7), (80, 0), (33, 0), (33, 1), (33, 2), (33, 3), (33, 4), (33, 5), (33, 6), (33, 7), (0, 11), (0, 12), (0, 13), (0, 14), (0, 15), (0, 16)]) ok_7_6 okq_7_6 rfl rfl (by decide) (by decide +kernel : kd 80 = 7) (by decide +kernel : rf 80 6 = 102) (by rfl) gw_397 dX7_init_56 ?_
  refine co_aload_n (pc := 59) 0 rfl dX7_init_59 rfl ?_
  refine co_bipush (pc := 60) dX7_init_60 (ic_b_6) ?_
  refine co_newL (pc := 62) (N := 6) (by decide +kernel : kd 103 = 13) (by decide +kernel : ln 103 = 6) (hfr.up (by decide)) gw_232 (by decide) (by decide) (by decide +kernel) (Nat.le_of_ble_eq_true rfl) (Nat.le_of_ble_eq_true rfl) dX7_init_62 ?_
  show CO w muI_X7 47 8404 (128, [(33, 0), (33, 1), (33, 2), (33, 3), (33, 4), (33, 5), (33, 6), (33, 7), (0, 11), (0, 12), (0, 13), (0, 14), (0, 15), (0, 16)], σ) 104 [(99, 0), (99, 1), (99, 2), (99, 3), (99, 4), (99, 5), (80, 7), (80, 0), (33, 0), (33, 1), (33, 2), (33, 3), (33, 4), (33, 5), (33, 6), (33, 7), (0, 11), (0, 12), (0, 13), (0, 14), (0, 15), (0, 16)] σ 23 190 [(0, .ref (adr w 80)), (1, .ref (adr w 40))] [.ref (adr w 103), .ref (adr w 80)] 64
  refine co_putrF (pc := 64) (L' := [(99, 0), (99, 1), (99, 2), (99, 3), (99, 4), (99, 5), (80, 0), (33, 0), (33, 1), (33, 2), (33, 3), (33, 4), (33, 5), (33, 6), (33, 7), (0, 11), (0, 12), (0, 13), (0, 14), (0, 15), (0, 16)]) ok_7_7 okq_7_7 rfl rfl (by decide) (by decide +kernel : kd 80 = 7) (by decide +kernel : rf 80 7 = 103) (by rfl) gw_398 dX7_init_64 ?_
  refine co_aload_n (pc := 67) 0 rfl dX7_init_67 rfl ?_
  refine co_iconst (pc := 68) dX7_init_68 (ic_i_0) ?_
  refine co_putf (pc := 69) (σ' := σ) ok_7_8 okq_7_8 ⟨by rfl, by rfl⟩ (by decide) (by decide +kernel : kd 80 = 7) (wI_same ((hfr 80 (by decide) 8).1)) gw_399 dX7_init_69 ?_
  refine co_aload_n (pc := 72) 0 rfl dX7_init_72 rfl ?_
  refine co_iconst (pc := 73) dX7_init_73 (ic_i_0) ?_
  refine co_putf (pc := 74) (σ' := σ) ok_7_9 okq_7_9 ⟨by rfl, by rfl⟩ (by decide) (by decide +kernel : kd 80 = 7) (wI_same ((hfr 80 (by decide) 9).1)) gw_400 dX7_init_74 ?_
  refine co_aload_n (pc := 77) 0 rfl dX7_init_77 rfl ?_
  refine co_iconst (pc := 78) dX7_init_78 (ic_i_0) ?_
  refine co_putf (pc := 79) (σ' := σ) ok_7_10 okq_7_10 ⟨by rfl, by rfl⟩ (by decide) (by decide +kernel : kd 80 = 7) (wI_same ((hfr 80 (by decide) 10).1)) gw_401 dX7_init_79 ?_
  refine co_aload_n (pc := 82) 0 rfl dX7_init_82 rfl ?_
  refine co_aload_n (pc := 83) 1 rfl dX7_init_83 rfl ?_
  refine co_putrF (pc := 84) (L' := [(99, 0), (99, 1), (99, 2), (99, 3), (99, 4), (99, 5), (33, 0), (33, 1), (33, 2), (33, 3), (33, 4), (33, 5), (33, 6), (33, 7), (0, 11), (0, 12), (0, 13), (0, 14), (0, 15), (0, 16)]) ok_7_0 okq_7_0 rfl rfl (by decide) (by decide +kernel : kd 80 = 7) (by decide +kernel : rf 80 0 = 40) (by rfl) gw_391 dX7_init_84 ?_
  refine co_iconst (pc := 87) dX7_init_87 (ic_i_0) ?_
  refine co_istore_n (pc := 88) (lv' := [(2, .int 0), (0, .ref (adr w 80)), (1, .ref (adr w 40))]) dX7_init_88 rfl (ltb rfl) rfl ?_
  refine co_iload_n (pc := 89) 0 rfl dX7_init_89 rfl ?_
  refine co_bipush (pc := 90) dX7_init_90 (ic_b_6) ?_
  refine co_ge_f (pc := 92) dX7_init_92 (tgt := 114) rfl (by decide) ?_
  refine co_aload_n (pc := 95) 1 rfl dX7_init_95 rfl ?_
  refine co_getr (pc := 96) ok_7_3 (by decide) (by decide +kernel : kd 80 = 7) (by decide) (by decide +kernel : rf 80 3 = 99) gw_394 dX7_init_96 ?_
  refine co_iload_n (pc := 99) 0 rfl dX7_init_99 rfl ?_
  refine co_new (pc := 100) (R := [(104, 1), (104, 2), (104, 3)]) tyX9 tyX9_ok ws_9 rfl (by decide) (by decide +kernel : kd 104 = 9) (hfr.up (by decide)) gw_389 gw_274 gw_163 (by decide) defI_9 (by decide +kernel) (Nat.le_of_ble_eq_true rfl) (Nat.le_of_ble_eq_true rfl) dX7_init_100 ?_
  show CO w muI_X7 47 8404 (128, [(33, 0), (33, 1), (33, 2), (33, 3), (33, 4), (33, 5), (33, 6), (33, 7), (0, 11), (0, 12), (0, 13), (0, 14), (0, 15), (0, 16)], σ) 105 [(104, 1), (104, 2), (104, 3), (99, 0), (99, 1), (99, 2), (99, 3), (99, 4), (99, 5), (33, 0), (33, 1), (33, 2), (33, 3), (33, 4), (33, 5), (33, 6), (33, 7), (0, 11), (0, 12), (0, 13), (0, 14), (0, 15), (0, 16)] σ 24 194 [(2, .int 0), (0, .ref (adr w 80)), (1, .ref (adr w 40))] [.ref (adr w 104), .int 0, .ref (adr w 99)] 103
  refine co_dup (pc := 103) dX7_init_103 rfl ?_
  refine co_callN (pc := 104) (As := []) (cI_X9_104 (hfr.up (by decide))) okI_X9 rfl rfl (ltb rfl) (host := "HallRegisters") (by decide +kernel) gw_276 rfl rfl (Nat.le_of_ble_eq_true rfl) rfl (Nat.le_of_ble_eq_true rfl) (Nat.le_of_ble_eq_true rfl) dX7_init_104 ?_
  show CO w muI_X7 47 8404 (128, [(33, 0), (33, 1), (33, 2), (33, 3), (33, 4), (33, 5), (33, 6), (33, 7), (0, 11), (0, 12), (0, 13), (0, 14), (0, 15), (0, 16)], σ) 108 [(99, 0), (99, 1), (99, 2), (99, 3), (99, 4), (99, 5), (33, 0), (33, 1), (33, 2), (33, 3), (33, 4), (33, 5), (33, 6), (33, 7), (0, 11), (0, 12), (0, 13), (0, 14), (0, 15), (0, 16)] σ 27 1559 [(2, .int 0), (0, .ref (adr w 80)), (1, .ref (adr w 40))] [.ref (adr w 104), .int 0, .ref (adr w 99)] 107
  refine co_aast (pc := 107) (L' := [(99, 1), (99, 2), (99, 3), (99, 4), (99, 5), (33, 0), (33, 1), (33, 2), (33, 3), (33, 4), (33, 5), (33, 6), (33, 7), (0, 11), (0, 12), (0, 13), (0, 14), (0, 15), (0, 16)]) (c := 15) (ci := 9) (j := 0) (t0 := 3) (by decide) (by decide) (by decide +kernel : kd 99 = 15) (by decide) (by decide +kernel : kd 104 = 9) (by decide) rfl rfl (by decide) (by unfold vp_in; decide +kernel) (by decide +kernel : rf 99 0 = 104) (by rfl) dX7_init_107 ?_
  refine co_iinc (pc := 108) (lv' := [(2, .int 1), (0, .ref (adr w 80)), (1, .ref (adr w 40))]) 0 rfl dX7_init_108 (v := 1) (by decide +kernel) (ltb rfl) rfl ?_
  refine co_goto (pc := 111) dX7_init_111 (tgt := 89) rfl ?_
  refine co_iload_n (pc := 89) 0 rfl dX7_init_89 rfl ?_
  refine co_bipush (pc := 90) dX7_init_90 (ic_b_6) ?_
  refine co_ge_f (pc := 92) dX7_init_92 (tgt := 114) rfl (by decide) ?_
  refine co_aload_n (pc := 95) 1 rfl dX7_init_95 rfl ?_
  refine co_getr (pc := 96) ok_7_3 (by decide) (by decide +kernel : kd 80 = 7) (by decide) (by decide +kernel : rf 80 3 = 99) gw_394 dX7_init_96 ?_
  refine co_iload_n (pc := 99) 0 rfl dX7_init_99 rfl ?_
  refine co_new (pc := 100) (R := [(108, 1), (108, 2), (108, 3)]) tyX9 tyX9_ok ws_9 rfl (by decide) (by decide +kernel : kd 108 = 9) (hfr.up (by decide)) gw_389 gw_274 gw_163 (by decide) defI_9 (by decide +kernel) (Nat.le_of_ble_eq_true rfl) (Nat.le_of_ble_eq_true rfl) dX7_init_100 ?_
  show CO w muI_X7 47 8404 (128, [(33, 0), (33, 1), (33, 2), (33, 3), (33, 4), (33, 5), (33, 6), (33, 7), (0, 11), (0, 12), (0, 13), (0, 14), (0, 15), (0, 16)], σ) 109 [(108, 1), (108, 2), (108, 3), (99, 1), (99, 2), (99, 3), (99, 4), (99, 5), (33, 0), (33, 1), (33, 2), (33, 3), (33, 4), (33, 5), (33, 6), (33, 7), (0, 11), (0, 12), (0, 13), (0, 14), (0, 15), (0, 16)] σ 28 1563 [(2, .int 1), (0, .ref (adr w 80)), (1, .ref (adr w 40))] [.ref (adr w 108), .int 1, .ref (adr w 99)] 103
  refine co_dup (pc := 103) dX7_init_103 rfl ?_
  refine co_callN (pc := 104) (As := []) (cI_X9_108 (hfr.up (by decide))) okI_X9 rfl rfl (ltb rfl) (host := "HallRegisters") (by decide +kernel) gw_276 rfl rfl (Nat.le_of_ble_eq_true rfl) rfl (Nat.le_of_ble_eq_true rfl) (Nat.le_of_ble_eq_true rfl) dX7_init_104 ?_
  show CO w muI_X7 47 8404 (128, [(33, 0), (33, 1), (33, 2), (33, 3), (33, 4), (33, 5), (33, 6), (33, 7), (0, 11), (0, 12), (0, 13), (0, 14), (0, 15), (0, 16)], σ) 112 [(99, 1), (99, 2), (99, 3), (99, 4), (99, 5), (33, 0), (33, 1), (33, 2), (33, 3), (33, 4), (33, 5), (33, 6), (33, 7), (0, 11), (0, 12), (0, 13), (0, 14), (0, 15), (0, 16)] σ 31 2928 [(2, .int 1), (0, .ref (adr w 80)), (1, .ref (adr w 40))] [.ref (adr w 108), .int 1, .ref (adr w 99)] 107
  refine co_aast (pc := 107) (L' := [(99, 2), (99, 3), (99, 4), (99, 5), (33, 0), (33, 1), (33, 2), (33, 3), (33, 4), (33, 5), (33, 6), (33, 7), (0, 11), (0, 12), (0, 13), (0, 14), (0, 15), (0, 16)]) (c := 15) (ci := 9) (j := 1) (t0 := 3) (by decide) (by decide) (by decide +kernel : kd 99 = 15) (by decide) (by decide +kernel : kd 108 = 9) (by decide) rfl rfl (by decide) (by unfold vp_in; decide +kernel) (by decide +kernel : rf 99 1 = 108) (by rfl) dX7_init_107 ?_
  refine co_iinc (pc := 108) (lv' := [(2, .int 2), (0, .ref (adr w 80)), (1, .ref (adr w 40))]) 0 rfl dX7_init_108 (v := 2) (by decide +kernel) (ltb rfl) rfl ?_
  refine co_goto (pc := 111) dX7_init_111 (tgt := 89) rfl ?_
  refine co_iload_n (pc := 89) 0 rfl dX7_init_89 rfl ?_
  refine co_bipush (pc := 90) dX7_init_90 (ic_b_6) ?_
  refine co_ge_f (pc := 92) dX7_init_92 (tgt := 114) rfl (by decide) ?_
  refine co_aload_n (pc := 95) 1 rfl dX7_init_95 rfl ?_
  refine co_getr (pc := 96) ok_7_3 (by decide) (by decide +kernel : kd 80 = 7) (by decide) (by decide +kernel : rf 80 3 = 99) gw_394 dX7_init_96 ?_
  refine co_iload_n (pc := 99) 0 rfl dX7_init_99 rfl ?_
  refine co_new (pc := 100) (R := [(112, 1), (112, 2), (112, 3)]) tyX9 tyX9_ok ws_9 rfl (by decide) (by decide +kernel : kd 112 = 9) (hfr.up (by decide)) gw_389 gw_274 gw_163 (by decide) defI_9 (by decide +kernel) (Nat.le_of_ble_eq_true rfl) (Nat.le_of_ble_eq_true rfl) dX7_init_100 ?_
  show CO w muI_X7 47 8404 (128, [(33, 0), (33, 1), (33, 2), (33, 3), (33, 4), (33, 5), (33, 6), (33, 7), (0, 11), (0, 12), (0, 13), (0, 14), (0, 15), (0, 16)], σ) 113 [(112, 1), (112, 2), (112, 3), (99, 2), (99, 3), (99, 4), (99, 5), (33, 0), (33, 1), (33, 2), (33, 3), (33, 4), (33, 5), (33, 6), (33, 7), (0, 11), (0, 12), (0, 13), (0, 14), (0, 15), (0, 16)] σ 32 2932 [(2, .int 2), (0, .ref (adr w 80)), (1, .ref (adr w 40))] [.ref (adr w 112), .int 2, .ref (adr w 99)] 103
  refine co_dup (pc := 103) dX7_init_103 rfl ?_
  refine co_callN (pc := 104) (As := []) (cI_X9_112 (hfr.up (by decide))) okI_X9 rfl rfl (ltb rfl) (host := "HallRegisters") (by decide +kernel) gw_276 rfl rfl (Nat.le_of_ble_eq_true rfl) rfl (Nat.le_of_ble_eq_true rfl) (Nat.le_of_ble_eq_true rfl) dX7_init_104 ?_
  show CO w muI_X7 47 8404 (128, [(33, 0), (33, 1), (33, 2), (33, 3), (33, 4), (33, 5), (33, 6), (33, 7), (0, 11), (0, 12), (0, 13), (0, 14), (0, 15), (0, 16)], σ) 116 [(99, 2), (99, 3), (99, 4), (99, 5), (33, 0), (33, 1), (33, 2), (33, 3), (33, 4), (33, 5), (33, 6), (33, 7), (0, 11), (0, 12), (0, 13), (0, 14), (0, 15), (0, 16)] σ 35 4297 [(2, .int 2), (0, .ref (adr w 80)), (1, .ref (adr w 40))] [.ref (adr w 112), .int 2, .ref (adr w 99)] 107
  refine co_aast (pc := 107) (L' := [(99, 3), (99, 4), (99, 5), (33, 0), (33, 1), (33, 2), (33, 3), (33, 4), (33, 5), (33, 6), (33, 7), (0, 11), (0, 12), (0, 13), (0, 14), (0, 15), (0, 16)]) (c := 15) (ci := 9) (j := 2) (t0 := 3) (by decide) (by decide) (by decide +kernel : kd 99 = 15) (by decide) (by decide +kernel : kd 112 = 9) (by decide) rfl rfl (by decide) (by unfold vp_in; decide +kernel) (by decide +kernel : rf 99 2 = 112) (by rfl) dX7_init_107 ?_
  refine co_iinc (pc := 108) (lv' := [(2, .int 3), (0, .ref (adr w 80)), (1, .ref (adr w 40))]) 0 rfl dX7_init_108 (v := 3) (by decide +kernel) (ltb rfl) rfl ?_
  refine co_goto (pc := 111) dX7_init_111 (tgt := 89) rfl ?_
  refine co_iload_n (pc := 89) 0 rfl dX7_init_89 rfl ?_
  refine co_bipush (pc := 90) dX7_init_90 (ic_b_6) ?_
  refine co_ge_f (pc := 92) dX7_init_92 (tgt := 114) rfl (by decide) ?_
  refine co_aload_n (pc := 95) 1 rfl dX7_init_95 rfl ?_
  refine co_getr (pc := 96) ok_7_3 (by decide) (by decide +kernel : kd 80 = 7) (by decide) (by decide +kernel : rf 80 3 = 99) gw_394 dX7_init_96 ?_
  refine co_iload_n (pc := 99) 0 rfl dX7_init_99 rfl ?_
  refine co_new (pc := 100) (R := [(116, 1), (116, 2), (116, 3)]) tyX9 tyX9_ok ws_9 rfl (by decide) (by decide +kernel : kd 116 = 9) (hfr.up (by decide)) gw_389 gw_274 gw_163 (by decide) defI_9 (by decide +kernel) (Nat.le_of_ble_eq_true rfl) (Nat.le_of_ble_eq_true rfl) dX7_init_100 ?_
  show CO w muI_X7 47 8404 (128, [(33, 0), (33, 1), (33, 2), (33, 3), (33, 4), (33, 5), (33, 6), (33, 7), (0, 11), (0, 12), (0, 13), (0, 14), (0, 15), (0, 16)], σ) 117 [(116, 1), (116, 2), (116, 3), (99, 3), (99, 4), (99, 5), (33, 0), (33, 1), (33, 2), (33, 3), (33, 4), (33, 5), (33, 6), (33, 7), (0, 11), (0, 12), (0, 13), (0, 14), (0, 15), (0, 16)] σ 36 4301 [(2, .int 3), (0, .ref (adr w 80)), (1, .ref (adr w 40))] [.ref (adr w 116), .int 3, .ref (adr w 99)] 103
  refine co_dup (pc := 103) dX7_init_103 rfl ?_
  refine co_callN (pc := 104) (As := []) (cI_X9_116 (hfr.up (by decide))) okI_X9 rfl rfl (ltb rfl) (host := "HallRegisters") (by decide +kernel) gw_276 rfl rfl (Nat.le_of_ble_eq_true rfl) rfl (Nat.le_of_ble_eq_true rfl) (Nat.le_of_ble_eq_true rfl) dX7_init_104 ?_
  show CO w muI_X7 47 8404 (128, [(33, 0), (33, 1), (33, 2), (33, 3), (33, 4), (33, 5), (33, 6), (33, 7), (0, 11), (0, 12), (0, 13), (0, 14), (0, 15), (0, 16)], σ) 120 [(99, 3), (99, 4), (99, 5), (33, 0), (33, 1), (33, 2), (33, 3), (33, 4), (33, 5), (33, 6), (33, 7), (0, 11), (0, 12), (0, 13), (0, 14), (0, 15), (0, 16)] σ 39 5666 [(2, .int 3), (0, .ref (adr w 80)), (1, .ref (adr w 40))] [.ref (adr w 116), .int 3, .ref (adr w 99)] 107
  refine co_aast (pc := 107) (L' := [(99, 4), (99, 5), (33, 0), (33, 1), (33, 2), (33, 3), (33, 4), (33, 5), (33, 6), (33, 7), (0, 11), (0, 12), (0, 13), (0, 14), (0, 15), (0, 16)]) (c := 15) (ci := 9) (j := 3) (t0 := 3) (by decide) (by decide) (by decide +kernel : kd 99 = 15) (by decide) (by decide +kernel : kd 116 = 9) (by decide) rfl rfl (by decide) (by unfold vp_in; decide +kernel) (by decide +kernel : rf 99 3 = 116) (by rfl) dX7_init_107 ?_
  refine co_iinc (pc := 108) (lv' := [(2, .int 4), (0, .ref (adr w 80)), (1, .ref (adr w 40))]) 0 rfl dX7_init_108 (v := 4) (by decide +kernel) (ltb rfl) rfl ?_
  refine co_goto (pc := 111) dX7_init_111 (tgt := 89) rfl ?_
  refine co_iload_n (pc := 89) 0 rfl dX7_init_89 rfl ?_
  refine co_bipush (pc := 90) dX7_init_90 (ic_b_6) ?_
  refine co_ge_f (pc := 92) dX7_init_92 (tgt := 114) rfl (by decide) ?_
  refine co_aload_n (pc := 95) 1 rfl dX7_init_95 rfl ?_
  refine co_getr (pc := 96) ok_7_3 (by decide) (by decide +kernel : kd 80 = 7) (by decide) (by decide +kernel : rf 80 3 = 99) gw_394 dX7_init_96 ?_
  refine co_iload_n (pc := 99) 0 rfl dX7_init_99 rfl ?_
  refine co_new (pc := 100) (R := [(120, 1), (120, 2), (120, 3)]) tyX9 tyX9_ok ws_9 rfl (by decide) (by decide +kernel : kd 120 = 9) (hfr.up (by decide)) gw_389 gw_274 gw_163 (by decide) defI_9 (by decide +kernel) (Nat.le_of_ble_eq_true rfl) (Nat.le_of_ble_eq_true rfl) dX7_init_100 ?_
  show CO w muI_X7 47 8404 (128, [(33, 0), (33, 1), (33, 2), (33, 3), (33, 4), (33, 5), (33, 6), (33, 7), (0, 11), (0, 12), (0, 13), (0, 14), (0, 15), (0, 16)], σ) 121 [(120, 1), (120, 2), (120, 3), (99, 4), (99, 5), (33, 0), (33, 1), (33, 2), (33, 3), (33, 4), (33, 5), (33, 6), (33, 7), (0, 11), (0, 12), (0, 13), (0, 14), (0, 15), (0, 16)] σ 40 5670 [(2, .int 4), (0, .ref (adr w 80)), (1, .ref (adr w 40))] [.ref (adr w 120), .int 4, .ref (adr w 99)] 103
  refine co_dup (pc := 103) dX7_init_103 rfl ?_
  refine co_callN (pc := 104) (As := []) (cI_X9_120 (hfr.up (by decide))) okI_X9 rfl rfl (ltb rfl) (host := "HallRegisters") (by decide +kernel) gw_276 rfl rfl (Nat.le_of_ble_eq_true rfl) rfl (Nat.le_of_ble_eq_true rfl) (Nat.le_of_ble_eq_true rfl) dX7_init_104 ?_
  show CO w muI_X7 47 8404 (128, [(33, 0), (33, 1), (33, 2), (33, 3), (33, 4), (33, 5), (33, 6), (33, 7), (0, 11), (0, 12), (0, 13), (0, 14), (0, 15), (0, 16)], σ) 124 [(99, 4), (99, 5), (33, 0), (33, 1), (33, 2), (33, 3), (33, 4), (33, 5), (33, 6), (33, 7), (0, 11), (0, 12), (0, 13), (0, 14), (0, 15), (0, 16)] σ 43 7035 [(2, .int 4), (0, .ref (adr w 80)), (1, .ref (adr w 40))] [.ref (adr w 120), .int 4, .ref (adr w 99)] 107
  refine co_aast (pc := 107) (L' := [(99, 5), (33, 0), (33, 1), (33, 2), (33, 3), (33, 4), (33, 5), (33, 6), (33, 7), (0, 11), (0, 12), (0, 13), (0, 14), (0, 15), (0, 16)]) (c := 15) (ci := 9) (j := 4) (t0 := 3) (by decide) (by decide) (by decide +kernel : kd 99 = 15) (by decide) (by decide +kernel : kd 120 = 9) (by decide) rfl rfl (by decide) (by unfold vp_in; decide +kernel) (by decide +kernel : rf 99 4 = 120) (by rfl) dX7_init_107 ?_
  refine co_iinc (pc := 108) (lv' := [(2, .int 5), (0, .ref (adr w 80)), (1, .ref (adr w 40))]) 0 rfl dX7_init_108 (v := 5) (by decide +kernel) (ltb rfl) rfl ?_
  refine co_goto (pc := 111) dX7_init_111 (tgt := 89) rfl ?_
  refine co_iload_n (pc := 89) 0 rfl dX7_init_89 rfl ?_
  refine co_bipush (pc := 90) dX7_init_90 (ic_b_6) ?_
  refine co_ge_f (pc := 92) dX7_init_92 (tgt := 114) rfl (by decide) ?_
  refine co_aload_n (pc := 95) 1 rfl dX7_init_95 rfl ?_
  refine co_getr (pc := 96) ok_7_3 (by decide) (by decide +kernel : kd 80 = 7) (by decide) (by decide +kernel : rf 80 3 = 99) gw_394 dX7_init_96 ?_
  refine co_iload_n (pc := 99) 0 rfl dX7_init_99 rfl ?_
  refine co_new (pc := 100) (R := [(124, 1), (124, 2), (124, 3)]) tyX9 tyX9_ok ws_9 rfl (by decide) (by decide +kernel : kd 124 = 9) (hfr.up (by decide)) gw_389 gw_274 gw_163 (by decide) defI_9 (by decide +kernel) (Nat.le_of_ble_eq_true rfl) (Nat.le_of_ble_eq_true rfl) dX7_init_100 ?_
  show CO w muI_X7 47 8404 (128, [(33, 0), (33, 1), (33, 2), (33, 3), (33, 4), (33, 5), (33, 6), (33, 7), (0, 11), (0, 12), (0, 13), (0, 14), (0, 15), (0, 16)], σ) 125 [(124, 1), (124, 2), (124, 3), (99, 5), (33, 0), (33, 1), (33, 2), (33, 3), (33, 4), (33, 5), (33, 6), (33, 7), (0, 11), (0, 12), (0, 13), (0, 14), (0, 15), (0, 16)] σ 44 7039 [(2, .int 5), (0, .ref (adr w 80)), (1, .ref (adr w 40))] [.ref (adr w 124), .int 5, .ref (adr w 99)] 103
  refine co_dup (pc := 103) dX7_init_103 rfl ?_
  refine co_callN (pc := 104) (As := []) (cI_X9_124 (hfr.up (by decide))) okI_X9 rfl rfl (ltb rfl) (host := "HallRegisters") (by decide +kernel) gw_276 rfl rfl (Nat.le_of_ble_eq_true rfl) rfl (Nat.le_of_ble_eq_true rfl) (Nat.le_of_ble_eq_true rfl) dX7_init_104 ?_
  show CO w muI_X7 47 8404 (128, [(33, 0), (33, 1), (33, 2), (33, 3), (33, 4), (33, 5), (33, 6), (33, 7), (0, 11), (0, 12), (0, 13), (0, 14), (0, 15), (0, 16)], σ) 128 [(99, 5), (33, 0), (33, 1), (33, 2), (33, 3), (33, 4), (33, 5), (33, 6), (33, 7), (0, 11), (0, 12), (0, 13), (0, 14), (0, 15), (0, 16)] σ 47 8404 [(2, .int 5), (0, .ref (adr w 80)), (1, .ref (adr w 40))] [.ref (adr w 124), .int 5, .ref (adr w 99)] 107
  refine co_aast (pc := 107) (L' := [(33, 0), (33, 1), (33, 2), (33, 3), (33, 4), (33, 5), (33, 6), (33, 7), (0, 11), (0, 12), (0, 13), (0, 14), (0, 15), (0, 16)]) (c := 15) (ci := 9) (j := 5) (t0 := 3) (by decide) (by decide) (by decide +kernel : kd 99 = 15) (by decide) (by decide +kernel : kd 124 = 9) (by decide) rfl rfl (by decide) (by unfold vp_in; decide +kernel) (by decide +kernel : rf 99 5 = 124) (by rfl) dX7_init_107 ?_
  refine co_iinc (pc := 108) (lv' := [(2, .int 6), (0, .ref (adr w 80)), (1, .ref (adr w 40))]) 0 rfl dX7_init_108 (v := 6) (by decide +kernel) (ltb rfl) rfl ?_
  refine co_goto (pc := 111) dX7_init_111 (tgt := 89) rfl ?_
  refine co_iload_n (pc := 89) 0 rfl dX7_init_89 rfl ?_
  refine co_bipush (pc := 90) dX7_init_90 (ic_b_6) ?_
  refine co_ge_t (pc := 92) dX7_init_92 (tgt := 114) rfl (by decide) ?_
  exact co_ret (pc := 114) rfl rfl rfl dX7_init_114 rfl
theorem cI_X1_128 {w : Wd} {σ : Mem} (hfr : Fresh σ 128) : MCC w muI_X1 6 10125 [.ref (adr w 128), .ref (adr w 40), .ref (adr w 72)] 129 [(128, 3), (128, 4), (128, 5), (128, 7), (128, 8), (128, 9), (128, 0), (128, 1), (33, 0), (33, 1), (33, 2), (33, 3), (33, 4), (33, 5), (33, 6), (33, 7), (0, 12), (0, 13), (0, 14), (0, 15), (0, 16)] σ (135, [(33, 0), (33, 1), (33, 2), (33, 3), (33, 4), (33, 5), (33, 6), (33, 7), (0, 12), (0, 13), (0, 14), (0, 15), (0, 16)], σ) := by
  refine mcc_of (lv := [(0, .ref (adr w 128)), (1, .ref (adr w 40)), (2, .ref (adr w 72))]) okI_X1 rfl rfl (Nat.le_of_ble_eq_true rfl) ?_
  refine co_aload_n (pc := 0) 0 rfl dX1_init_0 rfl ?_
  refine co_objInit (pc := 1) gw_430 gw_179 gw_180 (ltb rfl) (Nat.le_of_ble_eq_true rfl) dX1_init_1 ?_
  refine co_aload_n (pc := 4) 0 rfl dX1_init_4 rfl ?_
  refine co_iconst (pc := 5) dX1_init_5 (ic_i_0) ?_
  refine co_putf (pc := 6) (σ' := σ) ok_1_2 okq_1_2 ⟨by rfl, by rfl⟩ (by decide) (by decide +kernel : kd 128 = 1) (wI_same ((hfr 128 (by decide) 2).1)) gw_433 dX1_init_6 ?_
  refine co_aload_n (pc := 9) 0 rfl dX1_init_9 rfl ?_
  refine co_iconst (pc := 10) dX1_init_10 (ic_i_5) ?_
  refine co_newI (pc := 11) (N := 5) (by decide +kernel : kd 129 = 12) (by decide +kernel : ln 129 = 5) (hfr.up (by decide)) gw_214 (by decide) (by decide) (by decide +kernel) (Nat.le_of_ble_eq_true rfl) (Nat.le_of_ble_eq_true rfl) dX1_init_11 ?_
  show CO w muI_X1 6 10125 (135, [(33, 0), (33, 1), (33, 2), (33, 3), (33, 4), (33, 5), (33, 6), (33, 7), (0, 12), (0, 13), (0, 14), (0, 15), (0, 16)], σ) 130 [(128, 3), (128, 4), (128, 5), (128, 7), (128, 8), (128, 9), (128, 0), (128, 1), (33, 0), (33, 1), (33, 2), (33, 3), (33, 4), (33, 5), (33, 6), (33, 7), (0, 12), (0, 13), (0, 14), (0, 15), (0, 16)] σ 1 5 [(0, .ref (adr w 128)), (1, .ref (adr w 40)), (2, .ref (adr w 72))] [.ref (adr w 129), .ref (adr w 128)] 13
  refine co_putrF (pc := 13) (L' := [(128, 4), (128, 5), (128, 7), (128, 8), (128, 9), (128, 0), (128, 1), (33, 0), (33, 1), (33, 2), (33, 3), (33, 4), (33, 5), (33, 6), (33, 7), (0, 12), (0, 13), (0, 14), (0, 15), (0, 16)]) ok_1_3 okq_1_3 rfl rfl (by decide) (by decide +kernel : kd 128 = 1) (by decide +kernel : rf 128 3 = 129) (by rfl) gw_434 dX1_init_13 ?_
  refine co_aload_n (pc := 16) 0 rfl dX1_init_16 rfl ?_
  refine co_sipush (pc := 17) dX1_init_17 (ic_s_6006) ?_
  refine co_newL (pc := 20) (N := 6006) (by decide +kernel : kd 130 = 13) (by decide +kernel : ln 130 = 6006) (hfr.up (by decide)) gw_232 (by decide) (by decide) (by decide +kernel) (Nat.le_of_ble_eq_true rfl) (Nat.le_of_ble_eq_true rfl) dX1_init_20 ?_
  show CO w muI_X1 6 10125 (135, [(33, 0), (33, 1), (33, 2), (33, 3), (33, 4), (33, 5), (33, 6), (33, 7), (0, 12), (0, 13), (0, 14), (0, 15), (0, 16)], σ) 131 [(128, 4), (128, 5), (128, 7), (128, 8), (128, 9), (128, 0), (128, 1), (33, 0), (33, 1), (33, 2), (33, 3), (33, 4), (33, 5), (33, 6), (33, 7), (0, 12), (0, 13), (0, 14), (0, 15), (0, 16)] σ 2 6011 [(0, .ref (adr w 128)), (1, .ref (adr w 40)), (2, .ref (adr w 72))] [.ref (adr w 130), .ref (adr w 128)] 22
  refine co_putrF (pc := 22) (L' := [(128, 5), (128, 7), (128, 8), (128, 9), (128, 0), (128, 1), (33, 0), (33, 1), (33, 2), (33, 3), (33, 4), (33, 5), (33, 6), (33, 7), (0, 12), (0, 13), (0, 14), (0, 15), (0, 16)]) ok_1_4 okq_1_4 rfl rfl (by decide) (by decide +kernel : kd 128 = 1) (by decide +kernel : rf 128 4 = 130) (by rfl) gw_435 dX1_init_22 ?_
  refine co_aload_n (pc := 25) 0 rfl dX1_init_25 rfl ?_
  refine co_sipush (pc := 26) dX1_init_26 (ic_s_4096) ?_
  refine co_newI (pc := 29) (N := 4096) (by decide +kernel : kd 131 = 12) (by decide +kernel : ln 131 = 4096) (hfr.up (by decide)) gw_214 (by decide) (by decide) (by decide +kernel) (Nat.le_of_ble_eq_true rfl) (Nat.le_of_ble_eq_true rfl) dX1_init_29 ?_
  show CO w muI_X1 6 10125 (135, [(33, 0), (33, 1), (33, 2), (33, 3), (33, 4), (33, 5), (33, 6), (33, 7), (0, 12), (0, 13), (0, 14), (0, 15), (0, 16)], σ) 132 [(128, 5), (128, 7), (128, 8), (128, 9), (128, 0), (128, 1), (33, 0), (33, 1), (33, 2), (33, 3), (33, 4), (33, 5), (33, 6), (33, 7), (0, 12), (0, 13), (0, 14), (0, 15), (0, 16)] σ 3 10107 [(0, .ref (adr w 128)), (1, .ref (adr w 40)), (2, .ref (adr w 72))] [.ref (adr w 131), .ref (adr w 128)] 31
  refine co_putrF (pc := 31) (L' := [(128, 7), (128, 8), (128, 9), (128, 0), (128, 1), (33, 0), (33, 1), (33, 2), (33, 3), (33, 4), (33, 5), (33, 6), (33, 7), (0, 12), (0, 13), (0, 14), (0, 15), (0, 16)]) ok_1_5 okq_1_5 rfl rfl (by decide) (by decide +kernel : kd 128 = 1) (by decide +kernel : rf 128 5 = 131) (by rfl) gw_436 dX1_init_31 ?_
  refine co_aload_n (pc := 34) 0 rfl dX1_init_34 rfl ?_
  refine co_iconst (pc := 35) dX1_init_35 (ic_i_0) ?_
  refine co_putf (pc := 36) (σ' := σ) ok_1_6 okq_1_6 ⟨by rfl, by rfl⟩ (by decide) (by decide +kernel : kd 128 = 1) (wI_same ((hfr 128 (by decide) 6).1)) gw_437 dX1_init_36 ?_
  refine co_aload_n (pc := 39) 0 rfl dX1_init_39 rfl ?_
  refine co_bipush (pc := 40) dX1_init_40 (ic_b_6) ?_
  refine co_newL (pc := 42) (N := 6) (by decide +kernel : kd 132 = 13) (by decide +kernel : ln 132 = 6) (hfr.up (by decide)) gw_232 (by decide) (by decide) (by decide +kernel) (Nat.le_of_ble_eq_true rfl) (Nat.le_of_ble_eq_true rfl) dX1_init_42 ?_
  show CO w muI_X1 6 10125 (135, [(33, 0), (33, 1), (33, 2), (33, 3), (33, 4), (33, 5), (33, 6), (33, 7), (0, 12), (0, 13), (0, 14), (0, 15), (0, 16)], σ) 133 [(128, 7), (128, 8), (128, 9), (128, 0), (128, 1), (33, 0), (33, 1), (33, 2), (33, 3), (33, 4), (33, 5), (33, 6), (33, 7), (0, 12), (0, 13), (0, 14), (0, 15), (0, 16)] σ 4 10113 [(0, .ref (adr w 128)), (1, .ref (adr w 40)), (2, .ref (adr w 72))] [.ref (adr w 132), .ref (adr w 128)] 44
  refine co_putrF (pc := 44) (L' := [(128, 8), (128, 9), (128, 0), (128, 1), (33, 0), (33, 1), (33, 2), (33, 3), (33, 4), (33, 5), (33, 6), (33, 7), (0, 12), (0, 13), (0, 14), (0, 15), (0, 16)]) ok_1_7 okq_1_7 rfl rfl (by decide) (by decide +kernel : kd 128 = 1) (by decide +kernel : rf 128 7 = 132) (by rfl) gw_438 dX1_init_44 ?_
  refine co_aload_n (pc := 47) 0 rfl dX1_init_47 rfl ?_
  refine co_bipush (pc := 48) dX1_init_48 (ic_b_6) ?_
  refine co_newL (pc := 50) (N := 6) (by decide +kernel : kd 133 = 13) (by decide +kernel : ln 133 = 6) (hfr.up (by decide)) gw_232 (by decide) (by decide) (by decide +kernel) (Nat.le_of_ble_eq_true rfl) (Nat.le_of_ble_eq_true rfl) dX1_init_50 ?_
  show CO w muI_X1 6 10125 (135, [(33, 0), (33, 1), (33, 2), (33, 3), (33, 4), (33, 5), (33, 6), (33, 7), (0, 12), (0, 13), (0, 14), (0, 15), (0, 16)], σ) 134 [(128, 8), (128, 9), (128, 0), (128, 1), (33, 0), (33, 1), (33, 2), (33, 3), (33, 4), (33, 5), (33, 6), (33, 7), (0, 12), (0, 13), (0, 14), (0, 15), (0, 16)] σ 5 10119 [(0, .ref (adr w 128)), (1, .ref (adr w 40)), (2, .ref (adr w 72))] [.ref (adr w 133), .ref (adr w 128)] 52
  refine co_putrF (pc := 52) (L' := [(128, 9), (128, 0), (128, 1), (33, 0), (33, 1), (33, 2), (33, 3), (33, 4), (33, 5), (33, 6), (33, 7), (0, 12), (0, 13), (0, 14), (0, 15), (0, 16)]) ok_1_8 okq_1_8 rfl rfl (by decide) (by decide +kernel : kd 128 = 1) (by decide +kernel : rf 128 8 = 133) (by rfl) gw_439 dX1_init_52 ?_
  refine co_aload_n (pc := 55) 0 rfl dX1_init_55 rfl ?_
  refine co_bipush (pc := 56) dX1_init_56 (ic_b_6) ?_
  refine co_newL (pc := 58) (N := 6) (by decide +kernel : kd 134 = 13) (by decide +kernel : ln 134 = 6) (hfr.up (by decide)) gw_232 (by decide) (by decide) (by decide +kernel) (Nat.le_of_ble_eq_true rfl) (Nat.le_of_ble_eq_true rfl) dX1_init_58 ?_
  show CO w muI_X1 6 10125 (135, [(33, 0), (33, 1), (33, 2), (33, 3), (33, 4), (33, 5), (33, 6), (33, 7), (0, 12), (0, 13), (0, 14), (0, 15), (0, 16)], σ) 135 [(128, 9), (128, 0), (128, 1), (33, 0), (33, 1), (33, 2), (33, 3), (33, 4), (33, 5), (33, 6), (33, 7), (0, 12), (0, 13), (0, 14), (0, 15), (0, 16)] σ 6 10125 [(0, .ref (adr w 128)), (1, .ref (adr w 40)), (2, .ref (adr w 72))] [.ref (adr w 134), .ref (adr w 128)] 60
  refine co_putrF (pc := 60) (L' := [(128, 0), (128, 1), (33, 0), (33, 1), (33, 2), (33, 3), (33, 4), (33, 5), (33, 6), (33, 7), (0, 12), (0, 13), (0, 14), (0, 15), (0, 16)]) ok_1_9 okq_1_9 rfl rfl (by decide) (by decide +kernel : kd 128 = 1) (by decide +kernel : rf 128 9 = 134) (by rfl) gw_440 dX1_init_60 ?_
  refine co_aload_n (pc := 63) 0 rfl dX1_init_63 rfl ?_
  refine co_aload_n (pc := 64) 1 rfl dX1_init_64 rfl ?_
  refine co_putrF (pc := 65) (L' := [(128, 1), (33, 0), (33, 1), (33, 2), (33, 3), (33, 4), (33, 5), (33, 6), (33, 7), (0, 12), (0, 13), (0, 14), (0, 15), (0, 16)]) ok_1_0 okq_1_0 rfl rfl (by decide) (by decide +kernel : kd 128 = 1) (by decide +kernel : rf 128 0 = 40) (by rfl) gw_431 dX1_init_65 ?_
  refine co_aload_n (pc := 68) 0 rfl dX1_init_68 rfl ?_
  refine co_aload_n (pc := 69) 2 rfl dX1_init_69 rfl ?_
  refine co_putrF (pc := 70) (L' := [(33, 0), (33, 1), (33, 2), (33, 3), (33, 4), (33, 5), (33, 6), (33, 7), (0, 12), (0, 13), (0, 14), (0, 15), (0, 16)]) ok_1_1 okq_1_1 rfl rfl (by decide) (by decide +kernel : kd 128 = 1) (by decide +kernel : rf 128 1 = 72) (by rfl) gw_432 dX1_init_70 ?_
  exact co_ret (pc := 73) rfl rfl rfl dX1_init_73 rfl
theorem cI_X3_135 {w : Wd} {σ : Mem} (hfr : Fresh σ 135) : MCC w muI_X3 8 48 [.ref (adr w 135)] 136 [(135, 1), (135, 2), (33, 0), (33, 1), (33, 2), (33, 3), (33, 4), (33, 5), (33, 6), (33, 7), (0, 13), (0, 14), (0, 15), (0, 16)] σ (144, [(33, 0), (33, 1), (33, 2), (33, 3), (33, 4), (33, 5), (33, 6), (33, 7), (0, 13), (0, 14), (0, 15), (0, 16)], σ) := by
  refine mcc_of (lv := [(0, .ref (adr w 135))]) okI_X3 rfl rfl (Nat.le_of_ble_eq_true rfl) ?_
  refine co_aload_n (pc := 0) 0 rfl dX3_init_0 rfl ?_
  refine co_objInit (pc := 1) gw_376 gw_179 gw_180 (ltb rfl) (Nat.le_of_ble_eq_true rfl) dX3_init_1 ?_
  refine co_aload_n (pc := 4) 0 rfl dX3_init_4 rfl ?_
  refine co_iconst (pc := 5) dX3_init_5 (ic_i_0) ?_
  refine co_putf (pc := 6) (σ' := σ) ok_3_0 okq_3_0 ⟨by rfl, by rfl⟩ (by decide) (by decide +kernel : kd 135 = 3) (wI_same ((hfr 135 (by decide) 0).1)) gw_378 dX3_init_6 ?_
  refine co_aload_n (pc := 9) 0 rfl dX3_init_9 rfl ?_
  refine co_bipush (pc := 10) dX3_init_10 (ic_b_6) ?_
  refine co_bipush (pc := 12) dX3_init_12 (ic_b_6) ?_
  refine co_mna (pc := 14) (N := 6) (M := 6) (by decide +kernel : kd 136 = 16) (by decide +kernel : ln 136 = 6) (by decide +kernel) (hfr.up (by decide)) (by decide) gw_377 gw_232 (by decide) (by decide) (by decide) (by decide) (by decide +kernel) (by decide +kernel) (by decide +kernel) (Nat.le_of_ble_eq_true rfl) (Nat.le_of_ble_eq_true rfl) dX3_init_14 ?_
  show CO w muI_X3 8 48 (144, [(33, 0), (33, 1), (33, 2), (33, 3), (33, 4), (33, 5), (33, 6), (33, 7), (0, 13), (0, 14), (0, 15), (0, 16)], σ) 143 [(135, 1), (135, 2), (33, 0), (33, 1), (33, 2), (33, 3), (33, 4), (33, 5), (33, 6), (33, 7), (0, 13), (0, 14), (0, 15), (0, 16)] σ 7 42 [(0, .ref (adr w 135))] [.ref (adr w 136), .ref (adr w 135)] 18
  refine co_putrF (pc := 18) (L' := [(135, 2), (33, 0), (33, 1), (33, 2), (33, 3), (33, 4), (33, 5), (33, 6), (33, 7), (0, 13), (0, 14), (0, 15), (0, 16)]) ok_3_1 okq_3_1 rfl rfl (by decide) (by decide +kernel : kd 135 = 3) (by decide +kernel : rf 135 1 = 136) (by rfl) gw_379 dX3_init_18 ?_
  refine co_aload_n (pc := 21) 0 rfl dX3_init_21 rfl ?_
  refine co_bipush (pc := 22) dX3_init_22 (ic_b_6) ?_
  refine co_newL (pc := 24) (N := 6) (by decide +kernel : kd 143 = 13) (by decide +kernel : ln 143 = 6) (hfr.up (by decide)) gw_232 (by decide) (by decide) (by decide +kernel) (Nat.le_of_ble_eq_true rfl) (Nat.le_of_ble_eq_true rfl) dX3_init_24 ?_
  show CO w muI_X3 8 48 (144, [(33, 0), (33, 1), (33, 2), (33, 3), (33, 4), (33, 5), (33, 6), (33, 7), (0, 13), (0, 14), (0, 15), (0, 16)], σ) 144 [(135, 2), (33, 0), (33, 1), (33, 2), (33, 3), (33, 4), (33, 5), (33, 6), (33, 7), (0, 13), (0, 14), (0, 15), (0, 16)] σ 8 48 [(0, .ref (adr w 135))] [.ref (adr w 143), .ref (adr w 135)] 26
  refine co_putrF (pc := 26) (L' := [(33, 0), (33, 1), (33, 2), (33, 3), (33, 4), (33, 5), (33, 6), (33, 7), (0, 13), (0, 14), (0, 15), (0, 16)]) ok_3_2 okq_3_2 rfl rfl (by decide) (by decide +kernel : kd 135 = 3) (by decide +kernel : rf 135 2 = 143) (by rfl) gw_381 dX3_init_26 ?_
  exact co_ret (pc := 29) rfl rfl rfl dX3_init_29 rfl
theorem cI_X5_144 {w : Wd} {σ : Mem} (hfr : Fresh σ 144) : MCC w muI_X5 31 389 [.ref (adr w 144), .ref (adr w 1), .ref (adr w 72)] 145 [(144, 2), (144, 3), (144, 4), (144, 7), (144, 5), (144, 6), (33, 0), (33, 1), (33, 2), (33, 3), (33, 4), (33, 5), (33, 6), (33, 7), (0, 14), (0, 15), (0, 16)] σ (176, [(33, 0), (33, 1), (33, 2), (33, 3), (33, 4), (33, 5), (33, 6), (33, 7), (0, 14), (0, 15), (0, 16)], wI σ 144 1 (-1)) := by
  refine mcc_of (lv := [(0, .ref (adr w 144)), (1, .ref (adr w 1)), (2, .ref (adr w 72))]) okI_X5 rfl rfl (Nat.le_of_ble_eq_true rfl) ?_
  refine co_aload_n (pc := 0) 0 rfl dX5_init_0 rfl ?_
  refine co_objInit (pc := 1) gw_469 gw_179 gw_180 (ltb rfl) (Nat.le_of_ble_eq_true rfl) dX5_init_1 ?_
  refine co_aload_n (pc := 4) 0 rfl dX5_init_4 rfl ?_
  refine co_iconst (pc := 5) dX5_init_5 (ic_i_0) ?_
  refine co_putf (pc := 6) (σ' := σ) ok_5_0 okq_5_0 ⟨by rfl, by rfl⟩ (by decide) (by decide +kernel : kd 144 = 5) (wI_same ((hfr 144 (by decide) 0).1)) gw_471 dX5_init_6 ?_
  refine co_aload_n (pc := 9) 0 rfl dX5_init_9 rfl ?_
  refine co_iconst (pc := 10) dX5_init_10 (ic_i_m1) ?_
  refine co_putf (pc := 11) (σ' := wI σ 144 1 (-1)) ok_5_1 okq_5_1 ⟨by rfl, by rfl⟩ (by decide) (by decide +kernel : kd 144 = 5) rfl gw_473 dX5_init_11 ?_
  refine co_aload_n (pc := 14) 0 rfl dX5_init_14 rfl ?_
  refine co_bipush (pc := 15) dX5_init_15 (ic_b_9) ?_
  refine co_bipush (pc := 17) dX5_init_17 (ic_b_6) ?_
  refine co_mna (pc := 19) (N := 9) (M := 6) (by decide +kernel : kd 145 = 16) (by decide +kernel : ln 145 = 9) (by decide +kernel) (fresh_wI (hfr.up (by decide)) (by decide)) (by decide) gw_470 gw_232 (by decide) (by decide) (by decide) (by decide) (by decide +kernel) (by decide +kernel) (by decide +kernel) (Nat.le_of_ble_eq_true rfl) (Nat.le_of_ble_eq_true rfl) dX5_init_19 ?_
  show CO w muI_X5 31 389 (176, [(33, 0), (33, 1), (33, 2), (33, 3), (33, 4), (33, 5), (33, 6), (33, 7), (0, 14), (0, 15), (0, 16)], wI σ 144 1 (-1)) 155 [(144, 2), (144, 3), (144, 4), (144, 7), (144, 5), (144, 6), (33, 0), (33, 1), (33, 2), (33, 3), (33, 4), (33, 5), (33, 6), (33, 7), (0, 14), (0, 15), (0, 16)] (wI σ 144 1 (-1)) 10 63 [(0, .ref (adr w 144)), (1, .ref (adr w 1)), (2, .ref (adr w 72))] [.ref (adr w 145), .ref (adr w 144)] 23
  refine co_putrF (pc := 23) (L' := [(144, 3), (144, 4), (144, 7), (144, 5), (144, 6), (33, 0), (33, 1), (33, 2), (33, 3), (33, 4), (33, 5), (33, 6), (33, 7), (0, 14), (0, 15), (0, 16)]) ok_5_2 okq_5_2 rfl rfl (by decide) (by decide +kernel : kd 144 = 5) (by decide +kernel : rf 144 2 = 145) (by rfl) gw_475 dX5_init_23 ?_
  refine co_aload_n (pc := 26) 0 rfl dX5_init_26 rfl ?_
  refine co_bipush (pc := 27) dX5_init_27 (ic_b_9) ?_
  refine co_bipush (pc := 29) dX5_init_29 (ic_b_6) ?_
  refine co_mna (pc := 31) (N := 9) (M := 6) (by decide +kernel : kd 155 = 16) (by decide +kernel : ln 155 = 9) (by decide +kernel) (fresh_wI (hfr.up (by decide)) (by decide)) (by decide) gw_470 gw_232 (by decide) (by decide) (by decide) (by decide) (by decide +kernel) (by decide +kernel) (by decide +kernel) (Nat.le_of_ble_eq_true rfl) (Nat.le_of_ble_eq_true rfl) dX5_init_31 ?_
  show CO w muI_X5 31 389 (176, [(33, 0), (33, 1), (33, 2), (33, 3), (33, 4), (33, 5), (33, 6), (33, 7), (0, 14), (0, 15), (0, 16)], wI σ 144 1 (-1)) 165 [(144, 3), (144, 4), (144, 7), (144, 5), (144, 6), (33, 0), (33, 1), (33, 2), (33, 3), (33, 4), (33, 5), (33, 6), (33, 7), (0, 14), (0, 15), (0, 16)] (wI σ 144 1 (-1)) 20 126 [(0, .ref (adr w 144)), (1, .ref (adr w 1)), (2, .ref (adr w 72))] [.ref (adr w 155), .ref (adr w 144)] 35
  refine co_putrF (pc := 35) (L' := [(144, 4), (144, 7), (144, 5), (144, 6), (33, 0), (33, 1), (33, 2), (33, 3), (33, 4), (33, 5), (33, 6), (33, 7), (0, 14), (0, 15), (0, 16)]) ok_5_3 okq_5_3 rfl rfl (by decide) (by decide +kernel : kd 144 = 5) (by decide +kernel : rf 144 3 = 155) (by rfl) gw_477 dX5_init_35 ?_
  refine co_aload_n (pc := 38) 0 rfl dX5_init_38 rfl ?_
  refine co_bipush (pc := 39) dX5_init_39 (ic_b_9) ?_
  refine co_bipush (pc := 41) dX5_init_41 (ic_b_6) ?_
  refine co_mna (pc := 43) (N := 9) (M := 6) (by decide +kernel : kd 165 = 16) (by decide +kernel : ln 165 = 9) (by decide +kernel) (fresh_wI (hfr.up (by decide)) (by decide)) (by decide) gw_470 gw_232 (by decide) (by decide) (by decide) (by decide) (by decide +kernel) (by decide +kernel) (by decide +kernel) (Nat.le_of_ble_eq_true rfl) (Nat.le_of_ble_eq_true rfl) dX5_init_43 ?_
  show CO w muI_X5 31 389 (176, [(33, 0), (33, 1), (33, 2), (33, 3), (33, 4), (33, 5), (33, 6), (33, 7), (0, 14), (0, 15), (0, 16)], wI σ 144 1 (-1)) 175 [(144, 4), (144, 7), (144, 5), (144, 6), (33, 0), (33, 1), (33, 2), (33, 3), (33, 4), (33, 5), (33, 6), (33, 7), (0, 14), (0, 15), (0, 16)] (wI σ 144 1 (-1)) 30 189 [(0, .ref (adr w 144)), (1, .ref (adr w 1)), (2, .ref (adr w 72))] [.ref (adr w 165), .ref (adr w 144)] 47
  refine co_putrF (pc := 47) (L' := [(144, 7), (144, 5), (144, 6), (33, 0), (33, 1), (33, 2), (33, 3), (33, 4), (33, 5), (33, 6), (33, 7), (0, 14), (0, 15), (0, 16)]) ok_5_4 okq_5_4 rfl rfl (by decide) (by decide +kernel : kd 144 = 5) (by decide +kernel : rf 144 4 = 165) (by rfl) gw_478 dX5_init_47 ?_
  refine co_aload_n (pc := 50) 0 rfl dX5_init_50 rfl ?_
  refine co_sipush (pc := 51) dX5_init_51 (ic_s_200) ?_
  refine co_newI (pc := 54) (N := 200) (by decide +kernel : kd 175 = 12) (by decide +kernel : ln 175 = 200) (fresh_wI (hfr.up (by decide)) (by decide)) gw_214 (by decide) (by decide) (by decide +kernel) (Nat.le_of_ble_eq_true rfl) (Nat.le_of_ble_eq_true rfl) dX5_init_54 ?_
  show CO w muI_X5 31 389 (176, [(33, 0), (33, 1), (33, 2), (33, 3), (33, 4), (33, 5), (33, 6), (33, 7), (0, 14), (0, 15), (0, 16)], wI σ 144 1 (-1)) 176 [(144, 7), (144, 5), (144, 6), (33, 0), (33, 1), (33, 2), (33, 3), (33, 4), (33, 5), (33, 6), (33, 7), (0, 14), (0, 15), (0, 16)] (wI σ 144 1 (-1)) 31 389 [(0, .ref (adr w 144)), (1, .ref (adr w 1)), (2, .ref (adr w 72))] [.ref (adr w 175), .ref (adr w 144)] 56
  refine co_putrF (pc := 56) (L' := [(144, 5), (144, 6), (33, 0), (33, 1), (33, 2), (33, 3), (33, 4), (33, 5), (33, 6), (33, 7), (0, 14), (0, 15), (0, 16)]) ok_5_7 okq_5_7 rfl rfl (by decide) (by decide +kernel : kd 144 = 5) (by decide +kernel : rf 144 7 = 175) (by rfl) gw_481 dX5_init_56 ?_
  refine co_aload_n (pc := 59) 0 rfl dX5_init_59 rfl ?_
  refine co_iconst (pc := 60) dX5_init_60 (ic_i_0) ?_
  refine co_putf (pc := 61) (σ' := wI σ 144 1 (-1)) ok_5_8 okq_5_8 ⟨by rfl, by rfl⟩ (by decide) (by decide +kernel : kd 144 = 5) (wI_same (by simp [wI]; exact (hfr 144 (by decide) 8).1)) gw_482 dX5_init_61 ?_
  refine co_aload_n (pc := 64) 0 rfl dX5_init_64 rfl ?_
  refine co_iconst (pc := 65) dX5_init_65 (ic_i_0) ?_
  refine co_putf (pc := 66) (σ' := wI σ 144 1 (-1)) ok_5_9 okq_5_9 ⟨by rfl, by rfl⟩ (by decide) (by decide +kernel : kd 144 = 5) (wI_same (by simp [wI]; exact (hfr 144 (by decide) 9).1)) gw_483 dX5_init_66 ?_
  refine co_aload_n (pc := 69) 0 rfl dX5_init_69 rfl ?_
  refine co_iconst (pc := 70) dX5_init_70 (ic_i_0) ?_
  refine co_putf (pc := 71) (σ' := wI σ 144 1 (-1)) ok_5_10 okq_5_10 ⟨by rfl, by rfl⟩ (by decide) (by decide +kernel : kd 144 = 5) (wI_same (by simp [wI]; exact (hfr 144 (by decide) 10).1)) gw_484 dX5_init_71 ?_
  refine co_aload_n (pc := 74) 0 rfl dX5_init_74 rfl ?_
  refine co_aload_n (pc := 75) 1 rfl dX5_init_75 rfl ?_
  refine co_putrF (pc := 76) (L' := [(144, 6), (33, 0), (33, 1), (33, 2), (33, 3), (33, 4), (33, 5), (33, 6), (33, 7), (0, 14), (0, 15), (0, 16)]) ok_5_5 okq_5_5 rfl rfl (by decide) (by decide +kernel : kd 144 = 5) (by decide +kernel : rf 144 5 = 1) (by rfl) gw_479 dX5_init_76 ?_
  refine co_aload_n (pc := 79) 0 rfl dX5_init_79 rfl ?_
  refine co_aload_n (pc := 80) 2 rfl dX5_init_80 rfl ?_
  refine co_putrF (pc := 81) (L' := [(33, 0), (33, 1), (33, 2), (33, 3), (33, 4), (33, 5), (33, 6), (33, 7), (0, 14), (0, 15), (0, 16)]) ok_5_6 okq_5_6 rfl rfl (by decide) (by decide +kernel : kd 144 = 5) (by decide +kernel : rf 144 6 = 72) (by rfl) gw_480 dX5_init_81 ?_
  exact co_ret (pc := 84) rfl rfl rfl dX5_init_84 rfl
theorem cI_X6_179 {w : Wd} {σ : Mem} (hfr : Fresh σ 179) : MCC w muI_X6 2 222 [.ref (adr w 179)] 180 [(179, 1), (179, 2), (178, 0), (178, 1), (178, 2), (33, 0), (33, 1), (33, 2), (33, 3), (33, 4), (33, 5), (33, 6), (33, 7)] σ (182, [(178, 0), (178, 1), (178, 2), (33, 0), (33, 1), (33, 2), (33, 3), (33, 4), (33, 5), (33, 6), (33, 7)], σ) := by
  refine mcc_of (lv := [(0, .ref (adr w 179))]) okI_X6 rfl rfl (Nat.le_of_ble_eq_true rfl) ?_
  refine co_aload_n (pc := 0) 0 rfl dX6_init_0 rfl ?_
  refine co_objInit (pc := 1) gw_192 gw_179 gw_180 (ltb rfl) (Nat.le_of_ble_eq_true rfl) dX6_init_1 ?_
  refine co_aload_n (pc := 4) 0 rfl dX6_init_4 rfl ?_
  refine co_iconst (pc := 5) dX6_init_5 (ic_i_0) ?_
  refine co_putf (pc := 6) (σ' := σ) ok_6_0 okq_6_0 ⟨by rfl, by rfl⟩ (by decide) (by decide +kernel : kd 179 = 6) (wI_same ((hfr 179 (by decide) 0).1)) gw_193 dX6_init_6 ?_
  refine co_aload_n (pc := 9) 0 rfl dX6_init_9 rfl ?_
  refine co_bipush (pc := 10) dX6_init_10 (ic_b_6) ?_
  refine co_newI (pc := 12) (N := 6) (by decide +kernel : kd 180 = 12) (by decide +kernel : ln 180 = 6) (hfr.up (by decide)) gw_214 (by decide) (by decide) (by decide +kernel) (Nat.le_of_ble_eq_true rfl) (Nat.le_of_ble_eq_true rfl) dX6_init_12 ?_
  show CO w muI_X6 2 222 (182, [(178, 0), (178, 1), (178, 2), (33, 0), (33, 1), (33, 2), (33, 3), (33, 4), (33, 5), (33, 6), (33, 7)], σ) 181 [(179, 1), (179, 2), (178, 0), (178, 1), (178, 2), (33, 0), (33, 1), (33, 2), (33, 3), (33, 4), (33, 5), (33, 6), (33, 7)] σ 1 6 [(0, .ref (adr w 179))] [.ref (adr w 180), .ref (adr w 179)] 14
  refine co_putrF (pc := 14) (L' := [(179, 2), (178, 0), (178, 1), (178, 2), (33, 0), (33, 1), (33, 2), (33, 3), (33, 4), (33, 5), (33, 6), (33, 7)]) ok_6_1 okq_6_1 rfl rfl (by decide) (by decide +kernel : kd 179 = 6) (by decide +kernel : rf 179 1 = 180) (by rfl) gw_200 dX6_init_14 ?_
  refine co_aload_n (pc := 17) 0 rfl dX6_init_17 rfl ?_
  refine co_sipush (pc := 18) dX6_init_18 (ic_s_216) ?_
  refine co_newI (pc := 21) (N := 216) (by decide +kernel : kd 181 = 12) (by decide +kernel : ln 181 = 216) (hfr.up (by decide)) gw_214 (by decide) (by decide) (by decide +kernel) (Nat.le_of_ble_eq_true rfl) (Nat.le_of_ble_eq_true rfl) dX6_init_21 ?_
  show CO w muI_X6 2 222 (182, [(178, 0), (178, 1), (178, 2), (33, 0), (33, 1), (33, 2), (33, 3), (33, 4), (33, 5), (33, 6), (33, 7)], σ) 182 [(179, 2), (178, 0), (178, 1), (178, 2), (33, 0), (33, 1), (33, 2), (33, 3), (33, 4), (33, 5), (33, 6), (33, 7)] σ 2 222 [(0, .ref (adr w 179))] [.ref (adr w 181), .ref (adr w 179)] 23
  refine co_putrF (pc := 23) (L' := [(178, 0), (178, 1), (178, 2), (33, 0), (33, 1), (33, 2), (33, 3), (33, 4), (33, 5), (33, 6), (33, 7)]) ok_6_2 okq_6_2 rfl rfl (by decide) (by decide +kernel : kd 179 = 6) (by decide +kernel : rf 179 2 = 181) (by rfl) gw_206 dX6_init_23 ?_
  exact co_ret (pc := 26) rfl rfl rfl dX6_init_26 rfl
theorem cI_X8_178 {w : Wd} {σ : Mem} (hfr : Fresh σ 178) : MCC w muI_X8 15 303 [.ref (adr w 178)] 179 [(178, 0), (178, 1), (178, 2), (33, 0), (33, 1), (33, 2), (33, 3), (33, 4), (33, 5), (33, 6), (33, 7)] σ (194, [(33, 0), (33, 1), (33, 2), (33, 3), (33, 4), (33, 5), (33, 6), (33, 7)], σ) := by
  refine mcc_of (lv := [(0, .ref (adr w 178))]) okI_X8 rfl rfl (Nat.le_of_ble_eq_true rfl) ?_
  refine co_aload_n (pc := 0) 0 rfl dX8_init_0 rfl ?_
  refine co_objInit (pc := 1) gw_186 gw_179 gw_180 (ltb rfl) (Nat.le_of_ble_eq_true rfl) dX8_init_1 ?_
  refine co_aload_n (pc := 4) 0 rfl dX8_init_4 rfl ?_
  refine co_new (pc := 5) (R := [(179, 1), (179, 2)]) tyX6 tyX6_ok ws_6 rfl (by decide) (by decide +kernel : kd 179 = 6) (hfr.up (by decide)) gw_187 gw_188 gw_160 (by decide) defI_6 (by decide +kernel) (Nat.le_of_ble_eq_true rfl) (Nat.le_of_ble_eq_true rfl) dX8_init_5 ?_
  show CO w muI_X8 15 303 (194, [(33, 0), (33, 1), (33, 2), (33, 3), (33, 4), (33, 5), (33, 6), (33, 7)], σ) 180 [(179, 1), (179, 2), (178, 0), (178, 1), (178, 2), (33, 0), (33, 1), (33, 2), (33, 3), (33, 4), (33, 5), (33, 6), (33, 7)] σ 1 3 [(0, .ref (adr w 178))] [.ref (adr w 179), .ref (adr w 178)] 8
  refine co_dup (pc := 8) dX8_init_8 rfl ?_
  refine co_callN (pc := 9) (As := []) (cI_X6_179 (hfr.up (by decide))) okI_X6 rfl rfl (ltb rfl) (host := "HallRegisters") (by decide +kernel) gw_190 rfl rfl (Nat.le_of_ble_eq_true rfl) rfl (Nat.le_of_ble_eq_true rfl) (Nat.le_of_ble_eq_true rfl) dX8_init_9 ?_
  show CO w muI_X8 15 303 (194, [(33, 0), (33, 1), (33, 2), (33, 3), (33, 4), (33, 5), (33, 6), (33, 7)], σ) 182 [(178, 0), (178, 1), (178, 2), (33, 0), (33, 1), (33, 2), (33, 3), (33, 4), (33, 5), (33, 6), (33, 7)] σ 3 225 [(0, .ref (adr w 178))] [.ref (adr w 179), .ref (adr w 178)] 12
  refine co_putrF (pc := 12) (L' := [(178, 1), (178, 2), (33, 0), (33, 1), (33, 2), (33, 3), (33, 4), (33, 5), (33, 6), (33, 7)]) ok_8_0 okq_8_0 rfl rfl (by decide) (by decide +kernel : kd 178 = 8) (by decide +kernel : rf 178 0 = 179) (by rfl) gw_217 dX8_init_12 ?_
  refine co_aload_n (pc := 15) 0 rfl dX8_init_15 rfl ?_
  refine co_bipush (pc := 16) dX8_init_16 (ic_b_10) ?_
  refine co_bipush (pc := 18) dX8_init_18 (ic_b_6) ?_
  refine co_mna (pc := 20) (N := 10) (M := 6) (by decide +kernel : kd 182 = 16) (by decide +kernel : ln 182 = 10) (by decide +kernel) (hfr.up (by decide)) (by decide) gw_215 gw_232 (by decide) (by decide) (by decide) (by decide) (by decide +kernel) (by decide +kernel) (by decide +kernel) (Nat.le_of_ble_eq_true rfl) (Nat.le_of_ble_eq_true rfl) dX8_init_20 ?_
  show CO w muI_X8 15 303 (194, [(33, 0), (33, 1), (33, 2), (33, 3), (33, 4), (33, 5), (33, 6), (33, 7)], σ) 193 [(178, 1), (178, 2), (33, 0), (33, 1), (33, 2), (33, 3), (33, 4), (33, 5), (33, 6), (33, 7)] σ 14 295 [(0, .ref (adr w 178))] [.ref (adr w 182), .ref (adr w 178)] 24
  refine co_putrF (pc := 24) (L' := [(178, 2), (33, 0), (33, 1), (33, 2), (33, 3), (33, 4), (33, 5), (33, 6), (33, 7)]) ok_8_1 okq_8_1 rfl rfl (by decide) (by decide +kernel : kd 178 = 8) (by decide +kernel : rf 178 1 = 182) (by rfl) gw_220 dX8_init_24 ?_
  refine co_aload_n (pc := 27) 0 rfl dX8_init_27 rfl ?_
  refine co_bipush (pc := 28) dX8_init_28 (ic_b_8) ?_
  refine co_newI (pc := 30) (N := 8) (by decide +kernel : kd 193 = 12) (by decide +kernel : ln 193 = 8) (hfr.up (by decide)) gw_214 (by decide) (by decide) (by decide +kernel) (Nat.le_of_ble_eq_true rfl) (Nat.le_of_ble_eq_true rfl) dX8_init_30 ?_
  show CO w muI_X8 15 303 (194, [(33, 0), (33, 1), (33, 2), (33, 3), (33, 4), (33, 5), (33, 6), (33, 7)], σ) 194 [(178, 2), (33, 0), (33, 1), (33, 2), (33, 3), (33, 4), (33, 5), (33, 6), (33, 7)] σ 15 303 [(0, .ref (adr w 178))] [.ref (adr w 193), .ref (adr w 178)] 32
  refine co_putrF (pc := 32) (L' := [(33, 0), (33, 1), (33, 2), (33, 3), (33, 4), (33, 5), (33, 6), (33, 7)]) ok_8_2 okq_8_2 rfl rfl (by decide) (by decide +kernel : kd 178 = 8) (by decide +kernel : rf 178 2 = 193) (by rfl) gw_223 dX8_init_32 ?_
  exact co_ret (pc := 35) rfl rfl rfl dX8_init_35 rfl
theorem cI_X6_195 {w : Wd} {σ : Mem} (hfr : Fresh σ 195) : MCC w muI_X6 2 222 [.ref (adr w 195)] 196 [(195, 1), (195, 2), (194, 0), (194, 1), (194, 2), (33, 1), (33, 2), (33, 3), (33, 4), (33, 5), (33, 6), (33, 7)] σ (198, [(194, 0), (194, 1), (194, 2), (33, 1), (33, 2), (33, 3), (33, 4), (33, 5), (33, 6), (33, 7)], σ) := by
  refine mcc_of (lv := [(0, .ref (adr w 195))]) okI_X6 rfl rfl (Nat.le_of_ble_eq_true rfl) ?_
  refine co_aload_n (pc := 0) 0 rfl dX6_init_0 rfl ?_
  refine co_objInit (pc := 1) gw_192 gw_179 gw_180 (ltb rfl) (Nat.le_of_ble_eq_true rfl) dX6_init_1 ?_
  refine co_aload_n (pc := 4) 0 rfl dX6_init_4 rfl ?_
  refine co_iconst (pc := 5) dX6_init_5 (ic_i_0) ?_
  refine co_putf (pc := 6) (σ' := σ) ok_6_0 okq_6_0 ⟨by rfl, by rfl⟩ (by decide) (by decide +kernel : kd 195 = 6) (wI_same ((hfr 195 (by decide) 0).1)) gw_193 dX6_init_6 ?_
  refine co_aload_n (pc := 9) 0 rfl dX6_init_9 rfl ?_
  refine co_bipush (pc := 10) dX6_init_10 (ic_b_6) ?_
  refine co_newI (pc := 12) (N := 6) (by decide +kernel : kd 196 = 12) (by decide +kernel : ln 196 = 6) (hfr.up (by decide)) gw_214 (by decide) (by decide) (by decide +kernel) (Nat.le_of_ble_eq_true rfl) (Nat.le_of_ble_eq_true rfl) dX6_init_12 ?_
  show CO w muI_X6 2 222 (198, [(194, 0), (194, 1), (194, 2), (33, 1), (33, 2), (33, 3), (33, 4), (33, 5), (33, 6), (33, 7)], σ) 197 [(195, 1), (195, 2), (194, 0), (194, 1), (194, 2), (33, 1), (33, 2), (33, 3), (33, 4), (33, 5), (33, 6), (33, 7)] σ 1 6 [(0, .ref (adr w 195))] [.ref (adr w 196), .ref (adr w 195)] 14
  refine co_putrF (pc := 14) (L' := [(195, 2), (194, 0), (194, 1), (194, 2), (33, 1), (33, 2), (33, 3), (33, 4), (33, 5), (33, 6), (33, 7)]) ok_6_1 okq_6_1 rfl rfl (by decide) (by decide +kernel : kd 195 = 6) (by decide +kernel : rf 195 1 = 196) (by rfl) gw_200 dX6_init_14 ?_
  refine co_aload_n (pc := 17) 0 rfl dX6_init_17 rfl ?_
  refine co_sipush (pc := 18) dX6_init_18 (ic_s_216) ?_
  refine co_newI (pc := 21) (N := 216) (by decide +kernel : kd 197 = 12) (by decide +kernel : ln 197 = 216) (hfr.up (by decide)) gw_214 (by decide) (by decide) (by decide +kernel) (Nat.le_of_ble_eq_true rfl) (Nat.le_of_ble_eq_true rfl) dX6_init_21 ?_
  show CO w muI_X6 2 222 (198, [(194, 0), (194, 1), (194, 2), (33, 1), (33, 2), (33, 3), (33, 4), (33, 5), (33, 6), (33, 7)], σ) 198 [(195, 2), (194, 0), (194, 1), (194, 2), (33, 1), (33, 2), (33, 3), (33, 4), (33, 5), (33, 6), (33, 7)] σ 2 222 [(0, .ref (adr w 195))] [.ref (adr w 197), .ref (adr w 195)] 23
  refine co_putrF (pc := 23) (L' := [(194, 0), (194, 1), (194, 2), (33, 1), (33, 2), (33, 3), (33, 4), (33, 5), (33, 6), (33, 7)]) ok_6_2 okq_6_2 rfl rfl (by decide) (by decide +kernel : kd 195 = 6) (by decide +kernel : rf 195 2 = 197) (by rfl) gw_206 dX6_init_23 ?_
  exact co_ret (pc := 26) rfl rfl rfl dX6_init_26 rfl
theorem cI_X8_194 {w : Wd} {σ : Mem} (hfr : Fresh σ 194) : MCC w muI_X8 15 303 [.ref (adr w 194)] 195 [(194, 0), (194, 1), (194, 2), (33, 1), (33, 2), (33, 3), (33, 4), (33, 5), (33, 6), (33, 7)] σ (210, [(33, 1), (33, 2), (33, 3), (33, 4), (33, 5), (33, 6), (33, 7)], σ) := by
  refine mcc_of (lv := [(0, .ref (adr w 194))]) okI_X8 rfl rfl (Nat.le_of_ble_eq_true rfl) ?_
  refine co_aload_n (pc := 0) 0 rfl dX8_init_0 rfl ?_
  refine co_objInit (pc := 1) gw_186 gw_179 gw_180 (ltb rfl) (Nat.le_of_ble_eq_true rfl) dX8_init_1 ?_
  refine co_aload_n (pc := 4) 0 rfl dX8_init_4 rfl ?_
  refine co_new (pc := 5) (R := [(195, 1), (195, 2)]) tyX6 tyX6_ok ws_6 rfl (by decide) (by decide +kernel : kd 195 = 6) (hfr.up (by decide)) gw_187 gw_188 gw_160 (by decide) defI_6 (by decide +kernel) (Nat.le_of_ble_eq_true rfl) (Nat.le_of_ble_eq_true rfl) dX8_init_5 ?_
  show CO w muI_X8 15 303 (210, [(33, 1), (33, 2), (33, 3), (33, 4), (33, 5), (33, 6), (33, 7)], σ) 196 [(195, 1), (195, 2), (194, 0), (194, 1), (194, 2), (33, 1), (33, 2), (33, 3), (33, 4), (33, 5), (33, 6), (33, 7)] σ 1 3 [(0, .ref (adr w 194))] [.ref (adr w 195), .ref (adr w 194)] 8
  refine co_dup (pc := 8) dX8_init_8 rfl ?_
  refine co_callN (pc := 9) (As := []) (cI_X6_195 (hfr.up (by decide))) okI_X6 rfl rfl (ltb rfl) (host := "HallRegisters") (by decide +kernel) gw_190 rfl rfl (Nat.le_of_ble_eq_true rfl) rfl (Nat.le_of_ble_eq_true rfl) (Nat.le_of_ble_eq_true rfl) dX8_init_9 ?_
  show CO w muI_X8 15 303 (210, [(33, 1), (33, 2), (33, 3), (33, 4), (33, 5), (33, 6), (33, 7)], σ) 198 [(194, 0), (194, 1), (194, 2), (33, 1), (33, 2), (33, 3), (33, 4), (33, 5), (33, 6), (33, 7)] σ 3 225 [(0, .ref (adr w 194))] [.ref (adr w 195), .ref (adr w 194)] 12
  refine co_putrF (pc := 12) (L' := [(194, 1), (194, 2), (33, 1), (33, 2), (33, 3), (33, 4), (33, 5), (33, 6), (33, 7)]) ok_8_0 okq_8_0 rfl rfl (by decide) (by decide +kernel : kd 194 = 8) (by decide +kernel : rf 194 0 = 195) (by rfl) gw_217 dX8_init_12 ?_
  refine co_aload_n (pc := 15) 0 rfl dX8_init_15 rfl ?_
  refine co_bipush (pc := 16) dX8_init_16 (ic_b_10) ?_
  refine co_bipush (pc := 18) dX8_init_18 (ic_b_6) ?_
  refine co_mna (pc := 20) (N := 10) (M := 6) (by decide +kernel : kd 198 = 16) (by decide +kernel : ln 198 = 10) (by decide +kernel) (hfr.up (by decide)) (by decide) gw_215 gw_232 (by decide) (by decide) (by decide) (by decide) (by decide +kernel) (by decide +kernel) (by decide +kernel) (Nat.le_of_ble_eq_true rfl) (Nat.le_of_ble_eq_true rfl) dX8_init_20 ?_
  show CO w muI_X8 15 303 (210, [(33, 1), (33, 2), (33, 3), (33, 4), (33, 5), (33, 6), (33, 7)], σ) 209 [(194, 1), (194, 2), (33, 1), (33, 2), (33, 3), (33, 4), (33, 5), (33, 6), (33, 7)] σ 14 295 [(0, .ref (adr w 194))] [.ref (adr w 198), .ref (adr w 194)] 24
  refine co_putrF (pc := 24) (L' := [(194, 2), (33, 1), (33, 2), (33, 3), (33, 4), (33, 5), (33, 6), (33, 7)]) ok_8_1 okq_8_1 rfl rfl (by decide) (by decide +kernel : kd 194 = 8) (by decide +kernel : rf 194 1 = 198) (by rfl) gw_220 dX8_init_24 ?_
  refine co_aload_n (pc := 27) 0 rfl dX8_init_27 rfl ?_
  refine co_bipush (pc := 28) dX8_init_28 (ic_b_8) ?_
  refine co_newI (pc := 30) (N := 8) (by decide +kernel : kd 209 = 12) (by decide +kernel : ln 209 = 8) (hfr.up (by decide)) gw_214 (by decide) (by decide) (by decide +kernel) (Nat.le_of_ble_eq_true rfl) (Nat.le_of_ble_eq_true rfl) dX8_init_30 ?_
  show CO w muI_X8 15 303 (210, [(33, 1), (33, 2), (33, 3), (33, 4), (33, 5), (33, 6), (33, 7)], σ) 210 [(194, 2), (33, 1), (33, 2), (33, 3), (33, 4), (33, 5), (33, 6), (33, 7)] σ 15 303 [(0, .ref (adr w 194))] [.ref (adr w 209), .ref (adr w 194)] 32
  refine co_putrF (pc := 32) (L' := [(33, 1), (33, 2), (33, 3), (33, 4), (33, 5), (33, 6), (33, 7)]) ok_8_2 okq_8_2 rfl rfl (by decide) (by decide +kernel : kd 194 = 8) (by decide +kernel : rf 194 2 = 209) (by rfl) gw_223 dX8_init_32 ?_
  exact co_ret (pc := 35) rfl rfl rfl dX8_init_35 rfl
theorem cI_X6_211 {w : Wd} {σ : Mem} (hfr : Fresh σ 211) : MCC w muI_X6 2 222 [.ref (adr w 211)] 212 [(211, 1), (211, 2), (210, 0), (210, 1), (210, 2), (33, 2), (33, 3), (33, 4), (33, 5), (33, 6), (33, 7)] σ (214, [(210, 0), (210, 1), (210, 2), (33, 2), (33, 3), (33, 4), (33, 5), (33, 6), (33, 7)], σ) := by
  refine mcc_of (lv := [(0, .ref (adr w 211))]) okI_X6 rfl rfl (Nat.le_of_ble_eq_true rfl) ?_
  refine co_aload_n (pc := 0) 0 rfl dX6_init_0 rfl ?_
  refine co_objInit (pc := 1) gw_192 gw_179 gw_180 (ltb rfl) (Nat.le_of_ble_eq_true rfl) dX6_init_1 ?_
  refine co_aload_n (pc := 4) 0 rfl dX6_init_4 rfl ?_
  refine co_iconst (pc := 5) dX6_init_5 (ic_i_0) ?_
  refine co_putf (pc := 6) (σ' := σ) ok_6_0 okq_6_0 ⟨by rfl, by rfl⟩ (by decide) (by decide +kernel : kd 211 = 6) (wI_same ((hfr 211 (by decide) 0).1)) gw_193 dX6_init_6 ?_
  refine co_aload_n (pc := 9) 0 rfl dX6_init_9 rfl ?_
  refine co_bipush (pc := 10) dX6_init_10 (ic_b_6) ?_
  refine co_newI (pc := 12) (N := 6) (by decide +kernel : kd 212 = 12) (by decide +kernel : ln 212 = 6) (hfr.up (by decide)) gw_214 (by decide) (by decide) (by decide +kernel) (Nat.le_of_ble_eq_true rfl) (Nat.le_of_ble_eq_true rfl) dX6_init_12 ?_
  show CO w muI_X6 2 222 (214, [(210, 0), (210, 1), (210, 2), (33, 2), (33, 3), (33, 4), (33, 5), (33, 6), (33, 7)], σ) 213 [(211, 1), (211, 2), (210, 0), (210, 1), (210, 2), (33, 2), (33, 3), (33, 4), (33, 5), (33, 6), (33, 7)] σ 1 6 [(0, .ref (adr w 211))] [.ref (adr w 212), .ref (adr w 211)] 14
  refine co_putrF (pc := 14) (L' := [(211, 2), (210, 0), (210, 1), (210, 2), (33, 2), (33, 3), (33, 4), (33, 5), (33, 6), (33, 7)]) ok_6_1 okq_6_1 rfl rfl (by decide) (by decide +kernel : kd 211 = 6) (by decide +kernel : rf 211 1 = 212) (by rfl) gw_200 dX6_init_14 ?_
  refine co_aload_n (pc := 17) 0 rfl dX6_init_17 rfl ?_
  refine co_sipush (pc := 18) dX6_init_18 (ic_s_216) ?_
  refine co_newI (pc := 21) (N := 216) (by decide +kernel : kd 213 = 12) (by decide +kernel : ln 213 = 216) (hfr.up (by decide)) gw_214 (by decide) (by decide) (by decide +kernel) (Nat.le_of_ble_eq_true rfl) (Nat.le_of_ble_eq_true rfl) dX6_init_21 ?_
  show CO w muI_X6 2 222 (214, [(210, 0), (210, 1), (210, 2), (33, 2), (33, 3), (33, 4), (33, 5), (33, 6), (33, 7)], σ) 214 [(211, 2), (210, 0), (210, 1), (210, 2), (33, 2), (33, 3), (33, 4), (33, 5), (33, 6), (33, 7)] σ 2 222 [(0, .ref (adr w 211))] [.ref (adr w 213), .ref (adr w 211)] 23
  refine co_putrF (pc := 23) (L' := [(210, 0), (210, 1), (210, 2), (33, 2), (33, 3), (33, 4), (33, 5), (33, 6), (33, 7)]) ok_6_2 okq_6_2 rfl rfl (by decide) (by decide +kernel : kd 211 = 6) (by decide +kernel : rf 211 2 = 213) (by rfl) gw_206 dX6_init_23 ?_
  exact co_ret (pc := 26) rfl rfl rfl dX6_init_26 rfl
theorem cI_X8_210 {w : Wd} {σ : Mem} (hfr : Fresh σ 210) : MCC w muI_X8 15 303 [.ref (adr w 210)] 211 [(210, 0), (210, 1), (210, 2), (33, 2), (33, 3), (33, 4), (33, 5), (33, 6), (33, 7)] σ (226, [(33, 2), (33, 3), (33, 4), (33, 5), (33, 6), (33, 7)], σ) := by
  refine mcc_of (lv := [(0, .ref (adr w 210))]) okI_X8 rfl rfl (Nat.le_of_ble_eq_true rfl) ?_
  refine co_aload_n (pc := 0) 0 rfl dX8_init_0 rfl ?_
  refine co_objInit (pc := 1) gw_186 gw_179 gw_180 (ltb rfl) (Nat.le_of_ble_eq_true rfl) dX8_init_1 ?_
  refine co_aload_n (pc := 4) 0 rfl dX8_init_4 rfl ?_
  refine co_new (pc := 5) (R := [(211, 1), (211, 2)]) tyX6 tyX6_ok ws_6 rfl (by decide) (by decide +kernel : kd 211 = 6) (hfr.up (by decide)) gw_187 gw_188 gw_160 (by decide) defI_6 (by decide +kernel) (Nat.le_of_ble_eq_true rfl) (Nat.le_of_ble_eq_true rfl) dX8_init_5 ?_
  show CO w muI_X8 15 303 (226, [(33, 2), (33, 3), (33, 4), (33, 5), (33, 6), (33, 7)], σ) 212 [(211, 1), (211, 2), (210, 0), (210, 1), (210, 2), (33, 2), (33, 3), (33, 4), (33, 5), (33, 6), (33, 7)] σ 1 3 [(0, .ref (adr w 210))] [.ref (adr w 211), .ref (adr w 210)] 8
  refine co_dup (pc := 8) dX8_init_8 rfl ?_
  refine co_callN (pc := 9) (As := []) (cI_X6_211 (hfr.up (by decide))) okI_X6 rfl rfl (ltb rfl) (host := "HallRegisters") (by decide +kernel) gw_190 rfl rfl (Nat.le_of_ble_eq_true rfl) rfl (Nat.le_of_ble_eq_true rfl) (Nat.le_of_ble_eq_true rfl) dX8_init_9 ?_
  show CO w muI_X8 15 303 (226, [(33, 2), (33, 3), (33, 4), (33, 5), (33, 6), (33, 7)], σ) 214 [(210, 0), (210, 1), (210, 2), (33, 2), (33, 3), (33, 4), (33, 5), (33, 6), (33, 7)] σ 3 225 [(0, .ref (adr w 210))] [.ref (adr w 211), .ref (adr w 210)] 12
  refine co_putrF (pc := 12) (L' := [(210, 1), (210, 2), (33, 2), (33, 3), (33, 4), (33, 5), (33, 6), (33, 7)]) ok_8_0 okq_8_0 rfl rfl (by decide) (by decide +kernel : kd 210 = 8) (by decide +kernel : rf 210 0 = 211) (by rfl) gw_217 dX8_init_12 ?_
  refine co_aload_n (pc := 15) 0 rfl dX8_init_15 rfl ?_
  refine co_bipush (pc := 16) dX8_init_16 (ic_b_10) ?_
  refine co_bipush (pc := 18) dX8_init_18 (ic_b_6) ?_
  refine co_mna (pc := 20) (N := 10) (M := 6) (by decide +kernel : kd 214 = 16) (by decide +kernel : ln 214 = 10) (by decide +kernel) (hfr.up (by decide)) (by decide) gw_215 gw_232 (by decide) (by decide) (by decide) (by decide) (by decide +kernel) (by decide +kernel) (by decide +kernel) (Nat.le_of_ble_eq_true rfl) (Nat.le_of_ble_eq_true rfl) dX8_init_20 ?_
  show CO w muI_X8 15 303 (226, [(33, 2), (33, 3), (33, 4), (33, 5), (33, 6), (33, 7)], σ) 225 [(210, 1), (210, 2), (33, 2), (33, 3), (33, 4), (33, 5), (33, 6), (33, 7)] σ 14 295 [(0, .ref (adr w 210))] [.ref (adr w 214), .ref (adr w 210)] 24
  refine co_putrF (pc := 24) (L' := [(210, 2), (33, 2), (33, 3), (33, 4), (33, 5), (33, 6), (33, 7)]) ok_8_1 okq_8_1 rfl rfl (by decide) (by decide +kernel : kd 210 = 8) (by decide +kernel : rf 210 1 = 214) (by rfl) gw_220 dX8_init_24 ?_
  refine co_aload_n (pc := 27) 0 rfl dX8_init_27 rfl ?_
  refine co_bipush (pc := 28) dX8_init_28 (ic_b_8) ?_
  refine co_newI (pc := 30) (N := 8) (by decide +kernel : kd 225 = 12) (by decide +kernel : ln 225 = 8) (hfr.up (by decide)) gw_214 (by decide) (by decide) (by decide +kernel) (Nat.le_of_ble_eq_true rfl) (Nat.le_of_ble_eq_true rfl) dX8_init_30 ?_
  show CO w muI_X8 15 303 (226, [(33, 2), (33, 3), (33, 4), (33, 5), (33, 6), (33, 7)], σ) 226 [(210, 2), (33, 2), (33, 3), (33, 4), (33, 5), (33, 6), (33, 7)] σ 15 303 [(0, .ref (adr w 210))] [.ref (adr w 225), .ref (adr w 210)] 32
  refine co_putrF (pc := 32) (L' := [(33, 2), (33, 3), (33, 4), (33, 5), (33, 6), (33, 7)]) ok_8_2 okq_8_2 rfl rfl (by decide) (by decide +kernel : kd 210 = 8) (by decide +kernel : rf 210 2 = 225) (by rfl) gw_223 dX8_init_32 ?_
  exact co_ret (pc := 35) rfl rfl rfl dX8_init_35 rfl
theorem cI_X6_227 {w : Wd} {σ : Mem} (hfr : Fresh σ 227) : MCC w muI_X6 2 222 [.ref (adr w 227)] 228 [(227, 1), (227, 2), (226, 0), (226, 1), (226, 2), (33, 3), (33, 4), (33, 5), (33, 6), (33, 7)] σ (230, [(226, 0), (226, 1), (226, 2), (33, 3), (33, 4), (33, 5), (33, 6), (33, 7)], σ) := by
  refine mcc_of (lv := [(0, .ref (adr w 227))]) okI_X6 rfl rfl (Nat.le_of_ble_eq_true rfl) ?_
  refine co_aload_n (pc := 0) 0 rfl dX6_init_0 rfl ?_
  refine co_objInit (pc := 1) gw_192 gw_179 gw_180 (ltb rfl) (Nat.le_of_ble_eq_true rfl) dX6_init_1 ?_
  refine co_aload_n (pc := 4) 0 rfl dX6_init_4 rfl ?_
  refine co_iconst (pc := 5) dX6_init_5 (ic_i_0) ?_
  refine co_putf (pc := 6) (σ' := σ) ok_6_0 okq_6_0 ⟨by rfl, by rfl⟩ (by decide) (by decide +kernel : kd 227 = 6) (wI_same ((hfr 227 (by decide) 0).1)) gw_193 dX6_init_6 ?_
  refine co_aload_n (pc := 9) 0 rfl dX6_init_9 rfl ?_
  refine co_bipush (pc := 10) dX6_init_10 (ic_b_6) ?_
  refine co_newI (pc := 12) (N := 6) (by decide +kernel : kd 228 = 12) (by decide +kernel : ln 228 = 6) (hfr.up (by decide)) gw_214 (by decide) (by decide) (by decide +kernel) (Nat.le_of_ble_eq_true rfl) (Nat.le_of_ble_eq_true rfl) dX6_init_12 ?_
  show CO w muI_X6 2 222 (230, [(226, 0), (226, 1), (226, 2), (33, 3), (33, 4), (33, 5), (33, 6), (33, 7)], σ) 229 [(227, 1), (227, 2), (226, 0), (226, 1), (226, 2), (33, 3), (33, 4), (33, 5), (33, 6), (33, 7)] σ 1 6 [(0, .ref (adr w 227))] [.ref (adr w 228), .ref (adr w 227)] 14
  refine co_putrF (pc := 14) (L' := [(227, 2), (226, 0), (226, 1), (226, 2), (33, 3), (33, 4), (33, 5), (33, 6), (33, 7)]) ok_6_1 okq_6_1 rfl rfl (by decide) (by decide +kernel : kd 227 = 6) (by decide +kernel : rf 227 1 = 228) (by rfl) gw_200 dX6_init_14 ?_
  refine co_aload_n (pc := 17) 0 rfl dX6_init_17 rfl ?_
  refine co_sipush (pc := 18) dX6_init_18 (ic_s_216) ?_
  refine co_newI (pc := 21) (N := 216) (by decide +kernel : kd 229 = 12) (by decide +kernel : ln 229 = 216) (hfr.up (by decide)) gw_214 (by decide) (by decide) (by decide +kernel) (Nat.le_of_ble_eq_true rfl) (Nat.le_of_ble_eq_true rfl) dX6_init_21 ?_
  show CO w muI_X6 2 222 (230, [(226, 0), (226, 1), (226, 2), (33, 3), (33, 4), (33, 5), (33, 6), (33, 7)], σ) 230 [(227, 2), (226, 0), (226, 1), (226, 2), (33, 3), (33, 4), (33, 5), (33, 6), (33, 7)] σ 2 222 [(0, .ref (adr w 227))] [.ref (adr w 229), .ref (adr w 227)] 23
  refine co_putrF (pc := 23) (L' := [(226, 0), (226, 1), (226, 2), (33, 3), (33, 4), (33, 5), (33, 6), (33, 7)]) ok_6_2 okq_6_2 rfl rfl (by decide) (by decide +kernel : kd 227 = 6) (by decide +kernel : rf 227 2 = 229) (by rfl) gw_206 dX6_init_23 ?_
  exact co_ret (pc := 26) rfl rfl rfl dX6_init_26 rfl
theorem cI_X8_226 {w : Wd} {σ : Mem} (hfr : Fresh σ 226) : MCC w muI_X8 15 303 [.ref (adr w 226)] 227 [(226, 0), (226, 1), (226, 2), (33, 3), (33, 4), (33, 5), (33, 6), (33, 7)] σ (242, [(33, 3), (33, 4), (33, 5), (33, 6), (33, 7)], σ) := by
  refine mcc_of (lv := [(0, .ref (adr w 226))]) okI_X8 rfl rfl (Nat.le_of_ble_eq_true rfl) ?_
  refine co_aload_n (pc := 0) 0 rfl dX8_init_0 rfl ?_
  refine co_objInit (pc := 1) gw_186 gw_179 gw_180 (ltb rfl) (Nat.le_of_ble_eq_true rfl) dX8_init_1 ?_
  refine co_aload_n (pc := 4) 0 rfl dX8_init_4 rfl ?_
  refine co_new (pc := 5) (R := [(227, 1), (227, 2)]) tyX6 tyX6_ok ws_6 rfl (by decide) (by decide +kernel : kd 227 = 6) (hfr.up (by decide)) gw_187 gw_188 gw_160 (by decide) defI_6 (by decide +kernel) (Nat.le_of_ble_eq_true rfl) (Nat.le_of_ble_eq_true rfl) dX8_init_5 ?_
  show CO w muI_X8 15 303 (242, [(33, 3), (33, 4), (33, 5), (33, 6), (33, 7)], σ) 228 [(227, 1), (227, 2), (226, 0), (226, 1), (226, 2), (33, 3), (33, 4), (33, 5), (33, 6), (33, 7)] σ 1 3 [(0, .ref (adr w 226))] [.ref (adr w 227), .ref (adr w 226)] 8
  refine co_dup (pc := 8) dX8_init_8 rfl ?_
  refine co_callN (pc := 9) (As := []) (cI_X6_227 (hfr.up (by decide))) okI_X6 rfl rfl (ltb rfl) (host := "HallRegisters") (by decide +kernel) gw_190 rfl rfl (Nat.le_of_ble_eq_true rfl) rfl (Nat.le_of_ble_eq_true rfl) (Nat.le_of_ble_eq_true rfl) dX8_init_9 ?_
  show CO w muI_X8 15 303 (242, [(33, 3), (33, 4), (33, 5), (33, 6), (33, 7)], σ) 230 [(226, 0), (226, 1), (226, 2), (33, 3), (33, 4), (33, 5), (33, 6), (33, 7)] σ 3 225 [(0, .ref (adr w 226))] [.ref (adr w 227), .ref (adr w 226)] 12
  refine co_putrF (pc := 12) (L' := [(226, 1), (226, 2), (33, 3), (33, 4), (33, 5), (33, 6), (33, 7)]) ok_8_0 okq_8_0 rfl rfl (by decide) (by decide +kernel : kd 226 = 8) (by decide +kernel : rf 226 0 = 227) (by rfl) gw_217 dX8_init_12 ?_
  refine co_aload_n (pc := 15) 0 rfl dX8_init_15 rfl ?_
  refine co_bipush (pc := 16) dX8_init_16 (ic_b_10) ?_
  refine co_bipush (pc := 18) dX8_init_18 (ic_b_6) ?_
  refine co_mna (pc := 20) (N := 10) (M := 6) (by decide +kernel : kd 230 = 16) (by decide +kernel : ln 230 = 10) (by decide +kernel) (hfr.up (by decide)) (by decide) gw_215 gw_232 (by decide) (by decide) (by decide) (by decide) (by decide +kernel) (by decide +kernel) (by decide +kernel) (Nat.le_of_ble_eq_true rfl) (Nat.le_of_ble_eq_true rfl) dX8_init_20 ?_
  show CO w muI_X8 15 303 (242, [(33, 3), (33, 4), (33, 5), (33, 6), (33, 7)], σ) 241 [(226, 1), (226, 2), (33, 3), (33, 4), (33, 5), (33, 6), (33, 7)] σ 14 295 [(0, .ref (adr w 226))] [.ref (adr w 230), .ref (adr w 226)] 24
  refine co_putrF (pc := 24) (L' := [(226, 2), (33, 3), (33, 4), (33, 5), (33, 6), (33, 7)]) ok_8_1 okq_8_1 rfl rfl (by decide) (by decide +kernel : kd 226 = 8) (by decide +kernel : rf 226 1 = 230) (by rfl) gw_220 dX8_init_24 ?_
  refine co_aload_n (pc := 27) 0 rfl dX8_init_27 rfl ?_
  refine co_bipush (pc := 28) dX8_init_28 (ic_b_8) ?_
  refine co_newI (pc := 30) (N := 8) (by decide +kernel : kd 241 = 12) (by decide +kernel : ln 241 = 8) (hfr.up (by decide)) gw_214 (by decide) (by decide) (by decide +kernel) (Nat.le_of_ble_eq_true rfl) (Nat.le_of_ble_eq_true rfl) dX8_init_30 ?_
  show CO w muI_X8 15 303 (242, [(33, 3), (33, 4), (33, 5), (33, 6), (33, 7)], σ) 242 [(226, 2), (33, 3), (33, 4), (33, 5), (33, 6), (33, 7)] σ 15 303 [(0, .ref (adr w 226))] [.ref (adr w 241), .ref (adr w 226)] 32
  refine co_putrF (pc := 32) (L' := [(33, 3), (33, 4), (33, 5), (33, 6), (33, 7)]) ok_8_2 okq_8_2 rfl rfl (by decide) (by decide +kernel : kd 226 = 8) (by decide +kernel : rf 226 2 = 241) (by rfl) gw_223 dX8_init_32 ?_
  exact co_ret (pc := 35) rfl rfl rfl dX8_init_35 rfl
theorem cI_X6_243 {w : Wd} {σ : Mem} (hfr : Fresh σ 243) : MCC w muI_X6 2 222 [.ref (adr w 243)] 244 [(243, 1), (243, 2), (242, 0), (242, 1), (242, 2), (33, 4), (33, 5), (33, 6), (33, 7)] σ (246, [(242, 0), (242, 1), (242, 2), (33, 4), (33, 5), (33, 6), (33, 7)], σ) := by
  refine mcc_of (lv := [(0, .ref (adr w 243))]) okI_X6 rfl rfl (Nat.le_of_ble_eq_true rfl) ?_
  refine co_aload_n (pc := 0) 0 rfl dX6_init_0 rfl ?_
  refine co_objInit (pc := 1) gw_192 gw_179 gw_180 (ltb rfl) (Nat.le_of_ble_eq_true rfl) dX6_init_1 ?_
  refine co_aload_n (pc := 4) 0 rfl dX6_init_4 rfl ?_
  refine co_iconst (pc := 5) dX6_init_5 (ic_i_0) ?_
  refine co_putf (pc := 6) (σ' := σ) ok_6_0 okq_6_0 ⟨by rfl, by rfl⟩ (by decide) (by decide +kernel : kd 243 = 6) (wI_same ((hfr 243 (by decide) 0).1)) gw_193 dX6_init_6 ?_
  refine co_aload_n (pc := 9) 0 rfl dX6_init_9 rfl ?_
  refine co_bipush (pc := 10) dX6_init_10 (ic_b_6) ?_
  refine co_newI (pc := 12) (N := 6) (by decide +kernel : kd 244 = 12) (by decide +kernel : ln 244 = 6) (hfr.up (by decide)) gw_214 (by decide) (by decide) (by decide +kernel) (Nat.le_of_ble_eq_true rfl) (Nat.le_of_ble_eq_true rfl) dX6_init_12 ?_
  show CO w muI_X6 2 222 (246, [(242, 0), (242, 1), (242, 2), (33, 4), (33, 5), (33, 6), (33, 7)], σ) 245 [(243, 1), (243, 2), (242, 0), (242, 1), (242, 2), (33, 4), (33, 5), (33, 6), (33, 7)] σ 1 6 [(0, .ref (adr w 243))] [.ref (adr w 244), .ref (adr w 243)] 14
  refine co_putrF (pc := 14) (L' := [(243, 2), (242, 0), (242, 1), (242, 2), (33, 4), (33, 5), (33, 6), (33, 7)]) ok_6_1 okq_6_1 rfl rfl (by decide) (by decide +kernel : kd 243 = 6) (by decide +kernel : rf 243 1 = 244) (by rfl) gw_200 dX6_init_14 ?_
  refine co_aload_n (pc := 17) 0 rfl dX6_init_17 rfl ?_
  refine co_sipush (pc := 18) dX6_init_18 (ic_s_216) ?_
  refine co_newI (pc := 21) (N := 216) (by decide +kernel : kd 245 = 12) (by decide +kernel : ln 245 = 216) (hfr.up (by decide)) gw_214 (by decide) (by decide) (by decide +kernel) (Nat.le_of_ble_eq_true rfl) (Nat.le_of_ble_eq_true rfl) dX6_init_21 ?_
  show CO w muI_X6 2 222 (246, [(242, 0), (242, 1), (242, 2), (33, 4), (33, 5), (33, 6), (33, 7)], σ) 246 [(243, 2), (242, 0), (242, 1), (242, 2), (33, 4), (33, 5), (33, 6), (33, 7)] σ 2 222 [(0, .ref (adr w 243))] [.ref (adr w 245), .ref (adr w 243)] 23
  refine co_putrF (pc := 23) (L' := [(242, 0), (242, 1), (242, 2), (33, 4), (33, 5), (33, 6), (33, 7)]) ok_6_2 okq_6_2 rfl rfl (by decide) (by decide +kernel : kd 243 = 6) (by decide +kernel : rf 243 2 = 245) (by rfl) gw_206 dX6_init_23 ?_
  exact co_ret (pc := 26) rfl rfl rfl dX6_init_26 rfl
theorem cI_X8_242 {w : Wd} {σ : Mem} (hfr : Fresh σ 242) : MCC w muI_X8 15 303 [.ref (adr w 242)] 243 [(242, 0), (242, 1), (242, 2), (33, 4), (33, 5), (33, 6), (33, 7)] σ (258, [(33, 4), (33, 5), (33, 6), (33, 7)], σ) := by
  refine mcc_of (lv := [(0, .ref (adr w 242))]) okI_X8 rfl rfl (Nat.le_of_ble_eq_true rfl) ?_
  refine co_aload_n (pc := 0) 0 rfl dX8_init_0 rfl ?_
  refine co_objInit (pc := 1) gw_186 gw_179 gw_180 (ltb rfl) (Nat.le_of_ble_eq_true rfl) dX8_init_1 ?_
  refine co_aload_n (pc := 4) 0 rfl dX8_init_4 rfl ?_
  refine co_new (pc := 5) (R := [(243, 1), (243, 2)]) tyX6 tyX6_ok ws_6 rfl (by decide) (by decide +kernel : kd 243 = 6) (hfr.up (by decide)) gw_187 gw_188 gw_160 (by decide) defI_6 (by decide +kernel) (Nat.le_of_ble_eq_true rfl) (Nat.le_of_ble_eq_true rfl) dX8_init_5 ?_
  show CO w muI_X8 15 303 (258, [(33, 4), (33, 5), (33, 6), (33, 7)], σ) 244 [(243, 1), (243, 2), (242, 0), (242, 1), (242, 2), (33, 4), (33, 5), (33, 6), (33, 7)] σ 1 3 [(0, .ref (adr w 242))] [.ref (adr w 243), .ref (adr w 242)] 8
  refine co_dup (pc := 8) dX8_init_8 rfl ?_
  refine co_callN (pc := 9) (As := []) (cI_X6_243 (hfr.up (by decide))) okI_X6 rfl rfl (ltb rfl) (host := "HallRegisters") (by decide +kernel) gw_190 rfl rfl (Nat.le_of_ble_eq_true rfl) rfl (Nat.le_of_ble_eq_true rfl) (Nat.le_of_ble_eq_true rfl) dX8_init_9 ?_
  show CO w muI_X8 15 303 (258, [(33, 4), (33, 5), (33, 6), (33, 7)], σ) 246 [(242, 0), (242, 1), (242, 2), (33, 4), (33, 5), (33, 6), (33, 7)] σ 3 225 [(0, .ref (adr w 242))] [.ref (adr w 243), .ref (adr w 242)] 12
  refine co_putrF (pc := 12) (L' := [(242, 1), (242, 2), (33, 4), (33, 5), (33, 6), (33, 7)]) ok_8_0 okq_8_0 rfl rfl (by decide) (by decide +kernel : kd 242 = 8) (by decide +kernel : rf 242 0 = 243) (by rfl) gw_217 dX8_init_12 ?_
  refine co_aload_n (pc := 15) 0 rfl dX8_init_15 rfl ?_
  refine co_bipush (pc := 16) dX8_init_16 (ic_b_10) ?_
  refine co_bipush (pc := 18) dX8_init_18 (ic_b_6) ?_
  refine co_mna (pc := 20) (N := 10) (M := 6) (by decide +kernel : kd 246 = 16) (by decide +kernel : ln 246 = 10) (by decide +kernel) (hfr.up (by decide)) (by decide) gw_215 gw_232 (by decide) (by decide) (by decide) (by decide) (by decide +kernel) (by decide +kernel) (by decide +kernel) (Nat.le_of_ble_eq_true rfl) (Nat.le_of_ble_eq_true rfl) dX8_init_20 ?_
  show CO w muI_X8 15 303 (258, [(33, 4), (33, 5), (33, 6), (33, 7)], σ) 257 [(242, 1), (242, 2), (33, 4), (33, 5), (33, 6), (33, 7)] σ 14 295 [(0, .ref (adr w 242))] [.ref (adr w 246), .ref (adr w 242)] 24
  refine co_putrF (pc := 24) (L' := [(242, 2), (33, 4), (33, 5), (33, 6), (33, 7)]) ok_8_1 okq_8_1 rfl rfl (by decide) (by decide +kernel : kd 242 = 8) (by decide +kernel : rf 242 1 = 246) (by rfl) gw_220 dX8_init_24 ?_
  refine co_aload_n (pc := 27) 0 rfl dX8_init_27 rfl ?_
  refine co_bipush (pc := 28) dX8_init_28 (ic_b_8) ?_
  refine co_newI (pc := 30) (N := 8) (by decide +kernel : kd 257 = 12) (by decide +kernel : ln 257 = 8) (hfr.up (by decide)) gw_214 (by decide) (by decide) (by decide +kernel) (Nat.le_of_ble_eq_true rfl) (Nat.le_of_ble_eq_true rfl) dX8_init_30 ?_
  show CO w muI_X8 15 303 (258, [(33, 4), (33, 5), (33, 6), (33, 7)], σ) 258 [(242, 2), (33, 4), (33, 5), (33, 6), (33, 7)] σ 15 303 [(0, .ref (adr w 242))] [.ref (adr w 257), .ref (adr w 242)] 32
  refine co_putrF (pc := 32) (L' := [(33, 4), (33, 5), (33, 6), (33, 7)]) ok_8_2 okq_8_2 rfl rfl (by decide) (by decide +kernel : kd 242 = 8) (by decide +kernel : rf 242 2 = 257) (by rfl) gw_223 dX8_init_32 ?_
  exact co_ret (pc := 35) rfl rfl rfl dX8_init_35 rfl
theorem cI_X6_259 {w : Wd} {σ : Mem} (hfr : Fresh σ 259) : MCC w muI_X6 2 222 [.ref (adr w 259)] 260 [(259, 1), (259, 2), (258, 0), (258, 1), (258, 2), (33, 5), (33, 6), (33, 7)] σ (262, [(258, 0), (258, 1), (258, 2), (33, 5), (33, 6), (33, 7)], σ) := by
  refine mcc_of (lv := [(0, .ref (adr w 259))]) okI_X6 rfl rfl (Nat.le_of_ble_eq_true rfl) ?_
  refine co_aload_n (pc := 0) 0 rfl dX6_init_0 rfl ?_
  refine co_objInit (pc := 1) gw_192 gw_179 gw_180 (ltb rfl) (Nat.le_of_ble_eq_true rfl) dX6_init_1 ?_
  refine co_aload_n (pc := 4) 0 rfl dX6_init_4 rfl ?_
  refine co_iconst (pc := 5) dX6_init_5 (ic_i_0) ?_
  refine co_putf (pc := 6) (σ' := σ) ok_6_0 okq_6_0 ⟨by rfl, by rfl⟩ (by decide) (by decide +kernel : kd 259 = 6) (wI_same ((hfr 259 (by decide) 0).1)) gw_193 dX6_init_6 ?_
  refine co_aload_n (pc := 9) 0 rfl dX6_init_9 rfl ?_
  refine co_bipush (pc := 10) dX6_init_10 (ic_b_6) ?_
  refine co_newI (pc := 12) (N := 6) (by decide +kernel : kd 260 = 12) (by decide +kernel : ln 260 = 6) (hfr.up (by decide)) gw_214 (by decide) (by decide) (by decide +kernel) (Nat.le_of_ble_eq_true rfl) (Nat.le_of_ble_eq_true rfl) dX6_init_12 ?_
  show CO w muI_X6 2 222 (262, [(258, 0), (258, 1), (258, 2), (33, 5), (33, 6), (33, 7)], σ) 261 [(259, 1), (259, 2), (258, 0), (258, 1), (258, 2), (33, 5), (33, 6), (33, 7)] σ 1 6 [(0, .ref (adr w 259))] [.ref (adr w 260), .ref (adr w 259)] 14
  refine co_putrF (pc := 14) (L' := [(259, 2), (258, 0), (258, 1), (258, 2), (33, 5), (33, 6), (33, 7)]) ok_6_1 okq_6_1 rfl rfl (by decide) (by decide +kernel : kd 259 = 6) (by decide +kernel : rf 259 1 = 260) (by rfl) gw_200 dX6_init_14 ?_
  refine co_aload_n (pc := 17) 0 rfl dX6_init_17 rfl ?_
  refine co_sipush (pc := 18) dX6_init_18 (ic_s_216) ?_
  refine co_newI (pc := 21) (N := 216) (by decide +kernel : kd 261 = 12) (by decide +kernel : ln 261 = 216) (hfr.up (by decide)) gw_214 (by decide) (by decide) (by decide +kernel) (Nat.le_of_ble_eq_true rfl) (Nat.le_of_ble_eq_true rfl) dX6_init_21 ?_
  show CO w muI_X6 2 222 (262, [(258, 0), (258, 1), (258, 2), (33, 5), (33, 6), (33, 7)], σ) 262 [(259, 2), (258, 0), (258, 1), (258, 2), (33, 5), (33, 6), (33, 7)] σ 2 222 [(0, .ref (adr w 259))] [.ref (adr w 261), .ref (adr w 259)] 23
  refine co_putrF (pc := 23) (L' := [(258, 0), (258, 1), (258, 2), (33, 5), (33, 6), (33, 7)]) ok_6_2 okq_6_2 rfl rfl (by decide) (by decide +kernel : kd 259 = 6) (by decide +kernel : rf 259 2 = 261) (by rfl) gw_206 dX6_init_23 ?_
  exact co_ret (pc := 26) rfl rfl rfl dX6_init_26 rfl
theorem cI_X8_258 {w : Wd} {σ : Mem} (hfr : Fresh σ 258) : MCC w muI_X8 15 303 [.ref (adr w 258)] 259 [(258, 0), (258, 1), (258, 2), (33, 5), (33, 6), (33, 7)] σ (274, [(33, 5), (33, 6), (33, 7)], σ) := by
  refine mcc_of (lv := [(0, .ref (adr w 258))]) okI_X8 rfl rfl (Nat.le_of_ble_eq_true rfl) ?_
  refine co_aload_n (pc := 0) 0 rfl dX8_init_0 rfl ?_
  refine co_objInit (pc := 1) gw_186 gw_179 gw_180 (ltb rfl) (Nat.le_of_ble_eq_true rfl) dX8_init_1 ?_
  refine co_aload_n (pc := 4) 0 rfl dX8_init_4 rfl ?_
  refine co_new (pc := 5) (R := [(259, 1), (259, 2)]) tyX6 tyX6_ok ws_6 rfl (by decide) (by decide +kernel : kd 259 = 6) (hfr.up (by decide)) gw_187 gw_188 gw_160 (by decide) defI_6 (by decide +kernel) (Nat.le_of_ble_eq_true rfl) (Nat.le_of_ble_eq_true rfl) dX8_init_5 ?_
  show CO w muI_X8 15 303 (274, [(33, 5), (33, 6), (33, 7)], σ) 260 [(259, 1), (259, 2), (258, 0), (258, 1), (258, 2), (33, 5), (33, 6), (33, 7)] σ 1 3 [(0, .ref (adr w 258))] [.ref (adr w 259), .ref (adr w 258)] 8
  refine co_dup (pc := 8) dX8_init_8 rfl ?_
  refine co_callN (pc := 9) (As := []) (cI_X6_259 (hfr.up (by decide))) okI_X6 rfl rfl (ltb rfl) (host := "HallRegisters") (by decide +kernel) gw_190 rfl rfl (Nat.le_of_ble_eq_true rfl) rfl (Nat.le_of_ble_eq_true rfl) (Nat.le_of_ble_eq_true rfl) dX8_init_9 ?_
  show CO w muI_X8 15 303 (274, [(33, 5), (33, 6), (33, 7)], σ) 262 [(258, 0), (258, 1), (258, 2), (33, 5), (33, 6), (33, 7)] σ 3 225 [(0, .ref (adr w 258))] [.ref (adr w 259), .ref (adr w 258)] 12
  refine co_putrF (pc := 12) (L' := [(258, 1), (258, 2), (33, 5), (33, 6), (33, 7)]) ok_8_0 okq_8_0 rfl rfl (by decide) (by decide +kernel : kd 258 = 8) (by decide +kernel : rf 258 0 = 259) (by rfl) gw_217 dX8_init_12 ?_
  refine co_aload_n (pc := 15) 0 rfl dX8_init_15 rfl ?_
  refine co_bipush (pc := 16) dX8_init_16 (ic_b_10) ?_
  refine co_bipush (pc := 18) dX8_init_18 (ic_b_6) ?_
  refine co_mna (pc := 20) (N := 10) (M := 6) (by decide +kernel : kd 262 = 16) (by decide +kernel : ln 262 = 10) (by decide +kernel) (hfr.up (by decide)) (by decide) gw_215 gw_232 (by decide) (by decide) (by decide) (by decide) (by decide +kernel) (by decide +kernel) (by decide +kernel) (Nat.le_of_ble_eq_true rfl) (Nat.le_of_ble_eq_true rfl) dX8_init_20 ?_
  show CO w muI_X8 15 303 (274, [(33, 5), (33, 6), (33, 7)], σ) 273 [(258, 1), (258, 2), (33, 5), (33, 6), (33, 7)] σ 14 295 [(0, .ref (adr w 258))] [.ref (adr w 262), .ref (adr w 258)] 24
  refine co_putrF (pc := 24) (L' := [(258, 2), (33, 5), (33, 6), (33, 7)]) ok_8_1 okq_8_1 rfl rfl (by decide) (by decide +kernel : kd 258 = 8) (by decide +kernel : rf 258 1 = 262) (by rfl) gw_220 dX8_init_24 ?_
  refine co_aload_n (pc := 27) 0 rfl dX8_init_27 rfl ?_
  refine co_bipush (pc := 28) dX8_init_28 (ic_b_8) ?_
  refine co_newI (pc := 30) (N := 8) (by decide +kernel : kd 273 = 12) (by decide +kernel : ln 273 = 8) (hfr.up (by decide)) gw_214 (by decide) (by decide) (by decide +kernel) (Nat.le_of_ble_eq_true rfl) (Nat.le_of_ble_eq_true rfl) dX8_init_30 ?_
  show CO w muI_X8 15 303 (274, [(33, 5), (33, 6), (33, 7)], σ) 274 [(258, 2), (33, 5), (33, 6), (33, 7)] σ 15 303 [(0, .ref (adr w 258))] [.ref (adr w 273), .ref (adr w 258)] 32
  refine co_putrF (pc := 32) (L' := [(33, 5), (33, 6), (33, 7)]) ok_8_2 okq_8_2 rfl rfl (by decide) (by decide +kernel : kd 258 = 8) (by decide +kernel : rf 258 2 = 273) (by rfl) gw_223 dX8_init_32 ?_
  exact co_ret (pc := 35) rfl rfl rfl dX8_init_35 rfl
theorem cI_X6_275 {w : Wd} {σ : Mem} (hfr : Fresh σ 275) : MCC w muI_X6 2 222 [.ref (adr w 275)] 276 [(275, 1), (275, 2), (274, 0), (274, 1), (274, 2), (33, 6), (33, 7)] σ (278, [(274, 0), (274, 1), (274, 2), (33, 6), (33, 7)], σ) := by
  refine mcc_of (lv := [(0, .ref (adr w 275))]) okI_X6 rfl rfl (Nat.le_of_ble_eq_true rfl) ?_
  refine co_aload_n (pc := 0) 0 rfl dX6_init_0 rfl ?_
  refine co_objInit (pc := 1) gw_192 gw_179 gw_180 (ltb rfl) (Nat.le_of_ble_eq_true rfl) dX6_init_1 ?_
  refine co_aload_n (pc := 4) 0 rfl dX6_init_4 rfl ?_
  refine co_iconst (pc := 5) dX6_init_5 (ic_i_0) ?_
  refine co_putf (pc := 6) (σ' := σ) ok_6_0 okq_6_0 ⟨by rfl, by rfl⟩ (by decide) (by decide +kernel : kd 275 = 6) (wI_same ((hfr 275 (by decide) 0).1)) gw_193 dX6_init_6 ?_
  refine co_aload_n (pc := 9) 0 rfl dX6_init_9 rfl ?_
  refine co_bipush (pc := 10) dX6_init_10 (ic_b_6) ?_
  refine co_newI (pc := 12) (N := 6) (by decide +kernel : kd 276 = 12) (by decide +kernel : ln 276 = 6) (hfr.up (by decide)) gw_214 (by decide) (by decide) (by decide +kernel) (Nat.le_of_ble_eq_true rfl) (Nat.le_of_ble_eq_true rfl) dX6_init_12 ?_
  show CO w muI_X6 2 222 (278, [(274, 0), (274, 1), (274, 2), (33, 6), (33, 7)], σ) 277 [(275, 1), (275, 2), (274, 0), (274, 1), (274, 2), (33, 6), (33, 7)] σ 1 6 [(0, .ref (adr w 275))] [.ref (adr w 276), .ref (adr w 275)] 14
  refine co_putrF (pc := 14) (L' := [(275, 2), (274, 0), (274, 1), (274, 2), (33, 6), (33, 7)]) ok_6_1 okq_6_1 rfl rfl (by decide) (by decide +kernel : kd 275 = 6) (by decide +kernel : rf 275 1 = 276) (by rfl) gw_200 dX6_init_14 ?_
  refine co_aload_n (pc := 17) 0 rfl dX6_init_17 rfl ?_
  refine co_sipush (pc := 18) dX6_init_18 (ic_s_216) ?_
  refine co_newI (pc := 21) (N := 216) (by decide +kernel : kd 277 = 12) (by decide +kernel : ln 277 = 216) (hfr.up (by decide)) gw_214 (by decide) (by decide) (by decide +kernel) (Nat.le_of_ble_eq_true rfl) (Nat.le_of_ble_eq_true rfl) dX6_init_21 ?_
  show CO w muI_X6 2 222 (278, [(274, 0), (274, 1), (274, 2), (33, 6), (33, 7)], σ) 278 [(275, 2), (274, 0), (274, 1), (274, 2), (33, 6), (33, 7)] σ 2 222 [(0, .ref (adr w 275))] [.ref (adr w 277), .ref (adr w 275)] 23
  refine co_putrF (pc := 23) (L' := [(274, 0), (274, 1), (274, 2), (33, 6), (33, 7)]) ok_6_2 okq_6_2 rfl rfl (by decide) (by decide +kernel : kd 275 = 6) (by decide +kernel : rf 275 2 = 277) (by rfl) gw_206 dX6_init_23 ?_
  exact co_ret (pc := 26) rfl rfl rfl dX6_init_26 rfl
theorem cI_X8_274 {w : Wd} {σ : Mem} (hfr : Fresh σ 274) : MCC w muI_X8 15 303 [.ref (adr w 274)] 275 [(274, 0), (274, 1), (274, 2), (33, 6), (33, 7)] σ (290, [(33, 6), (33, 7)], σ) := by
  refine mcc_of (lv := [(0, .ref (adr w 274))]) okI_X8 rfl rfl (Nat.le_of_ble_eq_true rfl) ?_
  refine co_aload_n (pc := 0) 0 rfl dX8_init_0 rfl ?_
  refine co_objInit (pc := 1) gw_186 gw_179 gw_180 (ltb rfl) (Nat.le_of_ble_eq_true rfl) dX8_init_1 ?_
  refine co_aload_n (pc := 4) 0 rfl dX8_init_4 rfl ?_
  refine co_new (pc := 5) (R := [(275, 1), (275, 2)]) tyX6 tyX6_ok ws_6 rfl (by decide) (by decide +kernel : kd 275 = 6) (hfr.up (by decide)) gw_187 gw_188 gw_160 (by decide) defI_6 (by decide +kernel) (Nat.le_of_ble_eq_true rfl) (Nat.le_of_ble_eq_true rfl) dX8_init_5 ?_
  show CO w muI_X8 15 303 (290, [(33, 6), (33, 7)], σ) 276 [(275, 1), (275, 2), (274, 0), (274, 1), (274, 2), (33, 6), (33, 7)] σ 1 3 [(0, .ref (adr w 274))] [.ref (adr w 275), .ref (adr w 274)] 8
  refine co_dup (pc := 8) dX8_init_8 rfl ?_
  refine co_callN (pc := 9) (As := []) (cI_X6_275 (hfr.up (by decide))) okI_X6 rfl rfl (ltb rfl) (host := "HallRegisters") (by decide +kernel) gw_190 rfl rfl (Nat.le_of_ble_eq_true rfl) rfl (Nat.le_of_ble_eq_true rfl) (Nat.le_of_ble_eq_true rfl) dX8_init_9 ?_
  show CO w muI_X8 15 303 (290, [(33, 6), (33, 7)], σ) 278 [(274, 0), (274, 1), (274, 2), (33, 6), (33, 7)] σ 3 225 [(0, .ref (adr w 274))] [.ref (adr w 275), .ref (adr w 274)] 12
  refine co_putrF (pc := 12) (L' := [(274, 1), (274, 2), (33, 6), (33, 7)]) ok_8_0 okq_8_0 rfl rfl (by decide) (by decide +kernel : kd 274 = 8) (by decide +kernel : rf 274 0 = 275) (by rfl) gw_217 dX8_init_12 ?_
  refine co_aload_n (pc := 15) 0 rfl dX8_init_15 rfl ?_
  refine co_bipush (pc := 16) dX8_init_16 (ic_b_10) ?_
  refine co_bipush (pc := 18) dX8_init_18 (ic_b_6) ?_
  refine co_mna (pc := 20) (N := 10) (M := 6) (by decide +kernel : kd 278 = 16) (by decide +kernel : ln 278 = 10) (by decide +kernel) (hfr.up (by decide)) (by decide) gw_215 gw_232 (by decide) (by decide) (by decide) (by decide) (by decide +kernel) (by decide +kernel) (by decide +kernel) (Nat.le_of_ble_eq_true rfl) (Nat.le_of_ble_eq_true rfl) dX8_init_20 ?_
  show CO w muI_X8 15 303 (290, [(33, 6), (33, 7)], σ) 289 [(274, 1), (274, 2), (33, 6), (33, 7)] σ 14 295 [(0, .ref (adr w 274))] [.ref (adr w 278), .ref (adr w 274)] 24
  refine co_putrF (pc := 24) (L' := [(274, 2), (33, 6), (33, 7)]) ok_8_1 okq_8_1 rfl rfl (by decide) (by decide +kernel : kd 274 = 8) (by decide +kernel : rf 274 1 = 278) (by rfl) gw_220 dX8_init_24 ?_
  refine co_aload_n (pc := 27) 0 rfl dX8_init_27 rfl ?_
  refine co_bipush (pc := 28) dX8_init_28 (ic_b_8) ?_
  refine co_newI (pc := 30) (N := 8) (by decide +kernel : kd 289 = 12) (by decide +kernel : ln 289 = 8) (hfr.up (by decide)) gw_214 (by decide) (by decide) (by decide +kernel) (Nat.le_of_ble_eq_true rfl) (Nat.le_of_ble_eq_true rfl) dX8_init_30 ?_
  show CO w muI_X8 15 303 (290, [(33, 6), (33, 7)], σ) 290 [(274, 2), (33, 6), (33, 7)] σ 15 303 [(0, .ref (adr w 274))] [.ref (adr w 289), .ref (adr w 274)] 32
  refine co_putrF (pc := 32) (L' := [(33, 6), (33, 7)]) ok_8_2 okq_8_2 rfl rfl (by decide) (by decide +kernel : kd 274 = 8) (by decide +kernel : rf 274 2 = 289) (by rfl) gw_223 dX8_init_32 ?_
  exact co_ret (pc := 35) rfl rfl rfl dX8_init_35 rfl
theorem cI_X6_291 {w : Wd} {σ : Mem} (hfr : Fresh σ 291) : MCC w muI_X6 2 222 [.ref (adr w 291)] 292 [(291, 1), (291, 2), (290, 0), (290, 1), (290, 2), (33, 7)] σ (294, [(290, 0), (290, 1), (290, 2), (33, 7)], σ) := by
  refine mcc_of (lv := [(0, .ref (adr w 291))]) okI_X6 rfl rfl (Nat.le_of_ble_eq_true rfl) ?_
  refine co_aload_n (pc := 0) 0 rfl dX6_init_0 rfl ?_
  refine co_objInit (pc := 1) gw_192 gw_179 gw_180 (ltb rfl) (Nat.le_of_ble_eq_true rfl) dX6_init_1 ?_
  refine co_aload_n (pc := 4) 0 rfl dX6_init_4 rfl ?_
  refine co_iconst (pc := 5) dX6_init_5 (ic_i_0) ?_
  refine co_putf (pc := 6) (σ' := σ) ok_6_0 okq_6_0 ⟨by rfl, by rfl⟩ (by decide) (by decide +kernel : kd 291 = 6) (wI_same ((hfr 291 (by decide) 0).1)) gw_193 dX6_init_6 ?_
  refine co_aload_n (pc := 9) 0 rfl dX6_init_9 rfl ?_
  refine co_bipush (pc := 10) dX6_init_10 (ic_b_6) ?_
  refine co_newI (pc := 12) (N := 6) (by decide +kernel : kd 292 = 12) (by decide +kernel : ln 292 = 6) (hfr.up (by decide)) gw_214 (by decide) (by decide) (by decide +kernel) (Nat.le_of_ble_eq_true rfl) (Nat.le_of_ble_eq_true rfl) dX6_init_12 ?_
  show CO w muI_X6 2 222 (294, [(290, 0), (290, 1), (290, 2), (33, 7)], σ) 293 [(291, 1), (291, 2), (290, 0), (290, 1), (290, 2), (33, 7)] σ 1 6 [(0, .ref (adr w 291))] [.ref (adr w 292), .ref (adr w 291)] 14
  refine co_putrF (pc := 14) (L' := [(291, 2), (290, 0), (290, 1), (290, 2), (33, 7)]) ok_6_1 okq_6_1 rfl rfl (by decide) (by decide +kernel : kd 291 = 6) (by decide +kernel : rf 291 1 = 292) (by rfl) gw_200 dX6_init_14 ?_
  refine co_aload_n (pc := 17) 0 rfl dX6_init_17 rfl ?_
  refine co_sipush (pc := 18) dX6_init_18 (ic_s_216) ?_
  refine co_newI (pc := 21) (N := 216) (by decide +kernel : kd 293 = 12) (by decide +kernel : ln 293 = 216) (hfr.up (by decide)) gw_214 (by decide) (by decide) (by decide +kernel) (Nat.le_of_ble_eq_true rfl) (Nat.le_of_ble_eq_true rfl) dX6_init_21 ?_
  show CO w muI_X6 2 222 (294, [(290, 0), (290, 1), (290, 2), (33, 7)], σ) 294 [(291, 2), (290, 0), (290, 1), (290, 2), (33, 7)] σ 2 222 [(0, .ref (adr w 291))] [.ref (adr w 293), .ref (adr w 291)] 23
  refine co_putrF (pc := 23) (L' := [(290, 0), (290, 1), (290, 2), (33, 7)]) ok_6_2 okq_6_2 rfl rfl (by decide) (by decide +kernel : kd 291 = 6) (by decide +kernel : rf 291 2 = 293) (by rfl) gw_206 dX6_init_23 ?_
  exact co_ret (pc := 26) rfl rfl rfl dX6_init_26 rfl
theorem cI_X8_290 {w : Wd} {σ : Mem} (hfr : Fresh σ 290) : MCC w muI_X8 15 303 [.ref (adr w 290)] 291 [(290, 0), (290, 1), (290, 2), (33, 7)] σ (306, [(33, 7)], σ) := by
  refine mcc_of (lv := [(0, .ref (adr w 290))]) okI_X8 rfl rfl (Nat.le_of_ble_eq_true rfl) ?_
  refine co_aload_n (pc := 0) 0 rfl dX8_init_0 rfl ?_
  refine co_objInit (pc := 1) gw_186 gw_179 gw_180 (ltb rfl) (Nat.le_of_ble_eq_true rfl) dX8_init_1 ?_
  refine co_aload_n (pc := 4) 0 rfl dX8_init_4 rfl ?_
  refine co_new (pc := 5) (R := [(291, 1), (291, 2)]) tyX6 tyX6_ok ws_6 rfl (by decide) (by decide +kernel : kd 291 = 6) (hfr.up (by decide)) gw_187 gw_188 gw_160 (by decide) defI_6 (by decide +kernel) (Nat.le_of_ble_eq_true rfl) (Nat.le_of_ble_eq_true rfl) dX8_init_5 ?_
  show CO w muI_X8 15 303 (306, [(33, 7)], σ) 292 [(291, 1), (291, 2), (290, 0), (290, 1), (290, 2), (33, 7)] σ 1 3 [(0, .ref (adr w 290))] [.ref (adr w 291), .ref (adr w 290)] 8
  refine co_dup (pc := 8) dX8_init_8 rfl ?_
  refine co_callN (pc := 9) (As := []) (cI_X6_291 (hfr.up (by decide))) okI_X6 rfl rfl (ltb rfl) (host := "HallRegisters") (by decide +kernel) gw_190 rfl rfl (Nat.le_of_ble_eq_true rfl) rfl (Nat.le_of_ble_eq_true rfl) (Nat.le_of_ble_eq_true rfl) dX8_init_9 ?_
  show CO w muI_X8 15 303 (306, [(33, 7)], σ) 294 [(290, 0), (290, 1), (290, 2), (33, 7)] σ 3 225 [(0, .ref (adr w 290))] [.ref (adr w 291), .ref (adr w 290)] 12
  refine co_putrF (pc := 12) (L' := [(290, 1), (290, 2), (33, 7)]) ok_8_0 okq_8_0 rfl rfl (by decide) (by decide +kernel : kd 290 = 8) (by decide +kernel : rf 290 0 = 291) (by rfl) gw_217 dX8_init_12 ?_
  refine co_aload_n (pc := 15) 0 rfl dX8_init_15 rfl ?_
  refine co_bipush (pc := 16) dX8_init_16 (ic_b_10) ?_
  refine co_bipush (pc := 18) dX8_init_18 (ic_b_6) ?_
  refine co_mna (pc := 20) (N := 10) (M := 6) (by decide +kernel : kd 294 = 16) (by decide +kernel : ln 294 = 10) (by decide +kernel) (hfr.up (by decide)) (by decide) gw_215 gw_232 (by decide) (by decide) (by decide) (by decide) (by decide +kernel) (by decide +kernel) (by decide +kernel) (Nat.le_of_ble_eq_true rfl) (Nat.le_of_ble_eq_true rfl) dX8_init_20 ?_
  show CO w muI_X8 15 303 (306, [(33, 7)], σ) 305 [(290, 1), (290, 2), (33, 7)] σ 14 295 [(0, .ref (adr w 290))] [.ref (adr w 294), .ref (adr w 290)] 24
  refine co_putrF (pc := 24) (L' := [(290, 2), (33, 7)]) ok_8_1 okq_8_1 rfl rfl (by decide) (by decide +kernel : kd 290 = 8) (by decide +kernel : rf 290 1 = 294) (by rfl) gw_220 dX8_init_24 ?_
  refine co_aload_n (pc := 27) 0 rfl dX8_init_27 rfl ?_
  refine co_bipush (pc := 28) dX8_init_28 (ic_b_8) ?_
  refine co_newI (pc := 30) (N := 8) (by decide +kernel : kd 305 = 12) (by decide +kernel : ln 305 = 8) (hfr.up (by decide)) gw_214 (by decide) (by decide) (by decide +kernel) (Nat.le_of_ble_eq_true rfl) (Nat.le_of_ble_eq_true rfl) dX8_init_30 ?_
  show CO w muI_X8 15 303 (306, [(33, 7)], σ) 306 [(290, 2), (33, 7)] σ 15 303 [(0, .ref (adr w 290))] [.ref (adr w 305), .ref (adr w 290)] 32
  refine co_putrF (pc := 32) (L' := [(33, 7)]) ok_8_2 okq_8_2 rfl rfl (by decide) (by decide +kernel : kd 290 = 8) (by decide +kernel : rf 290 2 = 305) (by rfl) gw_223 dX8_init_32 ?_
  exact co_ret (pc := 35) rfl rfl rfl dX8_init_35 rfl
theorem cI_X10_0 {w : Wd} {σ : Mem} (hfr : Fresh σ 0) (hw : WOK w) (hN : wn w = NC) {σ1 : Mem} {σ2 : Mem} (e1 : f_X6_takeKind (wI σ 144 1 (-1)) 2 0 = some σ1) (e2 : f_X4_follow σ1 2 = some σ2) : MCC w muI_X10 305 55212 [.ref (adr w 0)] 1 [(0, 0), (0, 1), (0, 3), (0, 6), (0, 8), (0, 9), (0, 10), (0, 11), (0, 12), (0, 13), (0, 14), (0, 15), (0, 16)] σ (306, [], σ2) := by
  refine mcc_of (lv := [(0, .ref (adr w 0))]) okI_X10 rfl rfl (Nat.le_of_ble_eq_true rfl) ?_
  refine co_aload_n (pc := 0) 0 rfl dX10_init_0 rfl ?_
  refine co_objInit (pc := 1) gw_178 gw_179 gw_180 (ltb rfl) (Nat.le_of_ble_eq_true rfl) dX10_init_1 ?_
  refine co_aload_n (pc := 4) 0 rfl dX10_init_4 rfl ?_
  refine co_new (pc := 5) (R := [(1, 0), (1, 1), (1, 2)]) tyX8 tyX8_ok ws_8 rfl (by decide) (by decide +kernel : kd 1 = 8) (hfr.up (by decide)) gw_181 gw_182 gw_159 (by decide) defI_8 (by decide +kernel) (Nat.le_of_ble_eq_true rfl) (Nat.le_of_ble_eq_true rfl) dX10_init_5 ?_
  show CO w muI_X10 305 55212 (306, [], σ2) 2 [(1, 0), (1, 1), (1, 2), (0, 0), (0, 1), (0, 3), (0, 6), (0, 8), (0, 9), (0, 10), (0, 11), (0, 12), (0, 13), (0, 14), (0, 15), (0, 16)] σ 1 3 [(0, .ref (adr w 0))] [.ref (adr w 1), .ref (adr w 0)] 8
  refine co_dup (pc := 8) dX10_init_8 rfl ?_
  refine co_callN (pc := 9) (As := []) (cI_X8_1 (hfr.up (by decide))) okI_X8 rfl rfl (ltb rfl) (host := "HallRegisters") (by decide +kernel) gw_184 rfl rfl (Nat.le_of_ble_eq_true rfl) rfl (Nat.le_of_ble_eq_true rfl) (Nat.le_of_ble_eq_true rfl) dX10_init_9 ?_
  show CO w muI_X10 305 55212 (306, [], σ2) 17 [(0, 0), (0, 1), (0, 3), (0, 6), (0, 8), (0, 9), (0, 10), (0, 11), (0, 12), (0, 13), (0, 14), (0, 15), (0, 16)] σ 16 306 [(0, .ref (adr w 0))] [.ref (adr w 1), .ref (adr w 0)] 12
  refine co_putrF (pc := 12) (L' := [(0, 1), (0, 3), (0, 6), (0, 8), (0, 9), (0, 10), (0, 11), (0, 12), (0, 13), (0, 14), (0, 15), (0, 16)]) ok_10_0 okq_10_0 rfl rfl (by decide) (by decide +kernel : kd 0 = 10) (by decide +kernel : rf 0 0 = 1) (by rfl) gw_631 dX10_init_12 ?_
  refine co_aload_n (pc := 15) 0 rfl dX10_init_15 rfl ?_
  refine co_new (pc := 16) (R := [(17, 0), (17, 1), (17, 2)]) tyX8 tyX8_ok ws_8 rfl (by decide) (by decide +kernel : kd 17 = 8) (hfr.up (by decide)) gw_181 gw_182 gw_159 (by decide) defI_8 (by decide +kernel) (Nat.le_of_ble_eq_true rfl) (Nat.le_of_ble_eq_true rfl) dX10_init_16 ?_
  show CO w muI_X10 305 55212 (306, [], σ2) 18 [(17, 0), (17, 1), (17, 2), (0, 1), (0, 3), (0, 6), (0, 8), (0, 9), (0, 10), (0, 11), (0, 12), (0, 13), (0, 14), (0, 15), (0, 16)] σ 17 309 [(0, .ref (adr w 0))] [.ref (adr w 17), .ref (adr w 0)] 19
  refine co_dup (pc := 19) dX10_init_19 rfl ?_
  refine co_callN (pc := 20) (As := []) (cI_X8_17 (hfr.up (by decide))) okI_X8 rfl rfl (ltb rfl) (host := "HallRegisters") (by decide +kernel) gw_184 rfl rfl (Nat.le_of_ble_eq_true rfl) rfl (Nat.le_of_ble_eq_true rfl) (Nat.le_of_ble_eq_true rfl) dX10_init_20 ?_
  show CO w muI_X10 305 55212 (306, [], σ2) 33 [(0, 1), (0, 3), (0, 6), (0, 8), (0, 9), (0, 10), (0, 11), (0, 12), (0, 13), (0, 14), (0, 15), (0, 16)] σ 32 612 [(0, .ref (adr w 0))] [.ref (adr w 17), .ref (adr w 0)] 23
  refine co_putrF (pc := 23) (L' := [(0, 3), (0, 6), (0, 8), (0, 9), (0, 10), (0, 11), (0, 12), (0, 13), (0, 14), (0, 15), (0, 16)]) ok_10_1 okq_10_1 rfl rfl (by decide) (by decide +kernel : kd 0 = 10) (by decide +kernel : rf 0 1 = 17) (by rfl) gw_632 dX10_init_23 ?_
  refine co_aload_n (pc := 26) 0 rfl dX10_init_26 rfl ?_
  refine co_iconst (pc := 27) dX10_init_27 (ic_i_0) ?_
  refine co_putf (pc := 28) (σ' := σ) ok_10_2 okq_10_2 ⟨by rfl, by rfl⟩ (by decide) (by decide +kernel : kd 0 = 10) (wI_same ((hfr 0 (by decide) 2).1)) gw_633 dX10_init_28 ?_
  refine co_aload_n (pc := 31) 0 rfl dX10_init_31 rfl ?_
  refine co_bipush (pc := 32) dX10_init_32 (ic_b_8) ?_
  refine co_anew (pc := 34) (N := 8) (R := [(33, 0), (33, 1), (33, 2), (33, 3), (33, 4), (33, 5), (33, 6), (33, 7)]) (c := 14) (t0 := 2) (by decide) (by decide +kernel : kd 33 = 14) (by decide +kernel : ln 33 = 8) rfl (fun _ h => h.2.2.1) (by decide) (by decide) gw_181 (by decide) (by decide) (by decide) (Nat.le_of_ble_eq_true rfl) (Nat.le_of_ble_eq_true rfl) dX10_init_34 ?_
  show CO w muI_X10 305 55212 (306, [], σ2) 34 [(33, 0), (33, 1), (33, 2), (33, 3), (33, 4), (33, 5), (33, 6), (33, 7), (0, 3), (0, 6), (0, 8), (0, 9), (0, 10), (0, 11), (0, 12), (0, 13), (0, 14), (0, 15), (0, 16)] σ 33 620 [(0, .ref (adr w 0))] [.ref (adr w 33), .ref (adr w 0)] 37
  refine co_putrF (pc := 37) (L' := [(33, 0), (33, 1), (33, 2), (33, 3), (33, 4), (33, 5), (33, 6), (33, 7), (0, 6), (0, 8), (0, 9), (0, 10), (0, 11), (0, 12), (0, 13), (0, 14), (0, 15), (0, 16)]) ok_10_3 okq_10_3 rfl rfl (by decide) (by decide +kernel : kd 0 = 10) (by decide +kernel : rf 0 3 = 33) (by rfl) gw_634 dX10_init_37 ?_
  refine co_aload_n (pc := 40) 0 rfl dX10_init_40 rfl ?_
  refine co_iconst (pc := 41) dX10_init_41 (ic_i_0) ?_
  refine co_putf (pc := 42) (σ' := σ) ok_10_4 okq_10_4 ⟨by rfl, by rfl⟩ (by decide) (by decide +kernel : kd 0 = 10) (wI_same ((hfr 0 (by decide) 4).1)) gw_635 dX10_init_42 ?_
  refine co_aload_n (pc := 45) 0 rfl dX10_init_45 rfl ?_
  refine co_iconst (pc := 46) dX10_init_46 (ic_i_0) ?_
  refine co_putf (pc := 47) (σ' := σ) ok_10_5 okq_10_5 ⟨by rfl, by rfl⟩ (by decide) (by decide +kernel : kd 0 = 10) (wI_same ((hfr 0 (by decide) 5).1)) gw_636 dX10_init_47 ?_
  refine co_aload_n (pc := 50) 0 rfl dX10_init_50 rfl ?_
  refine co_sipush (pc := 51) dX10_init_51 (ic_s_200) ?_
  refine co_newI (pc := 54) (N := 200) (by decide +kernel : kd 34 = 12) (by decide +kernel : ln 34 = 200) (hfr.up (by decide)) gw_214 (by decide) (by decide) (by decide +kernel) (Nat.le_of_ble_eq_true rfl) (Nat.le_of_ble_eq_true rfl) dX10_init_54 ?_
  show CO w muI_X10 305 55212 (306, [], σ2) 35 [(33, 0), (33, 1), (33, 2), (33, 3), (33, 4), (33, 5), (33, 6), (33, 7), (0, 6), (0, 8), (0, 9), (0, 10), (0, 11), (0, 12), (0, 13), (0, 14), (0, 15), (0, 16)] σ 34 820 [(0, .ref (adr w 0))] [.ref (adr w 34), .ref (adr w 0)] 56
  refine co_putrF (pc := 56) (L' := [(33, 0), (33, 1), (33, 2), (33, 3), (33, 4), (33, 5), (33, 6), (33, 7), (0, 8), (0, 9), (0, 10), (0, 11), (0, 12), (0, 13), (0, 14), (0, 15), (0, 16)]) ok_10_6 okq_10_6 rfl rfl (by decide) (by decide +kernel : kd 0 = 10) (by decide +kernel : rf 0 6 = 34) (by rfl) gw_637 dX10_init_56 ?_
  refine co_aload_n (pc := 59) 0 rfl dX10_init_59 rfl ?_
  refine co_iconst (pc := 60) dX10_init_60 (ic_i_0) ?_
  refine co_putf (pc := 61) (σ' := σ) ok_10_7 okq_10_7 ⟨by rfl, by rfl⟩ (by decide) (by decide +kernel : kd 0 = 10) (wI_same ((hfr 0 (by decide) 7).1)) gw_638 dX10_init_61 ?_
  refine co_aload_n (pc := 64) 0 rfl dX10_init_64 rfl ?_
  refine co_new (pc := 65) (R := [(35, 0), (35, 2), (35, 4), (35, 6)]) tyX2 tyX2_ok ws_2 rfl (by decide) (by decide +kernel : kd 35 = 2) (hfr.up (by decide)) gw_234 gw_235 gw_161 (by decide) defI_2 (by decide +kernel) (Nat.le_of_ble_eq_true rfl) (Nat.le_of_ble_eq_true rfl) dX10_init_65 ?_
  show CO w muI_X10 305 55212 (306, [], σ2) 36 [(35, 0), (35, 2), (35, 4), (35, 6), (33, 0), (33, 1), (33, 2), (33, 3), (33, 4), (33, 5), (33, 6), (33, 7), (0, 8), (0, 9), (0, 10), (0, 11), (0, 12), (0, 13), (0, 14), (0, 15), (0, 16)] σ 35 827 [(0, .ref (adr w 0))] [.ref (adr w 35), .ref (adr w 0)] 68
  refine co_dup (pc := 68) dX10_init_68 rfl ?_
  refine co_callN (pc := 69) (As := []) (cI_X2_35 (hfr.up (by decide))) okI_X2 rfl rfl (ltb rfl) (host := "HallRegisters") (by decide +kernel) gw_237 rfl rfl (Nat.le_of_ble_eq_true rfl) rfl (Nat.le_of_ble_eq_true rfl) (Nat.le_of_ble_eq_true rfl) dX10_init_69 ?_
  show CO w muI_X10 305 55212 (306, [], σ2) 40 [(33, 0), (33, 1), (33, 2), (33, 3), (33, 4), (33, 5), (33, 6), (33, 7), (0, 8), (0, 9), (0, 10), (0, 11), (0, 12), (0, 13), (0, 14), (0, 15), (0, 16)] σ 39 25049 [(0, .ref (adr w 0))] [.ref (adr w 35), .ref (adr w 0)] 72
  refine co_putrF (pc := 72) (L' := [(33, 0), (33, 1), (33, 2), (33, 3), (33, 4), (33, 5), (33, 6), (33, 7), (0, 9), (0, 10), (0, 11), (0, 12), (0, 13), (0, 14), (0, 15), (0, 16)]) ok_10_8 okq_10_8 rfl rfl (by decide) (by decide +kernel : kd 0 = 10) (by decide +kernel : rf 0 8 = 35) (by rfl) gw_639 dX10_init_72 ?_
  refine co_aload_n (pc := 75) 0 rfl dX10_init_75 rfl ?_
  refine co_new (pc := 76) (R := [(40, 0), (40, 2), (40, 5), (40, 7), (40, 8), (40, 1)]) tyX4 tyX4_ok ws_4 rfl (by decide) (by decide +kernel : kd 40 = 4) (hfr.up (by decide)) gw_264 gw_265 gw_162 (by decide) defI_4 (by decide +kernel) (Nat.le_of_ble_eq_true rfl) (Nat.le_of_ble_eq_true rfl) dX10_init_76 ?_
  show CO w muI_X10 305 55212 (306, [], σ2) 41 [(40, 0), (40, 2), (40, 5), (40, 7), (40, 8), (40, 1), (33, 0), (33, 1), (33, 2), (33, 3), (33, 4), (33, 5), (33, 6), (33, 7), (0, 9), (0, 10), (0, 11), (0, 12), (0, 13), (0, 14), (0, 15), (0, 16)] σ 40 25058 [(0, .ref (adr w 0))] [.ref (adr w 40), .ref (adr w 0)] 79
  refine co_dup (pc := 79) dX10_init_79 rfl ?_
  refine co_aload_n (pc := 80) 0 rfl dX10_init_80 rfl ?_
  refine co_getr (pc := 81) ok_10_8 (by decide) (by decide +kernel : kd 0 = 10) (by decide) (by decide +kernel : rf 0 8 = 35) gw_639 dX10_init_81 ?_
  refine co_call (pc := 84) (As := [.ref (adr w 35)]) (cI_X4_40 (hfr.up (by decide))) okI_X4 rfl rfl (ltb rfl) gw_266 gw_267 rfl rfl (Nat.le_of_ble_eq_true rfl) rfl (Nat.le_of_ble_eq_true rfl) (Nat.le_of_ble_eq_true rfl) dX10_init_84 ?_
  show CO w muI_X10 305 55212 (306, [], σ2) 72 [(33, 0), (33, 1), (33, 2), (33, 3), (33, 4), (33, 5), (33, 6), (33, 7), (0, 9), (0, 10), (0, 11), (0, 12), (0, 13), (0, 14), (0, 15), (0, 16)] σ 71 33585 [(0, .ref (adr w 0))] [.ref (adr w 40), .ref (adr w 0)] 87
  refine co_putrF (pc := 87) (L' := [(33, 0), (33, 1), (33, 2), (33, 3), (33, 4), (33, 5), (33, 6), (33, 7), (0, 10), (0, 11), (0, 12), (0, 13), (0, 14), (0, 15), (0, 16)]) ok_10_9 okq_10_9 rfl rfl (by decide) (by decide +kernel : kd 0 = 10) (by decide +kernel : rf 0 9 = 40) (by rfl) gw_640 dX10_init_87 ?_
  refine co_aload_n (pc := 90) 0 rfl dX10_init_90 rfl ?_
  refine co_new (pc := 91) (R := [(72, 1), (72, 2), (72, 3), (72, 4), (72, 5), (72, 6), (72, 7), (72, 0)]) tyX0 tyX0_ok ws_0 rfl (by decide) (by decide +kernel : kd 72 = 0) (hfr.up (by decide)) gw_334 gw_335 gw_164 (by decide) defI_0 (by decide +kernel) (Nat.le_of_ble_eq_true rfl) (Nat.le_of_ble_eq_true rfl) dX10_init_91 ?_
  show CO w muI_X10 305 55212 (306, [], σ2) 73 [(72, 1), (72, 2), (72, 3), (72, 4), (72, 5), (72, 6), (72, 7), (72, 0), (33, 0), (33, 1), (33, 2), (33, 3), (33, 4), (33, 5), (33, 6), (33, 7), (0, 10), (0, 11), (0, 12), (0, 13), (0, 14), (0, 15), (0, 16)] σ 72 33593 [(0, .ref (adr w 0))] [.ref (adr w 72), .ref (adr w 0)] 94
  refine co_dup (pc := 94) dX10_init_94 rfl ?_
  refine co_aload_n (pc := 95) 0 rfl dX10_init_95 rfl ?_
  refine co_getr (pc := 96) ok_10_9 (by decide) (by decide +kernel : kd 0 = 10) (by decide) (by decide +kernel : rf 0 9 = 40) gw_640 dX10_init_96 ?_
  refine co_call (pc := 99) (As := [.ref (adr w 40)]) (cI_X0_72 (hfr.up (by decide))) okI_X0 rfl rfl (ltb rfl) gw_336 gw_337 rfl rfl (Nat.le_of_ble_eq_true rfl) rfl (Nat.le_of_ble_eq_true rfl) (Nat.le_of_ble_eq_true rfl) dX10_init_99 ?_
  show CO w muI_X10 305 55212 (306, [], σ2) 80 [(33, 0), (33, 1), (33, 2), (33, 3), (33, 4), (33, 5), (33, 6), (33, 7), (0, 10), (0, 11), (0, 12), (0, 13), (0, 14), (0, 15), (0, 16)] σ 79 33751 [(0, .ref (adr w 0))] [.ref (adr w 72), .ref (adr w 0)] 102
  refine co_putrF (pc := 102) (L' := [(33, 0), (33, 1), (33, 2), (33, 3), (33, 4), (33, 5), (33, 6), (33, 7), (0, 11), (0, 12), (0, 13), (0, 14), (0, 15), (0, 16)]) ok_10_10 okq_10_10 rfl rfl (by decide) (by decide +kernel : kd 0 = 10) (by decide +kernel : rf 0 10 = 72) (by rfl) gw_641 dX10_init_102 ?_
  refine co_aload_n (pc := 105) 0 rfl dX10_init_105 rfl ?_
  refine co_new (pc := 106) (R := [(80, 1), (80, 2), (80, 3), (80, 4), (80, 5), (80, 6), (80, 7), (80, 0)]) tyX7 tyX7_ok ws_7 rfl (by decide) (by decide +kernel : kd 80 = 7) (hfr.up (by decide)) gw_365 gw_366 gw_165 (by decide) defI_7 (by decide +kernel) (Nat.le_of_ble_eq_true rfl) (Nat.le_of_ble_eq_true rfl) dX10_init_106 ?_
  show CO w muI_X10 305 55212 (306, [], σ2) 81 [(80, 1), (80, 2), (80, 3), (80, 4), (80, 5), (80, 6), (80, 7), (80, 0), (33, 0), (33, 1), (33, 2), (33, 3), (33, 4), (33, 5), (33, 6), (33, 7), (0, 11), (0, 12), (0, 13), (0, 14), (0, 15), (0, 16)] σ 80 33762 [(0, .ref (adr w 0))] [.ref (adr w 80), .ref (adr w 0)] 109
  refine co_dup (pc := 109) dX10_init_109 rfl ?_
  refine co_aload_n (pc := 110) 0 rfl dX10_init_110 rfl ?_
  refine co_getr (pc := 111) ok_10_9 (by decide) (by decide +kernel : kd 0 = 10) (by decide) (by decide +kernel : rf 0 9 = 40) gw_640 dX10_init_111 ?_
  refine co_call (pc := 114) (As := [.ref (adr w 40)]) (cI_X7_80 (hfr.up (by decide))) okI_X7 rfl rfl (ltb rfl) gw_367 gw_368 rfl rfl (Nat.le_of_ble_eq_true rfl) rfl (Nat.le_of_ble_eq_true rfl) (Nat.le_of_ble_eq_true rfl) dX10_init_114 ?_
  show CO w muI_X10 305 55212 (306, [], σ2) 128 [(33, 0), (33, 1), (33, 2), (33, 3), (33, 4), (33, 5), (33, 6), (33, 7), (0, 11), (0, 12), (0, 13), (0, 14), (0, 15), (0, 16)] σ 127 42166 [(0, .ref (adr w 0))] [.ref (adr w 80), .ref (adr w 0)] 117
  refine co_putrF (pc := 117) (L' := [(33, 0), (33, 1), (33, 2), (33, 3), (33, 4), (33, 5), (33, 6), (33, 7), (0, 12), (0, 13), (0, 14), (0, 15), (0, 16)]) ok_10_11 okq_10_11 rfl rfl (by decide) (by decide +kernel : kd 0 = 10) (by decide +kernel : rf 0 11 = 80) (by rfl) gw_642 dX10_init_117 ?_
  refine co_aload_n (pc := 120) 0 rfl dX10_init_120 rfl ?_
  refine co_new (pc := 121) (R := [(128, 3), (128, 4), (128, 5), (128, 7), (128, 8), (128, 9), (128, 0), (128, 1)]) tyX1 tyX1_ok ws_1 rfl (by decide) (by decide +kernel : kd 128 = 1) (hfr.up (by decide)) gw_425 gw_426 gw_167 (by decide) defI_1 (by decide +kernel) (Nat.le_of_ble_eq_true rfl) (Nat.le_of_ble_eq_true rfl) dX10_init_121 ?_
  show CO w muI_X10 305 55212 (306, [], σ2) 129 [(128, 3), (128, 4), (128, 5), (128, 7), (128, 8), (128, 9), (128, 0), (128, 1), (33, 0), (33, 1), (33, 2), (33, 3), (33, 4), (33, 5), (33, 6), (33, 7), (0, 12), (0, 13), (0, 14), (0, 15), (0, 16)] σ 128 42176 [(0, .ref (adr w 0))] [.ref (adr w 128), .ref (adr w 0)] 124
  refine co_dup (pc := 124) dX10_init_124 rfl ?_
  refine co_aload_n (pc := 125) 0 rfl dX10_init_125 rfl ?_
  refine co_getr (pc := 126) ok_10_9 (by decide) (by decide +kernel : kd 0 = 10) (by decide) (by decide +kernel : rf 0 9 = 40) gw_640 dX10_init_126 ?_
  refine co_aload_n (pc := 129) 0 rfl dX10_init_129 rfl ?_
  refine co_getr (pc := 130) ok_10_10 (by decide) (by decide +kernel : kd 0 = 10) (by decide) (by decide +kernel : rf 0 10 = 72) gw_641 dX10_init_130 ?_
  refine co_call (pc := 133) (As := [.ref (adr w 40), .ref (adr w 72)]) (cI_X1_128 (hfr.up (by decide))) okI_X1 rfl rfl (ltb rfl) gw_427 gw_428 rfl rfl (Nat.le_of_ble_eq_true rfl) rfl (Nat.le_of_ble_eq_true rfl) (Nat.le_of_ble_eq_true rfl) dX10_init_133 ?_
  show CO w muI_X10 305 55212 (306, [], σ2) 135 [(33, 0), (33, 1), (33, 2), (33, 3), (33, 4), (33, 5), (33, 6), (33, 7), (0, 12), (0, 13), (0, 14), (0, 15), (0, 16)] σ 134 52301 [(0, .ref (adr w 0))] [.ref (adr w 128), .ref (adr w 0)] 136
  refine co_putrF (pc := 136) (L' := [(33, 0), (33, 1), (33, 2), (33, 3), (33, 4), (33, 5), (33, 6), (33, 7), (0, 13), (0, 14), (0, 15), (0, 16)]) ok_10_12 okq_10_12 rfl rfl (by decide) (by decide +kernel : kd 0 = 10) (by decide +kernel : rf 0 12 = 128) (by rfl) gw_643 dX10_init_136 ?_
  refine co_aload_n (pc := 139) 0 rfl dX10_init_139 rfl ?_
  refine co_new (pc := 140) (R := [(135, 1), (135, 2)]) tyX3 tyX3_ok ws_3 rfl (by decide) (by decide +kernel : kd 135 = 3) (hfr.up (by decide)) gw_462 gw_372 gw_166 (by decide) defI_3 (by decide +kernel) (Nat.le_of_ble_eq_true rfl) (Nat.le_of_ble_eq_true rfl) dX10_init_140 ?_
  show CO w muI_X10 305 55212 (306, [], σ2) 136 [(135, 1), (135, 2), (33, 0), (33, 1), (33, 2), (33, 3), (33, 4), (33, 5), (33, 6), (33, 7), (0, 13), (0, 14), (0, 15), (0, 16)] σ 135 52304 [(0, .ref (adr w 0))] [.ref (adr w 135), .ref (adr w 0)] 143
  refine co_dup (pc := 143) dX10_init_143 rfl ?_
  refine co_callN (pc := 144) (As := []) (cI_X3_135 (hfr.up (by decide))) okI_X3 rfl rfl (ltb rfl) (host := "HallRegisters") (by decide +kernel) gw_374 rfl rfl (Nat.le_of_ble_eq_true rfl) rfl (Nat.le_of_ble_eq_true rfl) (Nat.le_of_ble_eq_true rfl) dX10_init_144 ?_
  show CO w muI_X10 305 55212 (306, [], σ2) 144 [(33, 0), (33, 1), (33, 2), (33, 3), (33, 4), (33, 5), (33, 6), (33, 7), (0, 13), (0, 14), (0, 15), (0, 16)] σ 143 52352 [(0, .ref (adr w 0))] [.ref (adr w 135), .ref (adr w 0)] 147
  refine co_putrF (pc := 147) (L' := [(33, 0), (33, 1), (33, 2), (33, 3), (33, 4), (33, 5), (33, 6), (33, 7), (0, 14), (0, 15), (0, 16)]) ok_10_13 okq_10_13 rfl rfl (by decide) (by decide +kernel : kd 0 = 10) (by decide +kernel : rf 0 13 = 135) (by rfl) gw_644 dX10_init_147 ?_
  refine co_aload_n (pc := 150) 0 rfl dX10_init_150 rfl ?_
  refine co_new (pc := 151) (R := [(144, 2), (144, 3), (144, 4), (144, 7), (144, 5), (144, 6)]) tyX5 tyX5_ok ws_5 rfl (by decide) (by decide +kernel : kd 144 = 5) (hfr.up (by decide)) gw_464 gw_465 gw_168 (by decide) defI_5 (by decide +kernel) (Nat.le_of_ble_eq_true rfl) (Nat.le_of_ble_eq_true rfl) dX10_init_151 ?_
  show CO w muI_X10 305 55212 (306, [], σ2) 145 [(144, 2), (144, 3), (144, 4), (144, 7), (144, 5), (144, 6), (33, 0), (33, 1), (33, 2), (33, 3), (33, 4), (33, 5), (33, 6), (33, 7), (0, 14), (0, 15), (0, 16)] σ 144 52363 [(0, .ref (adr w 0))] [.ref (adr w 144), .ref (adr w 0)] 154
  refine co_dup (pc := 154) dX10_init_154 rfl ?_
  refine co_aload_n (pc := 155) 0 rfl dX10_init_155 rfl ?_
  refine co_getr (pc := 156) ok_10_0 (by decide) (by decide +kernel : kd 0 = 10) (by decide) (by decide +kernel : rf 0 0 = 1) gw_631 dX10_init_156 ?_
  refine co_aload_n (pc := 159) 0 rfl dX10_init_159 rfl ?_
  refine co_getr (pc := 160) ok_10_10 (by decide) (by decide +kernel : kd 0 = 10) (by decide) (by decide +kernel : rf 0 10 = 72) gw_641 dX10_init_160 ?_
  refine co_call (pc := 163) (As := [.ref (adr w 1), .ref (adr w 72)]) (cI_X5_144 (hfr.up (by decide))) okI_X5 rfl rfl (ltb rfl) gw_466 gw_467 rfl rfl (Nat.le_of_ble_eq_true rfl) rfl (Nat.le_of_ble_eq_true rfl) (Nat.le_of_ble_eq_true rfl) dX10_init_163 ?_
  show CO w muI_X10 305 55212 (306, [], σ2) 176 [(33, 0), (33, 1), (33, 2), (33, 3), (33, 4), (33, 5), (33, 6), (33, 7), (0, 14), (0, 15), (0, 16)] (wI σ 144 1 (-1)) 175 52752 [(0, .ref (adr w 0))] [.ref (adr w 144), .ref (adr w 0)] 166
  refine co_putrF (pc := 166) (L' := [(33, 0), (33, 1), (33, 2), (33, 3), (33, 4), (33, 5), (33, 6), (33, 7), (0, 15), (0, 16)]) ok_10_14 okq_10_14 rfl rfl (by decide) (by decide +kernel : kd 0 = 10) (by decide +kernel : rf 0 14 = 144) (by rfl) gw_645 dX10_init_166 ?_
  refine co_aload_n (pc := 169) 0 rfl dX10_init_169 rfl ?_
  refine co_bipush (pc := 170) dX10_init_170 (ic_b_6) ?_
  refine co_newL (pc := 172) (N := 6) (by decide +kernel : kd 176 = 13) (by decide +kernel : ln 176 = 6) (fresh_wI (hfr.up (by decide)) (by decide)) gw_232 (by decide) (by decide) (by decide +kernel) (Nat.le_of_ble_eq_true rfl) (Nat.le_of_ble_eq_true rfl) dX10_init_172 ?_
  show CO w muI_X10 305 55212 (306, [], σ2) 177 [(33, 0), (33, 1), (33, 2), (33, 3), (33, 4), (33, 5), (33, 6), (33, 7), (0, 15), (0, 16)] (wI σ 144 1 (-1)) 176 52758 [(0, .ref (adr w 0))] [.ref (adr w 176), .ref (adr w 0)] 174
  refine co_putrF (pc := 174) (L' := [(33, 0), (33, 1), (33, 2), (33, 3), (33, 4), (33, 5), (33, 6), (33, 7), (0, 16)]) ok_10_15 okq_10_15 rfl rfl (by decide) (by decide +kernel : kd 0 = 10) (by decide +kernel : rf 0 15 = 176) (by rfl) gw_646 dX10_init_174 ?_
  refine co_aload_n (pc := 177) 0 rfl dX10_init_177 rfl ?_
  refine co_bipush (pc := 178) dX10_init_178 (ic_b_6) ?_
  refine co_newL (pc := 180) (N := 6) (by decide +kernel : kd 177 = 13) (by decide +kernel : ln 177 = 6) (fresh_wI (hfr.up (by decide)) (by decide)) gw_232 (by decide) (by decide) (by decide +kernel) (Nat.le_of_ble_eq_true rfl) (Nat.le_of_ble_eq_true rfl) dX10_init_180 ?_
  show CO w muI_X10 305 55212 (306, [], σ2) 178 [(33, 0), (33, 1), (33, 2), (33, 3), (33, 4), (33, 5), (33, 6), (33, 7), (0, 16)] (wI σ 144 1 (-1)) 177 52764 [(0, .ref (adr w 0))] [.ref (adr w 177), .ref (adr w 0)] 182
  refine co_putrF (pc := 182) (L' := [(33, 0), (33, 1), (33, 2), (33, 3), (33, 4), (33, 5), (33, 6), (33, 7)]) ok_10_16 okq_10_16 rfl rfl (by decide) (by decide +kernel : kd 0 = 10) (by decide +kernel : rf 0 16 = 177) (by rfl) gw_647 dX10_init_182 ?_
  refine co_iconst (pc := 185) dX10_init_185 (ic_i_0) ?_
  refine co_istore_n (pc := 186) (lv' := [(1, .int 0), (0, .ref (adr w 0))]) dX10_init_186 rfl (ltb rfl) rfl ?_
  refine co_iload_n (pc := 187) 0 rfl dX10_init_187 rfl ?_
  refine co_bipush (pc := 188) dX10_init_188 (ic_b_8) ?_
  refine co_ge_f (pc := 190) dX10_init_190 (tgt := 212) rfl (by decide) ?_
  refine co_aload_n (pc := 193) 1 rfl dX10_init_193 rfl ?_
  refine co_getr (pc := 194) ok_10_3 (by decide) (by decide +kernel : kd 0 = 10) (by decide) (by decide +kernel : rf 0 3 = 33) gw_634 dX10_init_194 ?_
  refine co_iload_n (pc := 197) 0 rfl dX10_init_197 rfl ?_
  refine co_new (pc := 198) (R := [(178, 0), (178, 1), (178, 2)]) tyX8 tyX8_ok ws_8 rfl (by decide) (by decide +kernel : kd 178 = 8) (fresh_wI (hfr.up (by decide)) (by decide)) gw_181 gw_182 gw_159 (by decide) defI_8 (by decide +kernel) (Nat.le_of_ble_eq_true rfl) (Nat.le_of_ble_eq_true rfl) dX10_init_198 ?_
  show CO w muI_X10 305 55212 (306, [], σ2) 179 [(178, 0), (178, 1), (178, 2), (33, 0), (33, 1), (33, 2), (33, 3), (33, 4), (33, 5), (33, 6), (33, 7)] (wI σ 144 1 (-1)) 178 52767 [(1, .int 0), (0, .ref (adr w 0))] [.ref (adr w 178), .int 0, .ref (adr w 33)] 201
  refine co_dup (pc := 201) dX10_init_201 rfl ?_
  refine co_callN (pc := 202) (As := []) (cI_X8_178 (fresh_wI (hfr.up (by decide)) (by decide))) okI_X8 rfl rfl (ltb rfl) (host := "HallRegisters") (by decide +kernel) gw_184 rfl rfl (Nat.le_of_ble_eq_true rfl) rfl (Nat.le_of_ble_eq_true rfl) (Nat.le_of_ble_eq_true rfl) dX10_init_202 ?_
  show CO w muI_X10 305 55212 (306, [], σ2) 194 [(33, 0), (33, 1), (33, 2), (33, 3), (33, 4), (33, 5), (33, 6), (33, 7)] (wI σ 144 1 (-1)) 193 53070 [(1, .int 0), (0, .ref (adr w 0))] [.ref (adr w 178), .int 0, .ref (adr w 33)] 205
  refine co_aast (pc := 205) (L' := [(33, 1), (33, 2), (33, 3), (33, 4), (33, 5), (33, 6), (33, 7)]) (c := 14) (ci := 8) (j := 0) (t0 := 2) (by decide) (by decide) (by decide +kernel : kd 33 = 14) (by decide) (by decide +kernel : kd 178 = 8) (by decide) rfl rfl (by decide) (by unfold vp_in; decide +kernel) (by decide +kernel : rf 33 0 = 178) (by rfl) dX10_init_205 ?_
  refine co_iinc (pc := 206) (lv' := [(1, .int 1), (0, .ref (adr w 0))]) 0 rfl dX10_init_206 (v := 1) (by decide +kernel) (ltb rfl) rfl ?_
  refine co_goto (pc := 209) dX10_init_209 (tgt := 187) rfl ?_
  refine co_iload_n (pc := 187) 0 rfl dX10_init_187 rfl ?_
  refine co_bipush (pc := 188) dX10_init_188 (ic_b_8) ?_
  refine co_ge_f (pc := 190) dX10_init_190 (tgt := 212) rfl (by decide) ?_
  refine co_aload_n (pc := 193) 1 rfl dX10_init_193 rfl ?_
  refine co_getr (pc := 194) ok_10_3 (by decide) (by decide +kernel : kd 0 = 10) (by decide) (by decide +kernel : rf 0 3 = 33) gw_634 dX10_init_194 ?_
  refine co_iload_n (pc := 197) 0 rfl dX10_init_197 rfl ?_
  refine co_new (pc := 198) (R := [(194, 0), (194, 1), (194, 2)]) tyX8 tyX8_ok ws_8 rfl (by decide) (by decide +kernel : kd 194 = 8) (fresh_wI (hfr.up (by decide)) (by decide)) gw_181 gw_182 gw_159 (by decide) defI_8 (by decide +kernel) (Nat.le_of_ble_eq_true rfl) (Nat.le_of_ble_eq_true rfl) dX10_init_198 ?_
  show CO w muI_X10 305 55212 (306, [], σ2) 195 [(194, 0), (194, 1), (194, 2), (33, 1), (33, 2), (33, 3), (33, 4), (33, 5), (33, 6), (33, 7)] (wI σ 144 1 (-1)) 194 53073 [(1, .int 1), (0, .ref (adr w 0))] [.ref (adr w 194), .int 1, .ref (adr w 33)] 201
  refine co_dup (pc := 201) dX10_init_201 rfl ?_
  refine co_callN (pc := 202) (As := []) (cI_X8_194 (fresh_wI (hfr.up (by decide)) (by decide))) okI_X8 rfl rfl (ltb rfl) (host := "HallRegisters") (by decide +kernel) gw_184 rfl rfl (Nat.le_of_ble_eq_true rfl) rfl (Nat.le_of_ble_eq_true rfl) (Nat.le_of_ble_eq_true rfl) dX10_init_202 ?_
  show CO w muI_X10 305 55212 (306, [], σ2) 210 [(33, 1), (33, 2), (33, 3), (33, 4), (33, 5), (33, 6), (33, 7)] (wI σ 144 1 (-1)) 209 53376 [(1, .int 1), (0, .ref (adr w 0))] [.ref (adr w 194), .int 1, .ref (adr w 33)] 205
  refine co_aast (pc := 205) (L' := [(33, 2), (33, 3), (33, 4), (33, 5), (33, 6), (33, 7)]) (c := 14) (ci := 8) (j := 1) (t0 := 2) (by decide) (by decide) (by decide +kernel : kd 33 = 14) (by decide) (by decide +kernel : kd 194 = 8) (by decide) rfl rfl (by decide) (by unfold vp_in; decide +kernel) (by decide +kernel : rf 33 1 = 194) (by rfl) dX10_init_205 ?_
  refine co_iinc (pc := 206) (lv' := [(1, .int 2), (0, .ref (adr w 0))]) 0 rfl dX10_init_206 (v := 2) (by decide +kernel) (ltb rfl) rfl ?_
  refine co_goto (pc := 209) dX10_init_209 (tgt := 187) rfl ?_
  refine co_iload_n (pc := 187) 0 rfl dX10_init_187 rfl ?_
  refine co_bipush (pc := 188) dX10_init_188 (ic_b_8) ?_
  refine co_ge_f (pc := 190) dX10_init_190 (tgt := 212) rfl (by decide) ?_
  refine co_aload_n (pc := 193) 1 rfl dX10_init_193 rfl ?_
  refine co_getr (pc := 194) ok_10_3 (by decide) (by decide +kernel : kd 0 = 10) (by decide) (by decide +kernel : rf 0 3 = 33) gw_634 dX10_init_194 ?_
  refine co_iload_n (pc := 197) 0 rfl dX10_init_197 rfl ?_
  refine co_new (pc := 198) (R := [(210, 0), (210, 1), (210, 2)]) tyX8 tyX8_ok ws_8 rfl (by decide) (by decide +kernel : kd 210 = 8) (fresh_wI (hfr.up (by decide)) (by decide)) gw_181 gw_182 gw_159 (by decide) defI_8 (by decide +kernel) (Nat.le_of_ble_eq_true rfl) (Nat.le_of_ble_eq_true rfl) dX10_init_198 ?_
  show CO w muI_X10 305 55212 (306, [], σ2) 211 [(210, 0), (210, 1), (210, 2), (33, 2), (33, 3), (33, 4), (33, 5), (33, 6), (33, 7)] (wI σ 144 1 (-1)) 210 53379 [(1, .int 2), (0, .ref (adr w 0))] [.ref (adr w 210), .int 2, .ref (adr w 33)] 201
  refine co_dup (pc := 201) dX10_init_201 rfl ?_
  refine co_callN (pc := 202) (As := []) (cI_X8_210 (fresh_wI (hfr.up (by decide)) (by decide))) okI_X8 rfl rfl (ltb rfl) (host := "HallRegisters") (by decide +kernel) gw_184 rfl rfl (Nat.le_of_ble_eq_true rfl) rfl (Nat.le_of_ble_eq_true rfl) (Nat.le_of_ble_eq_true rfl) dX10_init_202 ?_
  show CO w muI_X10 305 55212 (306, [], σ2) 226 [(33, 2), (33, 3), (33, 4), (33, 5), (33, 6), (33, 7)] (wI σ 144 1 (-1)) 225 53682 [(1, .int 2), (0, .ref (adr w 0))] [.ref (adr w 210), .int 2, .ref (adr w 33)] 205
  refine co_aast (pc := 205) (L' := [(33, 3), (33, 4), (33, 5), (33, 6), (33, 7)]) (c := 14) (ci := 8) (j := 2) (t0 := 2) (by decide) (by decide) (by decide +kernel : kd 33 = 14) (by decide) (by decide +kernel : kd 210 = 8) (by decide) rfl rfl (by decide) (by unfold vp_in; decide +kernel) (by decide +kernel : rf 33 2 = 210) (by rfl) dX10_init_205 ?_
  refine co_iinc (pc := 206) (lv' := [(1, .int 3), (0, .ref (adr w 0))]) 0 rfl dX10_init_206 (v := 3) (by decide +kernel) (ltb rfl) rfl ?_
  refine co_goto (pc := 209) dX10_init_209 (tgt := 187) rfl ?_
  refine co_iload_n (pc := 187) 0 rfl dX10_init_187 rfl ?_
  refine co_bipush (pc := 188) dX10_init_188 (ic_b_8) ?_
  refine co_ge_f (pc := 190) dX10_init_190 (tgt := 212) rfl (by decide) ?_
  refine co_aload_n (pc := 193) 1 rfl dX10_init_193 rfl ?_
  refine co_getr (pc := 194) ok_10_3 (by decide) (by decide +kernel : kd 0 = 10) (by decide) (by decide +kernel : rf 0 3 = 33) gw_634 dX10_init_194 ?_
  refine co_iload_n (pc := 197) 0 rfl dX10_init_197 rfl ?_
  refine co_new (pc := 198) (R := [(226, 0), (226, 1), (226, 2)]) tyX8 tyX8_ok ws_8 rfl (by decide) (by decide +kernel : kd 226 = 8) (fresh_wI (hfr.up (by decide)) (by decide)) gw_181 gw_182 gw_159 (by decide) defI_8 (by decide +kernel) (Nat.le_of_ble_eq_true rfl) (Nat.le_of_ble_eq_true rfl) dX10_init_198 ?_
  show CO w muI_X10 305 55212 (306, [], σ2) 227 [(226, 0), (226, 1), (226, 2), (33, 3), (33, 4), (33, 5), (33, 6), (33, 7)] (wI σ 144 1 (-1)) 226 53685 [(1, .int 3), (0, .ref (adr w 0))] [.ref (adr w 226), .int 3, .ref (adr w 33)] 201
  refine co_dup (pc := 201) dX10_init_201 rfl ?_
  refine co_callN (pc := 202) (As := []) (cI_X8_226 (fresh_wI (hfr.up (by decide)) (by decide))) okI_X8 rfl rfl (ltb rfl) (host := "HallRegisters") (by decide +kernel) gw_184 rfl rfl (Nat.le_of_ble_eq_true rfl) rfl (Nat.le_of_ble_eq_true rfl) (Nat.le_of_ble_eq_true rfl) dX10_init_202 ?_
  show CO w muI_X10 305 55212 (306, [], σ2) 242 [(33, 3), (33, 4), (33, 5), (33, 6), (33, 7)] (wI σ 144 1 (-1)) 241 53988 [(1, .int 3), (0, .ref (adr w 0))] [.ref (adr w 226), .int 3, .ref (adr w 33)] 205
  refine co_aast (pc := 205) (L' := [(33, 4), (33, 5), (33, 6), (33, 7)]) (c := 14) (ci := 8) (j := 3) (t0 := 2) (by decide) (by decide) (by decide +kernel : kd 33 = 14) (by decide) (by decide +kernel : kd 226 = 8) (by decide) rfl rfl (by decide) (by unfold vp_in; decide +kernel) (by decide +kernel : rf 33 3 = 226) (by rfl) dX10_init_205 ?_
  refine co_iinc (pc := 206) (lv' := [(1, .int 4), (0, .ref (adr w 0))]) 0 rfl dX10_init_206 (v := 4) (by decide +kernel) (ltb rfl) rfl ?_
  refine co_goto (pc := 209) dX10_init_209 (tgt := 187) rfl ?_
  refine co_iload_n (pc := 187) 0 rfl dX10_init_187 rfl ?_
  refine co_bipush (pc := 188) dX10_init_188 (ic_b_8) ?_
  refine co_ge_f (pc := 190) dX10_init_190 (tgt := 212) rfl (by decide) ?_
  refine co_aload_n (pc := 193) 1 rfl dX10_init_193 rfl ?_
  refine co_getr (pc := 194) ok_10_3 (by decide) (by decide +kernel : kd 0 = 10) (by decide) (by decide +kernel : rf 0 3 = 33) gw_634 dX10_init_194 ?_
  refine co_iload_n (pc := 197) 0 rfl dX10_init_197 rfl ?_
  refine co_new (pc := 198) (R := [(242, 0), (242, 1), (242, 2)]) tyX8 tyX8_ok ws_8 rfl (by decide) (by decide +kernel : kd 242 = 8) (fresh_wI (hfr.up (by decide)) (by decide)) gw_181 gw_182 gw_159 (by decide) defI_8 (by decide +kernel) (Nat.le_of_ble_eq_true rfl) (Nat.le_of_ble_eq_true rfl) dX10_init_198 ?_
  show CO w muI_X10 305 55212 (306, [], σ2) 243 [(242, 0), (242, 1), (242, 2), (33, 4), (33, 5), (33, 6), (33, 7)] (wI σ 144 1 (-1)) 242 53991 [(1, .int 4), (0, .ref (adr w 0))] [.ref (adr w 242), .int 4, .ref (adr w 33)] 201
  refine co_dup (pc := 201) dX10_init_201 rfl ?_
  refine co_callN (pc := 202) (As := []) (cI_X8_242 (fresh_wI (hfr.up (by decide)) (by decide))) okI_X8 rfl rfl (ltb rfl) (host := "HallRegisters") (by decide +kernel) gw_184 rfl rfl (Nat.le_of_ble_eq_true rfl) rfl (Nat.le_of_ble_eq_true rfl) (Nat.le_of_ble_eq_true rfl) dX10_init_202 ?_
  show CO w muI_X10 305 55212 (306, [], σ2) 258 [(33, 4), (33, 5), (33, 6), (33, 7)] (wI σ 144 1 (-1)) 257 54294 [(1, .int 4), (0, .ref (adr w 0))] [.ref (adr w 242), .int 4, .ref (adr w 33)] 205
  refine co_aast (pc := 205) (L' := [(33, 5), (33, 6), (33, 7)]) (c := 14) (ci := 8) (j := 4) (t0 := 2) (by decide) (by decide) (by decide +kernel : kd 33 = 14) (by decide) (by decide +kernel : kd 242 = 8) (by decide) rfl rfl (by decide) (by unfold vp_in; decide +kernel) (by decide +kernel : rf 33 4 = 242) (by rfl) dX10_init_205 ?_
  refine co_iinc (pc := 206) (lv' := [(1, .int 5), (0, .ref (adr w 0))]) 0 rfl dX10_init_206 (v := 5) (by decide +kernel) (ltb rfl) rfl ?_
  refine co_goto (pc := 209) dX10_init_209 (tgt := 187) rfl ?_
  refine co_iload_n (pc := 187) 0 rfl dX10_init_187 rfl ?_
  refine co_bipush (pc := 188) dX10_init_188 (ic_b_8) ?_
  refine co_ge_f (pc := 190) dX10_init_190 (tgt := 212) rfl (by decide) ?_
  refine co_aload_n (pc := 193) 1 rfl dX10_init_193 rfl ?_
  refine co_getr (pc := 194) ok_10_3 (by decide) (by decide +kernel : kd 0 = 10) (by decide) (by decide +kernel : rf 0 3 = 33) gw_634 dX10_init_194 ?_
  refine co_iload_n (pc := 197) 0 rfl dX10_init_197 rfl ?_
  refine co_new (pc := 198) (R := [(258, 0), (258, 1), (258, 2)]) tyX8 tyX8_ok ws_8 rfl (by decide) (by decide +kernel : kd 258 = 8) (fresh_wI (hfr.up (by decide)) (by decide)) gw_181 gw_182 gw_159 (by decide) defI_8 (by decide +kernel) (Nat.le_of_ble_eq_true rfl) (Nat.le_of_ble_eq_true rfl) dX10_init_198 ?_
  show CO w muI_X10 305 55212 (306, [], σ2) 259 [(258, 0), (258, 1), (258, 2), (33, 5), (33, 6), (33, 7)] (wI σ 144 1 (-1)) 258 54297 [(1, .int 5), (0, .ref (adr w 0))] [.ref (adr w 258), .int 5, .ref (adr w 33)] 201
  refine co_dup (pc := 201) dX10_init_201 rfl ?_
  refine co_callN (pc := 202) (As := []) (cI_X8_258 (fresh_wI (hfr.up (by decide)) (by decide))) okI_X8 rfl rfl (ltb rfl) (host := "HallRegisters") (by decide +kernel) gw_184 rfl rfl (Nat.le_of_ble_eq_true rfl) rfl (Nat.le_of_ble_eq_true rfl) (Nat.le_of_ble_eq_true rfl) dX10_init_202 ?_
  show CO w muI_X10 305 55212 (306, [], σ2) 274 [(33, 5), (33, 6), (33, 7)] (wI σ 144 1 (-1)) 273 54600 [(1, .int 5), (0, .ref (adr w 0))] [.ref (adr w 258), .int 5, .ref (adr w 33)] 205
  refine co_aast (pc := 205) (L' := [(33, 6), (33, 7)]) (c := 14) (ci := 8) (j := 5) (t0 := 2) (by decide) (by decide) (by decide +kernel : kd 33 = 14) (by decide) (by decide +kernel : kd 258 = 8) (by decide) rfl rfl (by decide) (by unfold vp_in; decide +kernel) (by decide +kernel : rf 33 5 = 258) (by rfl) dX10_init_205 ?_
  refine co_iinc (pc := 206) (lv' := [(1, .int 6), (0, .ref (adr w 0))]) 0 rfl dX10_init_206 (v := 6) (by decide +kernel) (ltb rfl) rfl ?_
  refine co_goto (pc := 209) dX10_init_209 (tgt := 187) rfl ?_
  refine co_iload_n (pc := 187) 0 rfl dX10_init_187 rfl ?_
  refine co_bipush (pc := 188) dX10_init_188 (ic_b_8) ?_
  refine co_ge_f (pc := 190) dX10_init_190 (tgt := 212) rfl (by decide) ?_
  refine co_aload_n (pc := 193) 1 rfl dX10_init_193 rfl ?_
  refine co_getr (pc := 194) ok_10_3 (by decide) (by decide +kernel : kd 0 = 10) (by decide) (by decide +kernel : rf 0 3 = 33) gw_634 dX10_init_194 ?_
  refine co_iload_n (pc := 197) 0 rfl dX10_init_197 rfl ?_
  refine co_new (pc := 198) (R := [(274, 0), (274, 1), (274, 2)]) tyX8 tyX8_ok ws_8 rfl (by decide) (by decide +kernel : kd 274 = 8) (fresh_wI (hfr.up (by decide)) (by decide)) gw_181 gw_182 gw_159 (by decide) defI_8 (by decide +kernel) (Nat.le_of_ble_eq_true rfl) (Nat.le_of_ble_eq_true rfl) dX10_init_198 ?_
  show CO w muI_X10 305 55212 (306, [], σ2) 275 [(274, 0), (274, 1), (274, 2), (33, 6), (33, 7)] (wI σ 144 1 (-1)) 274 54603 [(1, .int 6), (0, .ref (adr w 0))] [.ref (adr w 274), .int 6, .ref (adr w 33)] 201
  refine co_dup (pc := 201) dX10_init_201 rfl ?_
  refine co_callN (pc := 202) (As := []) (cI_X8_274 (fresh_wI (hfr.up (by decide)) (by decide))) okI_X8 rfl rfl (ltb rfl) (host := "HallRegisters") (by decide +kernel) gw_184 rfl rfl (Nat.le_of_ble_eq_true rfl) rfl (Nat.le_of_ble_eq_true rfl) (Nat.le_of_ble_eq_true rfl) dX10_init_202 ?_
  show CO w muI_X10 305 55212 (306, [], σ2) 290 [(33, 6), (33, 7)] (wI σ 144 1 (-1)) 289 54906 [(1, .int 6), (0, .ref (adr w 0))] [.ref (adr w 274), .int 6, .ref (adr w 33)] 205
  refine co_aast (pc := 205) (L' := [(33, 7)]) (c := 14) (ci := 8) (j := 6) (t0 := 2) (by decide) (by decide) (by decide +kernel : kd 33 = 14) (by decide) (by decide +kernel : kd 274 = 8) (by decide) rfl rfl (by decide) (by unfold vp_in; decide +kernel) (by decide +kernel : rf 33 6 = 274) (by rfl) dX10_init_205 ?_
  refine co_iinc (pc := 206) (lv' := [(1, .int 7), (0, .ref (adr w 0))]) 0 rfl dX10_init_206 (v := 7) (by decide +kernel) (ltb rfl) rfl ?_
  refine co_goto (pc := 209) dX10_init_209 (tgt := 187) rfl ?_
  refine co_iload_n (pc := 187) 0 rfl dX10_init_187 rfl ?_
  refine co_bipush (pc := 188) dX10_init_188 (ic_b_8) ?_
  refine co_ge_f (pc := 190) dX10_init_190 (tgt := 212) rfl (by decide) ?_
  refine co_aload_n (pc := 193) 1 rfl dX10_init_193 rfl ?_
  refine co_getr (pc := 194) ok_10_3 (by decide) (by decide +kernel : kd 0 = 10) (by decide) (by decide +kernel : rf 0 3 = 33) gw_634 dX10_init_194 ?_
  refine co_iload_n (pc := 197) 0 rfl dX10_init_197 rfl ?_
  refine co_new (pc := 198) (R := [(290, 0), (290, 1), (290, 2)]) tyX8 tyX8_ok ws_8 rfl (by decide) (by decide +kernel : kd 290 = 8) (fresh_wI (hfr.up (by decide)) (by decide)) gw_181 gw_182 gw_159 (by decide) defI_8 (by decide +kernel) (Nat.le_of_ble_eq_true rfl) (Nat.le_of_ble_eq_true rfl) dX10_init_198 ?_
  show CO w muI_X10 305 55212 (306, [], σ2) 291 [(290, 0), (290, 1), (290, 2), (33, 7)] (wI σ 144 1 (-1)) 290 54909 [(1, .int 7), (0, .ref (adr w 0))] [.ref (adr w 290), .int 7, .ref (adr w 33)] 201
  refine co_dup (pc := 201) dX10_init_201 rfl ?_
  refine co_callN (pc := 202) (As := []) (cI_X8_290 (fresh_wI (hfr.up (by decide)) (by decide))) okI_X8 rfl rfl (ltb rfl) (host := "HallRegisters") (by decide +kernel) gw_184 rfl rfl (Nat.le_of_ble_eq_true rfl) rfl (Nat.le_of_ble_eq_true rfl) (Nat.le_of_ble_eq_true rfl) dX10_init_202 ?_
  show CO w muI_X10 305 55212 (306, [], σ2) 306 [(33, 7)] (wI σ 144 1 (-1)) 305 55212 [(1, .int 7), (0, .ref (adr w 0))] [.ref (adr w 290), .int 7, .ref (adr w 33)] 205
  refine co_aast (pc := 205) (L' := []) (c := 14) (ci := 8) (j := 7) (t0 := 2) (by decide) (by decide) (by decide +kernel : kd 33 = 14) (by decide) (by decide +kernel : kd 290 = 8) (by decide) rfl rfl (by decide) (by unfold vp_in; decide +kernel) (by decide +kernel : rf 33 7 = 290) (by rfl) dX10_init_205 ?_
  refine co_iinc (pc := 206) (lv' := [(1, .int 8), (0, .ref (adr w 0))]) 0 rfl dX10_init_206 (v := 8) (by decide +kernel) (ltb rfl) rfl ?_
  refine co_goto (pc := 209) dX10_init_209 (tgt := 187) rfl ?_
  refine co_iload_n (pc := 187) 0 rfl dX10_init_187 rfl ?_
  refine co_bipush (pc := 188) dX10_init_188 (ic_b_8) ?_
  refine co_ge_t (pc := 190) dX10_init_190 (tgt := 212) rfl (by decide) ?_
  refine co_aload_n (pc := 212) 1 rfl dX10_init_212 rfl ?_
  refine co_getr (pc := 213) ok_10_0 (by decide) (by decide +kernel : kd 0 = 10) (by decide) (by decide +kernel : rf 0 0 = 1) gw_631 dX10_init_213 ?_
  refine co_getr (pc := 216) ok_8_0 (by decide) (by decide +kernel : kd 1 = 8) (by decide) (by decide +kernel : rf 1 0 = 2) gw_218 dX10_init_216 ?_
  refine co_iconst (pc := 219) dX10_init_219 (ic_i_0) ?_
  refine co_callM (pc := 220) (As := [.int 0]) (wd_all hN) (c_X6_takeKind hw (ik_2 hw) _ e1) ok_X6_takeKind (ltb rfl) (all3 gw_508 gw_509 gw_510) (ik_2 hw) (by decide) (q := (RX6, TX6, 3)) rfl rfl rfl rfl (Nat.le_of_ble_eq_true rfl) (Nat.le_of_ble_eq_true rfl) (Nat.le_of_ble_eq_true rfl) dX10_init_220 ?_
  refine co_aload_n (pc := 223) 1 rfl dX10_init_223 rfl ?_
  refine co_getr (pc := 224) ok_10_9 (by decide) (by decide +kernel : kd 0 = 10) (by decide) (by decide +kernel : rf 0 9 = 40) gw_640 dX10_init_224 ?_
  refine co_aload_n (pc := 227) 1 rfl dX10_init_227 rfl ?_
  refine co_getr (pc := 228) ok_10_0 (by decide) (by decide +kernel : kd 0 = 10) (by decide) (by decide +kernel : rf 0 0 = 1) gw_631 dX10_init_228 ?_
  refine co_getr (pc := 231) ok_8_0 (by decide) (by decide +kernel : kd 1 = 8) (by decide) (by decide +kernel : rf 1 0 = 2) gw_218 dX10_init_231 ?_
  refine co_callM (pc := 234) (As := [.ref (adr w 2)]) (wd_all hN) (c_X4_follow hw (ik_2 hw) _ e2) ok_X4_follow (ltb rfl) (all3 gw_533 gw_534 gw_535) (ik_40 hw) (by decide) (q := (RX4, TX4, 9)) rfl rfl rfl rfl (Nat.le_of_ble_eq_true rfl) (Nat.le_of_ble_eq_true rfl) (Nat.le_of_ble_eq_true rfl) dX10_init_234 ?_
  exact co_ret (pc := 237) rfl rfl rfl dX10_init_237 rfl
theorem cI_X11_306 {w : Wd} {σ : Mem} (hfr : Fresh σ 306) (hw : WOK w) (hN : wn w = NT) {σ1 : Mem} (e1 : f_X11_plain (wI (wI σ 306 20 (-1)) 306 24 (-1)) = some σ1) : MCC w muI_X11 17 80751 [.ref (adr w 306)] 307 [(306, 1), (306, 2), (306, 5), (306, 8), (306, 11), (306, 12), (306, 13), (306, 14), (306, 15), (306, 16), (306, 17), (306, 26), (306, 28), (306, 30), (306, 32), (306, 35), (306, 38)] σ (324, [], σ1) := by
  refine mcc_of (lv := [(0, .ref (adr w 306))]) okI_X11 rfl rfl (Nat.le_of_ble_eq_true rfl) ?_
  refine co_aload_n (pc := 0) 0 rfl dX11_init_0 rfl ?_
  refine co_objInit (pc := 1) gw_1279 gw_179 gw_180 (ltb rfl) (Nat.le_of_ble_eq_true rfl) dX11_init_1 ?_
  refine co_aload_n (pc := 4) 0 rfl dX11_init_4 rfl ?_
  refine co_sipush (pc := 5) dX11_init_5 (ic_s_283) ?_
  refine co_newI (pc := 8) (N := 283) (by decide +kernel : kd 307 = 12) (by decide +kernel : ln 307 = 283) (hfr.up (by decide)) gw_214 (by decide) (by decide) (by decide +kernel) (Nat.le_of_ble_eq_true rfl) (Nat.le_of_ble_eq_true rfl) dX11_init_8 ?_
  show CO w muI_X11 17 80751 (324, [], σ1) 308 [(306, 1), (306, 2), (306, 5), (306, 8), (306, 11), (306, 12), (306, 13), (306, 14), (306, 15), (306, 16), (306, 17), (306, 26), (306, 28), (306, 30), (306, 32), (306, 35), (306, 38)] σ 1 283 [(0, .ref (adr w 306))] [.ref (adr w 307), .ref (adr w 306)] 10
  refine co_putrF (pc := 10) (L' := [(306, 2), (306, 5), (306, 8), (306, 11), (306, 12), (306, 13), (306, 14), (306, 15), (306, 16), (306, 17), (306, 26), (306, 28), (306, 30), (306, 32), (306, 35), (306, 38)]) ok_11_1 okq_11_1 rfl rfl (by decide) (by decide +kernel : kd 306 = 11) (by decide +kernel : rf 306 1 = 307) (by rfl) gw_1294 dX11_init_10 ?_
  refine co_aload_n (pc := 13) 0 rfl dX11_init_13 rfl ?_
  refine co_sipush (pc := 14) dX11_init_14 (ic_s_2264) ?_
  refine co_newI (pc := 17) (N := 2264) (by decide +kernel : kd 308 = 12) (by decide +kernel : ln 308 = 2264) (hfr.up (by decide)) gw_214 (by decide) (by decide) (by decide +kernel) (Nat.le_of_ble_eq_true rfl) (Nat.le_of_ble_eq_true rfl) dX11_init_17 ?_
  show CO w muI_X11 17 80751 (324, [], σ1) 309 [(306, 2), (306, 5), (306, 8), (306, 11), (306, 12), (306, 13), (306, 14), (306, 15), (306, 16), (306, 17), (306, 26), (306, 28), (306, 30), (306, 32), (306, 35), (306, 38)] σ 2 2547 [(0, .ref (adr w 306))] [.ref (adr w 308), .ref (adr w 306)] 19
  refine co_putrF (pc := 19) (L' := [(306, 5), (306, 8), (306, 11), (306, 12), (306, 13), (306, 14), (306, 15), (306, 16), (306, 17), (306, 26), (306, 28), (306, 30), (306, 32), (306, 35), (306, 38)]) ok_11_2 okq_11_2 rfl rfl (by decide) (by decide +kernel : kd 306 = 11) (by decide +kernel : rf 306 2 = 308) (by rfl) gw_1295 dX11_init_19 ?_
  refine co_aload_n (pc := 22) 0 rfl dX11_init_22 rfl ?_
  refine co_sipush (pc := 23) dX11_init_23 (ic_s_16000) ?_
  refine co_newI (pc := 26) (N := 16000) (by decide +kernel : kd 309 = 12) (by decide +kernel : ln 309 = 16000) (hfr.up (by decide)) gw_214 (by decide) (by decide) (by decide +kernel) (Nat.le_of_ble_eq_true rfl) (Nat.le_of_ble_eq_true rfl) dX11_init_26 ?_
  show CO w muI_X11 17 80751 (324, [], σ1) 310 [(306, 5), (306, 8), (306, 11), (306, 12), (306, 13), (306, 14), (306, 15), (306, 16), (306, 17), (306, 26), (306, 28), (306, 30), (306, 32), (306, 35), (306, 38)] σ 3 18547 [(0, .ref (adr w 306))] [.ref (adr w 309), .ref (adr w 306)] 28
  refine co_putrF (pc := 28) (L' := [(306, 8), (306, 11), (306, 12), (306, 13), (306, 14), (306, 15), (306, 16), (306, 17), (306, 26), (306, 28), (306, 30), (306, 32), (306, 35), (306, 38)]) ok_11_5 okq_11_5 rfl rfl (by decide) (by decide +kernel : kd 306 = 11) (by decide +kernel : rf 306 5 = 309) (by rfl) gw_1298 dX11_init_28 ?_
  refine co_aload_n (pc := 31) 0 rfl dX11_init_31 rfl ?_
  refine co_bipush (pc := 32) dX11_init_32 (ic_b_6) ?_
  refine co_newI (pc := 34) (N := 6) (by decide +kernel : kd 310 = 12) (by decide +kernel : ln 310 = 6) (hfr.up (by decide)) gw_214 (by decide) (by decide) (by decide +kernel) (Nat.le_of_ble_eq_true rfl) (Nat.le_of_ble_eq_true rfl) dX11_init_34 ?_
  show CO w muI_X11 17 80751 (324, [], σ1) 311 [(306, 8), (306, 11), (306, 12), (306, 13), (306, 14), (306, 15), (306, 16), (306, 17), (306, 26), (306, 28), (306, 30), (306, 32), (306, 35), (306, 38)] σ 4 18553 [(0, .ref (adr w 306))] [.ref (adr w 310), .ref (adr w 306)] 36
  refine co_putrF (pc := 36) (L' := [(306, 11), (306, 12), (306, 13), (306, 14), (306, 15), (306, 16), (306, 17), (306, 26), (306, 28), (306, 30), (306, 32), (306, 35), (306, 38)]) ok_11_8 okq_11_8 rfl rfl (by decide) (by decide +kernel : kd 306 = 11) (by decide +kernel : rf 306 8 = 310) (by rfl) gw_1301 dX11_init_36 ?_
  refine co_aload_n (pc := 39) 0 rfl dX11_init_39 rfl ?_
  refine co_bipush (pc := 40) dX11_init_40 (ic_b_6) ?_
  refine co_newI (pc := 42) (N := 6) (by decide +kernel : kd 311 = 12) (by decide +kernel : ln 311 = 6) (hfr.up (by decide)) gw_214 (by decide) (by decide) (by decide +kernel) (Nat.le_of_ble_eq_true rfl) (Nat.le_of_ble_eq_true rfl) dX11_init_42 ?_
  show CO w muI_X11 17 80751 (324, [], σ1) 312 [(306, 11), (306, 12), (306, 13), (306, 14), (306, 15), (306, 16), (306, 17), (306, 26), (306, 28), (306, 30), (306, 32), (306, 35), (306, 38)] σ 5 18559 [(0, .ref (adr w 306))] [.ref (adr w 311), .ref (adr w 306)] 44
  refine co_putrF (pc := 44) (L' := [(306, 12), (306, 13), (306, 14), (306, 15), (306, 16), (306, 17), (306, 26), (306, 28), (306, 30), (306, 32), (306, 35), (306, 38)]) ok_11_11 okq_11_11 rfl rfl (by decide) (by decide +kernel : kd 306 = 11) (by decide +kernel : rf 306 11 = 311) (by rfl) gw_1304 dX11_init_44 ?_
  refine co_aload_n (pc := 47) 0 rfl dX11_init_47 rfl ?_
  refine co_ldc (pc := 48) dX11_init_48 gw_1280 ?_
  refine co_newL (pc := 50) (N := 54600) (by decide +kernel : kd 312 = 13) (by decide +kernel : ln 312 = 54600) (hfr.up (by decide)) gw_232 (by decide) (by decide) (by decide +kernel) (Nat.le_of_ble_eq_true rfl) (Nat.le_of_ble_eq_true rfl) dX11_init_50 ?_
  show CO w muI_X11 17 80751 (324, [], σ1) 313 [(306, 12), (306, 13), (306, 14), (306, 15), (306, 16), (306, 17), (306, 26), (306, 28), (306, 30), (306, 32), (306, 35), (306, 38)] σ 6 73159 [(0, .ref (adr w 306))] [.ref (adr w 312), .ref (adr w 306)] 52
  refine co_putrF (pc := 52) (L' := [(306, 13), (306, 14), (306, 15), (306, 16), (306, 17), (306, 26), (306, 28), (306, 30), (306, 32), (306, 35), (306, 38)]) ok_11_12 okq_11_12 rfl rfl (by decide) (by decide +kernel : kd 306 = 11) (by decide +kernel : rf 306 12 = 312) (by rfl) gw_1305 dX11_init_52 ?_
  refine co_aload_n (pc := 55) 0 rfl dX11_init_55 rfl ?_
  refine co_sipush (pc := 56) dX11_init_56 (ic_s_600) ?_
  refine co_newL (pc := 59) (N := 600) (by decide +kernel : kd 313 = 13) (by decide +kernel : ln 313 = 600) (hfr.up (by decide)) gw_232 (by decide) (by decide) (by decide +kernel) (Nat.le_of_ble_eq_true rfl) (Nat.le_of_ble_eq_true rfl) dX11_init_59 ?_
  show CO w muI_X11 17 80751 (324, [], σ1) 314 [(306, 13), (306, 14), (306, 15), (306, 16), (306, 17), (306, 26), (306, 28), (306, 30), (306, 32), (306, 35), (306, 38)] σ 7 73759 [(0, .ref (adr w 306))] [.ref (adr w 313), .ref (adr w 306)] 61
  refine co_putrF (pc := 61) (L' := [(306, 14), (306, 15), (306, 16), (306, 17), (306, 26), (306, 28), (306, 30), (306, 32), (306, 35), (306, 38)]) ok_11_13 okq_11_13 rfl rfl (by decide) (by decide +kernel : kd 306 = 11) (by decide +kernel : rf 306 13 = 313) (by rfl) gw_1306 dX11_init_61 ?_
  refine co_aload_n (pc := 64) 0 rfl dX11_init_64 rfl ?_
  refine co_bipush (pc := 65) dX11_init_65 (ic_b_6) ?_
  refine co_newL (pc := 67) (N := 6) (by decide +kernel : kd 314 = 13) (by decide +kernel : ln 314 = 6) (hfr.up (by decide)) gw_232 (by decide) (by decide) (by decide +kernel) (Nat.le_of_ble_eq_true rfl) (Nat.le_of_ble_eq_true rfl) dX11_init_67 ?_
  show CO w muI_X11 17 80751 (324, [], σ1) 315 [(306, 14), (306, 15), (306, 16), (306, 17), (306, 26), (306, 28), (306, 30), (306, 32), (306, 35), (306, 38)] σ 8 73765 [(0, .ref (adr w 306))] [.ref (adr w 314), .ref (adr w 306)] 69
  refine co_putrF (pc := 69) (L' := [(306, 15), (306, 16), (306, 17), (306, 26), (306, 28), (306, 30), (306, 32), (306, 35), (306, 38)]) ok_11_14 okq_11_14 rfl rfl (by decide) (by decide +kernel : kd 306 = 11) (by decide +kernel : rf 306 14 = 314) (by rfl) gw_1307 dX11_init_69 ?_
  refine co_aload_n (pc := 72) 0 rfl dX11_init_72 rfl ?_
  refine co_bipush (pc := 73) dX11_init_73 (ic_b_12) ?_
  refine co_newI (pc := 75) (N := 12) (by decide +kernel : kd 315 = 12) (by decide +kernel : ln 315 = 12) (hfr.up (by decide)) gw_214 (by decide) (by decide) (by decide +kernel) (Nat.le_of_ble_eq_true rfl) (Nat.le_of_ble_eq_true rfl) dX11_init_75 ?_
  show CO w muI_X11 17 80751 (324, [], σ1) 316 [(306, 15), (306, 16), (306, 17), (306, 26), (306, 28), (306, 30), (306, 32), (306, 35), (306, 38)] σ 9 73777 [(0, .ref (adr w 306))] [.ref (adr w 315), .ref (adr w 306)] 77
  refine co_putrF (pc := 77) (L' := [(306, 16), (306, 17), (306, 26), (306, 28), (306, 30), (306, 32), (306, 35), (306, 38)]) ok_11_15 okq_11_15 rfl rfl (by decide) (by decide +kernel : kd 306 = 11) (by decide +kernel : rf 306 15 = 315) (by rfl) gw_1308 dX11_init_77 ?_
  refine co_aload_n (pc := 80) 0 rfl dX11_init_80 rfl ?_
  refine co_bipush (pc := 81) dX11_init_81 (ic_b_12) ?_
  refine co_newI (pc := 83) (N := 12) (by decide +kernel : kd 316 = 12) (by decide +kernel : ln 316 = 12) (hfr.up (by decide)) gw_214 (by decide) (by decide) (by decide +kernel) (Nat.le_of_ble_eq_true rfl) (Nat.le_of_ble_eq_true rfl) dX11_init_83 ?_
  show CO w muI_X11 17 80751 (324, [], σ1) 317 [(306, 16), (306, 17), (306, 26), (306, 28), (306, 30), (306, 32), (306, 35), (306, 38)] σ 10 73789 [(0, .ref (adr w 306))] [.ref (adr w 316), .ref (adr w 306)] 85
  refine co_putrF (pc := 85) (L' := [(306, 17), (306, 26), (306, 28), (306, 30), (306, 32), (306, 35), (306, 38)]) ok_11_16 okq_11_16 rfl rfl (by decide) (by decide +kernel : kd 306 = 11) (by decide +kernel : rf 306 16 = 316) (by rfl) gw_1309 dX11_init_85 ?_
  refine co_aload_n (pc := 88) 0 rfl dX11_init_88 rfl ?_
  refine co_sipush (pc := 89) dX11_init_89 (ic_s_200) ?_
  refine co_newI (pc := 92) (N := 200) (by decide +kernel : kd 317 = 12) (by decide +kernel : ln 317 = 200) (hfr.up (by decide)) gw_214 (by decide) (by decide) (by decide +kernel) (Nat.le_of_ble_eq_true rfl) (Nat.le_of_ble_eq_true rfl) dX11_init_92 ?_
  show CO w muI_X11 17 80751 (324, [], σ1) 318 [(306, 17), (306, 26), (306, 28), (306, 30), (306, 32), (306, 35), (306, 38)] σ 11 73989 [(0, .ref (adr w 306))] [.ref (adr w 317), .ref (adr w 306)] 94
  refine co_putrF (pc := 94) (L' := [(306, 26), (306, 28), (306, 30), (306, 32), (306, 35), (306, 38)]) ok_11_17 okq_11_17 rfl rfl (by decide) (by decide +kernel : kd 306 = 11) (by decide +kernel : rf 306 17 = 317) (by rfl) gw_1310 dX11_init_94 ?_
  refine co_aload_n (pc := 97) 0 rfl dX11_init_97 rfl ?_
  refine co_iconst (pc := 98) dX11_init_98 (ic_i_m1) ?_
  refine co_putf (pc := 99) (σ' := wI σ 306 20 (-1)) ok_11_20 okq_11_20 ⟨by rfl, by rfl⟩ (by decide) (by decide +kernel : kd 306 = 11) rfl gw_1313 dX11_init_99 ?_
  refine co_aload_n (pc := 102) 0 rfl dX11_init_102 rfl ?_
  refine co_iconst (pc := 103) dX11_init_103 (ic_i_m1) ?_
  refine co_putf (pc := 104) (σ' := wI (wI σ 306 20 (-1)) 306 24 (-1)) ok_11_24 okq_11_24 ⟨by rfl, by rfl⟩ (by decide) (by decide +kernel : kd 306 = 11) rfl gw_1317 dX11_init_104 ?_
  refine co_aload_n (pc := 107) 0 rfl dX11_init_107 rfl ?_
  refine co_bipush (pc := 108) dX11_init_108 (ic_b_6) ?_
  refine co_newI (pc := 110) (N := 6) (by decide +kernel : kd 318 = 12) (by decide +kernel : ln 318 = 6) (fresh_wI (fresh_wI (hfr.up (by decide)) (by decide)) (by decide)) gw_214 (by decide) (by decide) (by decide +kernel) (Nat.le_of_ble_eq_true rfl) (Nat.le_of_ble_eq_true rfl) dX11_init_110 ?_
  show CO w muI_X11 17 80751 (324, [], σ1) 319 [(306, 26), (306, 28), (306, 30), (306, 32), (306, 35), (306, 38)] (wI (wI σ 306 20 (-1)) 306 24 (-1)) 12 73995 [(0, .ref (adr w 306))] [.ref (adr w 318), .ref (adr w 306)] 112
  refine co_putrF (pc := 112) (L' := [(306, 28), (306, 30), (306, 32), (306, 35), (306, 38)]) ok_11_26 okq_11_26 rfl rfl (by decide) (by decide +kernel : kd 306 = 11) (by decide +kernel : rf 306 26 = 318) (by rfl) gw_1319 dX11_init_112 ?_
  refine co_aload_n (pc := 115) 0 rfl dX11_init_115 rfl ?_
  refine co_sipush (pc := 116) dX11_init_116 (ic_s_6006) ?_
  refine co_newL (pc := 119) (N := 6006) (by decide +kernel : kd 319 = 13) (by decide +kernel : ln 319 = 6006) (fresh_wI (fresh_wI (hfr.up (by decide)) (by decide)) (by decide)) gw_232 (by decide) (by decide) (by decide +kernel) (Nat.le_of_ble_eq_true rfl) (Nat.le_of_ble_eq_true rfl) dX11_init_119 ?_
  show CO w muI_X11 17 80751 (324, [], σ1) 320 [(306, 28), (306, 30), (306, 32), (306, 35), (306, 38)] (wI (wI σ 306 20 (-1)) 306 24 (-1)) 13 80001 [(0, .ref (adr w 306))] [.ref (adr w 319), .ref (adr w 306)] 121
  refine co_putrF (pc := 121) (L' := [(306, 30), (306, 32), (306, 35), (306, 38)]) ok_11_28 okq_11_28 rfl rfl (by decide) (by decide +kernel : kd 306 = 11) (by decide +kernel : rf 306 28 = 319) (by rfl) gw_1321 dX11_init_121 ?_
  refine co_aload_n (pc := 124) 0 rfl dX11_init_124 rfl ?_
  refine co_sipush (pc := 125) dX11_init_125 (ic_s_360) ?_
  refine co_newL (pc := 128) (N := 360) (by decide +kernel : kd 320 = 13) (by decide +kernel : ln 320 = 360) (fresh_wI (fresh_wI (hfr.up (by decide)) (by decide)) (by decide)) gw_232 (by decide) (by decide) (by decide +kernel) (Nat.le_of_ble_eq_true rfl) (Nat.le_of_ble_eq_true rfl) dX11_init_128 ?_
  show CO w muI_X11 17 80751 (324, [], σ1) 321 [(306, 30), (306, 32), (306, 35), (306, 38)] (wI (wI σ 306 20 (-1)) 306 24 (-1)) 14 80361 [(0, .ref (adr w 306))] [.ref (adr w 320), .ref (adr w 306)] 130
  refine co_putrF (pc := 130) (L' := [(306, 32), (306, 35), (306, 38)]) ok_11_30 okq_11_30 rfl rfl (by decide) (by decide +kernel : kd 306 = 11) (by decide +kernel : rf 306 30 = 320) (by rfl) gw_1323 dX11_init_130 ?_
  refine co_aload_n (pc := 133) 0 rfl dX11_init_133 rfl ?_
  refine co_bipush (pc := 134) dX11_init_134 (ic_b_18) ?_
  refine co_newL (pc := 136) (N := 18) (by decide +kernel : kd 321 = 13) (by decide +kernel : ln 321 = 18) (fresh_wI (fresh_wI (hfr.up (by decide)) (by decide)) (by decide)) gw_232 (by decide) (by decide) (by decide +kernel) (Nat.le_of_ble_eq_true rfl) (Nat.le_of_ble_eq_true rfl) dX11_init_136 ?_
  show CO w muI_X11 17 80751 (324, [], σ1) 322 [(306, 32), (306, 35), (306, 38)] (wI (wI σ 306 20 (-1)) 306 24 (-1)) 15 80379 [(0, .ref (adr w 306))] [.ref (adr w 321), .ref (adr w 306)] 138
  refine co_putrF (pc := 138) (L' := [(306, 35), (306, 38)]) ok_11_32 okq_11_32 rfl rfl (by decide) (by decide +kernel : kd 306 = 11) (by decide +kernel : rf 306 32 = 321) (by rfl) gw_1325 dX11_init_138 ?_
  refine co_aload_n (pc := 141) 0 rfl dX11_init_141 rfl ?_
  refine co_bipush (pc := 142) dX11_init_142 (ic_b_72) ?_
  refine co_newL (pc := 144) (N := 72) (by decide +kernel : kd 322 = 13) (by decide +kernel : ln 322 = 72) (fresh_wI (fresh_wI (hfr.up (by decide)) (by decide)) (by decide)) gw_232 (by decide) (by decide) (by decide +kernel) (Nat.le_of_ble_eq_true rfl) (Nat.le_of_ble_eq_true rfl) dX11_init_144 ?_
  show CO w muI_X11 17 80751 (324, [], σ1) 323 [(306, 35), (306, 38)] (wI (wI σ 306 20 (-1)) 306 24 (-1)) 16 80451 [(0, .ref (adr w 306))] [.ref (adr w 322), .ref (adr w 306)] 146
  refine co_putrF (pc := 146) (L' := [(306, 38)]) ok_11_35 okq_11_35 rfl rfl (by decide) (by decide +kernel : kd 306 = 11) (by decide +kernel : rf 306 35 = 322) (by rfl) gw_1328 dX11_init_146 ?_
  refine co_aload_n (pc := 149) 0 rfl dX11_init_149 rfl ?_
  refine co_sipush (pc := 150) dX11_init_150 (ic_s_300) ?_
  refine co_newI (pc := 153) (N := 300) (by decide +kernel : kd 323 = 12) (by decide +kernel : ln 323 = 300) (fresh_wI (fresh_wI (hfr.up (by decide)) (by decide)) (by decide)) gw_214 (by decide) (by decide) (by decide +kernel) (Nat.le_of_ble_eq_true rfl) (Nat.le_of_ble_eq_true rfl) dX11_init_153 ?_
  show CO w muI_X11 17 80751 (324, [], σ1) 324 [(306, 38)] (wI (wI σ 306 20 (-1)) 306 24 (-1)) 17 80751 [(0, .ref (adr w 306))] [.ref (adr w 323), .ref (adr w 306)] 155
  refine co_putrF (pc := 155) (L' := []) ok_11_38 okq_11_38 rfl rfl (by decide) (by decide +kernel : kd 306 = 11) (by decide +kernel : rf 306 38 = 323) (by rfl) gw_1331 dX11_init_155 ?_
  refine co_aload_n (pc := 158) 0 rfl dX11_init_158 rfl ?_
  refine co_callM (pc := 159) (As := []) (wd_all hN) (c_X11_plain hw hN _ e1) ok_X11_plain (ltb rfl) (all3 gw_1281 gw_1283 gw_61) (ik_306 hw hN) (by decide) (q := (RX11, TX11, 39)) rfl rfl rfl rfl (Nat.le_of_ble_eq_true rfl) (Nat.le_of_ble_eq_true rfl) (Nat.le_of_ble_eq_true rfl) dX11_init_159 ?_
  exact co_ret (pc := 162) rfl rfl rfl dX11_init_162 rfl
