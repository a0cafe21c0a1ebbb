def codesC : List Cond := [Cond.code yX10_init cX10_init 2 none,
  Cond.code objectInit ⟨#[0xb1]⟩ 1 none,
  Cond.code yX9_init cX9_init 2 none,
  Cond.code yX10_fillCells cX10_fillCells 3 none,
  Cond.code yX2_init cX2_init 2 none,
  Cond.code yX7_init cX7_init 2 none,
  Cond.code yX6_init cX6_init 1 none,
  Cond.code yX8_init cX8_init 1 none,
  Cond.code yX1_init cX1_init 2 none,
  Cond.code yX3_init cX3_init 2 none,
  Cond.code yX0_init cX0_init 2 none,
  Cond.code yX5_init cX5_init 1 none,
  Cond.code yX4_init cX4_init 2 none,
  Cond.code yX11_init cX11_init 2 none]
set_option maxRecDepth 100000 in
theorem codesC_in : GoodIn lw_tbl codesC := goodIn_p codesC [131, 134, 139, 143, 149, 155, 170, 224, 297, 324, 369, 379, 403, 1469] rfl (by decide +kernel)
theorem codesC_at {w : Cond} (i : Nat) (h : codesC[i]? = some w) (g : goodWord w = true) : w ∈ ws0 := List.mem_filter.mpr ⟨(codesC_in w (List.mem_of_getElem? h)).1, g⟩
set_option maxRecDepth 20000 in
theorem wd_131 : Cond.code yX10_init cX10_init 2 none ∈ ws0 := codesC_at 0 rfl (by decide +kernel)
set_option maxRecDepth 20000 in
theorem wd_134 : Cond.code objectInit ⟨#[0xb1]⟩ 1 none ∈ ws0 := codesC_at 1 rfl (by decide +kernel)
set_option maxRecDepth 20000 in
theorem wd_139 : Cond.code yX9_init cX9_init 2 none ∈ ws0 := codesC_at 2 rfl (by decide +kernel)
set_option maxRecDepth 20000 in
theorem wd_143 : Cond.code yX10_fillCells cX10_fillCells 3 none ∈ ws0 := codesC_at 3 rfl (by decide +kernel)
set_option maxRecDepth 20000 in
theorem wd_149 : Cond.code yX2_init cX2_init 2 none ∈ ws0 := codesC_at 4 rfl (by decide +kernel)
set_option maxRecDepth 20000 in
theorem wd_155 : Cond.code yX7_init cX7_init 2 none ∈ ws0 := codesC_at 5 rfl (by decide +kernel)
set_option maxRecDepth 20000 in
theorem wd_170 : Cond.code yX6_init cX6_init 1 none ∈ ws0 := codesC_at 6 rfl (by decide +kernel)
set_option maxRecDepth 20000 in
theorem wd_224 : Cond.code yX8_init cX8_init 1 none ∈ ws0 := codesC_at 7 rfl (by decide +kernel)
set_option maxRecDepth 20000 in
theorem wd_297 : Cond.code yX1_init cX1_init 2 none ∈ ws0 := codesC_at 8 rfl (by decide +kernel)
set_option maxRecDepth 20000 in
theorem wd_324 : Cond.code yX3_init cX3_init 2 none ∈ ws0 := codesC_at 9 rfl (by decide +kernel)
set_option maxRecDepth 20000 in
theorem wd_369 : Cond.code yX0_init cX0_init 2 none ∈ ws0 := codesC_at 10 rfl (by decide +kernel)
set_option maxRecDepth 20000 in
theorem wd_379 : Cond.code yX5_init cX5_init 1 none ∈ ws0 := codesC_at 11 rfl (by decide +kernel)
set_option maxRecDepth 20000 in
theorem wd_403 : Cond.code yX4_init cX4_init 2 none ∈ ws0 := codesC_at 12 rfl (by decide +kernel)
set_option maxRecDepth 20000 in
theorem wd_1469 : Cond.code yX11_init cX11_init 2 none ∈ ws0 := codesC_at 13 rfl (by decide +kernel)
theorem wd_127 : Cond.classLink RL 8 RX10 ∈ ws0 := ws0_of 127 (by decide +kernel) (by decide +kernel)
theorem wd_128 : Cond.instantiable RX10 20 ∈ ws0 := ws0_of 128 (by decide +kernel) (by decide +kernel)
theorem wd_129 : Cond.methodLink RL 129 yX10_init ∈ ws0 := ws0_of 129 (by decide +kernel) (by decide +kernel)
theorem wd_130 : Cond.instanceMethod yX10_init ∈ ws0 := ws0_of 130 (by decide +kernel) (by decide +kernel)
theorem wd_132 : Cond.methodLink RX10 3 objectInit ∈ ws0 := ws0_of 132 (by decide +kernel) (by decide +kernel)
theorem wd_133 : Cond.instanceMethod objectInit ∈ ws0 := ws0_of 133 (by decide +kernel) (by decide +kernel)
theorem wd_135 : Cond.classLink RX10 9 RX9 ∈ ws0 := ws0_of 135 (by decide +kernel) (by decide +kernel)
theorem wd_136 : Cond.instantiable RX9 15 ∈ ws0 := ws0_of 136 (by decide +kernel) (by decide +kernel)
theorem wd_137 : Cond.methodLink RX10 11 yX9_init ∈ ws0 := ws0_of 137 (by decide +kernel) (by decide +kernel)
theorem wd_138 : Cond.instanceMethod yX9_init ∈ ws0 := ws0_of 138 (by decide +kernel) (by decide +kernel)
theorem wd_140 : Cond.methodLink RX9 3 objectInit ∈ ws0 := ws0_of 140 (by decide +kernel) (by decide +kernel)
theorem wd_142 : Cond.static yX10_fillCells ∈ ws0 := ws0_of 142 (by decide +kernel) (by decide +kernel)
theorem wd_144 : Cond.classLink RX9 46 RX2 ∈ ws0 := ws0_of 144 (by decide +kernel) (by decide +kernel)
theorem wd_146 : Cond.instantiable RX2 7 ∈ ws0 := ws0_of 146 (by decide +kernel) (by decide +kernel)
theorem wd_147 : Cond.methodLink RX9 52 yX2_init ∈ ws0 := ws0_of 147 (by decide +kernel) (by decide +kernel)
theorem wd_148 : Cond.instanceMethod yX2_init ∈ ws0 := ws0_of 148 (by decide +kernel) (by decide +kernel)
theorem wd_150 : Cond.methodLink RX2 3 objectInit ∈ ws0 := ws0_of 150 (by decide +kernel) (by decide +kernel)
theorem wd_151 : Cond.classLink RX2 21 RX7 ∈ ws0 := ws0_of 151 (by decide +kernel) (by decide +kernel)
theorem wd_152 : Cond.instantiable RX7 2 ∈ ws0 := ws0_of 152 (by decide +kernel) (by decide +kernel)
theorem wd_153 : Cond.methodLink RX2 23 yX7_init ∈ ws0 := ws0_of 153 (by decide +kernel) (by decide +kernel)
theorem wd_154 : Cond.instanceMethod yX7_init ∈ ws0 := ws0_of 154 (by decide +kernel) (by decide +kernel)
theorem wd_156 : Cond.methodLink RX7 3 objectInit ∈ ws0 := ws0_of 156 (by decide +kernel) (by decide +kernel)
theorem wd_164 : Cond.arrayClass .int ∈ ws0 := ws0_of 164 (by decide +kernel) (by decide +kernel)
theorem wd_165 : Cond.classLink RX2 33 RX6 ∈ ws0 := ws0_of 165 (by decide +kernel) (by decide +kernel)
theorem wd_167 : Cond.instantiable RX6 7 ∈ ws0 := ws0_of 167 (by decide +kernel) (by decide +kernel)
theorem wd_168 : Cond.methodLink RX2 39 yX6_init ∈ ws0 := ws0_of 168 (by decide +kernel) (by decide +kernel)
theorem wd_169 : Cond.instanceMethod yX6_init ∈ ws0 := ws0_of 169 (by decide +kernel) (by decide +kernel)
theorem wd_171 : Cond.methodLink RX6 1 objectInit ∈ ws0 := ws0_of 171 (by decide +kernel) (by decide +kernel)
theorem wd_216 : Cond.classLink RX9 53 RX7 ∈ ws0 := ws0_of 216 (by decide +kernel) (by decide +kernel)
theorem wd_218 : Cond.methodLink RX9 59 yX7_init ∈ ws0 := ws0_of 218 (by decide +kernel) (by decide +kernel)
theorem wd_219 : Cond.classLink RX9 62 RX8 ∈ ws0 := ws0_of 219 (by decide +kernel) (by decide +kernel)
theorem wd_221 : Cond.instantiable RX8 5 ∈ ws0 := ws0_of 221 (by decide +kernel) (by decide +kernel)
theorem wd_222 : Cond.methodLink RX9 68 yX8_init ∈ ws0 := ws0_of 222 (by decide +kernel) (by decide +kernel)
theorem wd_223 : Cond.instanceMethod yX8_init ∈ ws0 := ws0_of 223 (by decide +kernel) (by decide +kernel)
theorem wd_225 : Cond.methodLink RX8 3 objectInit ∈ ws0 := ws0_of 225 (by decide +kernel) (by decide +kernel)
theorem wd_226 : Cond.classLink RX8 9 RX7 ∈ ws0 := ws0_of 226 (by decide +kernel) (by decide +kernel)
theorem wd_227 : Cond.methodLink RX8 11 yX7_init ∈ ws0 := ws0_of 227 (by decide +kernel) (by decide +kernel)
theorem wd_291 : Cond.classLink RX10 20 RX7 ∈ ws0 := ws0_of 291 (by decide +kernel) (by decide +kernel)
theorem wd_292 : Cond.methodLink RX10 26 yX7_init ∈ ws0 := ws0_of 292 (by decide +kernel) (by decide +kernel)
theorem wd_293 : Cond.classLink RX10 36 RX1 ∈ ws0 := ws0_of 293 (by decide +kernel) (by decide +kernel)
theorem wd_294 : Cond.instantiable RX1 6 ∈ ws0 := ws0_of 294 (by decide +kernel) (by decide +kernel)
theorem wd_295 : Cond.methodLink RX10 38 yX1_init ∈ ws0 := ws0_of 295 (by decide +kernel) (by decide +kernel)
theorem wd_296 : Cond.instanceMethod yX1_init ∈ ws0 := ws0_of 296 (by decide +kernel) (by decide +kernel)
theorem wd_298 : Cond.methodLink RX1 3 objectInit ∈ ws0 := ws0_of 298 (by decide +kernel) (by decide +kernel)
theorem wd_299 : Cond.classLink RX1 15 RX7 ∈ ws0 := ws0_of 299 (by decide +kernel) (by decide +kernel)
theorem wd_300 : Cond.methodLink RX1 17 yX7_init ∈ ws0 := ws0_of 300 (by decide +kernel) (by decide +kernel)
theorem wd_320 : Cond.classLink RX10 45 RX3 ∈ ws0 := ws0_of 320 (by decide +kernel) (by decide +kernel)
theorem wd_321 : Cond.instantiable RX3 12 ∈ ws0 := ws0_of 321 (by decide +kernel) (by decide +kernel)
theorem wd_322 : Cond.methodLink RX10 47 yX3_init ∈ ws0 := ws0_of 322 (by decide +kernel) (by decide +kernel)
theorem wd_323 : Cond.instanceMethod yX3_init ∈ ws0 := ws0_of 323 (by decide +kernel) (by decide +kernel)
theorem wd_325 : Cond.methodLink RX3 3 objectInit ∈ ws0 := ws0_of 325 (by decide +kernel) (by decide +kernel)
theorem wd_326 : Cond.classLink RX3 15 RX7 ∈ ws0 := ws0_of 326 (by decide +kernel) (by decide +kernel)
theorem wd_327 : Cond.methodLink RX3 17 yX7_init ∈ ws0 := ws0_of 327 (by decide +kernel) (by decide +kernel)
theorem wd_365 : Cond.classLink RX10 52 RX0 ∈ ws0 := ws0_of 365 (by decide +kernel) (by decide +kernel)
theorem wd_366 : Cond.instantiable RX0 1 ∈ ws0 := ws0_of 366 (by decide +kernel) (by decide +kernel)
theorem wd_367 : Cond.methodLink RX10 54 yX0_init ∈ ws0 := ws0_of 367 (by decide +kernel) (by decide +kernel)
theorem wd_368 : Cond.instanceMethod yX0_init ∈ ws0 := ws0_of 368 (by decide +kernel) (by decide +kernel)
theorem wd_370 : Cond.methodLink RX0 3 objectInit ∈ ws0 := ws0_of 370 (by decide +kernel) (by decide +kernel)
theorem wd_375 : Cond.classLink RX10 59 RX5 ∈ ws0 := ws0_of 375 (by decide +kernel) (by decide +kernel)
theorem wd_376 : Cond.instantiable RX5 5 ∈ ws0 := ws0_of 376 (by decide +kernel) (by decide +kernel)
theorem wd_377 : Cond.methodLink RX10 61 yX5_init ∈ ws0 := ws0_of 377 (by decide +kernel) (by decide +kernel)
theorem wd_378 : Cond.instanceMethod yX5_init ∈ ws0 := ws0_of 378 (by decide +kernel) (by decide +kernel)
theorem wd_380 : Cond.methodLink RX5 3 objectInit ∈ ws0 := ws0_of 380 (by decide +kernel) (by decide +kernel)
theorem wd_381 : Cond.classLink RX5 9 RX7 ∈ ws0 := ws0_of 381 (by decide +kernel) (by decide +kernel)
theorem wd_382 : Cond.methodLink RX5 11 yX7_init ∈ ws0 := ws0_of 382 (by decide +kernel) (by decide +kernel)
theorem wd_399 : Cond.classLink RX10 69 RX4 ∈ ws0 := ws0_of 399 (by decide +kernel) (by decide +kernel)
theorem wd_400 : Cond.instantiable RX4 4 ∈ ws0 := ws0_of 400 (by decide +kernel) (by decide +kernel)
theorem wd_401 : Cond.methodLink RX10 71 yX4_init ∈ ws0 := ws0_of 401 (by decide +kernel) (by decide +kernel)
theorem wd_402 : Cond.instanceMethod yX4_init ∈ ws0 := ws0_of 402 (by decide +kernel) (by decide +kernel)
theorem wd_404 : Cond.methodLink RX4 3 objectInit ∈ ws0 := ws0_of 404 (by decide +kernel) (by decide +kernel)
theorem wd_405 : Cond.classLink RX4 15 RX7 ∈ ws0 := ws0_of 405 (by decide +kernel) (by decide +kernel)
theorem wd_406 : Cond.methodLink RX4 17 yX7_init ∈ ws0 := ws0_of 406 (by decide +kernel) (by decide +kernel)
theorem wd_1465 : Cond.classLink RL 130 RX11 ∈ ws0 := ws0_of 1465 (by decide +kernel) (by decide +kernel)
theorem wd_1466 : Cond.instantiable RX11 45 ∈ ws0 := ws0_of 1466 (by decide +kernel) (by decide +kernel)
theorem wd_1467 : Cond.methodLink RL 132 yX11_init ∈ ws0 := ws0_of 1467 (by decide +kernel) (by decide +kernel)
theorem wd_1468 : Cond.instanceMethod yX11_init ∈ ws0 := ws0_of 1468 (by decide +kernel) (by decide +kernel)
theorem wd_1470 : Cond.methodLink RX11 1 objectInit ∈ ws0 := ws0_of 1470 (by decide +kernel) (by decide +kernel)
theorem wd_1607 : Cond.arrayClass .boolean ∈ ws0 := ws0_of 1607 (by decide +kernel) (by decide +kernel)
theorem wd_2002 : Cond.arrayClass .long ∈ ws0 := ws0_of 2002 (by decide +kernel) (by decide +kernel)
theorem ydi_X0 : yX0_init.cls ≠ "java/lang/invoke/MethodHandle" ∧ yX0_init.cls ≠ "java/lang/invoke/VarHandle" ∧ (parseMethodDescriptor yX0_init.desc).map (fun d => d.parameters.length) = some 1 := ⟨by decide +kernel, by decide +kernel, by decide +kernel⟩
theorem ydi_X1 : yX1_init.cls ≠ "java/lang/invoke/MethodHandle" ∧ yX1_init.cls ≠ "java/lang/invoke/VarHandle" ∧ (parseMethodDescriptor yX1_init.desc).map (fun d => d.parameters.length) = some 1 := ⟨by decide +kernel, by decide +kernel, by decide +kernel⟩
theorem ydi_X2 : yX2_init.cls ≠ "java/lang/invoke/MethodHandle" ∧ yX2_init.cls ≠ "java/lang/invoke/VarHandle" ∧ (parseMethodDescriptor yX2_init.desc).map (fun d => d.parameters.length) = some 0 := ⟨by decide +kernel, by decide +kernel, by decide +kernel⟩
theorem ydi_X3 : yX3_init.cls ≠ "java/lang/invoke/MethodHandle" ∧ yX3_init.cls ≠ "java/lang/invoke/VarHandle" ∧ (parseMethodDescriptor yX3_init.desc).map (fun d => d.parameters.length) = some 1 := ⟨by decide +kernel, by decide +kernel, by decide +kernel⟩
theorem ydi_X4 : yX4_init.cls ≠ "java/lang/invoke/MethodHandle" ∧ yX4_init.cls ≠ "java/lang/invoke/VarHandle" ∧ (parseMethodDescriptor yX4_init.desc).map (fun d => d.parameters.length) = some 1 := ⟨by decide +kernel, by decide +kernel, by decide +kernel⟩
theorem ydi_X5 : yX5_init.cls ≠ "java/lang/invoke/MethodHandle" ∧ yX5_init.cls ≠ "java/lang/invoke/VarHandle" ∧ (parseMethodDescriptor yX5_init.desc).map (fun d => d.parameters.length) = some 0 := ⟨by decide +kernel, by decide +kernel, by decide +kernel⟩
theorem ydi_X6 : yX6_init.cls ≠ "java/lang/invoke/MethodHandle" ∧ yX6_init.cls ≠ "java/lang/invoke/VarHandle" ∧ (parseMethodDescriptor yX6_init.desc).map (fun d => d.parameters.length) = some 0 := ⟨by decide +kernel, by decide +kernel, by decide +kernel⟩
theorem ydi_X7 : yX7_init.cls ≠ "java/lang/invoke/MethodHandle" ∧ yX7_init.cls ≠ "java/lang/invoke/VarHandle" ∧ (parseMethodDescriptor yX7_init.desc).map (fun d => d.parameters.length) = some 1 := ⟨by decide +kernel, by decide +kernel, by decide +kernel⟩
theorem ydi_X8 : yX8_init.cls ≠ "java/lang/invoke/MethodHandle" ∧ yX8_init.cls ≠ "java/lang/invoke/VarHandle" ∧ (parseMethodDescriptor yX8_init.desc).map (fun d => d.parameters.length) = some 0 := ⟨by decide +kernel, by decide +kernel, by decide +kernel⟩
theorem ydi_X9 : yX9_init.cls ≠ "java/lang/invoke/MethodHandle" ∧ yX9_init.cls ≠ "java/lang/invoke/VarHandle" ∧ (parseMethodDescriptor yX9_init.desc).map (fun d => d.parameters.length) = some 0 := ⟨by decide +kernel, by decide +kernel, by decide +kernel⟩
theorem ydi_X10 : yX10_init.cls ≠ "java/lang/invoke/MethodHandle" ∧ yX10_init.cls ≠ "java/lang/invoke/VarHandle" ∧ (parseMethodDescriptor yX10_init.desc).map (fun d => d.parameters.length) = some 0 := ⟨by decide +kernel, by decide +kernel, by decide +kernel⟩
theorem ydi_X11 : yX11_init.cls ≠ "java/lang/invoke/MethodHandle" ∧ yX11_init.cls ≠ "java/lang/invoke/VarHandle" ∧ (parseMethodDescriptor yX11_init.desc).map (fun d => d.parameters.length) = some 0 := ⟨by decide +kernel, by decide +kernel, by decide +kernel⟩
theorem yd_X10_fillCells : yX10_fillCells.cls ≠ "java/lang/invoke/MethodHandle" ∧ yX10_fillCells.cls ≠ "java/lang/invoke/VarHandle" ∧ (parseMethodDescriptor yX10_fillCells.desc).map (fun d => d.parameters.length) = some 2 := ⟨by decide +kernel, by decide +kernel, by decide +kernel⟩
