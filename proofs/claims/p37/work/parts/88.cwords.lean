def codesC : List Cond := [Cond.code yX10_init cX10_init 2 none,
  Cond.code objectInit ⟨#[0xb1]⟩ 1 none,
  Cond.code yX9_init cX9_init 2 none,
  Cond.code yX10_fillCells cX10_fillCells 3 none,
  Cond.code yX2_init cX2_init 2 none,
  Cond.code yX7_init cX7_init 2 none,
  Cond.code yX6_init cX6_init 1 none,
  Cond.code yX8_init cX8_init 1 none,
  Cond.code yX1_init cX1_init 2 none,
  Cond.code yX3_init cX3_init 2 none,
  Cond.code yX0_init cX0_init 2 none,
  Cond.code yX5_init cX5_init 1 none,
  Cond.code yX4_init cX4_init 2 none]
set_option maxRecDepth 100000 in
theorem codesC_in : GoodIn lw_tbl codesC := goodIn_p codesC [71, 74, 79, 83, 89, 95, 110, 164, 237, 264, 309, 319, 343] rfl (by decide +kernel)
theorem codesC_at {w : Cond} (i : Nat) (h : codesC[i]? = some w) (g : goodWord w = true) : w ∈ ws0 := List.mem_filter.mpr ⟨(codesC_in w (List.mem_of_getElem? h)).1, g⟩
set_option maxRecDepth 20000 in
theorem wd_71 : Cond.code yX10_init cX10_init 2 none ∈ ws0 := codesC_at 0 rfl (by decide +kernel)
set_option maxRecDepth 20000 in
theorem wd_74 : Cond.code objectInit ⟨#[0xb1]⟩ 1 none ∈ ws0 := codesC_at 1 rfl (by decide +kernel)
set_option maxRecDepth 20000 in
theorem wd_79 : Cond.code yX9_init cX9_init 2 none ∈ ws0 := codesC_at 2 rfl (by decide +kernel)
set_option maxRecDepth 20000 in
theorem wd_83 : Cond.code yX10_fillCells cX10_fillCells 3 none ∈ ws0 := codesC_at 3 rfl (by decide +kernel)
set_option maxRecDepth 20000 in
theorem wd_89 : Cond.code yX2_init cX2_init 2 none ∈ ws0 := codesC_at 4 rfl (by decide +kernel)
set_option maxRecDepth 20000 in
theorem wd_95 : Cond.code yX7_init cX7_init 2 none ∈ ws0 := codesC_at 5 rfl (by decide +kernel)
set_option maxRecDepth 20000 in
theorem wd_110 : Cond.code yX6_init cX6_init 1 none ∈ ws0 := codesC_at 6 rfl (by decide +kernel)
set_option maxRecDepth 20000 in
theorem wd_164 : Cond.code yX8_init cX8_init 1 none ∈ ws0 := codesC_at 7 rfl (by decide +kernel)
set_option maxRecDepth 20000 in
theorem wd_237 : Cond.code yX1_init cX1_init 2 none ∈ ws0 := codesC_at 8 rfl (by decide +kernel)
set_option maxRecDepth 20000 in
theorem wd_264 : Cond.code yX3_init cX3_init 2 none ∈ ws0 := codesC_at 9 rfl (by decide +kernel)
set_option maxRecDepth 20000 in
theorem wd_309 : Cond.code yX0_init cX0_init 2 none ∈ ws0 := codesC_at 10 rfl (by decide +kernel)
set_option maxRecDepth 20000 in
theorem wd_319 : Cond.code yX5_init cX5_init 1 none ∈ ws0 := codesC_at 11 rfl (by decide +kernel)
set_option maxRecDepth 20000 in
theorem wd_343 : Cond.code yX4_init cX4_init 2 none ∈ ws0 := codesC_at 12 rfl (by decide +kernel)
theorem wd_67 : Cond.classLink RL 18 RX10 ∈ ws0 := ws0_of 67 (by decide +kernel) (by decide +kernel)
theorem wd_68 : Cond.instantiable RX10 20 ∈ ws0 := ws0_of 68 (by decide +kernel) (by decide +kernel)
theorem wd_69 : Cond.methodLink RL 187 yX10_init ∈ ws0 := ws0_of 69 (by decide +kernel) (by decide +kernel)
theorem wd_70 : Cond.instanceMethod yX10_init ∈ ws0 := ws0_of 70 (by decide +kernel) (by decide +kernel)
theorem wd_72 : Cond.methodLink RX10 3 objectInit ∈ ws0 := ws0_of 72 (by decide +kernel) (by decide +kernel)
theorem wd_73 : Cond.instanceMethod objectInit ∈ ws0 := ws0_of 73 (by decide +kernel) (by decide +kernel)
theorem wd_75 : Cond.classLink RX10 9 RX9 ∈ ws0 := ws0_of 75 (by decide +kernel) (by decide +kernel)
theorem wd_76 : Cond.instantiable RX9 15 ∈ ws0 := ws0_of 76 (by decide +kernel) (by decide +kernel)
theorem wd_77 : Cond.methodLink RX10 11 yX9_init ∈ ws0 := ws0_of 77 (by decide +kernel) (by decide +kernel)
theorem wd_78 : Cond.instanceMethod yX9_init ∈ ws0 := ws0_of 78 (by decide +kernel) (by decide +kernel)
theorem wd_80 : Cond.methodLink RX9 3 objectInit ∈ ws0 := ws0_of 80 (by decide +kernel) (by decide +kernel)
theorem wd_82 : Cond.static yX10_fillCells ∈ ws0 := ws0_of 82 (by decide +kernel) (by decide +kernel)
theorem wd_84 : Cond.classLink RX9 46 RX2 ∈ ws0 := ws0_of 84 (by decide +kernel) (by decide +kernel)
theorem wd_86 : Cond.instantiable RX2 7 ∈ ws0 := ws0_of 86 (by decide +kernel) (by decide +kernel)
theorem wd_87 : Cond.methodLink RX9 52 yX2_init ∈ ws0 := ws0_of 87 (by decide +kernel) (by decide +kernel)
theorem wd_88 : Cond.instanceMethod yX2_init ∈ ws0 := ws0_of 88 (by decide +kernel) (by decide +kernel)
theorem wd_90 : Cond.methodLink RX2 3 objectInit ∈ ws0 := ws0_of 90 (by decide +kernel) (by decide +kernel)
theorem wd_91 : Cond.classLink RX2 21 RX7 ∈ ws0 := ws0_of 91 (by decide +kernel) (by decide +kernel)
theorem wd_92 : Cond.instantiable RX7 2 ∈ ws0 := ws0_of 92 (by decide +kernel) (by decide +kernel)
theorem wd_93 : Cond.methodLink RX2 23 yX7_init ∈ ws0 := ws0_of 93 (by decide +kernel) (by decide +kernel)
theorem wd_94 : Cond.instanceMethod yX7_init ∈ ws0 := ws0_of 94 (by decide +kernel) (by decide +kernel)
theorem wd_96 : Cond.methodLink RX7 3 objectInit ∈ ws0 := ws0_of 96 (by decide +kernel) (by decide +kernel)
theorem wd_104 : Cond.arrayClass .int ∈ ws0 := ws0_of 104 (by decide +kernel) (by decide +kernel)
theorem wd_105 : Cond.classLink RX2 33 RX6 ∈ ws0 := ws0_of 105 (by decide +kernel) (by decide +kernel)
theorem wd_107 : Cond.instantiable RX6 7 ∈ ws0 := ws0_of 107 (by decide +kernel) (by decide +kernel)
theorem wd_108 : Cond.methodLink RX2 39 yX6_init ∈ ws0 := ws0_of 108 (by decide +kernel) (by decide +kernel)
theorem wd_109 : Cond.instanceMethod yX6_init ∈ ws0 := ws0_of 109 (by decide +kernel) (by decide +kernel)
theorem wd_111 : Cond.methodLink RX6 1 objectInit ∈ ws0 := ws0_of 111 (by decide +kernel) (by decide +kernel)
theorem wd_156 : Cond.classLink RX9 53 RX7 ∈ ws0 := ws0_of 156 (by decide +kernel) (by decide +kernel)
theorem wd_158 : Cond.methodLink RX9 59 yX7_init ∈ ws0 := ws0_of 158 (by decide +kernel) (by decide +kernel)
theorem wd_159 : Cond.classLink RX9 62 RX8 ∈ ws0 := ws0_of 159 (by decide +kernel) (by decide +kernel)
theorem wd_161 : Cond.instantiable RX8 5 ∈ ws0 := ws0_of 161 (by decide +kernel) (by decide +kernel)
theorem wd_162 : Cond.methodLink RX9 68 yX8_init ∈ ws0 := ws0_of 162 (by decide +kernel) (by decide +kernel)
theorem wd_163 : Cond.instanceMethod yX8_init ∈ ws0 := ws0_of 163 (by decide +kernel) (by decide +kernel)
theorem wd_165 : Cond.methodLink RX8 3 objectInit ∈ ws0 := ws0_of 165 (by decide +kernel) (by decide +kernel)
theorem wd_166 : Cond.classLink RX8 9 RX7 ∈ ws0 := ws0_of 166 (by decide +kernel) (by decide +kernel)
theorem wd_167 : Cond.methodLink RX8 11 yX7_init ∈ ws0 := ws0_of 167 (by decide +kernel) (by decide +kernel)
theorem wd_231 : Cond.classLink RX10 20 RX7 ∈ ws0 := ws0_of 231 (by decide +kernel) (by decide +kernel)
theorem wd_232 : Cond.methodLink RX10 26 yX7_init ∈ ws0 := ws0_of 232 (by decide +kernel) (by decide +kernel)
theorem wd_233 : Cond.classLink RX10 36 RX1 ∈ ws0 := ws0_of 233 (by decide +kernel) (by decide +kernel)
theorem wd_234 : Cond.instantiable RX1 6 ∈ ws0 := ws0_of 234 (by decide +kernel) (by decide +kernel)
theorem wd_235 : Cond.methodLink RX10 38 yX1_init ∈ ws0 := ws0_of 235 (by decide +kernel) (by decide +kernel)
theorem wd_236 : Cond.instanceMethod yX1_init ∈ ws0 := ws0_of 236 (by decide +kernel) (by decide +kernel)
theorem wd_238 : Cond.methodLink RX1 3 objectInit ∈ ws0 := ws0_of 238 (by decide +kernel) (by decide +kernel)
theorem wd_239 : Cond.classLink RX1 15 RX7 ∈ ws0 := ws0_of 239 (by decide +kernel) (by decide +kernel)
theorem wd_240 : Cond.methodLink RX1 17 yX7_init ∈ ws0 := ws0_of 240 (by decide +kernel) (by decide +kernel)
theorem wd_260 : Cond.classLink RX10 45 RX3 ∈ ws0 := ws0_of 260 (by decide +kernel) (by decide +kernel)
theorem wd_261 : Cond.instantiable RX3 12 ∈ ws0 := ws0_of 261 (by decide +kernel) (by decide +kernel)
theorem wd_262 : Cond.methodLink RX10 47 yX3_init ∈ ws0 := ws0_of 262 (by decide +kernel) (by decide +kernel)
theorem wd_263 : Cond.instanceMethod yX3_init ∈ ws0 := ws0_of 263 (by decide +kernel) (by decide +kernel)
theorem wd_265 : Cond.methodLink RX3 3 objectInit ∈ ws0 := ws0_of 265 (by decide +kernel) (by decide +kernel)
theorem wd_266 : Cond.classLink RX3 15 RX7 ∈ ws0 := ws0_of 266 (by decide +kernel) (by decide +kernel)
theorem wd_267 : Cond.methodLink RX3 17 yX7_init ∈ ws0 := ws0_of 267 (by decide +kernel) (by decide +kernel)
theorem wd_305 : Cond.classLink RX10 52 RX0 ∈ ws0 := ws0_of 305 (by decide +kernel) (by decide +kernel)
theorem wd_306 : Cond.instantiable RX0 1 ∈ ws0 := ws0_of 306 (by decide +kernel) (by decide +kernel)
theorem wd_307 : Cond.methodLink RX10 54 yX0_init ∈ ws0 := ws0_of 307 (by decide +kernel) (by decide +kernel)
theorem wd_308 : Cond.instanceMethod yX0_init ∈ ws0 := ws0_of 308 (by decide +kernel) (by decide +kernel)
theorem wd_310 : Cond.methodLink RX0 3 objectInit ∈ ws0 := ws0_of 310 (by decide +kernel) (by decide +kernel)
theorem wd_315 : Cond.classLink RX10 59 RX5 ∈ ws0 := ws0_of 315 (by decide +kernel) (by decide +kernel)
theorem wd_316 : Cond.instantiable RX5 5 ∈ ws0 := ws0_of 316 (by decide +kernel) (by decide +kernel)
theorem wd_317 : Cond.methodLink RX10 61 yX5_init ∈ ws0 := ws0_of 317 (by decide +kernel) (by decide +kernel)
theorem wd_318 : Cond.instanceMethod yX5_init ∈ ws0 := ws0_of 318 (by decide +kernel) (by decide +kernel)
theorem wd_320 : Cond.methodLink RX5 3 objectInit ∈ ws0 := ws0_of 320 (by decide +kernel) (by decide +kernel)
theorem wd_321 : Cond.classLink RX5 9 RX7 ∈ ws0 := ws0_of 321 (by decide +kernel) (by decide +kernel)
theorem wd_322 : Cond.methodLink RX5 11 yX7_init ∈ ws0 := ws0_of 322 (by decide +kernel) (by decide +kernel)
theorem wd_339 : Cond.classLink RX10 69 RX4 ∈ ws0 := ws0_of 339 (by decide +kernel) (by decide +kernel)
theorem wd_340 : Cond.instantiable RX4 4 ∈ ws0 := ws0_of 340 (by decide +kernel) (by decide +kernel)
theorem wd_341 : Cond.methodLink RX10 71 yX4_init ∈ ws0 := ws0_of 341 (by decide +kernel) (by decide +kernel)
theorem wd_342 : Cond.instanceMethod yX4_init ∈ ws0 := ws0_of 342 (by decide +kernel) (by decide +kernel)
theorem wd_344 : Cond.methodLink RX4 3 objectInit ∈ ws0 := ws0_of 344 (by decide +kernel) (by decide +kernel)
theorem wd_345 : Cond.classLink RX4 15 RX7 ∈ ws0 := ws0_of 345 (by decide +kernel) (by decide +kernel)
theorem wd_346 : Cond.methodLink RX4 17 yX7_init ∈ ws0 := ws0_of 346 (by decide +kernel) (by decide +kernel)
theorem ydi_X0 : yX0_init.cls ≠ "java/lang/invoke/MethodHandle" ∧ yX0_init.cls ≠ "java/lang/invoke/VarHandle" ∧ (parseMethodDescriptor yX0_init.desc).map (fun d => d.parameters.length) = some 1 := ⟨by decide +kernel, by decide +kernel, by decide +kernel⟩
theorem ydi_X1 : yX1_init.cls ≠ "java/lang/invoke/MethodHandle" ∧ yX1_init.cls ≠ "java/lang/invoke/VarHandle" ∧ (parseMethodDescriptor yX1_init.desc).map (fun d => d.parameters.length) = some 1 := ⟨by decide +kernel, by decide +kernel, by decide +kernel⟩
theorem ydi_X2 : yX2_init.cls ≠ "java/lang/invoke/MethodHandle" ∧ yX2_init.cls ≠ "java/lang/invoke/VarHandle" ∧ (parseMethodDescriptor yX2_init.desc).map (fun d => d.parameters.length) = some 0 := ⟨by decide +kernel, by decide +kernel, by decide +kernel⟩
theorem ydi_X3 : yX3_init.cls ≠ "java/lang/invoke/MethodHandle" ∧ yX3_init.cls ≠ "java/lang/invoke/VarHandle" ∧ (parseMethodDescriptor yX3_init.desc).map (fun d => d.parameters.length) = some 1 := ⟨by decide +kernel, by decide +kernel, by decide +kernel⟩
theorem ydi_X4 : yX4_init.cls ≠ "java/lang/invoke/MethodHandle" ∧ yX4_init.cls ≠ "java/lang/invoke/VarHandle" ∧ (parseMethodDescriptor yX4_init.desc).map (fun d => d.parameters.length) = some 1 := ⟨by decide +kernel, by decide +kernel, by decide +kernel⟩
theorem ydi_X5 : yX5_init.cls ≠ "java/lang/invoke/MethodHandle" ∧ yX5_init.cls ≠ "java/lang/invoke/VarHandle" ∧ (parseMethodDescriptor yX5_init.desc).map (fun d => d.parameters.length) = some 0 := ⟨by decide +kernel, by decide +kernel, by decide +kernel⟩
theorem ydi_X6 : yX6_init.cls ≠ "java/lang/invoke/MethodHandle" ∧ yX6_init.cls ≠ "java/lang/invoke/VarHandle" ∧ (parseMethodDescriptor yX6_init.desc).map (fun d => d.parameters.length) = some 0 := ⟨by decide +kernel, by decide +kernel, by decide +kernel⟩
theorem ydi_X7 : yX7_init.cls ≠ "java/lang/invoke/MethodHandle" ∧ yX7_init.cls ≠ "java/lang/invoke/VarHandle" ∧ (parseMethodDescriptor yX7_init.desc).map (fun d => d.parameters.length) = some 1 := ⟨by decide +kernel, by decide +kernel, by decide +kernel⟩
theorem ydi_X8 : yX8_init.cls ≠ "java/lang/invoke/MethodHandle" ∧ yX8_init.cls ≠ "java/lang/invoke/VarHandle" ∧ (parseMethodDescriptor yX8_init.desc).map (fun d => d.parameters.length) = some 0 := ⟨by decide +kernel, by decide +kernel, by decide +kernel⟩
theorem ydi_X9 : yX9_init.cls ≠ "java/lang/invoke/MethodHandle" ∧ yX9_init.cls ≠ "java/lang/invoke/VarHandle" ∧ (parseMethodDescriptor yX9_init.desc).map (fun d => d.parameters.length) = some 0 := ⟨by decide +kernel, by decide +kernel, by decide +kernel⟩
theorem ydi_X10 : yX10_init.cls ≠ "java/lang/invoke/MethodHandle" ∧ yX10_init.cls ≠ "java/lang/invoke/VarHandle" ∧ (parseMethodDescriptor yX10_init.desc).map (fun d => d.parameters.length) = some 0 := ⟨by decide +kernel, by decide +kernel, by decide +kernel⟩
theorem yd_X10_fillCells : yX10_fillCells.cls ≠ "java/lang/invoke/MethodHandle" ∧ yX10_fillCells.cls ≠ "java/lang/invoke/VarHandle" ∧ (parseMethodDescriptor yX10_fillCells.desc).map (fun d => d.parameters.length) = some 2 := ⟨by decide +kernel, by decide +kernel, by decide +kernel⟩
