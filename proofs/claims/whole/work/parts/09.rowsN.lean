theorem cs_220 : (Int16.ofInt 220).toInt32 = 220 := by decide +kernel
theorem cs_301 : (Int16.ofInt 301).toInt32 = 301 := by decide +kernel
theorem cs_625 : (Int16.ofInt 625).toInt32 = 625 := by decide +kernel
theorem cs_2400 : (Int16.ofInt 2400).toInt32 = 2400 := by decide +kernel
theorem cs_2709 : (Int16.ofInt 2709).toInt32 = 2709 := by decide +kernel
theorem cs_3200 : (Int16.ofInt 3200).toInt32 = 3200 := by decide +kernel
theorem cs_4000 : (Int16.ofInt 4000).toInt32 = 4000 := by decide +kernel
theorem cs_16000 : (Int16.ofInt 16000).toInt32 = 16000 := by decide +kernel
theorem cs_20400 : (Int16.ofInt 20400).toInt32 = 20400 := by decide +kernel
def nwl : List Cond := [.methodLinkNest RX11 9 yX8_init "RoundTypes", .methodLinkNest RX11 18 yX3_init "RoundTypes", .methodLinkNest RX11 41 yX6_init "RoundTypes", .methodLinkNest RX4 11 yX10_init "RoundTypes", .methodLinkNest RX4 20 yX1_init "RoundTypes"]
theorem nwl_ok : ∀ w ∈ nwl, w.onTables = true := by decide +kernel
theorem nwl_form : ∀ w ∈ nwl, ∃ a i x b, w = Cond.methodLinkNest a i x b := by
  intro w hw
  simp only [nwl, List.mem_cons, List.not_mem_nil, or_false] at hw
  rcases hw with h | h | h | h | h <;> exact ⟨_, _, _, _, h⟩
theorem nwl_in : ∀ w ∈ nwl, w ∈ lw_tbl := by
  intro w hw
  simp only [nwl, List.mem_cons, List.not_mem_nil, or_false] at hw
  rcases hw with rfl | rfl | rfl | rfl | rfl
  · exact List.mem_of_getElem? (i := 135) (by decide +kernel)
  · exact List.mem_of_getElem? (i := 161) (by decide +kernel)
  · exact List.mem_of_getElem? (i := 226) (by decide +kernel)
  · exact List.mem_of_getElem? (i := 350) (by decide +kernel)
  · exact List.mem_of_getElem? (i := 375) (by decide +kernel)
theorem arrcI : Cond.arrayClass (newarray.typeOf .int) ∈ gtb := in_gtb 158 (by decide +kernel) (by decide +kernel)
theorem arrcJ : Cond.arrayClass (newarray.typeOf .long) ∈ gtb := in_gtb 198 (by decide +kernel) (by decide +kernel)
theorem obIn : Cond.instanceMethod Lib.objectInit ∈ gtb := in_gtb 131 (by decide +kernel) (by decide +kernel)
set_option maxRecDepth 100000 in
theorem obCo : Cond.code Lib.objectInit ⟨#[0xb1]⟩ 1 none ∈ gtb := in_gtb 132 rfl rfl
theorem dvX0 : ∀ j, j < 6 → defaultValue (tyX0 j) = vp_V [.null, .null, .null, .null, .int 0, .int 0] j
  | 0, _ => rfl | 1, _ => rfl | 2, _ => rfl | 3, _ => rfl | 4, _ => rfl | 5, _ => rfl | k + 6, h => absurd h (by omega)
theorem insX0 : Cond.instantiable RX0 6 ∈ gtb := in_gtb 200 (by decide +kernel) (by decide +kernel)
theorem iniX0 : Cond.initialized RX0 ∈ gtb := in_gtb 116 (by decide +kernel) (by decide +kernel)
theorem inmX0 : Cond.instanceMethod yX0_init ∈ gtb := in_gtb 202 (by decide +kernel) (by decide +kernel)
set_option maxRecDepth 100000 in
theorem codX0 : Cond.code yX0_init cX0_init 2 none ∈ gtb := in_gtb 203 rfl rfl
theorem dvX1 : ∀ j, j < 3 → defaultValue (tyX1 j) = vp_V [.null, .null, .int 0] j
  | 0, _ => rfl | 1, _ => rfl | 2, _ => rfl | k + 3, h => absurd h (by omega)
theorem insX1 : Cond.instantiable RX1 3 ∈ gtb := in_gtb 374 (by decide +kernel) (by decide +kernel)
theorem iniX1 : Cond.initialized RX1 ∈ gtb := in_gtb 123 (by decide +kernel) (by decide +kernel)
theorem inmX1 : Cond.instanceMethod yX1_init ∈ gtb := in_gtb 376 (by decide +kernel) (by decide +kernel)
set_option maxRecDepth 100000 in
theorem codX1 : Cond.code yX1_init cX1_init 1 none ∈ gtb := in_gtb 377 rfl rfl
theorem dvX2 : ∀ j, j < 10 → defaultValue (tyX2 j) = vp_V [.null, .null, .null, .null, .null, .null, .null, .null, .int 0, .int 0] j
  | 0, _ => rfl | 1, _ => rfl | 2, _ => rfl | 3, _ => rfl | 4, _ => rfl | 5, _ => rfl | 6, _ => rfl | 7, _ => rfl | 8, _ => rfl | 9, _ => rfl | k + 10, h => absurd h (by omega)
theorem insX2 : Cond.instantiable RX2 10 ∈ gtb := in_gtb 306 (by decide +kernel) (by decide +kernel)
theorem iniX2 : Cond.initialized RX2 ∈ gtb := in_gtb 120 (by decide +kernel) (by decide +kernel)
theorem inmX2 : Cond.instanceMethod yX2_init ∈ gtb := in_gtb 308 (by decide +kernel) (by decide +kernel)
set_option maxRecDepth 100000 in
theorem codX2 : Cond.code yX2_init cX2_init 5 none ∈ gtb := in_gtb 309 rfl rfl
theorem dvX3 : ∀ j, j < 4 → defaultValue (tyX3 j) = vp_V [.null, .null, .null, .int 0] j
  | 0, _ => rfl | 1, _ => rfl | 2, _ => rfl | 3, _ => rfl | k + 4, h => absurd h (by omega)
theorem insX3 : Cond.instantiable RX3 4 ∈ gtb := in_gtb 160 (by decide +kernel) (by decide +kernel)
theorem iniX3 : Cond.initialized RX3 ∈ gtb := in_gtb 114 (by decide +kernel) (by decide +kernel)
theorem inmX3 : Cond.instanceMethod yX3_init ∈ gtb := in_gtb 162 (by decide +kernel) (by decide +kernel)
set_option maxRecDepth 100000 in
theorem codX3 : Cond.code yX3_init cX3_init 1 none ∈ gtb := in_gtb 163 rfl rfl
theorem dvX4 : ∀ j, j < 13 → defaultValue (tyX4 j) = vp_V [.null, .null, .null, .null, .null, .null, .null, .int 0, .int 0, .int 0, .int 0, .int 0, .int 0] j
  | 0, _ => rfl | 1, _ => rfl | 2, _ => rfl | 3, _ => rfl | 4, _ => rfl | 5, _ => rfl | 6, _ => rfl | 7, _ => rfl | 8, _ => rfl | 9, _ => rfl | 10, _ => rfl | 11, _ => rfl | 12, _ => rfl | k + 13, h => absurd h (by omega)
theorem insX4 : Cond.instantiable RX4 13 ∈ gtb := in_gtb 343 (by decide +kernel) (by decide +kernel)
theorem iniX4 : Cond.initialized RX4 ∈ gtb := in_gtb 121 (by decide +kernel) (by decide +kernel)
theorem inmX4 : Cond.instanceMethod yX4_init ∈ gtb := in_gtb 345 (by decide +kernel) (by decide +kernel)
set_option maxRecDepth 100000 in
theorem codX4 : Cond.code yX4_init cX4_init 2 none ∈ gtb := in_gtb 346 rfl rfl
theorem dvX5 : ∀ j, j < 4 → defaultValue (tyX5 j) = vp_V [.null, .null, .null, .int 0] j
  | 0, _ => rfl | 1, _ => rfl | 2, _ => rfl | 3, _ => rfl | k + 4, h => absurd h (by omega)
theorem insX5 : Cond.instantiable RX5 4 ∈ gtb := in_gtb 179 (by decide +kernel) (by decide +kernel)
theorem iniX5 : Cond.initialized RX5 ∈ gtb := in_gtb 115 (by decide +kernel) (by decide +kernel)
theorem inmX5 : Cond.instanceMethod yX5_init ∈ gtb := in_gtb 181 (by decide +kernel) (by decide +kernel)
set_option maxRecDepth 100000 in
theorem codX5 : Cond.code yX5_init cX5_init 2 none ∈ gtb := in_gtb 182 rfl rfl
theorem dvX6 : ∀ j, j < 5 → defaultValue (tyX6 j) = vp_V [.null, .null, .null, .null, .null] j
  | 0, _ => rfl | 1, _ => rfl | 2, _ => rfl | 3, _ => rfl | 4, _ => rfl | k + 5, h => absurd h (by omega)
theorem insX6 : Cond.instantiable RX6 5 ∈ gtb := in_gtb 225 (by decide +kernel) (by decide +kernel)
theorem iniX6 : Cond.initialized RX6 ∈ gtb := in_gtb 117 (by decide +kernel) (by decide +kernel)
theorem inmX6 : Cond.instanceMethod yX6_init ∈ gtb := in_gtb 227 (by decide +kernel) (by decide +kernel)
set_option maxRecDepth 100000 in
theorem codX6 : Cond.code yX6_init cX6_init 1 none ∈ gtb := in_gtb 228 rfl rfl
theorem dvX7 : ∀ j, j < 8 → defaultValue (tyX7 j) = vp_V [.null, .null, .null, .null, .null, .null, .null, .int 0] j
  | 0, _ => rfl | 1, _ => rfl | 2, _ => rfl | 3, _ => rfl | 4, _ => rfl | 5, _ => rfl | 6, _ => rfl | 7, _ => rfl | k + 8, h => absurd h (by omega)
theorem insX7 : Cond.instantiable RX7 8 ∈ gtb := in_gtb 275 (by decide +kernel) (by decide +kernel)
theorem iniX7 : Cond.initialized RX7 ∈ gtb := in_gtb 119 (by decide +kernel) (by decide +kernel)
theorem inmX7 : Cond.instanceMethod yX7_init ∈ gtb := in_gtb 277 (by decide +kernel) (by decide +kernel)
set_option maxRecDepth 100000 in
theorem codX7 : Cond.code yX7_init cX7_init 4 none ∈ gtb := in_gtb 278 rfl rfl
theorem dvX8 : ∀ j, j < 6 → defaultValue (tyX8 j) = vp_V [.null, .int 0, .int 0, .int 0, .int 0, .int 0] j
  | 0, _ => rfl | 1, _ => rfl | 2, _ => rfl | 3, _ => rfl | 4, _ => rfl | 5, _ => rfl | k + 6, h => absurd h (by omega)
theorem insX8 : Cond.instantiable RX8 6 ∈ gtb := in_gtb 134 (by decide +kernel) (by decide +kernel)
theorem iniX8 : Cond.initialized RX8 ∈ gtb := in_gtb 113 (by decide +kernel) (by decide +kernel)
theorem inmX8 : Cond.instanceMethod yX8_init ∈ gtb := in_gtb 136 (by decide +kernel) (by decide +kernel)
set_option maxRecDepth 100000 in
theorem codX8 : Cond.code yX8_init cX8_init 1 none ∈ gtb := in_gtb 137 rfl rfl
theorem dvX9 : ∀ j, j < 7 → defaultValue (tyX9 j) = vp_V [.null, .null, .null, .null, .null, .null, .int 0] j
  | 0, _ => rfl | 1, _ => rfl | 2, _ => rfl | 3, _ => rfl | 4, _ => rfl | 5, _ => rfl | 6, _ => rfl | k + 7, h => absurd h (by omega)
theorem insX9 : Cond.instantiable RX9 7 ∈ gtb := in_gtb 247 (by decide +kernel) (by decide +kernel)
theorem iniX9 : Cond.initialized RX9 ∈ gtb := in_gtb 118 (by decide +kernel) (by decide +kernel)
theorem inmX9 : Cond.instanceMethod yX9_init ∈ gtb := in_gtb 249 (by decide +kernel) (by decide +kernel)
set_option maxRecDepth 100000 in
theorem codX9 : Cond.code yX9_init cX9_init 3 none ∈ gtb := in_gtb 250 rfl rfl
theorem dvX10 : ∀ j, j < 6 → defaultValue (tyX10 j) = vp_V [.null, .null, .null, .null, .null, .int 0] j
  | 0, _ => rfl | 1, _ => rfl | 2, _ => rfl | 3, _ => rfl | 4, _ => rfl | 5, _ => rfl | k + 6, h => absurd h (by omega)
theorem insX10 : Cond.instantiable RX10 6 ∈ gtb := in_gtb 349 (by decide +kernel) (by decide +kernel)
theorem iniX10 : Cond.initialized RX10 ∈ gtb := in_gtb 122 (by decide +kernel) (by decide +kernel)
theorem inmX10 : Cond.instanceMethod yX10_init ∈ gtb := in_gtb 351 (by decide +kernel) (by decide +kernel)
set_option maxRecDepth 100000 in
theorem codX10 : Cond.code yX10_init cX10_init 1 none ∈ gtb := in_gtb 352 rfl rfl
theorem dvX11 : ∀ j, j < 12 → defaultValue (tyX11 j) = vp_V [.null, .null, .null, .null, .null, .null, .null, .null, .null, .null, .int 0, .int 0] j
  | 0, _ => rfl | 1, _ => rfl | 2, _ => rfl | 3, _ => rfl | 4, _ => rfl | 5, _ => rfl | 6, _ => rfl | 7, _ => rfl | 8, _ => rfl | 9, _ => rfl | 10, _ => rfl | 11, _ => rfl | k + 12, h => absurd h (by omega)
theorem insX11 : Cond.instantiable RX11 12 ∈ gtb := in_gtb 126 (by decide +kernel) (by decide +kernel)
theorem iniX11 : Cond.initialized RX11 ∈ gtb := in_gtb 112 (by decide +kernel) (by decide +kernel)
theorem inmX11 : Cond.instanceMethod yX11_init ∈ gtb := in_gtb 128 (by decide +kernel) (by decide +kernel)
set_option maxRecDepth 100000 in
theorem codX11 : Cond.code yX11_init cX11_init 1 none ∈ gtb := in_gtb 129 rfl rfl
theorem dvX12 : ∀ j, j < 76 → defaultValue (tyX12 j) = vp_V [.int 0, .null, .int 0, .int 0, .null, .null, .null, .null, .null, .null, .null, .null, .null, .null, .null, .null, .null, .int 0, .null, .null, .null, .null, .int 0, .int 0, .int 0, .null, .null, .null, .null, .int 0, .int 0, .int 0, .null, .null, .null, .null, .null, .null, .null, .int 0, .null, .null, .null, .null, .null, .null, .null, .null, .int 0, .null, .null, .null, .null, .int 0, .null, .null, .int 0, .int 0, .null, .null, .null, .null, .null, .null, .null, .int 0, .null, .null, .null, .null, .null, .int 0, .int 0, .int 0, .int 0, .int 0] j
  | 0, _ => rfl | 1, _ => rfl | 2, _ => rfl | 3, _ => rfl | 4, _ => rfl | 5, _ => rfl | 6, _ => rfl | 7, _ => rfl | 8, _ => rfl | 9, _ => rfl | 10, _ => rfl | 11, _ => rfl | 12, _ => rfl | 13, _ => rfl | 14, _ => rfl | 15, _ => rfl | 16, _ => rfl | 17, _ => rfl | 18, _ => rfl | 19, _ => rfl | 20, _ => rfl | 21, _ => rfl | 22, _ => rfl | 23, _ => rfl | 24, _ => rfl | 25, _ => rfl | 26, _ => rfl | 27, _ => rfl | 28, _ => rfl | 29, _ => rfl | 30, _ => rfl | 31, _ => rfl | 32, _ => rfl | 33, _ => rfl | 34, _ => rfl | 35, _ => rfl | 36, _ => rfl | 37, _ => rfl | 38, _ => rfl | 39, _ => rfl | 40, _ => rfl | 41, _ => rfl | 42, _ => rfl | 43, _ => rfl | 44, _ => rfl | 45, _ => rfl | 46, _ => rfl | 47, _ => rfl | 48, _ => rfl | 49, _ => rfl | 50, _ => rfl | 51, _ => rfl | 52, _ => rfl | 53, _ => rfl | 54, _ => rfl | 55, _ => rfl | 56, _ => rfl | 57, _ => rfl | 58, _ => rfl | 59, _ => rfl | 60, _ => rfl | 61, _ => rfl | 62, _ => rfl | 63, _ => rfl | 64, _ => rfl | 65, _ => rfl | 66, _ => rfl | 67, _ => rfl | 68, _ => rfl | 69, _ => rfl | 70, _ => rfl | 71, _ => rfl | 72, _ => rfl | 73, _ => rfl | 74, _ => rfl | 75, _ => rfl | k + 76, h => absurd h (by omega)
theorem insX12 : Cond.instantiable RX12 76 ∈ gtb := in_gtb 1049 (by decide +kernel) (by decide +kernel)
theorem iniX12 : Cond.initialized RX12 ∈ gtb := in_gtb 124 (by decide +kernel) (by decide +kernel)
theorem inmX12 : Cond.instanceMethod yX12_init ∈ gtb := in_gtb 1051 (by decide +kernel) (by decide +kernel)
set_option maxRecDepth 100000 in
theorem codX12 : Cond.code yX12_init cX12_init 1 none ∈ gtb := in_gtb 1052 rfl rfl
theorem clL_7 : Cond.classLink RL 7 RX11 ∈ gtb := in_gtb 125 (by decide +kernel) (by decide +kernel)
theorem lkL_9 : Cond.methodLink RL 9 yX11_init ∈ gtb := in_gtb 127 (by decide +kernel) (by decide +kernel)
theorem lkX11_1 : Cond.methodLink RX11 1 Lib.objectInit ∈ gtb := in_gtb 130 (by decide +kernel) (by decide +kernel)
theorem clX11_7 : Cond.classLink RX11 7 RX8 ∈ gtb := in_gtb 133 (by decide +kernel) (by decide +kernel)
theorem lkX8_3 : Cond.methodLink RX8 3 Lib.objectInit ∈ gtb := in_gtb 138 (by decide +kernel) (by decide +kernel)
theorem clX11_16 : Cond.classLink RX11 16 RX3 ∈ gtb := in_gtb 159 (by decide +kernel) (by decide +kernel)
theorem lkX3_3 : Cond.methodLink RX3 3 Lib.objectInit ∈ gtb := in_gtb 164 (by decide +kernel) (by decide +kernel)
theorem clX11_23 : Cond.classLink RX11 23 RX5 ∈ gtb := in_gtb 178 (by decide +kernel) (by decide +kernel)
theorem lkX11_25 : Cond.methodLink RX11 25 yX5_init ∈ gtb := in_gtb 180 (by decide +kernel) (by decide +kernel)
theorem lkX5_3 : Cond.methodLink RX5 3 Lib.objectInit ∈ gtb := in_gtb 183 (by decide +kernel) (by decide +kernel)
theorem clX11_32 : Cond.classLink RX11 32 RX0 ∈ gtb := in_gtb 199 (by decide +kernel) (by decide +kernel)
theorem lkX11_34 : Cond.methodLink RX11 34 yX0_init ∈ gtb := in_gtb 201 (by decide +kernel) (by decide +kernel)
theorem lkX0_3 : Cond.methodLink RX0 3 Lib.objectInit ∈ gtb := in_gtb 204 (by decide +kernel) (by decide +kernel)
theorem clX11_39 : Cond.classLink RX11 39 RX6 ∈ gtb := in_gtb 224 (by decide +kernel) (by decide +kernel)
theorem lkX6_3 : Cond.methodLink RX6 3 Lib.objectInit ∈ gtb := in_gtb 229 (by decide +kernel) (by decide +kernel)
theorem clX11_49 : Cond.classLink RX11 49 RX9 ∈ gtb := in_gtb 246 (by decide +kernel) (by decide +kernel)
theorem lkX11_51 : Cond.methodLink RX11 51 yX9_init ∈ gtb := in_gtb 248 (by decide +kernel) (by decide +kernel)
theorem lkX9_3 : Cond.methodLink RX9 3 Lib.objectInit ∈ gtb := in_gtb 251 (by decide +kernel) (by decide +kernel)
theorem clX11_58 : Cond.classLink RX11 58 RX7 ∈ gtb := in_gtb 274 (by decide +kernel) (by decide +kernel)
theorem lkX11_60 : Cond.methodLink RX11 60 yX7_init ∈ gtb := in_gtb 276 (by decide +kernel) (by decide +kernel)
theorem lkX7_3 : Cond.methodLink RX7 3 Lib.objectInit ∈ gtb := in_gtb 279 (by decide +kernel) (by decide +kernel)
theorem clX11_67 : Cond.classLink RX11 67 RX2 ∈ gtb := in_gtb 305 (by decide +kernel) (by decide +kernel)
theorem lkX11_69 : Cond.methodLink RX11 69 yX2_init ∈ gtb := in_gtb 307 (by decide +kernel) (by decide +kernel)
theorem lkX2_3 : Cond.methodLink RX2 3 Lib.objectInit ∈ gtb := in_gtb 310 (by decide +kernel) (by decide +kernel)
theorem clX11_76 : Cond.classLink RX11 76 RX4 ∈ gtb := in_gtb 342 (by decide +kernel) (by decide +kernel)
theorem lkX11_78 : Cond.methodLink RX11 78 yX4_init ∈ gtb := in_gtb 344 (by decide +kernel) (by decide +kernel)
theorem lkX4_3 : Cond.methodLink RX4 3 Lib.objectInit ∈ gtb := in_gtb 347 (by decide +kernel) (by decide +kernel)
theorem clX4_9 : Cond.classLink RX4 9 RX10 ∈ gtb := in_gtb 348 (by decide +kernel) (by decide +kernel)
theorem lkX10_3 : Cond.methodLink RX10 3 Lib.objectInit ∈ gtb := in_gtb 353 (by decide +kernel) (by decide +kernel)
theorem clX4_18 : Cond.classLink RX4 18 RX1 ∈ gtb := in_gtb 373 (by decide +kernel) (by decide +kernel)
theorem lkX1_3 : Cond.methodLink RX1 3 Lib.objectInit ∈ gtb := in_gtb 378 (by decide +kernel) (by decide +kernel)
theorem clL_10 : Cond.classLink RL 10 RX12 ∈ gtb := in_gtb 1048 (by decide +kernel) (by decide +kernel)
theorem lkL_12 : Cond.methodLink RL 12 yX12_init ∈ gtb := in_gtb 1050 (by decide +kernel) (by decide +kernel)
theorem lkX12_1 : Cond.methodLink RX12 1 Lib.objectInit ∈ gtb := in_gtb 1053 (by decide +kernel) (by decide +kernel)
theorem nkX11_9 : Cond.methodLinkNest RX11 9 yX8_init "RoundTypes" ∈ nwl := List.mem_of_getElem? (i := 0) rfl
theorem nkX11_18 : Cond.methodLinkNest RX11 18 yX3_init "RoundTypes" ∈ nwl := List.mem_of_getElem? (i := 1) rfl
theorem nkX11_41 : Cond.methodLinkNest RX11 41 yX6_init "RoundTypes" ∈ nwl := List.mem_of_getElem? (i := 2) rfl
theorem nkX4_11 : Cond.methodLinkNest RX4 11 yX10_init "RoundTypes" ∈ nwl := List.mem_of_getElem? (i := 3) rfl
theorem nkX4_20 : Cond.methodLinkNest RX4 20 yX1_init "RoundTypes" ∈ nwl := List.mem_of_getElem? (i := 4) rfl
/-- the words of nest mates, carried from the law to the constructors -/
def nWs (U : State) : Prop := ∀ w ∈ nwl, va_Nw w U
theorem nWs.same {u U : State} (h : u.vm = U.vm) (hZ : nWs u) : nWs U := fun w hw => va_Nw.same (nwl_ok w hw) h (hZ w hw)
theorem nWs.warm {s U : State} (hW : s.WarmedH U.vm) (hZ : nWs s) : nWs U := fun w hw => by
  have h := hZ w hw
  obtain ⟨a, i, x, b, rfl⟩ := nwl_form w hw
  exact va_Nw.warmM hW h
def cnP (D : va_G) (cI cJ : ClassId) (As : List Value) (w : va_W) (sz : Nat) : Array Value → State → Prop := va_Pc As (fun U => U.heap.size = sz ∧ va_P D cls w U.heap ∧ va_K D cls (aty cI cJ) U ∧ va_D (fun _ => True) w ∧ nWs U)
theorem cnP_blind {D : va_G} {cI cJ : ClassId} {As : List Value} {w : va_W} {sz : Nat} : FrameBlind (cnP D cI cJ As w sz) := fun a U g mk q => by
  obtain ⟨q0, q1, qP, qK, qD, qN⟩ := q
  exact ⟨q0, q1, qP, va_K.moved (u := U) (U := U.calling g mk a) (Vm.Alike.refl U.vm) qK, qD, nWs.same (u := U) (U := U.calling g mk a) rfl qN⟩
abbrev rmN (f mc ms lc : Nat) : Room := { frames := f, cells := mc, slots := ms, locals := lc }
abbrev cnQ {S : Type} (D : va_G) (cI cJ : ClassId) (w' : S → va_W) (A : Nat → Prop) : Array Value → State → Outcome → State → Prop := va_Qv (fun (_ : S) => True) (fun u t => ctB D cI cJ (w' u) A t) A
def CtN {S : Type} (l : Launch) (D : va_G) (cI cJ : ClassId) (y : MethodName) (bytes : ByteArray) (maxL f mc ms lc : Nat) (As : List Value) (w : va_W) (w' : S → va_W) : Prop := ∀ sz : Nat, Met l y (tbw y bytes maxL none) (rmN f mc ms lc) (cnP D cI cJ As w sz) (cnQ D cI cJ w' (va_A w sz)) mc ms (va_A w sz)
/-- what holds all through one activation of a constructor -/
def nCx (p : Program) (s : State) (m : MethodId) (args : Array Value) (meth : Method) (c : Code) (own : String) (cc : ByteArray) (nL : Nat) (D : va_G) (cI cJ : ClassId) (A : Nat → Prop) : Prop := mCx p s m args meth c own cc nL none D cI cJ A ∧ meth.name = "<init>" ∧ nWs s
def isPF (w w' : va_W) (a : Nat) (own : String) (idx : Nat) (v : Value) : Prop := ∃ (q0 ci : Nat) (fs : List Value) (C : String) (T : u_T) (N k : Nat) (ty0 : Nat → FieldType), w[q0]? = some (a, .inr (ci, fs)) ∧ cls[ci]? = some (C, T, N) ∧ (∀ x ∈ u_ws C T N, x ∈ gtb) ∧ k < N ∧ Cond.fieldLink own idx (T k).1 (T k).2.1 (T k).2.2.1 ∈ gtb ∧ (∀ k, k < N → parseFieldDescriptor (T k).2.2.1 = some (ty0 k)) ∧ (∀ a, a < N → ∀ b, b < N → a ≠ b → (T a).2.1 ≠ (T b).2.1) ∧ (T k).2.2.2 = true ∧ (T k).1 = own ∧ narrow (ty0 k) v = v ∧ fits (ty0 k) v = true ∧ k < fs.length ∧ w.set q0 (a, .inr (ci, fs.set k v)) = w'
theorem inW_perm {D : va_G} {A : Nat → Prop} {s : State} {w w' : va_W} {H : Heap} {locs : List Loc} (hw : inW D A s w H locs) (is : List Nat) (hn : va_nd is = true) (hs : is.map (fun i => w[i]?) = w'.map some) : inW D A s w' H locs := by
  refine ⟨hw.1.sub is ?_, hw.2.1.sub is hn hs, hw.2.2⟩
  have h : (is.map (fun i => w[i]?)).filterMap id = (w'.map some).filterMap id := by rw [hs]
  simpa [List.filterMap_map, Function.comp_def] using h
section N
variable {p : Program} {l : Launch} {e : Env} {R : Room} {s : State} {m : MethodId} {args : Array Value} {below : List Frame} {meth : Method} {c : Code} {H : Heap} {locs : List Loc} {cells slots : Nat} {Q : State → Prop}
variable {cc : ByteArray} {nL pc : Nat} {ls : Array Slot} {rest : List Value} {D : va_G} {cI cJ : ClassId} {A : Nat → Prop} {own : String} {w w' : va_W} {cells' slots' : Nat} {ret : Option FieldType}
theorem n_newa (C : mCx p s m args meth c own cc nL ret D cI cJ A) (hw : inW D A s w H locs) {n : Int32} {N : Nat} (hn : ¬ n < 0) (hN : n.toNatClampNeg = N) (hby : N * componentBytes .int ≤ 536870912) (hc : cells + 1 = cells') (hs : slots + N = slots') (hR : cells' ≤ R.cells ∧ slots' ≤ R.slots) (hdg : decode cc pc = .ok (.newarray .int, 2))
    (kk : ∀ (q : Nat) (H : Heap), inW D A s (w ++ [(q, .inl (cI, N, .inl (fun _ => 0)))]) H locs → W p l e R s m args below meth c H locs cells' slots' Q (F0 m (pc + 2) ls (.ref q :: rest))) : W p l e R s m args below meth c H locs cells slots Q (F0 m pc ls (.int n :: rest)) := by
  obtain ⟨⟨hx, hb, hml, hown, hts⟩, hr, hlk, hK, hA⟩ := C
  subst hc; subst hs
  refine va_newa (atype := .int) (ty := .int) (a0 := (N, .inl (fun _ => 0))) hx hb (hts _ arrcI) rfl hK hw.1 hw.2.1 hw.2.2 hA (fun _ => rfl) hn hN hby hR.1 hR.2 hdg (fun q cA H1 hK1 hP hD hS => ?_)
  have e : cI = cA := Option.some.inj ((hK.2 0 _ rfl).2.symm.trans (hK1.2 2 _ rfl).2)
  subst e
  exact kk q H1 ⟨hP, hD, hS⟩
theorem n_newl (C : mCx p s m args meth c own cc nL ret D cI cJ A) (hw : inW D A s w H locs) {n : Int32} {N : Nat} (hn : ¬ n < 0) (hN : n.toNatClampNeg = N) (hby : N * componentBytes .long ≤ 536870912) (hc : cells + 1 = cells') (hs : slots + N = slots') (hR : cells' ≤ R.cells ∧ slots' ≤ R.slots) (hdg : decode cc pc = .ok (.newarray .long, 2))
    (kk : ∀ (q : Nat) (H : Heap), inW D A s (w ++ [(q, .inl (cJ, N, .inr (.inl (fun _ => 0))))]) H locs → W p l e R s m args below meth c H locs cells' slots' Q (F0 m (pc + 2) ls (.ref q :: rest))) : W p l e R s m args below meth c H locs cells slots Q (F0 m pc ls (.int n :: rest)) := by
  obtain ⟨⟨hx, hb, hml, hown, hts⟩, hr, hlk, hK, hA⟩ := C
  subst hc; subst hs
  refine va_newa (atype := .long) (ty := .long) (a0 := (N, .inr (.inl (fun _ => 0)))) hx hb (hts _ arrcJ) rfl hK hw.1 hw.2.1 hw.2.2 hA (fun _ => rfl) hn hN hby hR.1 hR.2 hdg (fun q cA H1 hK1 hP hD hS => ?_)
  have e : cJ = cA := Option.some.inj ((hK.2 1 _ rfl).2.symm.trans (hK1.2 2 _ rfl).2)
  subst e
  exact kk q H1 ⟨hP, hD, hS⟩
theorem n_new (C : mCx p s m args meth c own cc nL ret D cI cJ A) (hw : inW D A s w H locs) {idx ci N : Nat} {Cn : String} {T : u_T} (ty : Nat → FieldType) (hty : ∀ k, k < N → parseFieldDescriptor (T k).2.2.1 = some (ty k)) (hin : ∀ x ∈ u_ws Cn T N, x ∈ gtb) (hcl : Cond.classLink own idx Cn ∈ gtb) (hinst : Cond.instantiable Cn N ∈ gtb) (hini : Cond.initialized Cn ∈ gtb) (hci : cls[ci]? = some (Cn, T, N)) {fs : List Value} (hfs : ∀ j, j < N → defaultValue (ty j) = vp_V fs j) (hc : cells + 1 = cells') (hs : slots + N = slots') (hR : cells' ≤ R.cells ∧ slots' ≤ R.slots) (hdg : decode cc pc = .ok (.new idx, 3))
    (kk : ∀ (q : Nat) (H : Heap), inW D A s (w ++ [(q, .inr (ci, fs))]) H locs → W p l e R s m args below meth c H locs cells' slots' Q (F0 m (pc + 3) ls (.ref q :: rest))) : W p l e R s m args below meth c H locs cells slots Q (F0 m pc ls rest) := by
  obtain ⟨⟨hx, hb, hml, hown, hts⟩, hr, hlk, hK, hA⟩ := C
  subst hc; subst hs
  exact va_new hx hb hts hin ty hty hown (hts _ hcl) (hts _ hinst) (hts _ hini) hK hw.1 hw.2.1 hw.2.2 hA hci hfs hR.1 hR.2 hdg (fun q H1 hP hD hS => kk q H1 ⟨hP, hD, hS⟩)
theorem n_putF (C : nCx p s m args meth c own cc nL D cI cJ A) (hw : inW D A s w H locs) {a idx : Nat} {v : Value} (hf : isPF w w' a own idx v) (hdg : decode cc pc = .ok (.putfield idx, 3))
    (kk : ∀ (H : Heap) (locs : List Loc), inW D A s w' H locs → W p l e R s m args below meth c H locs cells slots Q (F0 m (pc + 3) ls rest)) : W p l e R s m args below meth c H locs cells slots Q (F0 m pc ls (v :: .ref a :: rest)) := by
  obtain ⟨⟨⟨hx, hb, hml, hown, hts⟩, hr, hlk, hK, hA⟩, hnm, hN⟩ := C
  obtain ⟨q0, ci, fs, C, T, N, k, ty0, h1, h2, h3, h4, h5, h6, h7, h8, h8b, h9, h10, h11, rfl⟩ := hf
  exact va_putF hx hb hts h3 ty0 h6 h7 hown hK hw.1 hw.2.1 hw.2.2 q0 h1 h2 k h4 (hts _ h5) (fun _ h => h) h8 hnm h8b (h6 k h4) h9 h10 h11 hdg (fun H1 locs1 a1 a2 a3 => kk H1 locs1 ⟨a1, a2, a3⟩)
theorem n_obj (C : mCx p s m args meth c own cc nL ret D cI cJ A) {idx a : Nat} (hl : Cond.methodLink own idx Lib.objectInit ∈ gtb) (hsz : ls.size = nL) (hfr : 1 ≤ R.frames) (hlo : (rest.map fun v => v.category).sum + 12 ≤ R.locals) (hdg : decode cc pc = .ok (.invokespecial idx, 3))
    (kk : W p l e R s m args below meth c H locs cells slots Q (F0 m (pc + 3) ls rest)) : W p l e R s m args below meth c H locs cells slots Q (F0 m pc ls (.ref a :: rest)) := by
  obtain ⟨⟨hx, hb, hml, hown, hts⟩, hr, hlk, hK, hA⟩ := C
  exact W.objInit hx hb hown (hts _ hl) (hts _ obIn) (hts _ obCo) rfl (by rw [hml]; exact hsz) rfl hdg hfr (by simpa [JFrame.monitorRoom] using hlo) kk
theorem n_preN (C : mCx p s m args meth c own cc nL ret D cI cJ A) (hN : nWs s) (hw : inW D A s w H locs) {wc : va_W} (isC : List Nat) (hnd : va_nd isC = true) (hC : isC.map (fun i => w[i]?) = wc.map some) {As : List Value} : PreS s H (cnP D cI cJ As wc H.size) As := by
  obtain ⟨⟨hx, hb, hml, hown, hts⟩, hr, hlk, hK, hA⟩ := C
  have h2 := inW_perm hw isC hnd hC
  exact ⟨cnP_blind, fun U hU hW => ⟨rfl, by rw [hU], by rw [hU]; exact h2.1, va_K.moved hW.alike hK, h2.2.1.weaken (fun _ _ _ _ => trivial), nWs.warm hW hN⟩⟩
/-- a constructor called on the cells isC of the world; the others (isR) stay -/
theorem n_init {S : Type} {wf : S → va_W} (C : mCx p s m args meth c own cc nL ret D cI cJ A) (hN : nWs s) (hw : inW D A s w H locs) {y : MethodName} {bytes : ByteArray} {maxL n idx f lc mc ms b : Nat} {wc wr : va_W} {As st0 : List Value} (isC isR : List Nat) (hM : CtN l D cI cJ y bytes maxL f mc ms lc (.ref b :: As) wc wf) (hcode : Cond.code y bytes maxL none ∈ gtb) (hinm : Cond.instanceMethod y ∈ gtb) (hini : Cond.initialized y.cls ∈ gtb) (hl : Cond.methodLink own idx y ∈ gtb) (hy : y.name = "<init>") (hd : y.cls ≠ "java/lang/invoke/MethodHandle" ∧ y.cls ≠ "java/lang/invoke/VarHandle" ∧ (parseMethodDescriptor y.desc).map (fun d => d.parameters.length) = some n)
    (hndC : va_nd isC = true) (hC : isC.map (fun i => w[i]?) = wc.map some) (hRr : isR.map (fun i => w[i]?) = wr.map some) (hndR : va_nd isR = true) (hdis : ∀ i ∈ isR, i ∉ isC) (hsz : ls.size = nL) (hn : As.length = n) (hst : st0 = As.reverse ++ .ref b :: rest) (hrest : (rest.map fun v => v.category).sum ≤ 8) (hR : f + 1 ≤ R.frames ∧ 8 + (maxL + 11) + lc ≤ R.locals) (hcc : cells + mc = cells') (hss : slots + ms = slots') (hfc : cells' ≤ R.cells ∧ slots' ≤ R.slots) (hdg : decode cc pc = .ok (.invokespecial idx, 3))
    (kk : ∀ (u : S) (H : Heap) (locs : List Loc), inW D A s (wr ++ wf u) H locs → W p l e R s m args below meth c H locs cells' slots' Q (F0 m (pc + 3) ls rest)) : W p l e R s m args below meth c H locs cells slots Q (F0 m pc ls st0) := by
  subst hcc; subst hss
  have hts := C.1.2.2.2.2
  have hF := va_free hw.2.1 hw.2.2 C.2.2.2.2 isC hC
  refine va_callv (va_runI (g := F0 m pc ls st0) C.1 (hM H.size) ⟨callB_of n hts (tbw_good hcode) rfl rfl rfl (hts _ hini) (hts _ hl) hd hR, hy, hts _ hinm⟩ (n_preN C hN hw isC hndC hC) rfl hn hsz hst (lv_room hrest) hdg hfc) hw.2.2 (fun q _ h => hF q h) hF (fun u t H1 locs1 ht hvm hp hB hz1 hk1 hS => ?_)
  obtain ⟨hP1, hK1, hD1⟩ := hB
  rw [ht] at hP1
  obtain ⟨hP2, hD2⟩ := va_join hw.1 hw.2.1 isC isR hC hRr hndR hdis hk1 hF hP1 hD1
  exact kk u H1 locs1 ⟨hP2, hD2, hS⟩
theorem n_initN {S : Type} {wf : S → va_W} (C : mCx p s m args meth c own cc nL ret D cI cJ A) (hN : nWs s) (hw : inW D A s w H locs) {y : MethodName} {bytes : ByteArray} {maxL n idx f lc mc ms b : Nat} {host : String} {wc wr : va_W} {As st0 : List Value} (isC isR : List Nat) (hM : CtN l D cI cJ y bytes maxL f mc ms lc (.ref b :: As) wc wf) (hcode : Cond.code y bytes maxL none ∈ gtb) (hinm : Cond.instanceMethod y ∈ gtb) (hini : Cond.initialized y.cls ∈ gtb) (hl : Cond.methodLinkNest own idx y host ∈ nwl) (hy : y.name = "<init>") (hd : y.cls ≠ "java/lang/invoke/MethodHandle" ∧ y.cls ≠ "java/lang/invoke/VarHandle" ∧ (parseMethodDescriptor y.desc).map (fun d => d.parameters.length) = some n)
    (hndC : va_nd isC = true) (hC : isC.map (fun i => w[i]?) = wc.map some) (hRr : isR.map (fun i => w[i]?) = wr.map some) (hndR : va_nd isR = true) (hdis : ∀ i ∈ isR, i ∉ isC) (hsz : ls.size = nL) (hn : As.length = n) (hst : st0 = As.reverse ++ .ref b :: rest) (hrest : (rest.map fun v => v.category).sum ≤ 8) (hR : f + 1 ≤ R.frames ∧ 8 + (maxL + 11) + lc ≤ R.locals) (hcc : cells + mc = cells') (hss : slots + ms = slots') (hfc : cells' ≤ R.cells ∧ slots' ≤ R.slots) (hdg : decode cc pc = .ok (.invokespecial idx, 3))
    (kk : ∀ (u : S) (H : Heap) (locs : List Loc), inW D A s (wr ++ wf u) H locs → W p l e R s m args below meth c H locs cells' slots' Q (F0 m (pc + 3) ls rest)) : W p l e R s m args below meth c H locs cells slots Q (F0 m pc ls st0) := by
  subst hcc; subst hss
  have hts := C.1.2.2.2.2
  have hF := va_free hw.2.1 hw.2.2 C.2.2.2.2 isC hC
  refine va_callv (va_runIN (g := F0 m pc ls st0) C.1 (hM H.size) ⟨va_cnB n hts (tbw_good hcode) rfl rfl rfl (hN _ hl) (hts _ hini) hd hR, hy, hts _ hinm⟩ (n_preN C hN hw isC hndC hC) rfl hn hsz hst (lv_room hrest) hdg hfc) hw.2.2 (fun q _ h => hF q h) hF (fun u t H1 locs1 ht hvm hp hB hz1 hk1 hS => ?_)
  obtain ⟨hP1, hK1, hD1⟩ := hB
  rw [ht] at hP1
  obtain ⟨hP2, hD2⟩ := va_join hw.1 hw.2.1 isC isR hC hRr hndR hdis hk1 hF hP1 hD1
  exact kk u H1 locs1 ⟨hP2, hD2, hS⟩
theorem n_ret {S : Type} {wf : S → va_W} (C : nCx p s m args meth c own cc nL D cI cJ A) (u : S) (hw : inW D A s (wf u) H locs) (hdg : decode cc pc = .ok (.return_, 1)) : W p l e R s m args below meth c H locs cells slots (MQ below (cnQ D cI cJ wf A) args s cells slots A) (F0 m pc ls []) := by
  obtain ⟨⟨⟨hx, hb, hml, hown, hts⟩, hr, hlk, hK, hA⟩, hnm, hN⟩ := C
  obtain ⟨hP, hD, hS⟩ := hw
  exact W.vret hx hb hr (fun t ht hW => ⟨⟨u, rfl, trivial, by rw [ht]; exact hP, va_K.moved hW.alike hK, hD⟩, hS.F ht⟩) hS.2.2 hdg (hlocks := hlk)
end N
theorem cn_of {S : Type} {wf : S → va_W} {l : Launch} {D : va_G} {cI cJ : ClassId} {y : MethodName} {bytes : ByteArray} {maxL f mc ms lc : Nat} {As : List Value} {w : va_W} (hy : plainName y.cls = true) (hnm : y.name = "<init>") (hfit : (lg_sl As).length ≤ maxL)
    (body : ∀ (A : Nat → Prop) (p : Program) (e : Env) (s : State) (m : MethodId) (args : Array Value) (below : List Frame) (meth : Method) (c : Code), nCx p s m args meth c y.cls bytes maxL D cI cJ A → inW D A s w s.heap [] → ∀ ls : Array Slot, lv_has ls maxL (lv_args 0 As) → W p l e (rmN f mc ms lc) s m args below meth c s.heap [] 0 0 (MQ below (cnQ D cI cJ wf A) args s mc ms A) (F0 m 0 ls [])) :
    CtN l D cI cJ y bytes maxL f mc ms lc As w wf := by
  intro sz
  refine Met.ofW (cc := bytes) (maxL := maxL) (ret := none) hy rfl ?_
  intro p e s m args below meth c s₁ B hml hv
  obtain ⟨rfl, hsz, hP, hK, hD0, hN⟩ := hv
  have hts := atoms_spec (ws := tbw y bytes maxL none) B.pre
  have hl := lv_entry As (n := maxL) hfit
  have hnm2 : meth.name = "<init>" := ((name_of_methodNamed B.named B.method).1).trans hnm
  subst hsz
  rw [lg_entry_eq]
  exact body _ p e s m _ below meth c ⟨⟨⟨B.exec, B.bytes, hml, findClass_of_methodNamed B.named, fun w hw => hts w (List.mem_cons_of_mem _ hw)⟩, B.returns, B.notSynchronized, hK, fun q h => Or.inr h⟩, hnm2, hN⟩ ⟨hP, hD0.self, va_S.rf⟩ _ hl
