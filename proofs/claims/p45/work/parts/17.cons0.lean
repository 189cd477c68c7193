-- needs: 16.str
def wI_X5_init (g : ZG) (h : Nat) (q : Nat → Nat) : va_W := ((h, .inr (5, [.ref (q 0), .ref (q 1), .ref (q 2), .ref (q 3), .int 0, .int 0, .int (zI 2), .int 0, .int 0])) :: ([((q 0), .inl (g.2.1 0, 24, .inl (wi (fun _ => 0))))] ++ [((q 1), .inl (g.2.1 0, 24, .inl (wi (fun _ => 0))))] ++ [((q 2), .inl (g.2.1 0, 24, .inl (wi (fun _ => 0))))] ++ [((q 3), .inl (g.2.1 0, 24, .inl (wi (fun _ => 0))))]))
def zC_X5_init : Room := { frames := 1, cells := 4, slots := 96, locals := 20 }
def wI_X10_init (g : ZG) (h : Nat) (q : Nat → Nat) : va_W := ((h, .inr (10, [.ref (q 0), .int 0])) :: ([((q 0), .inl (g.2.1 0, 640, .inl (wi (fun _ => 0))))]))
def zC_X10_init : Room := { frames := 1, cells := 1, slots := 640, locals := 20 }
def wI_X9_init (g : ZG) (h a1 : Nat) (q : Nat → Nat) : va_W := ((h, .inr (9, [.ref a1, .ref (q 0), .ref (q 5), .long (zJ 8805260), .long (zJ 243140), .long (zJ 2549435302), .int 0, .int 0, .int 0, .int 0, .long 0, .int 0, .int 0])) :: (wI_X5_init g (q 0) (fun i => q (1 + i)) ++ [((q 5), .inl (g.2.1 1, 10, .inr (.inl (wj (fun _ => 0)))))]))
def zC_X9_init : Room := { frames := 5, cells := 6, slots := 115, locals := 193 }
def wI_X0_init (g : ZG) (h a1 : Nat) (q : Nat → Nat) : va_W := ((h, .inr (0, [.ref a1, .ref (q 0), .int 0, .int 0])) :: ([((q 0), .inl (g.2.1 3, 9, .inr (.inr (.inr (.inr (va_up (va_up (va_up (va_up (va_up (va_up (va_up (va_up (va_up (fun _ => none) 0 (some (q 1))) 1 (some (q 6))) 2 (some (q 11))) 3 (some (q 16))) 4 (some (q 21))) 5 (some (q 26))) 6 (some (q 31))) 7 (some (q 36))) 8 (some (q 41))))))))] ++ wI_X5_init g (q 1) (fun i => q (2 + i)) ++ wI_X5_init g (q 6) (fun i => q (7 + i)) ++ wI_X5_init g (q 11) (fun i => q (12 + i)) ++ wI_X5_init g (q 16) (fun i => q (17 + i)) ++ wI_X5_init g (q 21) (fun i => q (22 + i)) ++ wI_X5_init g (q 26) (fun i => q (27 + i)) ++ wI_X5_init g (q 31) (fun i => q (32 + i)) ++ wI_X5_init g (q 36) (fun i => q (37 + i)) ++ wI_X5_init g (q 41) (fun i => q (42 + i))))
def zC_X0_init : Room := { frames := 2, cells := 46, slots := 954, locals := 40 }
def wI_X1_init (g : ZG) (h a1 : Nat) (q : Nat → Nat) : va_W := ((h, .inr (1, [.ref a1, .ref (q 0), .ref (q 1), .ref (q 2), .ref (q 3), .ref (q 4), .int 0, .int 0, .ref (q 5), .ref (q 6), .int 0, .int 0])) :: ([((q 0), .inl (g.2.1 0, 10, .inl (wi (fun _ => 0))))] ++ [((q 1), .inl (g.2.1 0, 24, .inl (wi (fun _ => 0))))] ++ [((q 2), .inl (g.2.1 0, 24, .inl (wi (fun _ => 0))))] ++ [((q 3), .inl (g.2.1 0, 24, .inl (wi (fun _ => 0))))] ++ [((q 4), .inl (g.2.1 0, 24, .inl (wi (fun _ => 0))))] ++ [((q 5), .inl (g.2.1 0, 24, .inl (wi (fun _ => 0))))] ++ [((q 6), .inl (g.2.1 0, 24, .inl (wi (fun _ => 0))))]))
def zC_X1_init : Room := { frames := 1, cells := 7, slots := 154, locals := 20 }
def wI_X8_init (g : ZG) (h a1 : Nat) (q : Nat → Nat) : va_W := ((h, .inr (8, [.ref a1, .ref (q 0), .ref (q 1), .ref (q 2), .int 0, .int 0, .int 0])) :: ([((q 0), .inl (g.2.1 0, 1024, .inl (wi (fun _ => 0))))] ++ [((q 1), .inl (g.2.1 0, 1024, .inl (wi (fun _ => 0))))] ++ [((q 2), .inl (g.2.1 0, 10, .inl (wi (up (up (up (up (up (up (up (up (up (up (fun _ => 0) 0 0) 1 1) 2 2) 3 3) 4 4) 5 5) 6 6) 7 7) 8 8) 9 9))))]))
def zC_X8_init : Room := { frames := 1, cells := 3, slots := 2058, locals := 20 }
def wI_X4_init (g : ZG) (h a1 a2 : Nat) (q : Nat → Nat) : va_W := ((h, .inr (4, [.ref a1, .ref a2, .ref (q 0), .ref (q 1), .ref (q 2), .ref (q 3)])) :: ([((q 0), .inl (g.2.1 0, 10, .inl (wi (fun _ => 0))))] ++ [((q 1), .inl (g.2.1 0, 10, .inl (wi (fun _ => 0))))] ++ [((q 2), .inl (g.2.1 0, 10, .inl (wi (fun _ => 0))))] ++ [((q 3), .inl (g.2.1 0, 10, .inl (wi (fun _ => 0))))]))
def zC_X4_init : Room := { frames := 1, cells := 4, slots := 40, locals := 20 }
def wI_X7_init (g : ZG) (h a1 a2 : Nat) (q : Nat → Nat) : va_W := ((h, .inr (7, [.ref a1, .ref a2, .ref (q 0), .ref (q 1), .int 0, .int 0])) :: ([((q 0), .inl (g.2.1 0, 1024, .inl (wi (fun _ => 0))))] ++ [((q 1), .inl (g.2.1 0, 1024, .inl (wi (fun _ => 0))))]))
def zC_X7_init : Room := { frames := 1, cells := 2, slots := 2048, locals := 20 }
def wI_X6_init (g : ZG) (h a1 : Nat) (q : Nat → Nat) : va_W := ((h, .inr (6, [.ref a1, .ref (q 0)])) :: ([((q 0), .inl (g.2.1 0, 1024, .inl (wi (fun _ => 0))))]))
def zC_X6_init : Room := { frames := 1, cells := 1, slots := 1024, locals := 20 }
def wI_X2_init (g : ZG) (h a1 : Nat) (q : Nat → Nat) : va_W := ((h, .inr (2, [.ref a1, .ref (q 0), .ref (q 1)])) :: ([((q 0), .inl (g.2.1 0, 10, .inl (wi (fun _ => 0))))] ++ [((q 1), .inl (g.2.1 0, 10, .inl (wi (fun _ => 0))))]))
def zC_X2_init : Room := { frames := 1, cells := 2, slots := 20, locals := 20 }
def wI_X3_init (g : ZG) (h a1 a2 : Nat) (q : Nat → Nat) : va_W := ((h, .inr (3, [.ref a1, .ref a2, .ref (q 0), .ref (q 1), .int 0, .int 0, .int 0])) :: ([((q 0), .inl (g.2.1 0, 2, .inl (wi (fun _ => 0))))] ++ [((q 1), .inl (g.2.1 0, 24, .inl (wi (fun _ => 0))))]))
def zC_X3_init : Room := { frames := 1, cells := 2, slots := 26, locals := 20 }
def wI_X11_init (g : ZG) (h : Nat) (q : Nat → Nat) : va_W := ((h, .inr (11, [.ref (q 0), .ref (q 5), .ref (q 7), .ref (q 14), .ref (q 61), .ref (q 69), .ref (q 73), .ref (q 78), .ref (q 81), .ref (q 83), .ref (q 86), .ref (q 89), .int 0])) :: (wI_X5_init g (q 0) (fun i => q (1 + i)) ++ wI_X10_init g (q 5) (fun i => q (6 + i)) ++ wI_X9_init g (q 7) (q 5) (fun i => q (8 + i)) ++ wI_X0_init g (q 14) (q 0) (fun i => q (15 + i)) ++ wI_X1_init g (q 61) (q 0) (fun i => q (62 + i)) ++ wI_X8_init g (q 69) (q 0) (fun i => q (70 + i)) ++ wI_X4_init g (q 73) (q 0) (q 69) (fun i => q (74 + i)) ++ wI_X7_init g (q 78) (q 0) (q 69) (fun i => q (79 + i)) ++ wI_X6_init g (q 81) (q 0) (fun i => q (82 + i)) ++ wI_X2_init g (q 83) (q 0) (fun i => q (84 + i)) ++ wI_X3_init g (q 86) (q 0) (q 5) (fun i => q (87 + i)) ++ [((q 89), .inl (g.2.1 3, 2, .inr (.inr (.inr (.inr (fun _ => none))))))]))
def zC_X11_init : Room := { frames := 6, cells := 90, slots := 7248, locals := 214 }
theorem qk_27 : Cond.initialized "ForestPacks" ∈ zT := zin 27 (by decide +kernel) (by decide +kernel)
theorem qk_28 : Cond.initialized "ForestPacks$Net" ∈ zT := zin 28 (by decide +kernel) (by decide +kernel)
theorem qk_29 : Cond.initialized "ForestPacks$Tape" ∈ zT := zin 29 (by decide +kernel) (by decide +kernel)
theorem qk_30 : Cond.initialized "ForestPacks$Reader" ∈ zT := zin 30 (by decide +kernel) (by decide +kernel)
theorem qk_35 : Cond.initialized "ForestPacks$Acts" ∈ zT := zin 35 (by decide +kernel) (by decide +kernel)
theorem qk_36 : Cond.initialized "ForestPacks$Chains" ∈ zT := zin 36 (by decide +kernel) (by decide +kernel)
theorem qk_37 : Cond.initialized "ForestPacks$PointSets" ∈ zT := zin 37 (by decide +kernel) (by decide +kernel)
theorem qk_38 : Cond.initialized "ForestPacks$Layers" ∈ zT := zin 38 (by decide +kernel) (by decide +kernel)
theorem qk_39 : Cond.initialized "ForestPacks$Partings" ∈ zT := zin 39 (by decide +kernel) (by decide +kernel)
theorem qk_40 : Cond.initialized "ForestPacks$OutTrees" ∈ zT := zin 40 (by decide +kernel) (by decide +kernel)
theorem qk_41 : Cond.initialized "ForestPacks$Easing" ∈ zT := zin 41 (by decide +kernel) (by decide +kernel)
theorem qk_42 : Cond.initialized "ForestPacks$Game" ∈ zT := zin 42 (by decide +kernel) (by decide +kernel)
theorem qk_54 : Cond.code yX11_init prog_1_method_1_code 1 none ∈ zT := zin 54 (by decide +kernel) (by decide +kernel)
theorem qk_55 : Cond.methodLink "ForestPacks" 1 Lib.objectInit ∈ zT := zin 55 (by decide +kernel) (by decide +kernel)
theorem qk_56 : Cond.instanceMethod Lib.objectInit ∈ zT := zin 56 (by decide +kernel) (by decide +kernel)
theorem qk_57 : Cond.code Lib.objectInit ⟨#[0xb1]⟩ 1 none ∈ zT := zin 57 (by decide +kernel) (by decide +kernel)
theorem qk_58 : Cond.classLink "ForestPacks" 7 "ForestPacks$Net" ∈ zT := zin 58 (by decide +kernel) (by decide +kernel)
theorem qk_59 : Cond.instantiable "ForestPacks$Net" 9 ∈ zT := zin 59 (by decide +kernel) (by decide +kernel)
theorem qk_61 : Cond.instanceMethod yX5_init ∈ zT := zin 61 (by decide +kernel) (by decide +kernel)
theorem qk_62 : Cond.code yX5_init prog_7_method_1_code 1 none ∈ zT := zin 62 (by decide +kernel) (by decide +kernel)
theorem qk_63 : Cond.methodLink "ForestPacks$Net" 3 Lib.objectInit ∈ zT := zin 63 (by decide +kernel) (by decide +kernel)
theorem qk_64 : Cond.fieldLink "ForestPacks$Net" 9 "ForestPacks$Net" "first" "[I" ∈ zT := zin 64 (by decide +kernel) (by decide +kernel)
theorem qk_68 : Cond.fieldLink "ForestPacks$Net" 15 "ForestPacks$Net" "second" "[I" ∈ zT := zin 68 (by decide +kernel) (by decide +kernel)
theorem qk_72 : Cond.fieldLink "ForestPacks$Net" 18 "ForestPacks$Net" "weight" "[I" ∈ zT := zin 72 (by decide +kernel) (by decide +kernel)
theorem qk_74 : Cond.fieldLink "ForestPacks$Net" 21 "ForestPacks$Net" "home" "[I" ∈ zT := zin 74 (by decide +kernel) (by decide +kernel)
theorem qk_88 : Cond.fieldLink "ForestPacks$Net" 24 "ForestPacks$Net" "k" "I" ∈ zT := zin 88 (by decide +kernel) (by decide +kernel)
theorem qk_113 : Cond.arrayClass .int ∈ zT := zin 113 (by decide +kernel) (by decide +kernel)
theorem qk_114 : Cond.classLink "ForestPacks" 16 "ForestPacks$Tape" ∈ zT := zin 114 (by decide +kernel) (by decide +kernel)
theorem qk_115 : Cond.instantiable "ForestPacks$Tape" 2 ∈ zT := zin 115 (by decide +kernel) (by decide +kernel)
theorem qk_117 : Cond.instanceMethod yX10_init ∈ zT := zin 117 (by decide +kernel) (by decide +kernel)
theorem qk_118 : Cond.code yX10_init prog_12_method_1_code 1 none ∈ zT := zin 118 (by decide +kernel) (by decide +kernel)
theorem qk_119 : Cond.methodLink "ForestPacks$Tape" 3 Lib.objectInit ∈ zT := zin 119 (by decide +kernel) (by decide +kernel)
theorem qk_120 : Cond.fieldLink "ForestPacks$Tape" 11 "ForestPacks$Tape" "bytes" "[I" ∈ zT := zin 120 (by decide +kernel) (by decide +kernel)
theorem qk_127 : Cond.classLink "ForestPacks" 23 "ForestPacks$Reader" ∈ zT := zin 127 (by decide +kernel) (by decide +kernel)
theorem qk_128 : Cond.instantiable "ForestPacks$Reader" 13 ∈ zT := zin 128 (by decide +kernel) (by decide +kernel)
theorem qk_129 : Cond.methodLink "ForestPacks" 25 yX9_init ∈ zT := zin 129 (by decide +kernel) (by decide +kernel)
theorem qk_130 : Cond.instanceMethod yX9_init ∈ zT := zin 130 (by decide +kernel) (by decide +kernel)
theorem qk_131 : Cond.code yX9_init prog_11_method_1_code 2 none ∈ zT := zin 131 (by decide +kernel) (by decide +kernel)
theorem qk_132 : Cond.methodLink "ForestPacks$Reader" 3 Lib.objectInit ∈ zT := zin 132 (by decide +kernel) (by decide +kernel)
theorem qk_133 : Cond.classLink "ForestPacks$Reader" 9 "ForestPacks$Net" ∈ zT := zin 133 (by decide +kernel) (by decide +kernel)
theorem qk_136 : Cond.methodLink "ForestPacks$Reader" 24 yX9_codeOf ∈ zT := zin 136 (by decide +kernel) (by decide +kernel)
theorem qk_137 : Cond.static yX9_codeOf ∈ zT := zin 137 (by decide +kernel) (by decide +kernel)
theorem qk_193 : Cond.fieldLink "ForestPacks$Reader" 42 "ForestPacks$Reader" "tape" "LForestPacks$Tape;" ∈ zT := zin 193 (by decide +kernel) (by decide +kernel)
theorem qk_194 : Cond.fieldLink "ForestPacks$Reader" 12 "ForestPacks$Reader" "fresh" "LForestPacks$Net;" ∈ zT := zin 194 (by decide +kernel) (by decide +kernel)
theorem qk_195 : Cond.fieldLink "ForestPacks$Reader" 18 "ForestPacks$Reader" "names" "[J" ∈ zT := zin 195 (by decide +kernel) (by decide +kernel)
theorem qk_196 : Cond.fieldLink "ForestPacks$Reader" 28 "ForestPacks$Reader" "pointWord" "J" ∈ zT := zin 196 (by decide +kernel) (by decide +kernel)
theorem qk_197 : Cond.fieldLink "ForestPacks$Reader" 34 "ForestPacks$Reader" "lineWord" "J" ∈ zT := zin 197 (by decide +kernel) (by decide +kernel)
theorem qk_198 : Cond.fieldLink "ForestPacks$Reader" 39 "ForestPacks$Reader" "forestsWord" "J" ∈ zT := zin 198 (by decide +kernel) (by decide +kernel)
theorem qk_233 : Cond.arrayClass .long ∈ zT := zin 233 (by decide +kernel) (by decide +kernel)
theorem qk_235 : Cond.classLink "ForestPacks" 32 "ForestPacks$Acts" ∈ zT := zin 235 (by decide +kernel) (by decide +kernel)
theorem qk_236 : Cond.instantiable "ForestPacks$Acts" 4 ∈ zT := zin 236 (by decide +kernel) (by decide +kernel)
theorem qk_237 : Cond.methodLink "ForestPacks" 34 yX0_init ∈ zT := zin 237 (by decide +kernel) (by decide +kernel)
theorem qk_238 : Cond.instanceMethod yX0_init ∈ zT := zin 238 (by decide +kernel) (by decide +kernel)
theorem qk_239 : Cond.code yX0_init prog_2_method_1_code 3 none ∈ zT := zin 239 (by decide +kernel) (by decide +kernel)
theorem qk_240 : Cond.methodLink "ForestPacks$Acts" 1 Lib.objectInit ∈ zT := zin 240 (by decide +kernel) (by decide +kernel)
theorem qk_241 : Cond.classLink "ForestPacks$Acts" 9 "ForestPacks$Net" ∈ zT := zin 241 (by decide +kernel) (by decide +kernel)
theorem qk_244 : Cond.fieldLink "ForestPacks$Acts" 15 "ForestPacks$Acts" "net" "LForestPacks$Net;" ∈ zT := zin 244 (by decide +kernel) (by decide +kernel)
theorem qk_245 : Cond.fieldLink "ForestPacks$Acts" 11 "ForestPacks$Acts" "kept" "[LForestPacks$Net;" ∈ zT := zin 245 (by decide +kernel) (by decide +kernel)
theorem qk_257 : Cond.classLink "ForestPacks" 41 "ForestPacks$Chains" ∈ zT := zin 257 (by decide +kernel) (by decide +kernel)
theorem qk_258 : Cond.instantiable "ForestPacks$Chains" 12 ∈ zT := zin 258 (by decide +kernel) (by decide +kernel)
theorem qk_259 : Cond.methodLink "ForestPacks" 43 yX1_init ∈ zT := zin 259 (by decide +kernel) (by decide +kernel)
theorem qk_260 : Cond.instanceMethod yX1_init ∈ zT := zin 260 (by decide +kernel) (by decide +kernel)
theorem qk_261 : Cond.code yX1_init prog_3_method_1_code 2 none ∈ zT := zin 261 (by decide +kernel) (by decide +kernel)
theorem qk_262 : Cond.methodLink "ForestPacks$Chains" 3 Lib.objectInit ∈ zT := zin 262 (by decide +kernel) (by decide +kernel)
theorem qk_263 : Cond.fieldLink "ForestPacks$Chains" 33 "ForestPacks$Chains" "net" "LForestPacks$Net;" ∈ zT := zin 263 (by decide +kernel) (by decide +kernel)
theorem qk_264 : Cond.fieldLink "ForestPacks$Chains" 9 "ForestPacks$Chains" "wayTo" "[I" ∈ zT := zin 264 (by decide +kernel) (by decide +kernel)
theorem qk_265 : Cond.fieldLink "ForestPacks$Chains" 15 "ForestPacks$Chains" "queue" "[I" ∈ zT := zin 265 (by decide +kernel) (by decide +kernel)
theorem qk_266 : Cond.fieldLink "ForestPacks$Chains" 18 "ForestPacks$Chains" "ledBy" "[I" ∈ zT := zin 266 (by decide +kernel) (by decide +kernel)
theorem qk_267 : Cond.fieldLink "ForestPacks$Chains" 21 "ForestPacks$Chains" "step" "[I" ∈ zT := zin 267 (by decide +kernel) (by decide +kernel)
theorem qk_268 : Cond.fieldLink "ForestPacks$Chains" 24 "ForestPacks$Chains" "into" "[I" ∈ zT := zin 268 (by decide +kernel) (by decide +kernel)
theorem qk_271 : Cond.fieldLink "ForestPacks$Chains" 27 "ForestPacks$Chains" "toldStep" "[I" ∈ zT := zin 271 (by decide +kernel) (by decide +kernel)
theorem qk_272 : Cond.fieldLink "ForestPacks$Chains" 30 "ForestPacks$Chains" "toldInto" "[I" ∈ zT := zin 272 (by decide +kernel) (by decide +kernel)
theorem qk_300 : Cond.classLink "ForestPacks" 48 "ForestPacks$PointSets" ∈ zT := zin 300 (by decide +kernel) (by decide +kernel)
theorem qk_301 : Cond.instantiable "ForestPacks$PointSets" 7 ∈ zT := zin 301 (by decide +kernel) (by decide +kernel)
theorem qk_302 : Cond.methodLink "ForestPacks" 50 yX8_init ∈ zT := zin 302 (by decide +kernel) (by decide +kernel)
theorem qk_303 : Cond.instanceMethod yX8_init ∈ zT := zin 303 (by decide +kernel) (by decide +kernel)
theorem qk_304 : Cond.code yX8_init prog_10_method_1_code 3 none ∈ zT := zin 304 (by decide +kernel) (by decide +kernel)
theorem qk_305 : Cond.methodLink "ForestPacks$PointSets" 3 Lib.objectInit ∈ zT := zin 305 (by decide +kernel) (by decide +kernel)
theorem qk_306 : Cond.fieldLink "ForestPacks$PointSets" 21 "ForestPacks$PointSets" "net" "LForestPacks$Net;" ∈ zT := zin 306 (by decide +kernel) (by decide +kernel)
theorem qk_307 : Cond.fieldLink "ForestPacks$PointSets" 9 "ForestPacks$PointSets" "inner" "[I" ∈ zT := zin 307 (by decide +kernel) (by decide +kernel)
theorem qk_308 : Cond.fieldLink "ForestPacks$PointSets" 15 "ForestPacks$PointSets" "taken" "[I" ∈ zT := zin 308 (by decide +kernel) (by decide +kernel)
theorem qk_309 : Cond.fieldLink "ForestPacks$PointSets" 18 "ForestPacks$PointSets" "itself" "[I" ∈ zT := zin 309 (by decide +kernel) (by decide +kernel)
theorem qk_328 : Cond.classLink "ForestPacks" 55 "ForestPacks$Layers" ∈ zT := zin 328 (by decide +kernel) (by decide +kernel)
theorem qk_329 : Cond.instantiable "ForestPacks$Layers" 6 ∈ zT := zin 329 (by decide +kernel) (by decide +kernel)
theorem qk_330 : Cond.methodLink "ForestPacks" 57 yX4_init ∈ zT := zin 330 (by decide +kernel) (by decide +kernel)
theorem qk_331 : Cond.instanceMethod yX4_init ∈ zT := zin 331 (by decide +kernel) (by decide +kernel)
theorem qk_332 : Cond.code yX4_init prog_6_method_1_code 3 none ∈ zT := zin 332 (by decide +kernel) (by decide +kernel)
theorem qk_333 : Cond.methodLink "ForestPacks$Layers" 3 Lib.objectInit ∈ zT := zin 333 (by decide +kernel) (by decide +kernel)
theorem qk_334 : Cond.fieldLink "ForestPacks$Layers" 24 "ForestPacks$Layers" "net" "LForestPacks$Net;" ∈ zT := zin 334 (by decide +kernel) (by decide +kernel)
theorem qk_335 : Cond.fieldLink "ForestPacks$Layers" 28 "ForestPacks$Layers" "sets" "LForestPacks$PointSets;" ∈ zT := zin 335 (by decide +kernel) (by decide +kernel)
theorem qk_336 : Cond.fieldLink "ForestPacks$Layers" 9 "ForestPacks$Layers" "as" "[I" ∈ zT := zin 336 (by decide +kernel) (by decide +kernel)
theorem qk_337 : Cond.fieldLink "ForestPacks$Layers" 15 "ForestPacks$Layers" "above" "[I" ∈ zT := zin 337 (by decide +kernel) (by decide +kernel)
theorem qk_338 : Cond.fieldLink "ForestPacks$Layers" 18 "ForestPacks$Layers" "below" "[I" ∈ zT := zin 338 (by decide +kernel) (by decide +kernel)
theorem qk_339 : Cond.fieldLink "ForestPacks$Layers" 21 "ForestPacks$Layers" "melted" "[I" ∈ zT := zin 339 (by decide +kernel) (by decide +kernel)
theorem qk_353 : Cond.classLink "ForestPacks" 64 "ForestPacks$Partings" ∈ zT := zin 353 (by decide +kernel) (by decide +kernel)
theorem qk_354 : Cond.instantiable "ForestPacks$Partings" 6 ∈ zT := zin 354 (by decide +kernel) (by decide +kernel)
theorem qk_355 : Cond.methodLink "ForestPacks" 66 yX7_init ∈ zT := zin 355 (by decide +kernel) (by decide +kernel)
theorem qk_356 : Cond.instanceMethod yX7_init ∈ zT := zin 356 (by decide +kernel) (by decide +kernel)
theorem qk_357 : Cond.code yX7_init prog_9_method_1_code 3 none ∈ zT := zin 357 (by decide +kernel) (by decide +kernel)
theorem qk_358 : Cond.methodLink "ForestPacks$Partings" 3 Lib.objectInit ∈ zT := zin 358 (by decide +kernel) (by decide +kernel)
theorem qk_359 : Cond.fieldLink "ForestPacks$Partings" 18 "ForestPacks$Partings" "net" "LForestPacks$Net;" ∈ zT := zin 359 (by decide +kernel) (by decide +kernel)
theorem qk_360 : Cond.fieldLink "ForestPacks$Partings" 22 "ForestPacks$Partings" "sets" "LForestPacks$PointSets;" ∈ zT := zin 360 (by decide +kernel) (by decide +kernel)
theorem qk_361 : Cond.fieldLink "ForestPacks$Partings" 9 "ForestPacks$Partings" "inside" "[I" ∈ zT := zin 361 (by decide +kernel) (by decide +kernel)
theorem qk_362 : Cond.fieldLink "ForestPacks$Partings" 15 "ForestPacks$Partings" "insideNext" "[I" ∈ zT := zin 362 (by decide +kernel) (by decide +kernel)
theorem qk_378 : Cond.classLink "ForestPacks" 71 "ForestPacks$OutTrees" ∈ zT := zin 378 (by decide +kernel) (by decide +kernel)
theorem qk_379 : Cond.instantiable "ForestPacks$OutTrees" 2 ∈ zT := zin 379 (by decide +kernel) (by decide +kernel)
theorem qk_380 : Cond.methodLink "ForestPacks" 73 yX6_init ∈ zT := zin 380 (by decide +kernel) (by decide +kernel)
theorem qk_381 : Cond.instanceMethod yX6_init ∈ zT := zin 381 (by decide +kernel) (by decide +kernel)
theorem qk_382 : Cond.code yX6_init prog_8_method_1_code 2 none ∈ zT := zin 382 (by decide +kernel) (by decide +kernel)
theorem qk_383 : Cond.methodLink "ForestPacks$OutTrees" 3 Lib.objectInit ∈ zT := zin 383 (by decide +kernel) (by decide +kernel)
theorem qk_384 : Cond.fieldLink "ForestPacks$OutTrees" 15 "ForestPacks$OutTrees" "net" "LForestPacks$Net;" ∈ zT := zin 384 (by decide +kernel) (by decide +kernel)
theorem qk_385 : Cond.fieldLink "ForestPacks$OutTrees" 9 "ForestPacks$OutTrees" "entering" "[I" ∈ zT := zin 385 (by decide +kernel) (by decide +kernel)
theorem qk_391 : Cond.classLink "ForestPacks" 78 "ForestPacks$Easing" ∈ zT := zin 391 (by decide +kernel) (by decide +kernel)
theorem qk_392 : Cond.instantiable "ForestPacks$Easing" 3 ∈ zT := zin 392 (by decide +kernel) (by decide +kernel)
theorem qk_393 : Cond.methodLink "ForestPacks" 80 yX2_init ∈ zT := zin 393 (by decide +kernel) (by decide +kernel)
theorem qk_394 : Cond.instanceMethod yX2_init ∈ zT := zin 394 (by decide +kernel) (by decide +kernel)
theorem qk_395 : Cond.code yX2_init prog_4_method_1_code 2 none ∈ zT := zin 395 (by decide +kernel) (by decide +kernel)
theorem qk_396 : Cond.methodLink "ForestPacks$Easing" 3 Lib.objectInit ∈ zT := zin 396 (by decide +kernel) (by decide +kernel)
theorem qk_397 : Cond.fieldLink "ForestPacks$Easing" 18 "ForestPacks$Easing" "net" "LForestPacks$Net;" ∈ zT := zin 397 (by decide +kernel) (by decide +kernel)
theorem qk_398 : Cond.fieldLink "ForestPacks$Easing" 9 "ForestPacks$Easing" "queue" "[I" ∈ zT := zin 398 (by decide +kernel) (by decide +kernel)
theorem qk_399 : Cond.fieldLink "ForestPacks$Easing" 15 "ForestPacks$Easing" "wayTo" "[I" ∈ zT := zin 399 (by decide +kernel) (by decide +kernel)
theorem qk_407 : Cond.classLink "ForestPacks" 85 "ForestPacks$Game" ∈ zT := zin 407 (by decide +kernel) (by decide +kernel)
theorem qk_408 : Cond.instantiable "ForestPacks$Game" 7 ∈ zT := zin 408 (by decide +kernel) (by decide +kernel)
theorem qk_409 : Cond.methodLink "ForestPacks" 87 yX3_init ∈ zT := zin 409 (by decide +kernel) (by decide +kernel)
theorem qk_410 : Cond.instanceMethod yX3_init ∈ zT := zin 410 (by decide +kernel) (by decide +kernel)
theorem qk_411 : Cond.code yX3_init prog_5_method_1_code 3 none ∈ zT := zin 411 (by decide +kernel) (by decide +kernel)
theorem qk_412 : Cond.methodLink "ForestPacks$Game" 3 Lib.objectInit ∈ zT := zin 412 (by decide +kernel) (by decide +kernel)
theorem qk_413 : Cond.fieldLink "ForestPacks$Game" 18 "ForestPacks$Game" "net" "LForestPacks$Net;" ∈ zT := zin 413 (by decide +kernel) (by decide +kernel)
theorem qk_414 : Cond.fieldLink "ForestPacks$Game" 22 "ForestPacks$Game" "tape" "LForestPacks$Tape;" ∈ zT := zin 414 (by decide +kernel) (by decide +kernel)
theorem qk_415 : Cond.fieldLink "ForestPacks$Game" 9 "ForestPacks$Game" "forest" "[I" ∈ zT := zin 415 (by decide +kernel) (by decide +kernel)
theorem qk_416 : Cond.fieldLink "ForestPacks$Game" 15 "ForestPacks$Game" "told" "[I" ∈ zT := zin 416 (by decide +kernel) (by decide +kernel)
theorem qk_432 : Cond.fieldLink "ForestPacks" 10 "ForestPacks" "current" "LForestPacks$Net;" ∈ zT := zin 432 (by decide +kernel) (by decide +kernel)
theorem qk_433 : Cond.fieldLink "ForestPacks" 19 "ForestPacks" "tape" "LForestPacks$Tape;" ∈ zT := zin 433 (by decide +kernel) (by decide +kernel)
theorem qk_434 : Cond.fieldLink "ForestPacks" 28 "ForestPacks" "reader" "LForestPacks$Reader;" ∈ zT := zin 434 (by decide +kernel) (by decide +kernel)
theorem qk_435 : Cond.fieldLink "ForestPacks" 37 "ForestPacks" "acts" "LForestPacks$Acts;" ∈ zT := zin 435 (by decide +kernel) (by decide +kernel)
theorem qk_436 : Cond.fieldLink "ForestPacks" 44 "ForestPacks" "chains" "LForestPacks$Chains;" ∈ zT := zin 436 (by decide +kernel) (by decide +kernel)
theorem qk_437 : Cond.fieldLink "ForestPacks" 51 "ForestPacks" "sets" "LForestPacks$PointSets;" ∈ zT := zin 437 (by decide +kernel) (by decide +kernel)
theorem qk_438 : Cond.fieldLink "ForestPacks" 60 "ForestPacks" "melting" "LForestPacks$Layers;" ∈ zT := zin 438 (by decide +kernel) (by decide +kernel)
theorem qk_439 : Cond.fieldLink "ForestPacks" 67 "ForestPacks" "partings" "LForestPacks$Partings;" ∈ zT := zin 439 (by decide +kernel) (by decide +kernel)
theorem qk_440 : Cond.fieldLink "ForestPacks" 74 "ForestPacks" "outTrees" "LForestPacks$OutTrees;" ∈ zT := zin 440 (by decide +kernel) (by decide +kernel)
theorem qk_441 : Cond.fieldLink "ForestPacks" 81 "ForestPacks" "easing" "LForestPacks$Easing;" ∈ zT := zin 441 (by decide +kernel) (by decide +kernel)
theorem qk_442 : Cond.fieldLink "ForestPacks" 90 "ForestPacks" "play" "LForestPacks$Game;" ∈ zT := zin 442 (by decide +kernel) (by decide +kernel)
theorem qk_443 : Cond.fieldLink "ForestPacks" 94 "ForestPacks" "images" "[LForestPacks$Net;" ∈ zT := zin 443 (by decide +kernel) (by decide +kernel)
theorem dC_X5_init_0 : decode cX5_init 0 = .ok (.aload_n 0, 1) := by decide +kernel
theorem dC_X5_init_1 : decode cX5_init 1 = .ok (.invokespecial 3, 3) := by decide +kernel
theorem dC_X5_init_4 : decode cX5_init 4 = .ok (.aload_n 0, 1) := by decide +kernel
theorem dC_X5_init_5 : decode cX5_init 5 = .ok (.bipush 24, 2) := by decide +kernel
theorem dC_X5_init_7 : decode cX5_init 7 = .ok (.newarray .int, 2) := by decide +kernel
theorem dC_X5_init_9 : decode cX5_init 9 = .ok (.putfield 9, 3) := by decide +kernel
theorem dC_X5_init_12 : decode cX5_init 12 = .ok (.aload_n 0, 1) := by decide +kernel
theorem dC_X5_init_13 : decode cX5_init 13 = .ok (.bipush 24, 2) := by decide +kernel
theorem dC_X5_init_15 : decode cX5_init 15 = .ok (.newarray .int, 2) := by decide +kernel
theorem dC_X5_init_17 : decode cX5_init 17 = .ok (.putfield 15, 3) := by decide +kernel
theorem dC_X5_init_20 : decode cX5_init 20 = .ok (.aload_n 0, 1) := by decide +kernel
theorem dC_X5_init_21 : decode cX5_init 21 = .ok (.bipush 24, 2) := by decide +kernel
theorem dC_X5_init_23 : decode cX5_init 23 = .ok (.newarray .int, 2) := by decide +kernel
theorem dC_X5_init_25 : decode cX5_init 25 = .ok (.putfield 18, 3) := by decide +kernel
theorem dC_X5_init_28 : decode cX5_init 28 = .ok (.aload_n 0, 1) := by decide +kernel
theorem dC_X5_init_29 : decode cX5_init 29 = .ok (.bipush 24, 2) := by decide +kernel
theorem dC_X5_init_31 : decode cX5_init 31 = .ok (.newarray .int, 2) := by decide +kernel
theorem dC_X5_init_33 : decode cX5_init 33 = .ok (.putfield 21, 3) := by decide +kernel
theorem dC_X5_init_36 : decode cX5_init 36 = .ok (.aload_n 0, 1) := by decide +kernel
theorem dC_X5_init_37 : decode cX5_init 37 = .ok (.iconst 2, 1) := by decide +kernel
theorem dC_X5_init_38 : decode cX5_init 38 = .ok (.putfield 24, 3) := by decide +kernel
theorem dC_X5_init_41 : decode cX5_init 41 = .ok (.return_, 1) := by decide +kernel
theorem dC_X10_init_0 : decode cX10_init 0 = .ok (.aload_n 0, 1) := by decide +kernel
theorem dC_X10_init_1 : decode cX10_init 1 = .ok (.invokespecial 3, 3) := by decide +kernel
theorem dC_X10_init_4 : decode cX10_init 4 = .ok (.aload_n 0, 1) := by decide +kernel
theorem dC_X10_init_5 : decode cX10_init 5 = .ok (.sipush 640, 3) := by decide +kernel
theorem dC_X10_init_8 : decode cX10_init 8 = .ok (.newarray .int, 2) := by decide +kernel
theorem dC_X10_init_10 : decode cX10_init 10 = .ok (.putfield 11, 3) := by decide +kernel
theorem dC_X10_init_13 : decode cX10_init 13 = .ok (.return_, 1) := by decide +kernel
theorem dC_X9_init_0 : decode cX9_init 0 = .ok (.aload_n 0, 1) := by decide +kernel
theorem dC_X9_init_1 : decode cX9_init 1 = .ok (.invokespecial 3, 3) := by decide +kernel
theorem dC_X9_init_4 : decode cX9_init 4 = .ok (.aload_n 0, 1) := by decide +kernel
theorem dC_X9_init_5 : decode cX9_init 5 = .ok (.new 9, 3) := by decide +kernel
theorem dC_X9_init_8 : decode cX9_init 8 = .ok (.dup, 1) := by decide +kernel
theorem dC_X9_init_9 : decode cX9_init 9 = .ok (.invokespecial 11, 3) := by decide +kernel
theorem dC_X9_init_12 : decode cX9_init 12 = .ok (.putfield 12, 3) := by decide +kernel
theorem dC_X9_init_15 : decode cX9_init 15 = .ok (.aload_n 0, 1) := by decide +kernel
theorem dC_X9_init_16 : decode cX9_init 16 = .ok (.bipush 10, 2) := by decide +kernel
theorem dC_X9_init_18 : decode cX9_init 18 = .ok (.newarray .long, 2) := by decide +kernel
theorem dC_X9_init_20 : decode cX9_init 20 = .ok (.putfield 18, 3) := by decide +kernel
theorem dC_X9_init_23 : decode cX9_init 23 = .ok (.aload_n 0, 1) := by decide +kernel
theorem dC_X9_init_24 : decode cX9_init 24 = .ok (.ldc 22, 2) := by decide +kernel
theorem dC_X9_init_26 : decode cX9_init 26 = .ok (.invokestatic 24, 3) := by decide +kernel
theorem dC_X9_init_29 : decode cX9_init 29 = .ok (.putfield 28, 3) := by decide +kernel
theorem dC_X9_init_32 : decode cX9_init 32 = .ok (.aload_n 0, 1) := by decide +kernel
theorem dC_X9_init_33 : decode cX9_init 33 = .ok (.ldc 32, 2) := by decide +kernel
theorem dC_X9_init_35 : decode cX9_init 35 = .ok (.invokestatic 24, 3) := by decide +kernel
theorem dC_X9_init_38 : decode cX9_init 38 = .ok (.putfield 34, 3) := by decide +kernel
theorem dC_X9_init_41 : decode cX9_init 41 = .ok (.aload_n 0, 1) := by decide +kernel
theorem dC_X9_init_42 : decode cX9_init 42 = .ok (.ldc 37, 2) := by decide +kernel
theorem dC_X9_init_44 : decode cX9_init 44 = .ok (.invokestatic 24, 3) := by decide +kernel
theorem dC_X9_init_47 : decode cX9_init 47 = .ok (.putfield 39, 3) := by decide +kernel
theorem dC_X9_init_50 : decode cX9_init 50 = .ok (.aload_n 0, 1) := by decide +kernel
theorem dC_X9_init_51 : decode cX9_init 51 = .ok (.aload_n 1, 1) := by decide +kernel
theorem dC_X9_init_52 : decode cX9_init 52 = .ok (.putfield 42, 3) := by decide +kernel
theorem dC_X9_init_55 : decode cX9_init 55 = .ok (.return_, 1) := by decide +kernel
theorem dC_X0_init_0 : decode cX0_init 0 = .ok (.aload_n 0, 1) := by decide +kernel
theorem dC_X0_init_1 : decode cX0_init 1 = .ok (.invokespecial 1, 3) := by decide +kernel
theorem dC_X0_init_4 : decode cX0_init 4 = .ok (.aload_n 0, 1) := by decide +kernel
theorem dC_X0_init_5 : decode cX0_init 5 = .ok (.bipush 9, 2) := by decide +kernel
theorem dC_X0_init_7 : decode cX0_init 7 = .ok (.anewarray 9, 3) := by decide +kernel
theorem dC_X0_init_10 : decode cX0_init 10 = .ok (.putfield 11, 3) := by decide +kernel
theorem dC_X0_init_13 : decode cX0_init 13 = .ok (.aload_n 0, 1) := by decide +kernel
theorem dC_X0_init_14 : decode cX0_init 14 = .ok (.aload_n 1, 1) := by decide +kernel
theorem dC_X0_init_15 : decode cX0_init 15 = .ok (.putfield 15, 3) := by decide +kernel
theorem dC_X0_init_18 : decode cX0_init 18 = .ok (.iconst 0, 1) := by decide +kernel
theorem dC_X0_init_19 : decode cX0_init 19 = .ok (.istore_n 2, 1) := by decide +kernel
theorem dC_X0_init_20 : decode cX0_init 20 = .ok (.iload_n 2, 1) := by decide +kernel
theorem dC_X0_init_21 : decode cX0_init 21 = .ok (.aload_n 0, 1) := by decide +kernel
theorem dC_X0_init_22 : decode cX0_init 22 = .ok (.getfield 11, 3) := by decide +kernel
theorem dC_X0_init_25 : decode cX0_init 25 = .ok (.arraylength, 1) := by decide +kernel
theorem dC_X0_init_26 : decode cX0_init 26 = .ok (.if_icmp .ge 22, 3) := by decide +kernel
theorem dC_X0_init_29 : decode cX0_init 29 = .ok (.aload_n 0, 1) := by decide +kernel
theorem dC_X0_init_30 : decode cX0_init 30 = .ok (.getfield 11, 3) := by decide +kernel
theorem dC_X0_init_33 : decode cX0_init 33 = .ok (.iload_n 2, 1) := by decide +kernel
theorem dC_X0_init_34 : decode cX0_init 34 = .ok (.new 9, 3) := by decide +kernel
theorem dC_X0_init_37 : decode cX0_init 37 = .ok (.dup, 1) := by decide +kernel
theorem dC_X0_init_38 : decode cX0_init 38 = .ok (.invokespecial 19, 3) := by decide +kernel
theorem dC_X0_init_41 : decode cX0_init 41 = .ok (.aastore, 1) := by decide +kernel
theorem dC_X0_init_42 : decode cX0_init 42 = .ok (.iinc 2 1, 3) := by decide +kernel
theorem dC_X0_init_45 : decode cX0_init 45 = .ok (.goto (-25), 3) := by decide +kernel
theorem dC_X0_init_48 : decode cX0_init 48 = .ok (.return_, 1) := by decide +kernel
theorem dC_X1_init_0 : decode cX1_init 0 = .ok (.aload_n 0, 1) := by decide +kernel
theorem dC_X1_init_1 : decode cX1_init 1 = .ok (.invokespecial 3, 3) := by decide +kernel
theorem dC_X1_init_4 : decode cX1_init 4 = .ok (.aload_n 0, 1) := by decide +kernel
theorem dC_X1_init_5 : decode cX1_init 5 = .ok (.bipush 10, 2) := by decide +kernel
theorem dC_X1_init_7 : decode cX1_init 7 = .ok (.newarray .int, 2) := by decide +kernel
theorem dC_X1_init_9 : decode cX1_init 9 = .ok (.putfield 9, 3) := by decide +kernel
theorem dC_X1_init_12 : decode cX1_init 12 = .ok (.aload_n 0, 1) := by decide +kernel
theorem dC_X1_init_13 : decode cX1_init 13 = .ok (.bipush 24, 2) := by decide +kernel
theorem dC_X1_init_15 : decode cX1_init 15 = .ok (.newarray .int, 2) := by decide +kernel
theorem dC_X1_init_17 : decode cX1_init 17 = .ok (.putfield 15, 3) := by decide +kernel
theorem dC_X1_init_20 : decode cX1_init 20 = .ok (.aload_n 0, 1) := by decide +kernel
theorem dC_X1_init_21 : decode cX1_init 21 = .ok (.bipush 24, 2) := by decide +kernel
theorem dC_X1_init_23 : decode cX1_init 23 = .ok (.newarray .int, 2) := by decide +kernel
theorem dC_X1_init_25 : decode cX1_init 25 = .ok (.putfield 18, 3) := by decide +kernel
theorem dC_X1_init_28 : decode cX1_init 28 = .ok (.aload_n 0, 1) := by decide +kernel
theorem dC_X1_init_29 : decode cX1_init 29 = .ok (.bipush 24, 2) := by decide +kernel
theorem dC_X1_init_31 : decode cX1_init 31 = .ok (.newarray .int, 2) := by decide +kernel
theorem dC_X1_init_33 : decode cX1_init 33 = .ok (.putfield 21, 3) := by decide +kernel
theorem dC_X1_init_36 : decode cX1_init 36 = .ok (.aload_n 0, 1) := by decide +kernel
theorem dC_X1_init_37 : decode cX1_init 37 = .ok (.bipush 24, 2) := by decide +kernel
theorem dC_X1_init_39 : decode cX1_init 39 = .ok (.newarray .int, 2) := by decide +kernel
theorem dC_X1_init_41 : decode cX1_init 41 = .ok (.putfield 24, 3) := by decide +kernel
theorem dC_X1_init_44 : decode cX1_init 44 = .ok (.aload_n 0, 1) := by decide +kernel
theorem dC_X1_init_45 : decode cX1_init 45 = .ok (.bipush 24, 2) := by decide +kernel
theorem dC_X1_init_47 : decode cX1_init 47 = .ok (.newarray .int, 2) := by decide +kernel
theorem dC_X1_init_49 : decode cX1_init 49 = .ok (.putfield 27, 3) := by decide +kernel
theorem dC_X1_init_52 : decode cX1_init 52 = .ok (.aload_n 0, 1) := by decide +kernel
theorem dC_X1_init_53 : decode cX1_init 53 = .ok (.bipush 24, 2) := by decide +kernel
theorem dC_X1_init_55 : decode cX1_init 55 = .ok (.newarray .int, 2) := by decide +kernel
theorem dC_X1_init_57 : decode cX1_init 57 = .ok (.putfield 30, 3) := by decide +kernel
theorem dC_X1_init_60 : decode cX1_init 60 = .ok (.aload_n 0, 1) := by decide +kernel
theorem dC_X1_init_61 : decode cX1_init 61 = .ok (.aload_n 1, 1) := by decide +kernel
theorem dC_X1_init_62 : decode cX1_init 62 = .ok (.putfield 33, 3) := by decide +kernel
theorem dC_X1_init_65 : decode cX1_init 65 = .ok (.return_, 1) := by decide +kernel
theorem dC_X8_init_0 : decode cX8_init 0 = .ok (.aload_n 0, 1) := by decide +kernel
theorem dC_X8_init_1 : decode cX8_init 1 = .ok (.invokespecial 3, 3) := by decide +kernel
theorem dC_X8_init_4 : decode cX8_init 4 = .ok (.aload_n 0, 1) := by decide +kernel
theorem dC_X8_init_5 : decode cX8_init 5 = .ok (.sipush 1024, 3) := by decide +kernel
theorem dC_X8_init_8 : decode cX8_init 8 = .ok (.newarray .int, 2) := by decide +kernel
theorem dC_X8_init_10 : decode cX8_init 10 = .ok (.putfield 9, 3) := by decide +kernel
theorem dC_X8_init_13 : decode cX8_init 13 = .ok (.aload_n 0, 1) := by decide +kernel
theorem dC_X8_init_14 : decode cX8_init 14 = .ok (.sipush 1024, 3) := by decide +kernel
theorem dC_X8_init_17 : decode cX8_init 17 = .ok (.newarray .int, 2) := by decide +kernel
theorem dC_X8_init_19 : decode cX8_init 19 = .ok (.putfield 15, 3) := by decide +kernel
theorem dC_X8_init_22 : decode cX8_init 22 = .ok (.aload_n 0, 1) := by decide +kernel
theorem dC_X8_init_23 : decode cX8_init 23 = .ok (.bipush 10, 2) := by decide +kernel
theorem dC_X8_init_25 : decode cX8_init 25 = .ok (.newarray .int, 2) := by decide +kernel
theorem dC_X8_init_27 : decode cX8_init 27 = .ok (.putfield 18, 3) := by decide +kernel
theorem dC_X8_init_30 : decode cX8_init 30 = .ok (.aload_n 0, 1) := by decide +kernel
theorem dC_X8_init_31 : decode cX8_init 31 = .ok (.aload_n 1, 1) := by decide +kernel
theorem dC_X8_init_32 : decode cX8_init 32 = .ok (.putfield 21, 3) := by decide +kernel
theorem dC_X8_init_35 : decode cX8_init 35 = .ok (.iconst 0, 1) := by decide +kernel
theorem dC_X8_init_36 : decode cX8_init 36 = .ok (.istore_n 2, 1) := by decide +kernel
theorem dC_X8_init_37 : decode cX8_init 37 = .ok (.iload_n 2, 1) := by decide +kernel
theorem dC_X8_init_38 : decode cX8_init 38 = .ok (.bipush 10, 2) := by decide +kernel
theorem dC_X8_init_40 : decode cX8_init 40 = .ok (.if_icmp .ge 16, 3) := by decide +kernel
theorem dC_X8_init_43 : decode cX8_init 43 = .ok (.aload_n 0, 1) := by decide +kernel
theorem dC_X8_init_44 : decode cX8_init 44 = .ok (.getfield 18, 3) := by decide +kernel
theorem dC_X8_init_47 : decode cX8_init 47 = .ok (.iload_n 2, 1) := by decide +kernel
theorem dC_X8_init_48 : decode cX8_init 48 = .ok (.iload_n 2, 1) := by decide +kernel
theorem dC_X8_init_49 : decode cX8_init 49 = .ok (.iastore, 1) := by decide +kernel
theorem dC_X8_init_50 : decode cX8_init 50 = .ok (.iinc 2 1, 3) := by decide +kernel
theorem dC_X8_init_53 : decode cX8_init 53 = .ok (.goto (-16), 3) := by decide +kernel
theorem dC_X8_init_56 : decode cX8_init 56 = .ok (.return_, 1) := by decide +kernel
theorem dC_X4_init_0 : decode cX4_init 0 = .ok (.aload_n 0, 1) := by decide +kernel
theorem dC_X4_init_1 : decode cX4_init 1 = .ok (.invokespecial 3, 3) := by decide +kernel
theorem dC_X4_init_4 : decode cX4_init 4 = .ok (.aload_n 0, 1) := by decide +kernel
theorem dC_X4_init_5 : decode cX4_init 5 = .ok (.bipush 10, 2) := by decide +kernel
theorem dC_X4_init_7 : decode cX4_init 7 = .ok (.newarray .int, 2) := by decide +kernel
theorem dC_X4_init_9 : decode cX4_init 9 = .ok (.putfield 9, 3) := by decide +kernel
theorem dC_X4_init_12 : decode cX4_init 12 = .ok (.aload_n 0, 1) := by decide +kernel
theorem dC_X4_init_13 : decode cX4_init 13 = .ok (.bipush 10, 2) := by decide +kernel
theorem dC_X4_init_15 : decode cX4_init 15 = .ok (.newarray .int, 2) := by decide +kernel
theorem dC_X4_init_17 : decode cX4_init 17 = .ok (.putfield 15, 3) := by decide +kernel
theorem dC_X4_init_20 : decode cX4_init 20 = .ok (.aload_n 0, 1) := by decide +kernel
theorem dC_X4_init_21 : decode cX4_init 21 = .ok (.bipush 10, 2) := by decide +kernel
theorem dC_X4_init_23 : decode cX4_init 23 = .ok (.newarray .int, 2) := by decide +kernel
theorem dC_X4_init_25 : decode cX4_init 25 = .ok (.putfield 18, 3) := by decide +kernel
theorem dC_X4_init_28 : decode cX4_init 28 = .ok (.aload_n 0, 1) := by decide +kernel
theorem dC_X4_init_29 : decode cX4_init 29 = .ok (.bipush 10, 2) := by decide +kernel
theorem dC_X4_init_31 : decode cX4_init 31 = .ok (.newarray .int, 2) := by decide +kernel
theorem dC_X4_init_33 : decode cX4_init 33 = .ok (.putfield 21, 3) := by decide +kernel
theorem dC_X4_init_36 : decode cX4_init 36 = .ok (.aload_n 0, 1) := by decide +kernel
theorem dC_X4_init_37 : decode cX4_init 37 = .ok (.aload_n 1, 1) := by decide +kernel
theorem dC_X4_init_38 : decode cX4_init 38 = .ok (.putfield 24, 3) := by decide +kernel
theorem dC_X4_init_41 : decode cX4_init 41 = .ok (.aload_n 0, 1) := by decide +kernel
theorem dC_X4_init_42 : decode cX4_init 42 = .ok (.aload_n 2, 1) := by decide +kernel
theorem dC_X4_init_43 : decode cX4_init 43 = .ok (.putfield 28, 3) := by decide +kernel
theorem dC_X4_init_46 : decode cX4_init 46 = .ok (.return_, 1) := by decide +kernel
theorem dC_X7_init_0 : decode cX7_init 0 = .ok (.aload_n 0, 1) := by decide +kernel
theorem dC_X7_init_1 : decode cX7_init 1 = .ok (.invokespecial 3, 3) := by decide +kernel
theorem dC_X7_init_4 : decode cX7_init 4 = .ok (.aload_n 0, 1) := by decide +kernel
theorem dC_X7_init_5 : decode cX7_init 5 = .ok (.sipush 1024, 3) := by decide +kernel
theorem dC_X7_init_8 : decode cX7_init 8 = .ok (.newarray .int, 2) := by decide +kernel
theorem dC_X7_init_10 : decode cX7_init 10 = .ok (.putfield 9, 3) := by decide +kernel
theorem dC_X7_init_13 : decode cX7_init 13 = .ok (.aload_n 0, 1) := by decide +kernel
theorem dC_X7_init_14 : decode cX7_init 14 = .ok (.sipush 1024, 3) := by decide +kernel
theorem dC_X7_init_17 : decode cX7_init 17 = .ok (.newarray .int, 2) := by decide +kernel
theorem dC_X7_init_19 : decode cX7_init 19 = .ok (.putfield 15, 3) := by decide +kernel
theorem dC_X7_init_22 : decode cX7_init 22 = .ok (.aload_n 0, 1) := by decide +kernel
theorem dC_X7_init_23 : decode cX7_init 23 = .ok (.aload_n 1, 1) := by decide +kernel
theorem dC_X7_init_24 : decode cX7_init 24 = .ok (.putfield 18, 3) := by decide +kernel
theorem dC_X7_init_27 : decode cX7_init 27 = .ok (.aload_n 0, 1) := by decide +kernel
theorem dC_X7_init_28 : decode cX7_init 28 = .ok (.aload_n 2, 1) := by decide +kernel
theorem dC_X7_init_29 : decode cX7_init 29 = .ok (.putfield 22, 3) := by decide +kernel
theorem dC_X7_init_32 : decode cX7_init 32 = .ok (.return_, 1) := by decide +kernel
theorem dC_X6_init_0 : decode cX6_init 0 = .ok (.aload_n 0, 1) := by decide +kernel
theorem dC_X6_init_1 : decode cX6_init 1 = .ok (.invokespecial 3, 3) := by decide +kernel
theorem dC_X6_init_4 : decode cX6_init 4 = .ok (.aload_n 0, 1) := by decide +kernel
theorem dC_X6_init_5 : decode cX6_init 5 = .ok (.sipush 1024, 3) := by decide +kernel
theorem dC_X6_init_8 : decode cX6_init 8 = .ok (.newarray .int, 2) := by decide +kernel
theorem dC_X6_init_10 : decode cX6_init 10 = .ok (.putfield 9, 3) := by decide +kernel
theorem dC_X6_init_13 : decode cX6_init 13 = .ok (.aload_n 0, 1) := by decide +kernel
theorem dC_X6_init_14 : decode cX6_init 14 = .ok (.aload_n 1, 1) := by decide +kernel
theorem dC_X6_init_15 : decode cX6_init 15 = .ok (.putfield 15, 3) := by decide +kernel
theorem dC_X6_init_18 : decode cX6_init 18 = .ok (.return_, 1) := by decide +kernel
theorem dC_X2_init_0 : decode cX2_init 0 = .ok (.aload_n 0, 1) := by decide +kernel
theorem dC_X2_init_1 : decode cX2_init 1 = .ok (.invokespecial 3, 3) := by decide +kernel
theorem dC_X2_init_4 : decode cX2_init 4 = .ok (.aload_n 0, 1) := by decide +kernel
theorem dC_X2_init_5 : decode cX2_init 5 = .ok (.bipush 10, 2) := by decide +kernel
theorem dC_X2_init_7 : decode cX2_init 7 = .ok (.newarray .int, 2) := by decide +kernel
theorem dC_X2_init_9 : decode cX2_init 9 = .ok (.putfield 9, 3) := by decide +kernel
theorem dC_X2_init_12 : decode cX2_init 12 = .ok (.aload_n 0, 1) := by decide +kernel
theorem dC_X2_init_13 : decode cX2_init 13 = .ok (.bipush 10, 2) := by decide +kernel
theorem dC_X2_init_15 : decode cX2_init 15 = .ok (.newarray .int, 2) := by decide +kernel
theorem dC_X2_init_17 : decode cX2_init 17 = .ok (.putfield 15, 3) := by decide +kernel
theorem dC_X2_init_20 : decode cX2_init 20 = .ok (.aload_n 0, 1) := by decide +kernel
theorem dC_X2_init_21 : decode cX2_init 21 = .ok (.aload_n 1, 1) := by decide +kernel
theorem dC_X2_init_22 : decode cX2_init 22 = .ok (.putfield 18, 3) := by decide +kernel
theorem dC_X2_init_25 : decode cX2_init 25 = .ok (.return_, 1) := by decide +kernel
theorem dC_X3_init_0 : decode cX3_init 0 = .ok (.aload_n 0, 1) := by decide +kernel
theorem dC_X3_init_1 : decode cX3_init 1 = .ok (.invokespecial 3, 3) := by decide +kernel
theorem dC_X3_init_4 : decode cX3_init 4 = .ok (.aload_n 0, 1) := by decide +kernel
theorem dC_X3_init_5 : decode cX3_init 5 = .ok (.iconst 2, 1) := by decide +kernel
theorem dC_X3_init_6 : decode cX3_init 6 = .ok (.newarray .int, 2) := by decide +kernel
theorem dC_X3_init_8 : decode cX3_init 8 = .ok (.putfield 9, 3) := by decide +kernel
theorem dC_X3_init_11 : decode cX3_init 11 = .ok (.aload_n 0, 1) := by decide +kernel
theorem dC_X3_init_12 : decode cX3_init 12 = .ok (.bipush 24, 2) := by decide +kernel
theorem dC_X3_init_14 : decode cX3_init 14 = .ok (.newarray .int, 2) := by decide +kernel
theorem dC_X3_init_16 : decode cX3_init 16 = .ok (.putfield 15, 3) := by decide +kernel
theorem dC_X3_init_19 : decode cX3_init 19 = .ok (.aload_n 0, 1) := by decide +kernel
theorem dC_X3_init_20 : decode cX3_init 20 = .ok (.aload_n 1, 1) := by decide +kernel
theorem dC_X3_init_21 : decode cX3_init 21 = .ok (.putfield 18, 3) := by decide +kernel
theorem dC_X3_init_24 : decode cX3_init 24 = .ok (.aload_n 0, 1) := by decide +kernel
theorem dC_X3_init_25 : decode cX3_init 25 = .ok (.aload_n 2, 1) := by decide +kernel
theorem dC_X3_init_26 : decode cX3_init 26 = .ok (.putfield 22, 3) := by decide +kernel
theorem dC_X3_init_29 : decode cX3_init 29 = .ok (.return_, 1) := by decide +kernel
theorem dC_X11_init_0 : decode cX11_init 0 = .ok (.aload_n 0, 1) := by decide +kernel
theorem dC_X11_init_1 : decode cX11_init 1 = .ok (.invokespecial 1, 3) := by decide +kernel
theorem dC_X11_init_4 : decode cX11_init 4 = .ok (.aload_n 0, 1) := by decide +kernel
theorem dC_X11_init_5 : decode cX11_init 5 = .ok (.new 7, 3) := by decide +kernel
theorem dC_X11_init_8 : decode cX11_init 8 = .ok (.dup, 1) := by decide +kernel
theorem dC_X11_init_9 : decode cX11_init 9 = .ok (.invokespecial 9, 3) := by decide +kernel
theorem dC_X11_init_12 : decode cX11_init 12 = .ok (.putfield 10, 3) := by decide +kernel
theorem dC_X11_init_15 : decode cX11_init 15 = .ok (.aload_n 0, 1) := by decide +kernel
theorem dC_X11_init_16 : decode cX11_init 16 = .ok (.new 16, 3) := by decide +kernel
theorem dC_X11_init_19 : decode cX11_init 19 = .ok (.dup, 1) := by decide +kernel
theorem dC_X11_init_20 : decode cX11_init 20 = .ok (.invokespecial 18, 3) := by decide +kernel
theorem dC_X11_init_23 : decode cX11_init 23 = .ok (.putfield 19, 3) := by decide +kernel
theorem dC_X11_init_26 : decode cX11_init 26 = .ok (.aload_n 0, 1) := by decide +kernel
theorem dC_X11_init_27 : decode cX11_init 27 = .ok (.new 23, 3) := by decide +kernel
theorem dC_X11_init_30 : decode cX11_init 30 = .ok (.dup, 1) := by decide +kernel
theorem dC_X11_init_31 : decode cX11_init 31 = .ok (.aload_n 0, 1) := by decide +kernel
theorem dC_X11_init_32 : decode cX11_init 32 = .ok (.getfield 19, 3) := by decide +kernel
theorem dC_X11_init_35 : decode cX11_init 35 = .ok (.invokespecial 25, 3) := by decide +kernel
theorem dC_X11_init_38 : decode cX11_init 38 = .ok (.putfield 28, 3) := by decide +kernel
theorem dC_X11_init_41 : decode cX11_init 41 = .ok (.aload_n 0, 1) := by decide +kernel
theorem dC_X11_init_42 : decode cX11_init 42 = .ok (.new 32, 3) := by decide +kernel
theorem dC_X11_init_45 : decode cX11_init 45 = .ok (.dup, 1) := by decide +kernel
theorem dC_X11_init_46 : decode cX11_init 46 = .ok (.aload_n 0, 1) := by decide +kernel
theorem dC_X11_init_47 : decode cX11_init 47 = .ok (.getfield 10, 3) := by decide +kernel
theorem dC_X11_init_50 : decode cX11_init 50 = .ok (.invokespecial 34, 3) := by decide +kernel
theorem dC_X11_init_53 : decode cX11_init 53 = .ok (.putfield 37, 3) := by decide +kernel
theorem dC_X11_init_56 : decode cX11_init 56 = .ok (.aload_n 0, 1) := by decide +kernel
theorem dC_X11_init_57 : decode cX11_init 57 = .ok (.new 41, 3) := by decide +kernel
theorem dC_X11_init_60 : decode cX11_init 60 = .ok (.dup, 1) := by decide +kernel
theorem dC_X11_init_61 : decode cX11_init 61 = .ok (.aload_n 0, 1) := by decide +kernel
theorem dC_X11_init_62 : decode cX11_init 62 = .ok (.getfield 10, 3) := by decide +kernel
theorem dC_X11_init_65 : decode cX11_init 65 = .ok (.invokespecial 43, 3) := by decide +kernel
theorem dC_X11_init_68 : decode cX11_init 68 = .ok (.putfield 44, 3) := by decide +kernel
theorem dC_X11_init_71 : decode cX11_init 71 = .ok (.aload_n 0, 1) := by decide +kernel
theorem dC_X11_init_72 : decode cX11_init 72 = .ok (.new 48, 3) := by decide +kernel
theorem dC_X11_init_75 : decode cX11_init 75 = .ok (.dup, 1) := by decide +kernel
theorem dC_X11_init_76 : decode cX11_init 76 = .ok (.aload_n 0, 1) := by decide +kernel
theorem dC_X11_init_77 : decode cX11_init 77 = .ok (.getfield 10, 3) := by decide +kernel
theorem dC_X11_init_80 : decode cX11_init 80 = .ok (.invokespecial 50, 3) := by decide +kernel
theorem dC_X11_init_83 : decode cX11_init 83 = .ok (.putfield 51, 3) := by decide +kernel
theorem dC_X11_init_86 : decode cX11_init 86 = .ok (.aload_n 0, 1) := by decide +kernel
theorem dC_X11_init_87 : decode cX11_init 87 = .ok (.new 55, 3) := by decide +kernel
theorem dC_X11_init_90 : decode cX11_init 90 = .ok (.dup, 1) := by decide +kernel
theorem dC_X11_init_91 : decode cX11_init 91 = .ok (.aload_n 0, 1) := by decide +kernel
theorem dC_X11_init_92 : decode cX11_init 92 = .ok (.getfield 10, 3) := by decide +kernel
theorem dC_X11_init_95 : decode cX11_init 95 = .ok (.aload_n 0, 1) := by decide +kernel
theorem dC_X11_init_96 : decode cX11_init 96 = .ok (.getfield 51, 3) := by decide +kernel
theorem dC_X11_init_99 : decode cX11_init 99 = .ok (.invokespecial 57, 3) := by decide +kernel
theorem dC_X11_init_102 : decode cX11_init 102 = .ok (.putfield 60, 3) := by decide +kernel
theorem dC_X11_init_105 : decode cX11_init 105 = .ok (.aload_n 0, 1) := by decide +kernel
theorem dC_X11_init_106 : decode cX11_init 106 = .ok (.new 64, 3) := by decide +kernel
theorem dC_X11_init_109 : decode cX11_init 109 = .ok (.dup, 1) := by decide +kernel
theorem dC_X11_init_110 : decode cX11_init 110 = .ok (.aload_n 0, 1) := by decide +kernel
theorem dC_X11_init_111 : decode cX11_init 111 = .ok (.getfield 10, 3) := by decide +kernel
theorem dC_X11_init_114 : decode cX11_init 114 = .ok (.aload_n 0, 1) := by decide +kernel
theorem dC_X11_init_115 : decode cX11_init 115 = .ok (.getfield 51, 3) := by decide +kernel
theorem dC_X11_init_118 : decode cX11_init 118 = .ok (.invokespecial 66, 3) := by decide +kernel
theorem dC_X11_init_121 : decode cX11_init 121 = .ok (.putfield 67, 3) := by decide +kernel
theorem dC_X11_init_124 : decode cX11_init 124 = .ok (.aload_n 0, 1) := by decide +kernel
theorem dC_X11_init_125 : decode cX11_init 125 = .ok (.new 71, 3) := by decide +kernel
theorem dC_X11_init_128 : decode cX11_init 128 = .ok (.dup, 1) := by decide +kernel
theorem dC_X11_init_129 : decode cX11_init 129 = .ok (.aload_n 0, 1) := by decide +kernel
theorem dC_X11_init_130 : decode cX11_init 130 = .ok (.getfield 10, 3) := by decide +kernel
theorem dC_X11_init_133 : decode cX11_init 133 = .ok (.invokespecial 73, 3) := by decide +kernel
theorem dC_X11_init_136 : decode cX11_init 136 = .ok (.putfield 74, 3) := by decide +kernel
theorem dC_X11_init_139 : decode cX11_init 139 = .ok (.aload_n 0, 1) := by decide +kernel
theorem dC_X11_init_140 : decode cX11_init 140 = .ok (.new 78, 3) := by decide +kernel
theorem dC_X11_init_143 : decode cX11_init 143 = .ok (.dup, 1) := by decide +kernel
theorem dC_X11_init_144 : decode cX11_init 144 = .ok (.aload_n 0, 1) := by decide +kernel
theorem dC_X11_init_145 : decode cX11_init 145 = .ok (.getfield 10, 3) := by decide +kernel
theorem dC_X11_init_148 : decode cX11_init 148 = .ok (.invokespecial 80, 3) := by decide +kernel
theorem dC_X11_init_151 : decode cX11_init 151 = .ok (.putfield 81, 3) := by decide +kernel
theorem dC_X11_init_154 : decode cX11_init 154 = .ok (.aload_n 0, 1) := by decide +kernel
theorem dC_X11_init_155 : decode cX11_init 155 = .ok (.new 85, 3) := by decide +kernel
theorem dC_X11_init_158 : decode cX11_init 158 = .ok (.dup, 1) := by decide +kernel
theorem dC_X11_init_159 : decode cX11_init 159 = .ok (.aload_n 0, 1) := by decide +kernel
theorem dC_X11_init_160 : decode cX11_init 160 = .ok (.getfield 10, 3) := by decide +kernel
theorem dC_X11_init_163 : decode cX11_init 163 = .ok (.aload_n 0, 1) := by decide +kernel
theorem dC_X11_init_164 : decode cX11_init 164 = .ok (.getfield 19, 3) := by decide +kernel
theorem dC_X11_init_167 : decode cX11_init 167 = .ok (.invokespecial 87, 3) := by decide +kernel
theorem dC_X11_init_170 : decode cX11_init 170 = .ok (.putfield 90, 3) := by decide +kernel
theorem dC_X11_init_173 : decode cX11_init 173 = .ok (.aload_n 0, 1) := by decide +kernel
theorem dC_X11_init_174 : decode cX11_init 174 = .ok (.iconst 2, 1) := by decide +kernel
theorem dC_X11_init_175 : decode cX11_init 175 = .ok (.anewarray 7, 3) := by decide +kernel
theorem dC_X11_init_178 : decode cX11_init 178 = .ok (.putfield 94, 3) := by decide +kernel
theorem dC_X11_init_181 : decode cX11_init 181 = .ok (.return_, 1) := by decide +kernel
theorem kC_X5_init : zK yX5_init cX5_init 1 none 0 := ⟨qk_62, qk_28, by decide +kernel, by decide +kernel, by decide +kernel⟩
theorem kC_X10_init : zK yX10_init cX10_init 1 none 0 := ⟨qk_118, qk_29, by decide +kernel, by decide +kernel, by decide +kernel⟩
theorem kC_X9_init : zK yX9_init cX9_init 2 none 1 := ⟨qk_131, qk_30, by decide +kernel, by decide +kernel, by decide +kernel⟩
theorem kC_X0_init : zK yX0_init cX0_init 3 none 1 := ⟨qk_239, qk_35, by decide +kernel, by decide +kernel, by decide +kernel⟩
theorem kC_X1_init : zK yX1_init cX1_init 2 none 1 := ⟨qk_261, qk_36, by decide +kernel, by decide +kernel, by decide +kernel⟩
theorem kC_X8_init : zK yX8_init cX8_init 3 none 1 := ⟨qk_304, qk_37, by decide +kernel, by decide +kernel, by decide +kernel⟩
theorem kC_X4_init : zK yX4_init cX4_init 3 none 2 := ⟨qk_332, qk_38, by decide +kernel, by decide +kernel, by decide +kernel⟩
theorem kC_X7_init : zK yX7_init cX7_init 3 none 2 := ⟨qk_357, qk_39, by decide +kernel, by decide +kernel, by decide +kernel⟩
theorem kC_X6_init : zK yX6_init cX6_init 2 none 1 := ⟨qk_382, qk_40, by decide +kernel, by decide +kernel, by decide +kernel⟩
theorem kC_X2_init : zK yX2_init cX2_init 2 none 1 := ⟨qk_395, qk_41, by decide +kernel, by decide +kernel, by decide +kernel⟩
theorem kC_X3_init : zK yX3_init cX3_init 3 none 2 := ⟨qk_411, qk_42, by decide +kernel, by decide +kernel, by decide +kernel⟩
theorem kC_X11_init : zK yX11_init cX11_init 1 none 0 := ⟨qk_54, qk_27, by decide +kernel, by decide +kernel, by decide +kernel⟩
