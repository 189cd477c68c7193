-- needs: 16.str
def wI_X5_init (g : ZG) (h : Nat) (q : Nat → Nat) : va_W := ((h, .inr (5, [.ref (q 0), .ref (q 1), .ref (q 2), .ref (q 3), .int 0, .int 0, .int (zI 2), .int 0, .int 0])) :: ([((q 0), .inl (g.2.1 0, 24, .inl (wi (fun _ => 0))))] ++ [((q 1), .inl (g.2.1 0, 24, .inl (wi (fun _ => 0))))] ++ [((q 2), .inl (g.2.1 0, 24, .inl (wi (fun _ => 0))))] ++ [((q 3), .inl (g.2.1 0, 24, .inl (wi (fun _ => 0))))]))
def zC_X5_init : Room := { frames := 1, cells := 4, slots := 96, locals := 20 }
def wI_X10_init (g : ZG) (h : Nat) (q : Nat → Nat) : va_W := ((h, .inr (10, [.ref (q 0), .int 0])) :: ([((q 0), .inl (g.2.1 0, 640, .inl (wi (fun _ => 0))))]))
def zC_X10_init : Room := { frames := 1, cells := 1, slots := 640, locals := 20 }
def wI_X9_init (g : ZG) (h a1 : Nat) (q : Nat → Nat) : va_W := ((h, .inr (9, [.ref a1, .ref (q 0), .ref (q 5), .long (zJ 8805260), .long (zJ 243140), .long (zJ 2549435302), .int 0, .int 0, .int 0, .int 0, .long 0, .int 0, .int 0])) :: (wI_X5_init g (q 0) (fun i => q (1 + i)) ++ [((q 5), .inl (g.2.1 1, 10, .inr (.inl (wj (fun _ => 0)))))]))
def zC_X9_init : Room := { frames := 5, cells := 6, slots := 115, locals := 193 }
def wI_X0_init (g : ZG) (h a1 : Nat) (q : Nat → Nat) : va_W := ((h, .inr (0, [.ref a1, .ref (q 0), .int 0, .int 0])) :: ([((q 0), .inl (g.2.1 3, 9, .inr (.inr (.inr (.inr (va_up (va_up (va_up (va_up (va_up (va_up (va_up (va_up (va_up (fun _ => none) 0 (some (q 1))) 1 (some (q 6))) 2 (some (q 11))) 3 (some (q 16))) 4 (some (q 21))) 5 (some (q 26))) 6 (some (q 31))) 7 (some (q 36))) 8 (some (q 41))))))))] ++ wI_X5_init g (q 1) (fun i => q (2 + i)) ++ wI_X5_init g (q 6) (fun i => q (7 + i)) ++ wI_X5_init g (q 11) (fun i => q (12 + i)) ++ wI_X5_init g (q 16) (fun i => q (17 + i)) ++ wI_X5_init g (q 21) (fun i => q (22 + i)) ++ wI_X5_init g (q 26) (fun i => q (27 + i)) ++ wI_X5_init g (q 31) (fun i => q (32 + i)) ++ wI_X5_init g (q 36) (fun i => q (37 + i)) ++ wI_X5_init g (q 41) (fun i => q (42 + i))))
def zC_X0_init : Room := { frames := 2, cells := 46, slots := 954, locals := 40 }
def wI_X1_init (g : ZG) (h a1 : Nat) (q : Nat → Nat) : va_W := ((h, .inr (1, [.ref a1, .ref (q 0), .ref (q 1), .ref (q 2), .ref (q 3), .ref (q 4), .int 0, .int 0, .ref (q 5), .ref (q 6), .int 0, .int 0])) :: ([((q 0), .inl (g.2.1 0, 10, .inl (wi (fun _ => 0))))] ++ [((q 1), .inl (g.2.1 0, 24, .inl (wi (fun _ => 0))))] ++ [((q 2), .inl (g.2.1 0, 24, .inl (wi (fun _ => 0))))] ++ [((q 3), .inl (g.2.1 0, 24, .inl (wi (fun _ => 0))))] ++ [((q 4), .inl (g.2.1 0, 24, .inl (wi (fun _ => 0))))] ++ [((q 5), .inl (g.2.1 0, 24, .inl (wi (fun _ => 0))))] ++ [((q 6), .inl (g.2.1 0, 24, .inl (wi (fun _ => 0))))]))
def zC_X1_init : Room := { frames := 1, cells := 7, slots := 154, locals := 20 }
def wI_X8_init (g : ZG) (h a1 : Nat) (q : Nat → Nat) : va_W := ((h, .inr (8, [.ref a1, .ref (q 0), .ref (q 1), .ref (q 2), .int 0, .int 0, .int 0])) :: ([((q 0), .inl (g.2.1 0, 1024, .inl (wi (fun _ => 0))))] ++ [((q 1), .inl (g.2.1 0, 1024, .inl (wi (fun _ => 0))))] ++ [((q 2), .inl (g.2.1 0, 10, .inl (wi (up (up (up (up (up (up (up (up (up (up (fun _ => 0) 0 0) 1 1) 2 2) 3 3) 4 4) 5 5) 6 6) 7 7) 8 8) 9 9))))]))
def zC_X8_init : Room := { frames := 1, cells := 3, slots := 2058, locals := 20 }
def wI_X4_init (g : ZG) (h a1 a2 : Nat) (q : Nat → Nat) : va_W := ((h, .inr (4, [.ref a1, .ref a2, .ref (q 0), .ref (q 1), .ref (q 2), .ref (q 3)])) :: ([((q 0), .inl (g.2.1 0, 10, .inl (wi (fun _ => 0))))] ++ [((q 1), .inl (g.2.1 0, 10, .inl (wi (fun _ => 0))))] ++ [((q 2), .inl (g.2.1 0, 10, .inl (wi (fun _ => 0))))] ++ [((q 3), .inl (g.2.1 0, 10, .inl (wi (fun _ => 0))))]))
def zC_X4_init : Room := { frames := 1, cells := 4, slots := 40, locals := 20 }
def wI_X7_init (g : ZG) (h a1 a2 : Nat) (q : Nat → Nat) : va_W := ((h, .inr (7, [.ref a1, .ref a2, .ref (q 0), .ref (q 1), .int 0, .int 0])) :: ([((q 0), .inl (g.2.1 0, 1024, .inl (wi (fun _ => 0))))] ++ [((q 1), .inl (g.2.1 0, 1024, .inl (wi (fun _ => 0))))]))
def zC_X7_init : Room := { frames := 1, cells := 2, slots := 2048, locals := 20 }
def wI_X6_init (g : ZG) (h a1 : Nat) (q : Nat → Nat) : va_W := ((h, .inr (6, [.ref a1, .ref (q 0)])) :: ([((q 0), .inl (g.2.1 0, 1024, .inl (wi (fun _ => 0))))]))
def zC_X6_init : Room := { frames := 1, cells := 1, slots := 1024, locals := 20 }
def wI_X2_init (g : ZG) (h a1 : Nat) (q : Nat → Nat) : va_W := ((h, .inr (2, [.ref a1, .ref (q 0), .ref (q 1)])) :: ([((q 0), .inl (g.2.1 0, 10, .inl (wi (fun _ => 0))))] ++ [((q 1), .inl (g.2.1 0, 10, .inl (wi (fun _ => 0))))]))
def zC_X2_init : Room := { frames := 1, cells := 2, slots := 20, locals := 20 }
def wI_X3_init (g : ZG) (h a1 a2 : Nat) (q : Nat → Nat) : va_W := ((h, .inr (3, [.ref a1, .ref a2, .ref (q 0), .ref (q 1), .int 0, .int 0, .int 0])) :: ([((q 0), .inl (g.2.1 0, 2, .inl (wi (fun _ => 0))))] ++ [((q 1), .inl (g.2.1 0, 24, .inl (wi (fun _ => 0))))]))
def zC_X3_init : Room := { frames := 1, cells := 2, slots := 26, locals := 20 }
def wI_X12_init (g : ZG) (h : Nat) (q : Nat → Nat) : va_W := [(h, .inr (12, [.int 0, .ref (q 0), .int 0, .int 0, .int 0, .int 0, .int 0, .int 0, .int 0, .int 0, .long 0, .int 0, .ref (q 1), .ref (q 2), .ref (q 3), .ref (q 4), .ref (q 5), .ref (q 6), .ref (q 7), .ref (q 8), .int 0, .ref (q 9), .ref (q 10), .ref (q 11), .ref (q 12), .int 0, .int 0, .ref (q 13), .int 0, .int 0, .ref (q 14), .ref (q 15), .int 0, .ref (q 16), .ref (q 17), .ref (q 18), .ref (q 19), .int 0, .int 0, .ref (q 20), .int 0, .int 0])), ((q 0), .inl (g.2.1 0, 640, .inl (wi (fun _ => 0)))), ((q 1), .inl (g.2.1 0, 147, .inl (wi (up (fun _ => 0) 2 2)))), ((q 2), .inl (g.2.1 0, 147, .inl (wi (fun _ => 0)))), ((q 3), .inl (g.2.1 0, 294, .inl (wi (fun _ => 0)))), ((q 4), .inl (g.2.1 0, 1176, .inl (wi (fun _ => 0)))), ((q 5), .inl (g.2.1 0, 147, .inl (wi (fun _ => 0)))), ((q 6), .inl (g.2.1 0, 147, .inl (wi (fun _ => 0)))), ((q 7), .inl (g.2.1 1, 10, .inr (.inl (wj (fun _ => 0))))), ((q 8), .inl (g.2.1 2, 2, .inl (wi (fun _ => 0)))), ((q 9), .inl (g.2.1 0, 24, .inl (wi (fun _ => 0)))), ((q 10), .inl (g.2.1 0, 120, .inl (wi (fun _ => 0)))), ((q 11), .inl (g.2.1 0, 24, .inl (wi (fun _ => 0)))), ((q 12), .inl (g.2.1 0, 24, .inl (wi (fun _ => 0)))), ((q 13), .inl (g.2.1 0, 48, .inl (wi (fun _ => 0)))), ((q 14), .inl (g.2.1 0, 10, .inl (wi (fun _ => 0)))), ((q 15), .inl (g.2.1 0, 24, .inl (wi (fun _ => 0)))), ((q 16), .inl (g.2.1 0, 2, .inl (wi (fun _ => 0)))), ((q 17), .inl (g.2.1 0, 3, .inl (wi (fun _ => 0)))), ((q 18), .inl (g.2.1 0, 10, .inl (wi (fun _ => 0)))), ((q 19), .inl (g.2.1 0, 10, .inl (wi (fun _ => 0)))), ((q 20), .inl (g.2.1 0, 30, .inl (wi (fun _ => 0))))]
def zC_X12_init : Room := { frames := 1, cells := 21, slots := 3039, locals := 20 }
def wI_X11_init (g : ZG) (h : Nat) (q : Nat → Nat) : va_W := ((h, .inr (11, [.ref (q 0), .ref (q 5), .ref (q 7), .ref (q 14), .ref (q 61), .ref (q 69), .ref (q 73), .ref (q 78), .ref (q 81), .ref (q 83), .ref (q 86), .ref (q 89), .int 0])) :: (wI_X5_init g (q 0) (fun i => q (1 + i)) ++ wI_X10_init g (q 5) (fun i => q (6 + i)) ++ wI_X9_init g (q 7) (q 5) (fun i => q (8 + i)) ++ wI_X0_init g (q 14) (q 0) (fun i => q (15 + i)) ++ wI_X1_init g (q 61) (q 0) (fun i => q (62 + i)) ++ wI_X8_init g (q 69) (q 0) (fun i => q (70 + i)) ++ wI_X4_init g (q 73) (q 0) (q 69) (fun i => q (74 + i)) ++ wI_X7_init g (q 78) (q 0) (q 69) (fun i => q (79 + i)) ++ wI_X6_init g (q 81) (q 0) (fun i => q (82 + i)) ++ wI_X2_init g (q 83) (q 0) (fun i => q (84 + i)) ++ wI_X3_init g (q 86) (q 0) (q 5) (fun i => q (87 + i)) ++ [((q 89), .inl (g.2.1 3, 2, .inr (.inr (.inr (.inr (fun _ => none))))))]))
def zC_X11_init : Room := { frames := 6, cells := 90, slots := 7248, locals := 214 }
theorem qk_112 : Cond.initialized "ForestPacks" ∈ zT := zin 112 (by decide +kernel) (by decide +kernel)
theorem qk_113 : Cond.initialized "ForestPacks$Net" ∈ zT := zin 113 (by decide +kernel) (by decide +kernel)
theorem qk_114 : Cond.initialized "ForestPacks$Tape" ∈ zT := zin 114 (by decide +kernel) (by decide +kernel)
theorem qk_115 : Cond.initialized "ForestPacks$Reader" ∈ zT := zin 115 (by decide +kernel) (by decide +kernel)
theorem qk_120 : Cond.initialized "ForestPacks$Acts" ∈ zT := zin 120 (by decide +kernel) (by decide +kernel)
theorem qk_121 : Cond.initialized "ForestPacks$Chains" ∈ zT := zin 121 (by decide +kernel) (by decide +kernel)
theorem qk_122 : Cond.initialized "ForestPacks$PointSets" ∈ zT := zin 122 (by decide +kernel) (by decide +kernel)
theorem qk_123 : Cond.initialized "ForestPacks$Layers" ∈ zT := zin 123 (by decide +kernel) (by decide +kernel)
theorem qk_124 : Cond.initialized "ForestPacks$Partings" ∈ zT := zin 124 (by decide +kernel) (by decide +kernel)
theorem qk_125 : Cond.initialized "ForestPacks$OutTrees" ∈ zT := zin 125 (by decide +kernel) (by decide +kernel)
theorem qk_126 : Cond.initialized "ForestPacks$Easing" ∈ zT := zin 126 (by decide +kernel) (by decide +kernel)
theorem qk_127 : Cond.initialized "ForestPacks$Game" ∈ zT := zin 127 (by decide +kernel) (by decide +kernel)
theorem qk_128 : Cond.initialized "ForestPacksModel" ∈ zT := zin 128 (by decide +kernel) (by decide +kernel)
theorem qk_140 : Cond.code yX11_init prog_1_method_1_code 1 none ∈ zT := zin 140 (by decide +kernel) (by decide +kernel)
theorem qk_141 : Cond.methodLink "ForestPacks" 1 Lib.objectInit ∈ zT := zin 141 (by decide +kernel) (by decide +kernel)
theorem qk_142 : Cond.instanceMethod Lib.objectInit ∈ zT := zin 142 (by decide +kernel) (by decide +kernel)
theorem qk_143 : Cond.code Lib.objectInit ⟨#[0xb1]⟩ 1 none ∈ zT := zin 143 (by decide +kernel) (by decide +kernel)
theorem qk_144 : Cond.classLink "ForestPacks" 7 "ForestPacks$Net" ∈ zT := zin 144 (by decide +kernel) (by decide +kernel)
theorem qk_145 : Cond.instantiable "ForestPacks$Net" 9 ∈ zT := zin 145 (by decide +kernel) (by decide +kernel)
theorem qk_147 : Cond.instanceMethod yX5_init ∈ zT := zin 147 (by decide +kernel) (by decide +kernel)
theorem qk_148 : Cond.code yX5_init prog_7_method_1_code 1 none ∈ zT := zin 148 (by decide +kernel) (by decide +kernel)
theorem qk_149 : Cond.methodLink "ForestPacks$Net" 3 Lib.objectInit ∈ zT := zin 149 (by decide +kernel) (by decide +kernel)
theorem qk_150 : Cond.fieldLink "ForestPacks$Net" 9 "ForestPacks$Net" "first" "[I" ∈ zT := zin 150 (by decide +kernel) (by decide +kernel)
theorem qk_156 : Cond.fieldLink "ForestPacks$Net" 15 "ForestPacks$Net" "second" "[I" ∈ zT := zin 156 (by decide +kernel) (by decide +kernel)
theorem qk_162 : Cond.fieldLink "ForestPacks$Net" 18 "ForestPacks$Net" "weight" "[I" ∈ zT := zin 162 (by decide +kernel) (by decide +kernel)
theorem qk_165 : Cond.fieldLink "ForestPacks$Net" 21 "ForestPacks$Net" "home" "[I" ∈ zT := zin 165 (by decide +kernel) (by decide +kernel)
theorem qk_188 : Cond.fieldLink "ForestPacks$Net" 24 "ForestPacks$Net" "k" "I" ∈ zT := zin 188 (by decide +kernel) (by decide +kernel)
theorem qk_215 : Cond.arrayClass .int ∈ zT := zin 215 (by decide +kernel) (by decide +kernel)
theorem qk_216 : Cond.classLink "ForestPacks" 16 "ForestPacks$Tape" ∈ zT := zin 216 (by decide +kernel) (by decide +kernel)
theorem qk_217 : Cond.instantiable "ForestPacks$Tape" 2 ∈ zT := zin 217 (by decide +kernel) (by decide +kernel)
theorem qk_219 : Cond.instanceMethod yX10_init ∈ zT := zin 219 (by decide +kernel) (by decide +kernel)
theorem qk_220 : Cond.code yX10_init prog_12_method_1_code 1 none ∈ zT := zin 220 (by decide +kernel) (by decide +kernel)
theorem qk_221 : Cond.methodLink "ForestPacks$Tape" 3 Lib.objectInit ∈ zT := zin 221 (by decide +kernel) (by decide +kernel)
theorem qk_222 : Cond.fieldLink "ForestPacks$Tape" 11 "ForestPacks$Tape" "bytes" "[I" ∈ zT := zin 222 (by decide +kernel) (by decide +kernel)
theorem qk_229 : Cond.classLink "ForestPacks" 23 "ForestPacks$Reader" ∈ zT := zin 229 (by decide +kernel) (by decide +kernel)
theorem qk_230 : Cond.instantiable "ForestPacks$Reader" 13 ∈ zT := zin 230 (by decide +kernel) (by decide +kernel)
theorem qk_231 : Cond.methodLink "ForestPacks" 25 yX9_init ∈ zT := zin 231 (by decide +kernel) (by decide +kernel)
theorem qk_232 : Cond.instanceMethod yX9_init ∈ zT := zin 232 (by decide +kernel) (by decide +kernel)
theorem qk_233 : Cond.code yX9_init prog_11_method_1_code 2 none ∈ zT := zin 233 (by decide +kernel) (by decide +kernel)
theorem qk_234 : Cond.methodLink "ForestPacks$Reader" 3 Lib.objectInit ∈ zT := zin 234 (by decide +kernel) (by decide +kernel)
theorem qk_235 : Cond.classLink "ForestPacks$Reader" 9 "ForestPacks$Net" ∈ zT := zin 235 (by decide +kernel) (by decide +kernel)
theorem qk_238 : Cond.methodLink "ForestPacks$Reader" 24 yX9_codeOf ∈ zT := zin 238 (by decide +kernel) (by decide +kernel)
theorem qk_239 : Cond.static yX9_codeOf ∈ zT := zin 239 (by decide +kernel) (by decide +kernel)
theorem qk_295 : Cond.fieldLink "ForestPacks$Reader" 42 "ForestPacks$Reader" "tape" "LForestPacks$Tape;" ∈ zT := zin 295 (by decide +kernel) (by decide +kernel)
theorem qk_296 : Cond.fieldLink "ForestPacks$Reader" 12 "ForestPacks$Reader" "fresh" "LForestPacks$Net;" ∈ zT := zin 296 (by decide +kernel) (by decide +kernel)
theorem qk_297 : Cond.fieldLink "ForestPacks$Reader" 18 "ForestPacks$Reader" "names" "[J" ∈ zT := zin 297 (by decide +kernel) (by decide +kernel)
theorem qk_298 : Cond.fieldLink "ForestPacks$Reader" 28 "ForestPacks$Reader" "pointWord" "J" ∈ zT := zin 298 (by decide +kernel) (by decide +kernel)
theorem qk_299 : Cond.fieldLink "ForestPacks$Reader" 34 "ForestPacks$Reader" "lineWord" "J" ∈ zT := zin 299 (by decide +kernel) (by decide +kernel)
theorem qk_300 : Cond.fieldLink "ForestPacks$Reader" 39 "ForestPacks$Reader" "forestsWord" "J" ∈ zT := zin 300 (by decide +kernel) (by decide +kernel)
theorem qk_335 : Cond.arrayClass .long ∈ zT := zin 335 (by decide +kernel) (by decide +kernel)
theorem qk_337 : Cond.classLink "ForestPacks" 32 "ForestPacks$Acts" ∈ zT := zin 337 (by decide +kernel) (by decide +kernel)
theorem qk_338 : Cond.instantiable "ForestPacks$Acts" 4 ∈ zT := zin 338 (by decide +kernel) (by decide +kernel)
theorem qk_339 : Cond.methodLink "ForestPacks" 34 yX0_init ∈ zT := zin 339 (by decide +kernel) (by decide +kernel)
theorem qk_340 : Cond.instanceMethod yX0_init ∈ zT := zin 340 (by decide +kernel) (by decide +kernel)
theorem qk_341 : Cond.code yX0_init prog_2_method_1_code 3 none ∈ zT := zin 341 (by decide +kernel) (by decide +kernel)
theorem qk_342 : Cond.methodLink "ForestPacks$Acts" 1 Lib.objectInit ∈ zT := zin 342 (by decide +kernel) (by decide +kernel)
theorem qk_343 : Cond.classLink "ForestPacks$Acts" 9 "ForestPacks$Net" ∈ zT := zin 343 (by decide +kernel) (by decide +kernel)
theorem qk_346 : Cond.fieldLink "ForestPacks$Acts" 15 "ForestPacks$Acts" "net" "LForestPacks$Net;" ∈ zT := zin 346 (by decide +kernel) (by decide +kernel)
theorem qk_347 : Cond.fieldLink "ForestPacks$Acts" 11 "ForestPacks$Acts" "kept" "[LForestPacks$Net;" ∈ zT := zin 347 (by decide +kernel) (by decide +kernel)
theorem qk_359 : Cond.classLink "ForestPacks" 41 "ForestPacks$Chains" ∈ zT := zin 359 (by decide +kernel) (by decide +kernel)
theorem qk_360 : Cond.instantiable "ForestPacks$Chains" 12 ∈ zT := zin 360 (by decide +kernel) (by decide +kernel)
theorem qk_361 : Cond.methodLink "ForestPacks" 43 yX1_init ∈ zT := zin 361 (by decide +kernel) (by decide +kernel)
theorem qk_362 : Cond.instanceMethod yX1_init ∈ zT := zin 362 (by decide +kernel) (by decide +kernel)
theorem qk_363 : Cond.code yX1_init prog_3_method_1_code 2 none ∈ zT := zin 363 (by decide +kernel) (by decide +kernel)
theorem qk_364 : Cond.methodLink "ForestPacks$Chains" 3 Lib.objectInit ∈ zT := zin 364 (by decide +kernel) (by decide +kernel)
theorem qk_365 : Cond.fieldLink "ForestPacks$Chains" 33 "ForestPacks$Chains" "net" "LForestPacks$Net;" ∈ zT := zin 365 (by decide +kernel) (by decide +kernel)
theorem qk_366 : Cond.fieldLink "ForestPacks$Chains" 9 "ForestPacks$Chains" "wayTo" "[I" ∈ zT := zin 366 (by decide +kernel) (by decide +kernel)
theorem qk_367 : Cond.fieldLink "ForestPacks$Chains" 15 "ForestPacks$Chains" "queue" "[I" ∈ zT := zin 367 (by decide +kernel) (by decide +kernel)
theorem qk_368 : Cond.fieldLink "ForestPacks$Chains" 18 "ForestPacks$Chains" "ledBy" "[I" ∈ zT := zin 368 (by decide +kernel) (by decide +kernel)
theorem qk_369 : Cond.fieldLink "ForestPacks$Chains" 21 "ForestPacks$Chains" "step" "[I" ∈ zT := zin 369 (by decide +kernel) (by decide +kernel)
theorem qk_370 : Cond.fieldLink "ForestPacks$Chains" 24 "ForestPacks$Chains" "into" "[I" ∈ zT := zin 370 (by decide +kernel) (by decide +kernel)
theorem qk_373 : Cond.fieldLink "ForestPacks$Chains" 27 "ForestPacks$Chains" "toldStep" "[I" ∈ zT := zin 373 (by decide +kernel) (by decide +kernel)
theorem qk_374 : Cond.fieldLink "ForestPacks$Chains" 30 "ForestPacks$Chains" "toldInto" "[I" ∈ zT := zin 374 (by decide +kernel) (by decide +kernel)
theorem qk_402 : Cond.classLink "ForestPacks" 48 "ForestPacks$PointSets" ∈ zT := zin 402 (by decide +kernel) (by decide +kernel)
theorem qk_403 : Cond.instantiable "ForestPacks$PointSets" 7 ∈ zT := zin 403 (by decide +kernel) (by decide +kernel)
theorem qk_404 : Cond.methodLink "ForestPacks" 50 yX8_init ∈ zT := zin 404 (by decide +kernel) (by decide +kernel)
theorem qk_405 : Cond.instanceMethod yX8_init ∈ zT := zin 405 (by decide +kernel) (by decide +kernel)
theorem qk_406 : Cond.code yX8_init prog_10_method_1_code 3 none ∈ zT := zin 406 (by decide +kernel) (by decide +kernel)
theorem qk_407 : Cond.methodLink "ForestPacks$PointSets" 3 Lib.objectInit ∈ zT := zin 407 (by decide +kernel) (by decide +kernel)
theorem qk_408 : Cond.fieldLink "ForestPacks$PointSets" 21 "ForestPacks$PointSets" "net" "LForestPacks$Net;" ∈ zT := zin 408 (by decide +kernel) (by decide +kernel)
theorem qk_409 : Cond.fieldLink "ForestPacks$PointSets" 9 "ForestPacks$PointSets" "inner" "[I" ∈ zT := zin 409 (by decide +kernel) (by decide +kernel)
theorem qk_410 : Cond.fieldLink "ForestPacks$PointSets" 15 "ForestPacks$PointSets" "taken" "[I" ∈ zT := zin 410 (by decide +kernel) (by decide +kernel)
theorem qk_411 : Cond.fieldLink "ForestPacks$PointSets" 18 "ForestPacks$PointSets" "itself" "[I" ∈ zT := zin 411 (by decide +kernel) (by decide +kernel)
theorem qk_430 : Cond.classLink "ForestPacks" 55 "ForestPacks$Layers" ∈ zT := zin 430 (by decide +kernel) (by decide +kernel)
theorem qk_431 : Cond.instantiable "ForestPacks$Layers" 6 ∈ zT := zin 431 (by decide +kernel) (by decide +kernel)
theorem qk_432 : Cond.methodLink "ForestPacks" 57 yX4_init ∈ zT := zin 432 (by decide +kernel) (by decide +kernel)
theorem qk_433 : Cond.instanceMethod yX4_init ∈ zT := zin 433 (by decide +kernel) (by decide +kernel)
theorem qk_434 : Cond.code yX4_init prog_6_method_1_code 3 none ∈ zT := zin 434 (by decide +kernel) (by decide +kernel)
theorem qk_435 : Cond.methodLink "ForestPacks$Layers" 3 Lib.objectInit ∈ zT := zin 435 (by decide +kernel) (by decide +kernel)
theorem qk_436 : Cond.fieldLink "ForestPacks$Layers" 24 "ForestPacks$Layers" "net" "LForestPacks$Net;" ∈ zT := zin 436 (by decide +kernel) (by decide +kernel)
theorem qk_437 : Cond.fieldLink "ForestPacks$Layers" 28 "ForestPacks$Layers" "sets" "LForestPacks$PointSets;" ∈ zT := zin 437 (by decide +kernel) (by decide +kernel)
theorem qk_438 : Cond.fieldLink "ForestPacks$Layers" 9 "ForestPacks$Layers" "as" "[I" ∈ zT := zin 438 (by decide +kernel) (by decide +kernel)
theorem qk_439 : Cond.fieldLink "ForestPacks$Layers" 15 "ForestPacks$Layers" "above" "[I" ∈ zT := zin 439 (by decide +kernel) (by decide +kernel)
theorem qk_440 : Cond.fieldLink "ForestPacks$Layers" 18 "ForestPacks$Layers" "below" "[I" ∈ zT := zin 440 (by decide +kernel) (by decide +kernel)
theorem qk_441 : Cond.fieldLink "ForestPacks$Layers" 21 "ForestPacks$Layers" "melted" "[I" ∈ zT := zin 441 (by decide +kernel) (by decide +kernel)
theorem qk_455 : Cond.classLink "ForestPacks" 64 "ForestPacks$Partings" ∈ zT := zin 455 (by decide +kernel) (by decide +kernel)
theorem qk_456 : Cond.instantiable "ForestPacks$Partings" 6 ∈ zT := zin 456 (by decide +kernel) (by decide +kernel)
theorem qk_457 : Cond.methodLink "ForestPacks" 66 yX7_init ∈ zT := zin 457 (by decide +kernel) (by decide +kernel)
theorem qk_458 : Cond.instanceMethod yX7_init ∈ zT := zin 458 (by decide +kernel) (by decide +kernel)
theorem qk_459 : Cond.code yX7_init prog_9_method_1_code 3 none ∈ zT := zin 459 (by decide +kernel) (by decide +kernel)
theorem qk_460 : Cond.methodLink "ForestPacks$Partings" 3 Lib.objectInit ∈ zT := zin 460 (by decide +kernel) (by decide +kernel)
theorem qk_461 : Cond.fieldLink "ForestPacks$Partings" 18 "ForestPacks$Partings" "net" "LForestPacks$Net;" ∈ zT := zin 461 (by decide +kernel) (by decide +kernel)
theorem qk_462 : Cond.fieldLink "ForestPacks$Partings" 22 "ForestPacks$Partings" "sets" "LForestPacks$PointSets;" ∈ zT := zin 462 (by decide +kernel) (by decide +kernel)
theorem qk_463 : Cond.fieldLink "ForestPacks$Partings" 9 "ForestPacks$Partings" "inside" "[I" ∈ zT := zin 463 (by decide +kernel) (by decide +kernel)
theorem qk_464 : Cond.fieldLink "ForestPacks$Partings" 15 "ForestPacks$Partings" "insideNext" "[I" ∈ zT := zin 464 (by decide +kernel) (by decide +kernel)
theorem qk_480 : Cond.classLink "ForestPacks" 71 "ForestPacks$OutTrees" ∈ zT := zin 480 (by decide +kernel) (by decide +kernel)
theorem qk_481 : Cond.instantiable "ForestPacks$OutTrees" 2 ∈ zT := zin 481 (by decide +kernel) (by decide +kernel)
theorem qk_482 : Cond.methodLink "ForestPacks" 73 yX6_init ∈ zT := zin 482 (by decide +kernel) (by decide +kernel)
theorem qk_483 : Cond.instanceMethod yX6_init ∈ zT := zin 483 (by decide +kernel) (by decide +kernel)
theorem qk_484 : Cond.code yX6_init prog_8_method_1_code 2 none ∈ zT := zin 484 (by decide +kernel) (by decide +kernel)
theorem qk_485 : Cond.methodLink "ForestPacks$OutTrees" 3 Lib.objectInit ∈ zT := zin 485 (by decide +kernel) (by decide +kernel)
theorem qk_486 : Cond.fieldLink "ForestPacks$OutTrees" 15 "ForestPacks$OutTrees" "net" "LForestPacks$Net;" ∈ zT := zin 486 (by decide +kernel) (by decide +kernel)
theorem qk_487 : Cond.fieldLink "ForestPacks$OutTrees" 9 "ForestPacks$OutTrees" "entering" "[I" ∈ zT := zin 487 (by decide +kernel) (by decide +kernel)
theorem qk_493 : Cond.classLink "ForestPacks" 78 "ForestPacks$Easing" ∈ zT := zin 493 (by decide +kernel) (by decide +kernel)
theorem qk_494 : Cond.instantiable "ForestPacks$Easing" 3 ∈ zT := zin 494 (by decide +kernel) (by decide +kernel)
theorem qk_495 : Cond.methodLink "ForestPacks" 80 yX2_init ∈ zT := zin 495 (by decide +kernel) (by decide +kernel)
theorem qk_496 : Cond.instanceMethod yX2_init ∈ zT := zin 496 (by decide +kernel) (by decide +kernel)
theorem qk_497 : Cond.code yX2_init prog_4_method_1_code 2 none ∈ zT := zin 497 (by decide +kernel) (by decide +kernel)
theorem qk_498 : Cond.methodLink "ForestPacks$Easing" 3 Lib.objectInit ∈ zT := zin 498 (by decide +kernel) (by decide +kernel)
theorem qk_499 : Cond.fieldLink "ForestPacks$Easing" 18 "ForestPacks$Easing" "net" "LForestPacks$Net;" ∈ zT := zin 499 (by decide +kernel) (by decide +kernel)
theorem qk_500 : Cond.fieldLink "ForestPacks$Easing" 9 "ForestPacks$Easing" "queue" "[I" ∈ zT := zin 500 (by decide +kernel) (by decide +kernel)
theorem qk_501 : Cond.fieldLink "ForestPacks$Easing" 15 "ForestPacks$Easing" "wayTo" "[I" ∈ zT := zin 501 (by decide +kernel) (by decide +kernel)
theorem qk_509 : Cond.classLink "ForestPacks" 85 "ForestPacks$Game" ∈ zT := zin 509 (by decide +kernel) (by decide +kernel)
theorem qk_510 : Cond.instantiable "ForestPacks$Game" 7 ∈ zT := zin 510 (by decide +kernel) (by decide +kernel)
theorem qk_511 : Cond.methodLink "ForestPacks" 87 yX3_init ∈ zT := zin 511 (by decide +kernel) (by decide +kernel)
theorem qk_512 : Cond.instanceMethod yX3_init ∈ zT := zin 512 (by decide +kernel) (by decide +kernel)
theorem qk_513 : Cond.code yX3_init prog_5_method_1_code 3 none ∈ zT := zin 513 (by decide +kernel) (by decide +kernel)
theorem qk_514 : Cond.methodLink "ForestPacks$Game" 3 Lib.objectInit ∈ zT := zin 514 (by decide +kernel) (by decide +kernel)
theorem qk_515 : Cond.fieldLink "ForestPacks$Game" 18 "ForestPacks$Game" "net" "LForestPacks$Net;" ∈ zT := zin 515 (by decide +kernel) (by decide +kernel)
theorem qk_516 : Cond.fieldLink "ForestPacks$Game" 22 "ForestPacks$Game" "tape" "LForestPacks$Tape;" ∈ zT := zin 516 (by decide +kernel) (by decide +kernel)
theorem qk_517 : Cond.fieldLink "ForestPacks$Game" 9 "ForestPacks$Game" "forest" "[I" ∈ zT := zin 517 (by decide +kernel) (by decide +kernel)
theorem qk_518 : Cond.fieldLink "ForestPacks$Game" 15 "ForestPacks$Game" "told" "[I" ∈ zT := zin 518 (by decide +kernel) (by decide +kernel)
theorem qk_537 : Cond.fieldLink "ForestPacks" 10 "ForestPacks" "current" "LForestPacks$Net;" ∈ zT := zin 537 (by decide +kernel) (by decide +kernel)
theorem qk_538 : Cond.fieldLink "ForestPacks" 19 "ForestPacks" "tape" "LForestPacks$Tape;" ∈ zT := zin 538 (by decide +kernel) (by decide +kernel)
theorem qk_539 : Cond.fieldLink "ForestPacks" 28 "ForestPacks" "reader" "LForestPacks$Reader;" ∈ zT := zin 539 (by decide +kernel) (by decide +kernel)
theorem qk_540 : Cond.fieldLink "ForestPacks" 37 "ForestPacks" "acts" "LForestPacks$Acts;" ∈ zT := zin 540 (by decide +kernel) (by decide +kernel)
theorem qk_541 : Cond.fieldLink "ForestPacks" 44 "ForestPacks" "chains" "LForestPacks$Chains;" ∈ zT := zin 541 (by decide +kernel) (by decide +kernel)
theorem qk_542 : Cond.fieldLink "ForestPacks" 51 "ForestPacks" "sets" "LForestPacks$PointSets;" ∈ zT := zin 542 (by decide +kernel) (by decide +kernel)
theorem qk_543 : Cond.fieldLink "ForestPacks" 60 "ForestPacks" "melting" "LForestPacks$Layers;" ∈ zT := zin 543 (by decide +kernel) (by decide +kernel)
theorem qk_544 : Cond.fieldLink "ForestPacks" 67 "ForestPacks" "partings" "LForestPacks$Partings;" ∈ zT := zin 544 (by decide +kernel) (by decide +kernel)
theorem qk_545 : Cond.fieldLink "ForestPacks" 74 "ForestPacks" "outTrees" "LForestPacks$OutTrees;" ∈ zT := zin 545 (by decide +kernel) (by decide +kernel)
theorem qk_546 : Cond.fieldLink "ForestPacks" 81 "ForestPacks" "easing" "LForestPacks$Easing;" ∈ zT := zin 546 (by decide +kernel) (by decide +kernel)
theorem qk_547 : Cond.fieldLink "ForestPacks" 90 "ForestPacks" "play" "LForestPacks$Game;" ∈ zT := zin 547 (by decide +kernel) (by decide +kernel)
theorem qk_548 : Cond.fieldLink "ForestPacks" 94 "ForestPacks" "images" "[LForestPacks$Net;" ∈ zT := zin 548 (by decide +kernel) (by decide +kernel)
theorem qk_1359 : Cond.code yX12_init prog_14_method_22_code 1 none ∈ zT := zin 1359 (by decide +kernel) (by decide +kernel)
theorem qk_1360 : Cond.methodLink "ForestPacksModel" 94 Lib.objectInit ∈ zT := zin 1360 (by decide +kernel) (by decide +kernel)
theorem qk_1362 : Cond.fieldLink "ForestPacksModel" 11 "ForestPacksModel" "tape" "[I" ∈ zT := zin 1362 (by decide +kernel) (by decide +kernel)
theorem qk_1373 : Cond.fieldLink "ForestPacksModel" 99 "ForestPacksModel" "now" "[I" ∈ zT := zin 1373 (by decide +kernel) (by decide +kernel)
theorem qk_1374 : Cond.fieldLink "ForestPacksModel" 102 "ForestPacksModel" "read" "[I" ∈ zT := zin 1374 (by decide +kernel) (by decide +kernel)
theorem qk_1375 : Cond.fieldLink "ForestPacksModel" 105 "ForestPacksModel" "kept" "[I" ∈ zT := zin 1375 (by decide +kernel) (by decide +kernel)
theorem qk_1376 : Cond.fieldLink "ForestPacksModel" 108 "ForestPacksModel" "snaps" "[I" ∈ zT := zin 1376 (by decide +kernel) (by decide +kernel)
theorem qk_1377 : Cond.fieldLink "ForestPacksModel" 111 "ForestPacksModel" "before" "[I" ∈ zT := zin 1377 (by decide +kernel) (by decide +kernel)
theorem qk_1378 : Cond.fieldLink "ForestPacksModel" 114 "ForestPacksModel" "live" "[I" ∈ zT := zin 1378 (by decide +kernel) (by decide +kernel)
theorem qk_1379 : Cond.fieldLink "ForestPacksModel" 117 "ForestPacksModel" "names" "[J" ∈ zT := zin 1379 (by decide +kernel) (by decide +kernel)
theorem qk_1380 : Cond.fieldLink "ForestPacksModel" 121 "ForestPacksModel" "isKept" "[Z" ∈ zT := zin 1380 (by decide +kernel) (by decide +kernel)
theorem qk_1382 : Cond.fieldLink "ForestPacksModel" 125 "ForestPacksModel" "away" "[I" ∈ zT := zin 1382 (by decide +kernel) (by decide +kernel)
theorem qk_1383 : Cond.fieldLink "ForestPacksModel" 128 "ForestPacksModel" "ringOf" "[I" ∈ zT := zin 1383 (by decide +kernel) (by decide +kernel)
theorem qk_1384 : Cond.fieldLink "ForestPacksModel" 131 "ForestPacksModel" "row" "[I" ∈ zT := zin 1384 (by decide +kernel) (by decide +kernel)
theorem qk_1385 : Cond.fieldLink "ForestPacksModel" 134 "ForestPacksModel" "rowForest" "[I" ∈ zT := zin 1385 (by decide +kernel) (by decide +kernel)
theorem qk_1388 : Cond.fieldLink "ForestPacksModel" 137 "ForestPacksModel" "toldRow" "[I" ∈ zT := zin 1388 (by decide +kernel) (by decide +kernel)
theorem qk_1391 : Cond.fieldLink "ForestPacksModel" 140 "ForestPacksModel" "off" "[I" ∈ zT := zin 1391 (by decide +kernel) (by decide +kernel)
theorem qk_1392 : Cond.fieldLink "ForestPacksModel" 143 "ForestPacksModel" "keptRow" "[I" ∈ zT := zin 1392 (by decide +kernel) (by decide +kernel)
theorem qk_1394 : Cond.fieldLink "ForestPacksModel" 146 "ForestPacksModel" "gone" "[I" ∈ zT := zin 1394 (by decide +kernel) (by decide +kernel)
theorem qk_1395 : Cond.fieldLink "ForestPacksModel" 149 "ForestPacksModel" "found" "[I" ∈ zT := zin 1395 (by decide +kernel) (by decide +kernel)
theorem qk_1396 : Cond.fieldLink "ForestPacksModel" 152 "ForestPacksModel" "standsFor" "[I" ∈ zT := zin 1396 (by decide +kernel) (by decide +kernel)
theorem qk_1397 : Cond.fieldLink "ForestPacksModel" 155 "ForestPacksModel" "pieceOf" "[I" ∈ zT := zin 1397 (by decide +kernel) (by decide +kernel)
theorem qk_1400 : Cond.fieldLink "ForestPacksModel" 158 "ForestPacksModel" "layer" "[I" ∈ zT := zin 1400 (by decide +kernel) (by decide +kernel)
theorem qk_1488 : Cond.arrayClass .boolean ∈ zT := zin 1488 (by decide +kernel) (by decide +kernel)
theorem dC_X5_init_0 : decode cX5_init 0 = .ok (.aload_n 0, 1) := by decide +kernel
theorem dC_X5_init_1 : decode cX5_init 1 = .ok (.invokespecial 3, 3) := by decide +kernel
theorem dC_X5_init_4 : decode cX5_init 4 = .ok (.aload_n 0, 1) := by decide +kernel
theorem dC_X5_init_5 : decode cX5_init 5 = .ok (.bipush 24, 2) := by decide +kernel
theorem dC_X5_init_7 : decode cX5_init 7 = .ok (.newarray .int, 2) := by decide +kernel
theorem dC_X5_init_9 : decode cX5_init 9 = .ok (.putfield 9, 3) := by decide +kernel
theorem dC_X5_init_12 : decode cX5_init 12 = .ok (.aload_n 0, 1) := by decide +kernel
theorem dC_X5_init_13 : decode cX5_init 13 = .ok (.bipush 24, 2) := by decide +kernel
theorem dC_X5_init_15 : decode cX5_init 15 = .ok (.newarray .int, 2) := by decide +kernel
theorem dC_X5_init_17 : decode cX5_init 17 = .ok (.putfield 15, 3) := by decide +kernel
theorem dC_X5_init_20 : decode cX5_init 20 = .ok (.aload_n 0, 1) := by decide +kernel
theorem dC_X5_init_21 : decode cX5_init 21 = .ok (.bipush 24, 2) := by decide +kernel
theorem dC_X5_init_23 : decode cX5_init 23 = .ok (.newarray .int, 2) := by decide +kernel
theorem dC_X5_init_25 : decode cX5_init 25 = .ok (.putfield 18, 3) := by decide +kernel
theorem dC_X5_init_28 : decode cX5_init 28 = .ok (.aload_n 0, 1) := by decide +kernel
theorem dC_X5_init_29 : decode cX5_init 29 = .ok (.bipush 24, 2) := by decide +kernel
theorem dC_X5_init_31 : decode cX5_init 31 = .ok (.newarray .int, 2) := by decide +kernel
theorem dC_X5_init_33 : decode cX5_init 33 = .ok (.putfield 21, 3) := by decide +kernel
theorem dC_X5_init_36 : decode cX5_init 36 = .ok (.aload_n 0, 1) := by decide +kernel
theorem dC_X5_init_37 : decode cX5_init 37 = .ok (.iconst 2, 1) := by decide +kernel
theorem dC_X5_init_38 : decode cX5_init 38 = .ok (.putfield 24, 3) := by decide +kernel
theorem dC_X5_init_41 : decode cX5_init 41 = .ok (.return_, 1) := by decide +kernel
theorem dC_X10_init_0 : decode cX10_init 0 = .ok (.aload_n 0, 1) := by decide +kernel
theorem dC_X10_init_1 : decode cX10_init 1 = .ok (.invokespecial 3, 3) := by decide +kernel
theorem dC_X10_init_4 : decode cX10_init 4 = .ok (.aload_n 0, 1) := by decide +kernel
theorem dC_X10_init_5 : decode cX10_init 5 = .ok (.sipush 640, 3) := by decide +kernel
theorem dC_X10_init_8 : decode cX10_init 8 = .ok (.newarray .int, 2) := by decide +kernel
theorem dC_X10_init_10 : decode cX10_init 10 = .ok (.putfield 11, 3) := by decide +kernel
theorem dC_X10_init_13 : decode cX10_init 13 = .ok (.return_, 1) := by decide +kernel
theorem dC_X9_init_0 : decode cX9_init 0 = .ok (.aload_n 0, 1) := by decide +kernel
theorem dC_X9_init_1 : decode cX9_init 1 = .ok (.invokespecial 3, 3) := by decide +kernel
theorem dC_X9_init_4 : decode cX9_init 4 = .ok (.aload_n 0, 1) := by decide +kernel
theorem dC_X9_init_5 : decode cX9_init 5 = .ok (.new 9, 3) := by decide +kernel
theorem dC_X9_init_8 : decode cX9_init 8 = .ok (.dup, 1) := by decide +kernel
theorem dC_X9_init_9 : decode cX9_init 9 = .ok (.invokespecial 11, 3) := by decide +kernel
theorem dC_X9_init_12 : decode cX9_init 12 = .ok (.putfield 12, 3) := by decide +kernel
theorem dC_X9_init_15 : decode cX9_init 15 = .ok (.aload_n 0, 1) := by decide +kernel
theorem dC_X9_init_16 : decode cX9_init 16 = .ok (.bipush 10, 2) := by decide +kernel
theorem dC_X9_init_18 : decode cX9_init 18 = .ok (.newarray .long, 2) := by decide +kernel
theorem dC_X9_init_20 : decode cX9_init 20 = .ok (.putfield 18, 3) := by decide +kernel
theorem dC_X9_init_23 : decode cX9_init 23 = .ok (.aload_n 0, 1) := by decide +kernel
theorem dC_X9_init_24 : decode cX9_init 24 = .ok (.ldc 22, 2) := by decide +kernel
theorem dC_X9_init_26 : decode cX9_init 26 = .ok (.invokestatic 24, 3) := by decide +kernel
theorem dC_X9_init_29 : decode cX9_init 29 = .ok (.putfield 28, 3) := by decide +kernel
theorem dC_X9_init_32 : decode cX9_init 32 = .ok (.aload_n 0, 1) := by decide +kernel
theorem dC_X9_init_33 : decode cX9_init 33 = .ok (.ldc 32, 2) := by decide +kernel
theorem dC_X9_init_35 : decode cX9_init 35 = .ok (.invokestatic 24, 3) := by decide +kernel
theorem dC_X9_init_38 : decode cX9_init 38 = .ok (.putfield 34, 3) := by decide +kernel
theorem dC_X9_init_41 : decode cX9_init 41 = .ok (.aload_n 0, 1) := by decide +kernel
theorem dC_X9_init_42 : decode cX9_init 42 = .ok (.ldc 37, 2) := by decide +kernel
theorem dC_X9_init_44 : decode cX9_init 44 = .ok (.invokestatic 24, 3) := by decide +kernel
theorem dC_X9_init_47 : decode cX9_init 47 = .ok (.putfield 39, 3) := by decide +kernel
theorem dC_X9_init_50 : decode cX9_init 50 = .ok (.aload_n 0, 1) := by decide +kernel
theorem dC_X9_init_51 : decode cX9_init 51 = .ok (.aload_n 1, 1) := by decide +kernel
theorem dC_X9_init_52 : decode cX9_init 52 = .ok (.putfield 42, 3) := by decide +kernel
theorem dC_X9_init_55 : decode cX9_init 55 = .ok (.return_, 1) := by decide +kernel
theorem dC_X0_init_0 : decode cX0_init 0 = .ok (.aload_n 0, 1) := by decide +kernel
theorem dC_X0_init_1 : decode cX0_init 1 = .ok (.invokespecial 1, 3) := by decide +kernel
theorem dC_X0_init_4 : decode cX0_init 4 = .ok (.aload_n 0, 1) := by decide +kernel
theorem dC_X0_init_5 : decode cX0_init 5 = .ok (.bipush 9, 2) := by decide +kernel
theorem dC_X0_init_7 : decode cX0_init 7 = .ok (.anewarray 9, 3) := by decide +kernel
theorem dC_X0_init_10 : decode cX0_init 10 = .ok (.putfield 11, 3) := by decide +kernel
theorem dC_X0_init_13 : decode cX0_init 13 = .ok (.aload_n 0, 1) := by decide +kernel
theorem dC_X0_init_14 : decode cX0_init 14 = .ok (.aload_n 1, 1) := by decide +kernel
theorem dC_X0_init_15 : decode cX0_init 15 = .ok (.putfield 15, 3) := by decide +kernel
theorem dC_X0_init_18 : decode cX0_init 18 = .ok (.iconst 0, 1) := by decide +kernel
theorem dC_X0_init_19 : decode cX0_init 19 = .ok (.istore_n 2, 1) := by decide +kernel
theorem dC_X0_init_20 : decode cX0_init 20 = .ok (.iload_n 2, 1) := by decide +kernel
theorem dC_X0_init_21 : decode cX0_init 21 = .ok (.aload_n 0, 1) := by decide +kernel
theorem dC_X0_init_22 : decode cX0_init 22 = .ok (.getfield 11, 3) := by decide +kernel
theorem dC_X0_init_25 : decode cX0_init 25 = .ok (.arraylength, 1) := by decide +kernel
theorem dC_X0_init_26 : decode cX0_init 26 = .ok (.if_icmp .ge 22, 3) := by decide +kernel
theorem dC_X0_init_29 : decode cX0_init 29 = .ok (.aload_n 0, 1) := by decide +kernel
theorem dC_X0_init_30 : decode cX0_init 30 = .ok (.getfield 11, 3) := by decide +kernel
theorem dC_X0_init_33 : decode cX0_init 33 = .ok (.iload_n 2, 1) := by decide +kernel
theorem dC_X0_init_34 : decode cX0_init 34 = .ok (.new 9, 3) := by decide +kernel
theorem dC_X0_init_37 : decode cX0_init 37 = .ok (.dup, 1) := by decide +kernel
theorem dC_X0_init_38 : decode cX0_init 38 = .ok (.invokespecial 19, 3) := by decide +kernel
theorem dC_X0_init_41 : decode cX0_init 41 = .ok (.aastore, 1) := by decide +kernel
theorem dC_X0_init_42 : decode cX0_init 42 = .ok (.iinc 2 1, 3) := by decide +kernel
theorem dC_X0_init_45 : decode cX0_init 45 = .ok (.goto (-25), 3) := by decide +kernel
theorem dC_X0_init_48 : decode cX0_init 48 = .ok (.return_, 1) := by decide +kernel
theorem dC_X1_init_0 : decode cX1_init 0 = .ok (.aload_n 0, 1) := by decide +kernel
theorem dC_X1_init_1 : decode cX1_init 1 = .ok (.invokespecial 3, 3) := by decide +kernel
theorem dC_X1_init_4 : decode cX1_init 4 = .ok (.aload_n 0, 1) := by decide +kernel
theorem dC_X1_init_5 : decode cX1_init 5 = .ok (.bipush 10, 2) := by decide +kernel
theorem dC_X1_init_7 : decode cX1_init 7 = .ok (.newarray .int, 2) := by decide +kernel
theorem dC_X1_init_9 : decode cX1_init 9 = .ok (.putfield 9, 3) := by decide +kernel
theorem dC_X1_init_12 : decode cX1_init 12 = .ok (.aload_n 0, 1) := by decide +kernel
theorem dC_X1_init_13 : decode cX1_init 13 = .ok (.bipush 24, 2) := by decide +kernel
theorem dC_X1_init_15 : decode cX1_init 15 = .ok (.newarray .int, 2) := by decide +kernel
theorem dC_X1_init_17 : decode cX1_init 17 = .ok (.putfield 15, 3) := by decide +kernel
theorem dC_X1_init_20 : decode cX1_init 20 = .ok (.aload_n 0, 1) := by decide +kernel
theorem dC_X1_init_21 : decode cX1_init 21 = .ok (.bipush 24, 2) := by decide +kernel
theorem dC_X1_init_23 : decode cX1_init 23 = .ok (.newarray .int, 2) := by decide +kernel
theorem dC_X1_init_25 : decode cX1_init 25 = .ok (.putfield 18, 3) := by decide +kernel
theorem dC_X1_init_28 : decode cX1_init 28 = .ok (.aload_n 0, 1) := by decide +kernel
theorem dC_X1_init_29 : decode cX1_init 29 = .ok (.bipush 24, 2) := by decide +kernel
theorem dC_X1_init_31 : decode cX1_init 31 = .ok (.newarray .int, 2) := by decide +kernel
theorem dC_X1_init_33 : decode cX1_init 33 = .ok (.putfield 21, 3) := by decide +kernel
theorem dC_X1_init_36 : decode cX1_init 36 = .ok (.aload_n 0, 1) := by decide +kernel
theorem dC_X1_init_37 : decode cX1_init 37 = .ok (.bipush 24, 2) := by decide +kernel
theorem dC_X1_init_39 : decode cX1_init 39 = .ok (.newarray .int, 2) := by decide +kernel
theorem dC_X1_init_41 : decode cX1_init 41 = .ok (.putfield 24, 3) := by decide +kernel
theorem dC_X1_init_44 : decode cX1_init 44 = .ok (.aload_n 0, 1) := by decide +kernel
theorem dC_X1_init_45 : decode cX1_init 45 = .ok (.bipush 24, 2) := by decide +kernel
theorem dC_X1_init_47 : decode cX1_init 47 = .ok (.newarray .int, 2) := by decide +kernel
theorem dC_X1_init_49 : decode cX1_init 49 = .ok (.putfield 27, 3) := by decide +kernel
theorem dC_X1_init_52 : decode cX1_init 52 = .ok (.aload_n 0, 1) := by decide +kernel
theorem dC_X1_init_53 : decode cX1_init 53 = .ok (.bipush 24, 2) := by decide +kernel
theorem dC_X1_init_55 : decode cX1_init 55 = .ok (.newarray .int, 2) := by decide +kernel
theorem dC_X1_init_57 : decode cX1_init 57 = .ok (.putfield 30, 3) := by decide +kernel
theorem dC_X1_init_60 : decode cX1_init 60 = .ok (.aload_n 0, 1) := by decide +kernel
theorem dC_X1_init_61 : decode cX1_init 61 = .ok (.aload_n 1, 1) := by decide +kernel
theorem dC_X1_init_62 : decode cX1_init 62 = .ok (.putfield 33, 3) := by decide +kernel
theorem dC_X1_init_65 : decode cX1_init 65 = .ok (.return_, 1) := by decide +kernel
theorem dC_X8_init_0 : decode cX8_init 0 = .ok (.aload_n 0, 1) := by decide +kernel
theorem dC_X8_init_1 : decode cX8_init 1 = .ok (.invokespecial 3, 3) := by decide +kernel
theorem dC_X8_init_4 : decode cX8_init 4 = .ok (.aload_n 0, 1) := by decide +kernel
theorem dC_X8_init_5 : decode cX8_init 5 = .ok (.sipush 1024, 3) := by decide +kernel
theorem dC_X8_init_8 : decode cX8_init 8 = .ok (.newarray .int, 2) := by decide +kernel
theorem dC_X8_init_10 : decode cX8_init 10 = .ok (.putfield 9, 3) := by decide +kernel
theorem dC_X8_init_13 : decode cX8_init 13 = .ok (.aload_n 0, 1) := by decide +kernel
theorem dC_X8_init_14 : decode cX8_init 14 = .ok (.sipush 1024, 3) := by decide +kernel
theorem dC_X8_init_17 : decode cX8_init 17 = .ok (.newarray .int, 2) := by decide +kernel
theorem dC_X8_init_19 : decode cX8_init 19 = .ok (.putfield 15, 3) := by decide +kernel
theorem dC_X8_init_22 : decode cX8_init 22 = .ok (.aload_n 0, 1) := by decide +kernel
theorem dC_X8_init_23 : decode cX8_init 23 = .ok (.bipush 10, 2) := by decide +kernel
theorem dC_X8_init_25 : decode cX8_init 25 = .ok (.newarray .int, 2) := by decide +kernel
theorem dC_X8_init_27 : decode cX8_init 27 = .ok (.putfield 18, 3) := by decide +kernel
theorem dC_X8_init_30 : decode cX8_init 30 = .ok (.aload_n 0, 1) := by decide +kernel
theorem dC_X8_init_31 : decode cX8_init 31 = .ok (.aload_n 1, 1) := by decide +kernel
theorem dC_X8_init_32 : decode cX8_init 32 = .ok (.putfield 21, 3) := by decide +kernel
theorem dC_X8_init_35 : decode cX8_init 35 = .ok (.iconst 0, 1) := by decide +kernel
theorem dC_X8_init_36 : decode cX8_init 36 = .ok (.istore_n 2, 1) := by decide +kernel
theorem dC_X8_init_37 : decode cX8_init 37 = .ok (.iload_n 2, 1) := by decide +kernel
theorem dC_X8_init_38 : decode cX8_init 38 = .ok (.bipush 10, 2) := by decide +kernel
theorem dC_X8_init_40 : decode cX8_init 40 = .ok (.if_icmp .ge 16, 3) := by decide +kernel
theorem dC_X8_init_43 : decode cX8_init 43 = .ok (.aload_n 0, 1) := by decide +kernel
theorem dC_X8_init_44 : decode cX8_init 44 = .ok (.getfield 18, 3) := by decide +kernel
theorem dC_X8_init_47 : decode cX8_init 47 = .ok (.iload_n 2, 1) := by decide +kernel
theorem dC_X8_init_48 : decode cX8_init 48 = .ok (.iload_n 2, 1) := by decide +kernel
theorem dC_X8_init_49 : decode cX8_init 49 = .ok (.iastore, 1) := by decide +kernel
theorem dC_X8_init_50 : decode cX8_init 50 = .ok (.iinc 2 1, 3) := by decide +kernel
theorem dC_X8_init_53 : decode cX8_init 53 = .ok (.goto (-16), 3) := by decide +kernel
theorem dC_X8_init_56 : decode cX8_init 56 = .ok (.return_, 1) := by decide +kernel
theorem dC_X4_init_0 : decode cX4_init 0 = .ok (.aload_n 0, 1) := by decide +kernel
theorem dC_X4_init_1 : decode cX4_init 1 = .ok (.invokespecial 3, 3) := by decide +kernel
theorem dC_X4_init_4 : decode cX4_init 4 = .ok (.aload_n 0, 1) := by decide +kernel
theorem dC_X4_init_5 : decode cX4_init 5 = .ok (.bipush 10, 2) := by decide +kernel
theorem dC_X4_init_7 : decode cX4_init 7 = .ok (.newarray .int, 2) := by decide +kernel
theorem dC_X4_init_9 : decode cX4_init 9 = .ok (.putfield 9, 3) := by decide +kernel
theorem dC_X4_init_12 : decode cX4_init 12 = .ok (.aload_n 0, 1) := by decide +kernel
theorem dC_X4_init_13 : decode cX4_init 13 = .ok (.bipush 10, 2) := by decide +kernel
theorem dC_X4_init_15 : decode cX4_init 15 = .ok (.newarray .int, 2) := by decide +kernel
theorem dC_X4_init_17 : decode cX4_init 17 = .ok (.putfield 15, 3) := by decide +kernel
theorem dC_X4_init_20 : decode cX4_init 20 = .ok (.aload_n 0, 1) := by decide +kernel
theorem dC_X4_init_21 : decode cX4_init 21 = .ok (.bipush 10, 2) := by decide +kernel
theorem dC_X4_init_23 : decode cX4_init 23 = .ok (.newarray .int, 2) := by decide +kernel
theorem dC_X4_init_25 : decode cX4_init 25 = .ok (.putfield 18, 3) := by decide +kernel
theorem dC_X4_init_28 : decode cX4_init 28 = .ok (.aload_n 0, 1) := by decide +kernel
theorem dC_X4_init_29 : decode cX4_init 29 = .ok (.bipush 10, 2) := by decide +kernel
theorem dC_X4_init_31 : decode cX4_init 31 = .ok (.newarray .int, 2) := by decide +kernel
theorem dC_X4_init_33 : decode cX4_init 33 = .ok (.putfield 21, 3) := by decide +kernel
theorem dC_X4_init_36 : decode cX4_init 36 = .ok (.aload_n 0, 1) := by decide +kernel
theorem dC_X4_init_37 : decode cX4_init 37 = .ok (.aload_n 1, 1) := by decide +kernel
theorem dC_X4_init_38 : decode cX4_init 38 = .ok (.putfield 24, 3) := by decide +kernel
theorem dC_X4_init_41 : decode cX4_init 41 = .ok (.aload_n 0, 1) := by decide +kernel
theorem dC_X4_init_42 : decode cX4_init 42 = .ok (.aload_n 2, 1) := by decide +kernel
theorem dC_X4_init_43 : decode cX4_init 43 = .ok (.putfield 28, 3) := by decide +kernel
theorem dC_X4_init_46 : decode cX4_init 46 = .ok (.return_, 1) := by decide +kernel
theorem dC_X7_init_0 : decode cX7_init 0 = .ok (.aload_n 0, 1) := by decide +kernel
theorem dC_X7_init_1 : decode cX7_init 1 = .ok (.invokespecial 3, 3) := by decide +kernel
theorem dC_X7_init_4 : decode cX7_init 4 = .ok (.aload_n 0, 1) := by decide +kernel
theorem dC_X7_init_5 : decode cX7_init 5 = .ok (.sipush 1024, 3) := by decide +kernel
theorem dC_X7_init_8 : decode cX7_init 8 = .ok (.newarray .int, 2) := by decide +kernel
theorem dC_X7_init_10 : decode cX7_init 10 = .ok (.putfield 9, 3) := by decide +kernel
theorem dC_X7_init_13 : decode cX7_init 13 = .ok (.aload_n 0, 1) := by decide +kernel
theorem dC_X7_init_14 : decode cX7_init 14 = .ok (.sipush 1024, 3) := by decide +kernel
theorem dC_X7_init_17 : decode cX7_init 17 = .ok (.newarray .int, 2) := by decide +kernel
theorem dC_X7_init_19 : decode cX7_init 19 = .ok (.putfield 15, 3) := by decide +kernel
theorem dC_X7_init_22 : decode cX7_init 22 = .ok (.aload_n 0, 1) := by decide +kernel
theorem dC_X7_init_23 : decode cX7_init 23 = .ok (.aload_n 1, 1) := by decide +kernel
theorem dC_X7_init_24 : decode cX7_init 24 = .ok (.putfield 18, 3) := by decide +kernel
theorem dC_X7_init_27 : decode cX7_init 27 = .ok (.aload_n 0, 1) := by decide +kernel
theorem dC_X7_init_28 : decode cX7_init 28 = .ok (.aload_n 2, 1) := by decide +kernel
theorem dC_X7_init_29 : decode cX7_init 29 = .ok (.putfield 22, 3) := by decide +kernel
theorem dC_X7_init_32 : decode cX7_init 32 = .ok (.return_, 1) := by decide +kernel
theorem dC_X6_init_0 : decode cX6_init 0 = .ok (.aload_n 0, 1) := by decide +kernel
theorem dC_X6_init_1 : decode cX6_init 1 = .ok (.invokespecial 3, 3) := by decide +kernel
theorem dC_X6_init_4 : decode cX6_init 4 = .ok (.aload_n 0, 1) := by decide +kernel
theorem dC_X6_init_5 : decode cX6_init 5 = .ok (.sipush 1024, 3) := by decide +kernel
theorem dC_X6_init_8 : decode cX6_init 8 = .ok (.newarray .int, 2) := by decide +kernel
theorem dC_X6_init_10 : decode cX6_init 10 = .ok (.putfield 9, 3) := by decide +kernel
theorem dC_X6_init_13 : decode cX6_init 13 = .ok (.aload_n 0, 1) := by decide +kernel
theorem dC_X6_init_14 : decode cX6_init 14 = .ok (.aload_n 1, 1) := by decide +kernel
theorem dC_X6_init_15 : decode cX6_init 15 = .ok (.putfield 15, 3) := by decide +kernel
theorem dC_X6_init_18 : decode cX6_init 18 = .ok (.return_, 1) := by decide +kernel
theorem dC_X2_init_0 : decode cX2_init 0 = .ok (.aload_n 0, 1) := by decide +kernel
theorem dC_X2_init_1 : decode cX2_init 1 = .ok (.invokespecial 3, 3) := by decide +kernel
theorem dC_X2_init_4 : decode cX2_init 4 = .ok (.aload_n 0, 1) := by decide +kernel
theorem dC_X2_init_5 : decode cX2_init 5 = .ok (.bipush 10, 2) := by decide +kernel
theorem dC_X2_init_7 : decode cX2_init 7 = .ok (.newarray .int, 2) := by decide +kernel
theorem dC_X2_init_9 : decode cX2_init 9 = .ok (.putfield 9, 3) := by decide +kernel
theorem dC_X2_init_12 : decode cX2_init 12 = .ok (.aload_n 0, 1) := by decide +kernel
theorem dC_X2_init_13 : decode cX2_init 13 = .ok (.bipush 10, 2) := by decide +kernel
theorem dC_X2_init_15 : decode cX2_init 15 = .ok (.newarray .int, 2) := by decide +kernel
theorem dC_X2_init_17 : decode cX2_init 17 = .ok (.putfield 15, 3) := by decide +kernel
theorem dC_X2_init_20 : decode cX2_init 20 = .ok (.aload_n 0, 1) := by decide +kernel
theorem dC_X2_init_21 : decode cX2_init 21 = .ok (.aload_n 1, 1) := by decide +kernel
theorem dC_X2_init_22 : decode cX2_init 22 = .ok (.putfield 18, 3) := by decide +kernel
theorem dC_X2_init_25 : decode cX2_init 25 = .ok (.return_, 1) := by decide +kernel
theorem dC_X3_init_0 : decode cX3_init 0 = .ok (.aload_n 0, 1) := by decide +kernel
theorem dC_X3_init_1 : decode cX3_init 1 = .ok (.invokespecial 3, 3) := by decide +kernel
theorem dC_X3_init_4 : decode cX3_init 4 = .ok (.aload_n 0, 1) := by decide +kernel
theorem dC_X3_init_5 : decode cX3_init 5 = .ok (.iconst 2, 1) := by decide +kernel
theorem dC_X3_init_6 : decode cX3_init 6 = .ok (.newarray .int, 2) := by decide +kernel
theorem dC_X3_init_8 : decode cX3_init 8 = .ok (.putfield 9, 3) := by decide +kernel
theorem dC_X3_init_11 : decode cX3_init 11 = .ok (.aload_n 0, 1) := by decide +kernel
theorem dC_X3_init_12 : decode cX3_init 12 = .ok (.bipush 24, 2) := by decide +kernel
theorem dC_X3_init_14 : decode cX3_init 14 = .ok (.newarray .int, 2) := by decide +kernel
theorem dC_X3_init_16 : decode cX3_init 16 = .ok (.putfield 15, 3) := by decide +kernel
theorem dC_X3_init_19 : decode cX3_init 19 = .ok (.aload_n 0, 1) := by decide +kernel
theorem dC_X3_init_20 : decode cX3_init 20 = .ok (.aload_n 1, 1) := by decide +kernel
theorem dC_X3_init_21 : decode cX3_init 21 = .ok (.putfield 18, 3) := by decide +kernel
theorem dC_X3_init_24 : decode cX3_init 24 = .ok (.aload_n 0, 1) := by decide +kernel
theorem dC_X3_init_25 : decode cX3_init 25 = .ok (.aload_n 2, 1) := by decide +kernel
theorem dC_X3_init_26 : decode cX3_init 26 = .ok (.putfield 22, 3) := by decide +kernel
theorem dC_X3_init_29 : decode cX3_init 29 = .ok (.return_, 1) := by decide +kernel
theorem dC_X12_init_0 : decode cX12_init 0 = .ok (.aload_n 0, 1) := by decide +kernel
theorem dC_X12_init_1 : decode cX12_init 1 = .ok (.invokespecial 94, 3) := by decide +kernel
theorem dC_X12_init_4 : decode cX12_init 4 = .ok (.aload_n 0, 1) := by decide +kernel
theorem dC_X12_init_5 : decode cX12_init 5 = .ok (.sipush 640, 3) := by decide +kernel
theorem dC_X12_init_8 : decode cX12_init 8 = .ok (.newarray .int, 2) := by decide +kernel
theorem dC_X12_init_10 : decode cX12_init 10 = .ok (.putfield 11, 3) := by decide +kernel
theorem dC_X12_init_13 : decode cX12_init 13 = .ok (.aload_n 0, 1) := by decide +kernel
theorem dC_X12_init_14 : decode cX12_init 14 = .ok (.sipush 147, 3) := by decide +kernel
theorem dC_X12_init_17 : decode cX12_init 17 = .ok (.newarray .int, 2) := by decide +kernel
theorem dC_X12_init_19 : decode cX12_init 19 = .ok (.putfield 99, 3) := by decide +kernel
theorem dC_X12_init_22 : decode cX12_init 22 = .ok (.aload_n 0, 1) := by decide +kernel
theorem dC_X12_init_23 : decode cX12_init 23 = .ok (.sipush 147, 3) := by decide +kernel
theorem dC_X12_init_26 : decode cX12_init 26 = .ok (.newarray .int, 2) := by decide +kernel
theorem dC_X12_init_28 : decode cX12_init 28 = .ok (.putfield 102, 3) := by decide +kernel
theorem dC_X12_init_31 : decode cX12_init 31 = .ok (.aload_n 0, 1) := by decide +kernel
theorem dC_X12_init_32 : decode cX12_init 32 = .ok (.sipush 294, 3) := by decide +kernel
theorem dC_X12_init_35 : decode cX12_init 35 = .ok (.newarray .int, 2) := by decide +kernel
theorem dC_X12_init_37 : decode cX12_init 37 = .ok (.putfield 105, 3) := by decide +kernel
theorem dC_X12_init_40 : decode cX12_init 40 = .ok (.aload_n 0, 1) := by decide +kernel
theorem dC_X12_init_41 : decode cX12_init 41 = .ok (.sipush 1176, 3) := by decide +kernel
theorem dC_X12_init_44 : decode cX12_init 44 = .ok (.newarray .int, 2) := by decide +kernel
theorem dC_X12_init_46 : decode cX12_init 46 = .ok (.putfield 108, 3) := by decide +kernel
theorem dC_X12_init_49 : decode cX12_init 49 = .ok (.aload_n 0, 1) := by decide +kernel
theorem dC_X12_init_50 : decode cX12_init 50 = .ok (.sipush 147, 3) := by decide +kernel
theorem dC_X12_init_53 : decode cX12_init 53 = .ok (.newarray .int, 2) := by decide +kernel
theorem dC_X12_init_55 : decode cX12_init 55 = .ok (.putfield 111, 3) := by decide +kernel
theorem dC_X12_init_58 : decode cX12_init 58 = .ok (.aload_n 0, 1) := by decide +kernel
theorem dC_X12_init_59 : decode cX12_init 59 = .ok (.sipush 147, 3) := by decide +kernel
theorem dC_X12_init_62 : decode cX12_init 62 = .ok (.newarray .int, 2) := by decide +kernel
theorem dC_X12_init_64 : decode cX12_init 64 = .ok (.putfield 114, 3) := by decide +kernel
theorem dC_X12_init_67 : decode cX12_init 67 = .ok (.aload_n 0, 1) := by decide +kernel
theorem dC_X12_init_68 : decode cX12_init 68 = .ok (.bipush 10, 2) := by decide +kernel
theorem dC_X12_init_70 : decode cX12_init 70 = .ok (.newarray .long, 2) := by decide +kernel
theorem dC_X12_init_72 : decode cX12_init 72 = .ok (.putfield 117, 3) := by decide +kernel
theorem dC_X12_init_75 : decode cX12_init 75 = .ok (.aload_n 0, 1) := by decide +kernel
theorem dC_X12_init_76 : decode cX12_init 76 = .ok (.iconst 2, 1) := by decide +kernel
theorem dC_X12_init_77 : decode cX12_init 77 = .ok (.newarray .boolean, 2) := by decide +kernel
theorem dC_X12_init_79 : decode cX12_init 79 = .ok (.putfield 121, 3) := by decide +kernel
theorem dC_X12_init_82 : decode cX12_init 82 = .ok (.aload_n 0, 1) := by decide +kernel
theorem dC_X12_init_83 : decode cX12_init 83 = .ok (.bipush 24, 2) := by decide +kernel
theorem dC_X12_init_85 : decode cX12_init 85 = .ok (.newarray .int, 2) := by decide +kernel
theorem dC_X12_init_87 : decode cX12_init 87 = .ok (.putfield 125, 3) := by decide +kernel
theorem dC_X12_init_90 : decode cX12_init 90 = .ok (.aload_n 0, 1) := by decide +kernel
theorem dC_X12_init_91 : decode cX12_init 91 = .ok (.bipush 120, 2) := by decide +kernel
theorem dC_X12_init_93 : decode cX12_init 93 = .ok (.newarray .int, 2) := by decide +kernel
theorem dC_X12_init_95 : decode cX12_init 95 = .ok (.putfield 128, 3) := by decide +kernel
theorem dC_X12_init_98 : decode cX12_init 98 = .ok (.aload_n 0, 1) := by decide +kernel
theorem dC_X12_init_99 : decode cX12_init 99 = .ok (.bipush 24, 2) := by decide +kernel
theorem dC_X12_init_101 : decode cX12_init 101 = .ok (.newarray .int, 2) := by decide +kernel
theorem dC_X12_init_103 : decode cX12_init 103 = .ok (.putfield 131, 3) := by decide +kernel
theorem dC_X12_init_106 : decode cX12_init 106 = .ok (.aload_n 0, 1) := by decide +kernel
theorem dC_X12_init_107 : decode cX12_init 107 = .ok (.bipush 24, 2) := by decide +kernel
theorem dC_X12_init_109 : decode cX12_init 109 = .ok (.newarray .int, 2) := by decide +kernel
theorem dC_X12_init_111 : decode cX12_init 111 = .ok (.putfield 134, 3) := by decide +kernel
theorem dC_X12_init_114 : decode cX12_init 114 = .ok (.aload_n 0, 1) := by decide +kernel
theorem dC_X12_init_115 : decode cX12_init 115 = .ok (.bipush 48, 2) := by decide +kernel
theorem dC_X12_init_117 : decode cX12_init 117 = .ok (.newarray .int, 2) := by decide +kernel
theorem dC_X12_init_119 : decode cX12_init 119 = .ok (.putfield 137, 3) := by decide +kernel
theorem dC_X12_init_122 : decode cX12_init 122 = .ok (.aload_n 0, 1) := by decide +kernel
theorem dC_X12_init_123 : decode cX12_init 123 = .ok (.bipush 10, 2) := by decide +kernel
theorem dC_X12_init_125 : decode cX12_init 125 = .ok (.newarray .int, 2) := by decide +kernel
theorem dC_X12_init_127 : decode cX12_init 127 = .ok (.putfield 140, 3) := by decide +kernel
theorem dC_X12_init_130 : decode cX12_init 130 = .ok (.aload_n 0, 1) := by decide +kernel
theorem dC_X12_init_131 : decode cX12_init 131 = .ok (.bipush 24, 2) := by decide +kernel
theorem dC_X12_init_133 : decode cX12_init 133 = .ok (.newarray .int, 2) := by decide +kernel
theorem dC_X12_init_135 : decode cX12_init 135 = .ok (.putfield 143, 3) := by decide +kernel
theorem dC_X12_init_138 : decode cX12_init 138 = .ok (.aload_n 0, 1) := by decide +kernel
theorem dC_X12_init_139 : decode cX12_init 139 = .ok (.iconst 2, 1) := by decide +kernel
theorem dC_X12_init_140 : decode cX12_init 140 = .ok (.newarray .int, 2) := by decide +kernel
theorem dC_X12_init_142 : decode cX12_init 142 = .ok (.putfield 146, 3) := by decide +kernel
theorem dC_X12_init_145 : decode cX12_init 145 = .ok (.aload_n 0, 1) := by decide +kernel
theorem dC_X12_init_146 : decode cX12_init 146 = .ok (.iconst 3, 1) := by decide +kernel
theorem dC_X12_init_147 : decode cX12_init 147 = .ok (.newarray .int, 2) := by decide +kernel
theorem dC_X12_init_149 : decode cX12_init 149 = .ok (.putfield 149, 3) := by decide +kernel
theorem dC_X12_init_152 : decode cX12_init 152 = .ok (.aload_n 0, 1) := by decide +kernel
theorem dC_X12_init_153 : decode cX12_init 153 = .ok (.bipush 10, 2) := by decide +kernel
theorem dC_X12_init_155 : decode cX12_init 155 = .ok (.newarray .int, 2) := by decide +kernel
theorem dC_X12_init_157 : decode cX12_init 157 = .ok (.putfield 152, 3) := by decide +kernel
theorem dC_X12_init_160 : decode cX12_init 160 = .ok (.aload_n 0, 1) := by decide +kernel
theorem dC_X12_init_161 : decode cX12_init 161 = .ok (.bipush 10, 2) := by decide +kernel
theorem dC_X12_init_163 : decode cX12_init 163 = .ok (.newarray .int, 2) := by decide +kernel
theorem dC_X12_init_165 : decode cX12_init 165 = .ok (.putfield 155, 3) := by decide +kernel
theorem dC_X12_init_168 : decode cX12_init 168 = .ok (.aload_n 0, 1) := by decide +kernel
theorem dC_X12_init_169 : decode cX12_init 169 = .ok (.bipush 30, 2) := by decide +kernel
theorem dC_X12_init_171 : decode cX12_init 171 = .ok (.newarray .int, 2) := by decide +kernel
theorem dC_X12_init_173 : decode cX12_init 173 = .ok (.putfield 158, 3) := by decide +kernel
theorem dC_X12_init_176 : decode cX12_init 176 = .ok (.aload_n 0, 1) := by decide +kernel
theorem dC_X12_init_177 : decode cX12_init 177 = .ok (.getfield 99, 3) := by decide +kernel
theorem dC_X12_init_180 : decode cX12_init 180 = .ok (.iconst 2, 1) := by decide +kernel
theorem dC_X12_init_181 : decode cX12_init 181 = .ok (.iconst 2, 1) := by decide +kernel
theorem dC_X12_init_182 : decode cX12_init 182 = .ok (.iastore, 1) := by decide +kernel
theorem dC_X12_init_183 : decode cX12_init 183 = .ok (.return_, 1) := by decide +kernel
theorem dC_X11_init_0 : decode cX11_init 0 = .ok (.aload_n 0, 1) := by decide +kernel
theorem dC_X11_init_1 : decode cX11_init 1 = .ok (.invokespecial 1, 3) := by decide +kernel
theorem dC_X11_init_4 : decode cX11_init 4 = .ok (.aload_n 0, 1) := by decide +kernel
theorem dC_X11_init_5 : decode cX11_init 5 = .ok (.new 7, 3) := by decide +kernel
theorem dC_X11_init_8 : decode cX11_init 8 = .ok (.dup, 1) := by decide +kernel
theorem dC_X11_init_9 : decode cX11_init 9 = .ok (.invokespecial 9, 3) := by decide +kernel
theorem dC_X11_init_12 : decode cX11_init 12 = .ok (.putfield 10, 3) := by decide +kernel
theorem dC_X11_init_15 : decode cX11_init 15 = .ok (.aload_n 0, 1) := by decide +kernel
theorem dC_X11_init_16 : decode cX11_init 16 = .ok (.new 16, 3) := by decide +kernel
theorem dC_X11_init_19 : decode cX11_init 19 = .ok (.dup, 1) := by decide +kernel
theorem dC_X11_init_20 : decode cX11_init 20 = .ok (.invokespecial 18, 3) := by decide +kernel
theorem dC_X11_init_23 : decode cX11_init 23 = .ok (.putfield 19, 3) := by decide +kernel
theorem dC_X11_init_26 : decode cX11_init 26 = .ok (.aload_n 0, 1) := by decide +kernel
theorem dC_X11_init_27 : decode cX11_init 27 = .ok (.new 23, 3) := by decide +kernel
theorem dC_X11_init_30 : decode cX11_init 30 = .ok (.dup, 1) := by decide +kernel
theorem dC_X11_init_31 : decode cX11_init 31 = .ok (.aload_n 0, 1) := by decide +kernel
theorem dC_X11_init_32 : decode cX11_init 32 = .ok (.getfield 19, 3) := by decide +kernel
theorem dC_X11_init_35 : decode cX11_init 35 = .ok (.invokespecial 25, 3) := by decide +kernel
theorem dC_X11_init_38 : decode cX11_init 38 = .ok (.putfield 28, 3) := by decide +kernel
theorem dC_X11_init_41 : decode cX11_init 41 = .ok (.aload_n 0, 1) := by decide +kernel
theorem dC_X11_init_42 : decode cX11_init 42 = .ok (.new 32, 3) := by decide +kernel
theorem dC_X11_init_45 : decode cX11_init 45 = .ok (.dup, 1) := by decide +kernel
theorem dC_X11_init_46 : decode cX11_init 46 = .ok (.aload_n 0, 1) := by decide +kernel
theorem dC_X11_init_47 : decode cX11_init 47 = .ok (.getfield 10, 3) := by decide +kernel
theorem dC_X11_init_50 : decode cX11_init 50 = .ok (.invokespecial 34, 3) := by decide +kernel
theorem dC_X11_init_53 : decode cX11_init 53 = .ok (.putfield 37, 3) := by decide +kernel
theorem dC_X11_init_56 : decode cX11_init 56 = .ok (.aload_n 0, 1) := by decide +kernel
theorem dC_X11_init_57 : decode cX11_init 57 = .ok (.new 41, 3) := by decide +kernel
theorem dC_X11_init_60 : decode cX11_init 60 = .ok (.dup, 1) := by decide +kernel
theorem dC_X11_init_61 : decode cX11_init 61 = .ok (.aload_n 0, 1) := by decide +kernel
theorem dC_X11_init_62 : decode cX11_init 62 = .ok (.getfield 10, 3) := by decide +kernel
theorem dC_X11_init_65 : decode cX11_init 65 = .ok (.invokespecial 43, 3) := by decide +kernel
theorem dC_X11_init_68 : decode cX11_init 68 = .ok (.putfield 44, 3) := by decide +kernel
theorem dC_X11_init_71 : decode cX11_init 71 = .ok (.aload_n 0, 1) := by decide +kernel
theorem dC_X11_init_72 : decode cX11_init 72 = .ok (.new 48, 3) := by decide +kernel
theorem dC_X11_init_75 : decode cX11_init 75 = .ok (.dup, 1) := by decide +kernel
theorem dC_X11_init_76 : decode cX11_init 76 = .ok (.aload_n 0, 1) := by decide +kernel
theorem dC_X11_init_77 : decode cX11_init 77 = .ok (.getfield 10, 3) := by decide +kernel
theorem dC_X11_init_80 : decode cX11_init 80 = .ok (.invokespecial 50, 3) := by decide +kernel
theorem dC_X11_init_83 : decode cX11_init 83 = .ok (.putfield 51, 3) := by decide +kernel
theorem dC_X11_init_86 : decode cX11_init 86 = .ok (.aload_n 0, 1) := by decide +kernel
theorem dC_X11_init_87 : decode cX11_init 87 = .ok (.new 55, 3) := by decide +kernel
theorem dC_X11_init_90 : decode cX11_init 90 = .ok (.dup, 1) := by decide +kernel
theorem dC_X11_init_91 : decode cX11_init 91 = .ok (.aload_n 0, 1) := by decide +kernel
theorem dC_X11_init_92 : decode cX11_init 92 = .ok (.getfield 10, 3) := by decide +kernel
theorem dC_X11_init_95 : decode cX11_init 95 = .ok (.aload_n 0, 1) := by decide +kernel
theorem dC_X11_init_96 : decode cX11_init 96 = .ok (.getfield 51, 3) := by decide +kernel
theorem dC_X11_init_99 : decode cX11_init 99 = .ok (.invokespecial 57, 3) := by decide +kernel
theorem dC_X11_init_102 : decode cX11_init 102 = .ok (.putfield 60, 3) := by decide +kernel
theorem dC_X11_init_105 : decode cX11_init 105 = .ok (.aload_n 0, 1) := by decide +kernel
theorem dC_X11_init_106 : decode cX11_init 106 = .ok (.new 64, 3) := by decide +kernel
theorem dC_X11_init_109 : decode cX11_init 109 = .ok (.dup, 1) := by decide +kernel
theorem dC_X11_init_110 : decode cX11_init 110 = .ok (.aload_n 0, 1) := by decide +kernel
theorem dC_X11_init_111 : decode cX11_init 111 = .ok (.getfield 10, 3) := by decide +kernel
theorem dC_X11_init_114 : decode cX11_init 114 = .ok (.aload_n 0, 1) := by decide +kernel
theorem dC_X11_init_115 : decode cX11_init 115 = .ok (.getfield 51, 3) := by decide +kernel
theorem dC_X11_init_118 : decode cX11_init 118 = .ok (.invokespecial 66, 3) := by decide +kernel
theorem dC_X11_init_121 : decode cX11_init 121 = .ok (.putfield 67, 3) := by decide +kernel
theorem dC_X11_init_124 : decode cX11_init 124 = .ok (.aload_n 0, 1) := by decide +kernel
theorem dC_X11_init_125 : decode cX11_init 125 = .ok (.new 71, 3) := by decide +kernel
theorem dC_X11_init_128 : decode cX11_init 128 = .ok (.dup, 1) := by decide +kernel
theorem dC_X11_init_129 : decode cX11_init 129 = .ok (.aload_n 0, 1) := by decide +kernel
theorem dC_X11_init_130 : decode cX11_init 130 = .ok (.getfield 10, 3) := by decide +kernel
theorem dC_X11_init_133 : decode cX11_init 133 = .ok (.invokespecial 73, 3) := by decide +kernel
theorem dC_X11_init_136 : decode cX11_init 136 = .ok (.putfield 74, 3) := by decide +kernel
theorem dC_X11_init_139 : decode cX11_init 139 = .ok (.aload_n 0, 1) := by decide +kernel
theorem dC_X11_init_140 : decode cX11_init 140 = .ok (.new 78, 3) := by decide +kernel
theorem dC_X11_init_143 : decode cX11_init 143 = .ok (.dup, 1) := by decide +kernel
theorem dC_X11_init_144 : decode cX11_init 144 = .ok (.aload_n 0, 1) := by decide +kernel
theorem dC_X11_init_145 : decode cX11_init 145 = .ok (.getfield 10, 3) := by decide +kernel
theorem dC_X11_init_148 : decode cX11_init 148 = .ok (.invokespecial 80, 3) := by decide +kernel
theorem dC_X11_init_151 : decode cX11_init 151 = .ok (.putfield 81, 3) := by decide +kernel
theorem dC_X11_init_154 : decode cX11_init 154 = .ok (.aload_n 0, 1) := by decide +kernel
theorem dC_X11_init_155 : decode cX11_init 155 = .ok (.new 85, 3) := by decide +kernel
theorem dC_X11_init_158 : decode cX11_init 158 = .ok (.dup, 1) := by decide +kernel
theorem dC_X11_init_159 : decode cX11_init 159 = .ok (.aload_n 0, 1) := by decide +kernel
theorem dC_X11_init_160 : decode cX11_init 160 = .ok (.getfield 10, 3) := by decide +kernel
theorem dC_X11_init_163 : decode cX11_init 163 = .ok (.aload_n 0, 1) := by decide +kernel
theorem dC_X11_init_164 : decode cX11_init 164 = .ok (.getfield 19, 3) := by decide +kernel
theorem dC_X11_init_167 : decode cX11_init 167 = .ok (.invokespecial 87, 3) := by decide +kernel
theorem dC_X11_init_170 : decode cX11_init 170 = .ok (.putfield 90, 3) := by decide +kernel
theorem dC_X11_init_173 : decode cX11_init 173 = .ok (.aload_n 0, 1) := by decide +kernel
theorem dC_X11_init_174 : decode cX11_init 174 = .ok (.iconst 2, 1) := by decide +kernel
theorem dC_X11_init_175 : decode cX11_init 175 = .ok (.anewarray 7, 3) := by decide +kernel
theorem dC_X11_init_178 : decode cX11_init 178 = .ok (.putfield 94, 3) := by decide +kernel
theorem dC_X11_init_181 : decode cX11_init 181 = .ok (.return_, 1) := by decide +kernel
theorem kC_X5_init : zK yX5_init cX5_init 1 none 0 := ⟨qk_148, qk_113, by decide +kernel, by decide +kernel, by decide +kernel⟩
theorem kC_X10_init : zK yX10_init cX10_init 1 none 0 := ⟨qk_220, qk_114, by decide +kernel, by decide +kernel, by decide +kernel⟩
theorem kC_X9_init : zK yX9_init cX9_init 2 none 1 := ⟨qk_233, qk_115, by decide +kernel, by decide +kernel, by decide +kernel⟩
theorem kC_X0_init : zK yX0_init cX0_init 3 none 1 := ⟨qk_341, qk_120, by decide +kernel, by decide +kernel, by decide +kernel⟩
theorem kC_X1_init : zK yX1_init cX1_init 2 none 1 := ⟨qk_363, qk_121, by decide +kernel, by decide +kernel, by decide +kernel⟩
theorem kC_X8_init : zK yX8_init cX8_init 3 none 1 := ⟨qk_406, qk_122, by decide +kernel, by decide +kernel, by decide +kernel⟩
theorem kC_X4_init : zK yX4_init cX4_init 3 none 2 := ⟨qk_434, qk_123, by decide +kernel, by decide +kernel, by decide +kernel⟩
theorem kC_X7_init : zK yX7_init cX7_init 3 none 2 := ⟨qk_459, qk_124, by decide +kernel, by decide +kernel, by decide +kernel⟩
theorem kC_X6_init : zK yX6_init cX6_init 2 none 1 := ⟨qk_484, qk_125, by decide +kernel, by decide +kernel, by decide +kernel⟩
theorem kC_X2_init : zK yX2_init cX2_init 2 none 1 := ⟨qk_497, qk_126, by decide +kernel, by decide +kernel, by decide +kernel⟩
theorem kC_X3_init : zK yX3_init cX3_init 3 none 2 := ⟨qk_513, qk_127, by decide +kernel, by decide +kernel, by decide +kernel⟩
theorem kC_X12_init : zK yX12_init cX12_init 1 none 0 := ⟨qk_1359, qk_128, by decide +kernel, by decide +kernel, by decide +kernel⟩
theorem kC_X11_init : zK yX11_init cX11_init 1 none 0 := ⟨qk_140, qk_112, by decide +kernel, by decide +kernel, by decide +kernel⟩
