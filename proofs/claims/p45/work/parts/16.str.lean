-- needs: 05zz.strrows 07.fun 08.links5 13.vread
abbrev cJ_isLatin1 : ByteArray := prog_22_method_154_code
def yJ_isLatin1 : MethodName := ⟨"java/lang/String", "isLatin1", "()Z"⟩
abbrev cJ_coder : ByteArray := prog_22_method_152_code
def yJ_coder : MethodName := ⟨"java/lang/String", "coder", "()B"⟩
abbrev cJ_length : ByteArray := prog_22_method_54_code
def yJ_length : MethodName := ⟨"java/lang/String", "length", "()I"⟩
abbrev cJ_pcheck : ByteArray := prog_30_method_11_code
def yJ_pcheck : MethodName := ⟨"jdk/internal/util/Preconditions", "checkIndex", "(IILjava/util/function/BiFunction;)I"⟩
abbrev cJ_scheck : ByteArray := prog_22_method_155_code
def yJ_scheck : MethodName := ⟨"java/lang/String", "checkIndex", "(II)V"⟩
abbrev cJ_lchar : ByteArray := prog_23_method_2_code
def yJ_lchar : MethodName := ⟨"java/lang/StringLatin1", "charAt", "([BI)C"⟩
abbrev cJ_charAt : ByteArray := prog_22_method_56_code
def yJ_charAt : MethodName := ⟨"java/lang/String", "charAt", "(I)C"⟩
def zJ_isLatin1 : Room := { frames := 0, cells := 0, slots := 0, locals := 0 }
def zJ_coder : Room := { frames := 0, cells := 0, slots := 0, locals := 0 }
def zJ_length : Room := { frames := 1, cells := 0, slots := 0, locals := 30 }
def zJ_pcheck : Room := { frames := 0, cells := 0, slots := 0, locals := 0 }
def zJ_scheck : Room := { frames := 1, cells := 0, slots := 0, locals := 40 }
def zJ_lchar : Room := { frames := 2, cells := 0, slots := 0, locals := 80 }
def zJ_charAt : Room := { frames := 3, cells := 0, slots := 0, locals := 130 }
def zJ_codeOf : Room := { frames := 4, cells := 0, slots := 0, locals := 170 }
theorem qs_30 : Cond.initialized "ForestPacks$Reader" ∈ zT := zin 30 (by decide +kernel) (by decide +kernel)
theorem qs_31 : Cond.initialized "java/lang/String" ∈ zT := zin 31 (by decide +kernel) (by decide +kernel)
theorem qs_32 : Cond.initialized "java/lang/StringLatin1" ∈ zT := zin 32 (by decide +kernel) (by decide +kernel)
theorem qs_33 : Cond.initialized "jdk/internal/util/Preconditions" ∈ zT := zin 33 (by decide +kernel) (by decide +kernel)
theorem qs_138 : Cond.code yX9_codeOf prog_11_method_21_code 4 (some .long) ∈ zT := zin 138 (by decide +kernel) (by decide +kernel)
theorem qs_139 : Cond.methodLink "ForestPacks$Reader" 158 ⟨"java/lang/String", "length", "()I"⟩ ∈ zT := zin 139 (by decide +kernel) (by decide +kernel)
theorem qs_140 : Cond.instanceMethod ⟨"java/lang/String", "length", "()I"⟩ ∈ zT := zin 140 (by decide +kernel) (by decide +kernel)
theorem qs_141 : Cond.selects "java/lang/String" ⟨"java/lang/String", "length", "()I"⟩ ⟨"java/lang/String", "length", "()I"⟩ ∈ zT := zin 141 (by decide +kernel) (by decide +kernel)
theorem qs_142 : Cond.code yJ_length cJ_length 1 (some .int) ∈ zT := zin 142 (by decide +kernel) (by decide +kernel)
theorem qs_143 : Cond.methodLink "java/lang/String" 335 ⟨"java/lang/String", "coder", "()B"⟩ ∈ zT := zin 143 (by decide +kernel) (by decide +kernel)
theorem qs_144 : Cond.instanceMethod ⟨"java/lang/String", "coder", "()B"⟩ ∈ zT := zin 144 (by decide +kernel) (by decide +kernel)
theorem qs_145 : Cond.selects "java/lang/String" ⟨"java/lang/String", "coder", "()B"⟩ ⟨"java/lang/String", "coder", "()B"⟩ ∈ zT := zin 145 (by decide +kernel) (by decide +kernel)
theorem qs_146 : Cond.code yJ_coder cJ_coder 1 (some .byte) ∈ zT := zin 146 (by decide +kernel) (by decide +kernel)
theorem qs_147 : Cond.fieldLink "java/lang/String" 38 "java/lang/String" "COMPACT_STRINGS" "Z" ∈ zT := zin 147 (by decide +kernel) (by decide +kernel)
theorem qs_149 : Cond.constantLong "ForestPacks$Reader" 146 (zJ (27)) ∈ zT := zin 149 (by decide +kernel) (by decide +kernel)
theorem qs_150 : Cond.methodLink "ForestPacks$Reader" 163 ⟨"java/lang/String", "charAt", "(I)C"⟩ ∈ zT := zin 150 (by decide +kernel) (by decide +kernel)
theorem qs_151 : Cond.instanceMethod ⟨"java/lang/String", "charAt", "(I)C"⟩ ∈ zT := zin 151 (by decide +kernel) (by decide +kernel)
theorem qs_152 : Cond.selects "java/lang/String" ⟨"java/lang/String", "charAt", "(I)C"⟩ ⟨"java/lang/String", "charAt", "(I)C"⟩ ∈ zT := zin 152 (by decide +kernel) (by decide +kernel)
theorem qs_153 : Cond.code yJ_charAt cJ_charAt 2 (some .char) ∈ zT := zin 153 (by decide +kernel) (by decide +kernel)
theorem qs_154 : Cond.methodLink "java/lang/String" 492 ⟨"java/lang/String", "isLatin1", "()Z"⟩ ∈ zT := zin 154 (by decide +kernel) (by decide +kernel)
theorem qs_155 : Cond.instanceMethod ⟨"java/lang/String", "isLatin1", "()Z"⟩ ∈ zT := zin 155 (by decide +kernel) (by decide +kernel)
theorem qs_156 : Cond.selects "java/lang/String" ⟨"java/lang/String", "isLatin1", "()Z"⟩ ⟨"java/lang/String", "isLatin1", "()Z"⟩ ∈ zT := zin 156 (by decide +kernel) (by decide +kernel)
theorem qs_157 : Cond.code yJ_isLatin1 cJ_isLatin1 1 (some .boolean) ∈ zT := zin 157 (by decide +kernel) (by decide +kernel)
theorem qs_158 : Cond.methodLink "java/lang/String" 495 ⟨"java/lang/StringLatin1", "charAt", "([BI)C"⟩ ∈ zT := zin 158 (by decide +kernel) (by decide +kernel)
theorem qs_159 : Cond.static ⟨"java/lang/StringLatin1", "charAt", "([BI)C"⟩ ∈ zT := zin 159 (by decide +kernel) (by decide +kernel)
theorem qs_160 : Cond.code yJ_lchar cJ_lchar 2 (some .char) ∈ zT := zin 160 (by decide +kernel) (by decide +kernel)
theorem qs_161 : Cond.methodLink "java/lang/StringLatin1" 9 ⟨"java/lang/String", "checkIndex", "(II)V"⟩ ∈ zT := zin 161 (by decide +kernel) (by decide +kernel)
theorem qs_162 : Cond.static ⟨"java/lang/String", "checkIndex", "(II)V"⟩ ∈ zT := zin 162 (by decide +kernel) (by decide +kernel)
theorem qs_163 : Cond.code yJ_scheck cJ_scheck 2 none ∈ zT := zin 163 (by decide +kernel) (by decide +kernel)
theorem qs_164 : Cond.fieldLink "java/lang/String" 1053 "jdk/internal/util/Preconditions" "SIOOBE_FORMATTER" "Ljava/util/function/BiFunction;" ∈ zT := zin 164 (by decide +kernel) (by decide +kernel)
theorem qs_166 : Cond.methodLink "java/lang/String" 1059 ⟨"jdk/internal/util/Preconditions", "checkIndex", "(IILjava/util/function/BiFunction;)I"⟩ ∈ zT := zin 166 (by decide +kernel) (by decide +kernel)
theorem qs_167 : Cond.static ⟨"jdk/internal/util/Preconditions", "checkIndex", "(IILjava/util/function/BiFunction;)I"⟩ ∈ zT := zin 167 (by decide +kernel) (by decide +kernel)
theorem qs_168 : Cond.code yJ_pcheck cJ_pcheck 3 (some .int) ∈ zT := zin 168 (by decide +kernel) (by decide +kernel)
theorem qs_188 : Cond.methodLink "ForestPacks$Reader" 148 yX9_letterCode ∈ zT := zin 188 (by decide +kernel) (by decide +kernel)
theorem qs_189 : Cond.static yX9_letterCode ∈ zT := zin 189 (by decide +kernel) (by decide +kernel)
theorem qs_190 : Cond.code yX9_letterCode prog_11_method_20_code 1 (some .int) ∈ zT := zin 190 (by decide +kernel) (by decide +kernel)
theorem qs_1039 : Cond.fieldLink "java/lang/String" 9 "java/lang/String" "value" "[B" ∈ zT := zin 1039 (by decide +kernel) (by decide +kernel)
theorem qs_1040 : Cond.fieldLink "java/lang/String" 15 "java/lang/String" "coder" "B" ∈ zT := zin 1040 (by decide +kernel) (by decide +kernel)
theorem dJ_isLatin1_0 : decode cJ_isLatin1 0 = .ok (.getstatic 38, 3) := by decide +kernel
theorem dJ_isLatin1_3 : decode cJ_isLatin1 3 = .ok (.ifCond .eq 14, 3) := by decide +kernel
theorem dJ_isLatin1_6 : decode cJ_isLatin1 6 = .ok (.aload_n 0, 1) := by decide +kernel
theorem dJ_isLatin1_7 : decode cJ_isLatin1 7 = .ok (.getfield 15, 3) := by decide +kernel
theorem dJ_isLatin1_10 : decode cJ_isLatin1 10 = .ok (.ifCond .ne 7, 3) := by decide +kernel
theorem dJ_isLatin1_13 : decode cJ_isLatin1 13 = .ok (.iconst 1, 1) := by decide +kernel
theorem dJ_isLatin1_14 : decode cJ_isLatin1 14 = .ok (.goto 4, 3) := by decide +kernel
theorem dJ_isLatin1_17 : decode cJ_isLatin1 17 = .ok (.iconst 0, 1) := by decide +kernel
theorem dJ_isLatin1_18 : decode cJ_isLatin1 18 = .ok (.ireturn, 1) := by decide +kernel
theorem dJ_coder_0 : decode cJ_coder 0 = .ok (.getstatic 38, 3) := by decide +kernel
theorem dJ_coder_3 : decode cJ_coder 3 = .ok (.ifCond .eq 10, 3) := by decide +kernel
theorem dJ_coder_6 : decode cJ_coder 6 = .ok (.aload_n 0, 1) := by decide +kernel
theorem dJ_coder_7 : decode cJ_coder 7 = .ok (.getfield 15, 3) := by decide +kernel
theorem dJ_coder_10 : decode cJ_coder 10 = .ok (.goto 4, 3) := by decide +kernel
theorem dJ_coder_13 : decode cJ_coder 13 = .ok (.iconst 1, 1) := by decide +kernel
theorem dJ_coder_14 : decode cJ_coder 14 = .ok (.ireturn, 1) := by decide +kernel
theorem dJ_length_0 : decode cJ_length 0 = .ok (.aload_n 0, 1) := by decide +kernel
theorem dJ_length_1 : decode cJ_length 1 = .ok (.getfield 9, 3) := by decide +kernel
theorem dJ_length_4 : decode cJ_length 4 = .ok (.arraylength, 1) := by decide +kernel
theorem dJ_length_5 : decode cJ_length 5 = .ok (.aload_n 0, 1) := by decide +kernel
theorem dJ_length_6 : decode cJ_length 6 = .ok (.invokevirtual 335, 3) := by decide +kernel
theorem dJ_length_9 : decode cJ_length 9 = .ok (.ishr, 1) := by decide +kernel
theorem dJ_length_10 : decode cJ_length 10 = .ok (.ireturn, 1) := by decide +kernel
theorem dJ_pcheck_0 : decode cJ_pcheck 0 = .ok (.iload_n 0, 1) := by decide +kernel
theorem dJ_pcheck_1 : decode cJ_pcheck 1 = .ok (.ifCond .lt 8, 3) := by decide +kernel
theorem dJ_pcheck_4 : decode cJ_pcheck 4 = .ok (.iload_n 0, 1) := by decide +kernel
theorem dJ_pcheck_5 : decode cJ_pcheck 5 = .ok (.iload_n 1, 1) := by decide +kernel
theorem dJ_pcheck_6 : decode cJ_pcheck 6 = .ok (.if_icmp .lt 10, 3) := by decide +kernel
theorem dJ_pcheck_9 : decode cJ_pcheck 9 = .ok (.aload_n 2, 1) := by decide +kernel
theorem dJ_pcheck_10 : decode cJ_pcheck 10 = .ok (.iload_n 0, 1) := by decide +kernel
theorem dJ_pcheck_11 : decode cJ_pcheck 11 = .ok (.iload_n 1, 1) := by decide +kernel
theorem dJ_pcheck_12 : decode cJ_pcheck 12 = .ok (.invokestatic 95, 3) := by decide +kernel
theorem dJ_pcheck_15 : decode cJ_pcheck 15 = .ok (.athrow, 1) := by decide +kernel
theorem dJ_pcheck_16 : decode cJ_pcheck 16 = .ok (.iload_n 0, 1) := by decide +kernel
theorem dJ_pcheck_17 : decode cJ_pcheck 17 = .ok (.ireturn, 1) := by decide +kernel
theorem dJ_scheck_0 : decode cJ_scheck 0 = .ok (.iload_n 0, 1) := by decide +kernel
theorem dJ_scheck_1 : decode cJ_scheck 1 = .ok (.iload_n 1, 1) := by decide +kernel
theorem dJ_scheck_2 : decode cJ_scheck 2 = .ok (.getstatic 1053, 3) := by decide +kernel
theorem dJ_scheck_5 : decode cJ_scheck 5 = .ok (.invokestatic 1059, 3) := by decide +kernel
theorem dJ_scheck_8 : decode cJ_scheck 8 = .ok (.pop, 1) := by decide +kernel
theorem dJ_scheck_9 : decode cJ_scheck 9 = .ok (.return_, 1) := by decide +kernel
theorem dJ_lchar_0 : decode cJ_lchar 0 = .ok (.iload_n 1, 1) := by decide +kernel
theorem dJ_lchar_1 : decode cJ_lchar 1 = .ok (.aload_n 0, 1) := by decide +kernel
theorem dJ_lchar_2 : decode cJ_lchar 2 = .ok (.arraylength, 1) := by decide +kernel
theorem dJ_lchar_3 : decode cJ_lchar 3 = .ok (.invokestatic 9, 3) := by decide +kernel
theorem dJ_lchar_6 : decode cJ_lchar 6 = .ok (.aload_n 0, 1) := by decide +kernel
theorem dJ_lchar_7 : decode cJ_lchar 7 = .ok (.iload_n 1, 1) := by decide +kernel
theorem dJ_lchar_8 : decode cJ_lchar 8 = .ok (.baload, 1) := by decide +kernel
theorem dJ_lchar_9 : decode cJ_lchar 9 = .ok (.sipush 255, 3) := by decide +kernel
theorem dJ_lchar_12 : decode cJ_lchar 12 = .ok (.iand, 1) := by decide +kernel
theorem dJ_lchar_13 : decode cJ_lchar 13 = .ok (.i2c, 1) := by decide +kernel
theorem dJ_lchar_14 : decode cJ_lchar 14 = .ok (.ireturn, 1) := by decide +kernel
theorem dJ_charAt_0 : decode cJ_charAt 0 = .ok (.aload_n 0, 1) := by decide +kernel
theorem dJ_charAt_1 : decode cJ_charAt 1 = .ok (.invokevirtual 492, 3) := by decide +kernel
theorem dJ_charAt_4 : decode cJ_charAt 4 = .ok (.ifCond .eq 12, 3) := by decide +kernel
theorem dJ_charAt_7 : decode cJ_charAt 7 = .ok (.aload_n 0, 1) := by decide +kernel
theorem dJ_charAt_8 : decode cJ_charAt 8 = .ok (.getfield 9, 3) := by decide +kernel
theorem dJ_charAt_11 : decode cJ_charAt 11 = .ok (.iload_n 1, 1) := by decide +kernel
theorem dJ_charAt_12 : decode cJ_charAt 12 = .ok (.invokestatic 495, 3) := by decide +kernel
theorem dJ_charAt_15 : decode cJ_charAt 15 = .ok (.ireturn, 1) := by decide +kernel
theorem dJ_charAt_16 : decode cJ_charAt 16 = .ok (.aload_n 0, 1) := by decide +kernel
theorem dJ_charAt_17 : decode cJ_charAt 17 = .ok (.getfield 9, 3) := by decide +kernel
theorem dJ_charAt_20 : decode cJ_charAt 20 = .ok (.iload_n 1, 1) := by decide +kernel
theorem dJ_charAt_21 : decode cJ_charAt 21 = .ok (.invokestatic 498, 3) := by decide +kernel
theorem dJ_charAt_24 : decode cJ_charAt 24 = .ok (.ireturn, 1) := by decide +kernel
theorem dJ_codeOf_0 : decode cX9_codeOf 0 = .ok (.lconst 0, 1) := by decide +kernel
theorem dJ_codeOf_1 : decode cX9_codeOf 1 = .ok (.lstore_n 1, 1) := by decide +kernel
theorem dJ_codeOf_2 : decode cX9_codeOf 2 = .ok (.iconst 0, 1) := by decide +kernel
theorem dJ_codeOf_3 : decode cX9_codeOf 3 = .ok (.istore_n 3, 1) := by decide +kernel
theorem dJ_codeOf_4 : decode cX9_codeOf 4 = .ok (.iload_n 3, 1) := by decide +kernel
theorem dJ_codeOf_5 : decode cX9_codeOf 5 = .ok (.aload_n 0, 1) := by decide +kernel
theorem dJ_codeOf_6 : decode cX9_codeOf 6 = .ok (.invokevirtual 158, 3) := by decide +kernel
theorem dJ_codeOf_9 : decode cX9_codeOf 9 = .ok (.if_icmp .ge 25, 3) := by decide +kernel
theorem dJ_codeOf_12 : decode cX9_codeOf 12 = .ok (.lload_n 1, 1) := by decide +kernel
theorem dJ_codeOf_13 : decode cX9_codeOf 13 = .ok (.ldc2_w 146, 3) := by decide +kernel
theorem dJ_codeOf_16 : decode cX9_codeOf 16 = .ok (.lmul, 1) := by decide +kernel
theorem dJ_codeOf_17 : decode cX9_codeOf 17 = .ok (.aload_n 0, 1) := by decide +kernel
theorem dJ_codeOf_18 : decode cX9_codeOf 18 = .ok (.iload_n 3, 1) := by decide +kernel
theorem dJ_codeOf_19 : decode cX9_codeOf 19 = .ok (.invokevirtual 163, 3) := by decide +kernel
theorem dJ_codeOf_22 : decode cX9_codeOf 22 = .ok (.invokestatic 148, 3) := by decide +kernel
theorem dJ_codeOf_25 : decode cX9_codeOf 25 = .ok (.i2l, 1) := by decide +kernel
theorem dJ_codeOf_26 : decode cX9_codeOf 26 = .ok (.ladd, 1) := by decide +kernel
theorem dJ_codeOf_27 : decode cX9_codeOf 27 = .ok (.lstore_n 1, 1) := by decide +kernel
theorem dJ_codeOf_28 : decode cX9_codeOf 28 = .ok (.iinc 3 1, 3) := by decide +kernel
theorem dJ_codeOf_31 : decode cX9_codeOf 31 = .ok (.goto (-27), 3) := by decide +kernel
theorem dJ_codeOf_34 : decode cX9_codeOf 34 = .ok (.lload_n 1, 1) := by decide +kernel
theorem dJ_codeOf_35 : decode cX9_codeOf 35 = .ok (.lreturn, 1) := by decide +kernel
theorem kJ_isLatin1 : zK yJ_isLatin1 cJ_isLatin1 1 (some .boolean) 0 := ⟨qs_157, qs_31, by decide +kernel, by decide +kernel, by decide +kernel⟩
theorem kJ_coder : zK yJ_coder cJ_coder 1 (some .byte) 0 := ⟨qs_146, qs_31, by decide +kernel, by decide +kernel, by decide +kernel⟩
theorem kJ_length : zK yJ_length cJ_length 1 (some .int) 0 := ⟨qs_142, qs_31, by decide +kernel, by decide +kernel, by decide +kernel⟩
theorem kJ_pcheck : zK yJ_pcheck cJ_pcheck 3 (some .int) 3 := ⟨qs_168, qs_33, by decide +kernel, by decide +kernel, by decide +kernel⟩
theorem kJ_scheck : zK yJ_scheck cJ_scheck 2 none 2 := ⟨qs_163, qs_31, by decide +kernel, by decide +kernel, by decide +kernel⟩
theorem kJ_lchar : zK yJ_lchar cJ_lchar 2 (some .char) 2 := ⟨qs_160, qs_32, by decide +kernel, by decide +kernel, by decide +kernel⟩
theorem kJ_charAt : zK yJ_charAt cJ_charAt 2 (some .char) 1 := ⟨qs_153, qs_31, by decide +kernel, by decide +kernel, by decide +kernel⟩
theorem kJ_codeOf : zK yX9_codeOf cX9_codeOf 4 (some .long) 1 := ⟨qs_138, qs_30, by decide +kernel, by decide +kernel, by decide +kernel⟩
theorem kJ_letterCode : zK yX9_letterCode cX9_letterCode 1 (some .int) 1 := ⟨qs_190, qs_30, by decide +kernel, by decide +kernel, by decide +kernel⟩
/-! String.length, charAt and what they call, over the three words; codeOf of them -/
theorem tJ_isLatin1 {l : Launch} {ks : ZS} {g : ZG} {w : va_W} {i : Nat} (hi : i < 6) : zMsi l ks yJ_isLatin1 cJ_isLatin1 1 (some .boolean) zJ_isLatin1 g [.ref (ks.1 i)] w (1) := by
  refine zMsi_of (own := "java/lang/String") rfl (by decide +kernel) (Nat.le_of_ble_eq_true rfl) rfl ?_
  intro p e s m args below meth c A Q hQ cx hE
  subst hQ
  refine z_gets cx dJ_isLatin1_0 3 rfl hE.2.2.1 qs_147 ?_
  refine y_if_eq (a := (none : Option Unit)) (b := some ()) (r := ()) (x := 1) cx dJ_isLatin1_3 6 rfl 17 (by decide) (nm_eq (x := 1) (by decide) (by decide)) (by decide) (fun h => by cases h) (fun _ => ?_)
  refine z_aload_n cx dJ_isLatin1_6 7 rfl rfl 0 rfl ?_
  refine z_getOF cx dJ_isLatin1_7 10 rfl (hE.2.1.1 i hi).2.1 qs_1040 ?_
  refine y_if_ne (a := some ()) (b := (none : Option Unit)) (r := ()) (x := 0) cx dJ_isLatin1_10 13 rfl 17 (by decide) (nm_eq (x := 0) (by decide) (by decide)) (by decide) (fun h => by cases h) (fun _ => ?_)
  refine y_iconst cx dJ_isLatin1_13 14 rfl ?_
  refine z_goto cx dJ_isLatin1_14 18 (by decide) ?_
  exact z_zret cx dJ_isLatin1_18 (Or.inr rfl) rfl rfl
theorem tJ_coder {l : Launch} {ks : ZS} {g : ZG} {w : va_W} {i : Nat} (hi : i < 6) : zMsi l ks yJ_coder cJ_coder 1 (some .byte) zJ_coder g [.ref (ks.1 i)] w (0) := by
  refine zMsi_of (own := "java/lang/String") rfl (by decide +kernel) (Nat.le_of_ble_eq_true rfl) rfl ?_
  intro p e s m args below meth c A Q hQ cx hE
  subst hQ
  refine z_gets cx dJ_coder_0 3 rfl hE.2.2.1 qs_147 ?_
  refine y_if_eq (a := (none : Option Unit)) (b := some ()) (r := ()) (x := 1) cx dJ_coder_3 6 rfl 13 (by decide) (nm_eq (x := 1) (by decide) (by decide)) (by decide) (fun h => by cases h) (fun _ => ?_)
  refine z_aload_n cx dJ_coder_6 7 rfl rfl 0 rfl ?_
  refine z_getOF cx dJ_coder_7 10 rfl (hE.2.1.1 i hi).2.1 qs_1040 ?_
  refine z_goto cx dJ_coder_10 14 (by decide) ?_
  exact z_nret cx dJ_coder_14 rfl rfl rfl
theorem tJ_length {l : Launch} {ks : ZS} {g : ZG} {w : va_W} {i : Nat} (hi : i < 6) {v : Int32} (hv : Int32.ofNat (zLen.getD i 0) >>> (0 &&& 31) = v) : zMsi l ks yJ_length cJ_length 1 (some .int) zJ_length g [.ref (ks.1 i)] w (v) := by
  refine zMsi_of (own := "java/lang/String") rfl (by decide +kernel) (Nat.le_of_ble_eq_true rfl) rfl ?_
  intro p e s m args below meth c A Q hQ cx hE
  subst hQ
  refine z_aload_n cx dJ_length_0 1 rfl rfl 0 rfl ?_
  refine z_getOF cx dJ_length_1 4 rfl (hE.2.1.1 i hi).2.2.1 qs_1039 ?_
  refine z_tlen cx dJ_length_4 5 rfl (hE.2.1.1 i hi).2.2.2 rfl ?_
  refine z_aload_n cx dJ_length_5 6 rfl rfl 0 rfl ?_
  refine z_callVs_i (As := []) (rest := [.int (Int32.ofNat (zLen.getD i 0))]) cx hE (tJ_coder hi) dJ_length_6 9 rfl kJ_coder qs_143 qs_144 qs_145 rfl (hE.2.1.1 i hi).1 ⟨rfl, rfl⟩ ⟨Nat.le_of_ble_eq_true rfl, Nat.le_of_ble_eq_true rfl⟩ rfl rfl (Nat.le_of_ble_eq_true rfl) ⟨Nat.zero_le _, Nat.zero_le _⟩ ?_
  refine z_ishr cx dJ_length_9 10 rfl ?_
  exact z_nret cx dJ_length_10 rfl hv rfl
theorem tJ_pcheckN {l : Launch} {ks : ZS} {g : ZG} {w : va_W} {x y : Int32} (h0 : ¬ x < 0) (h1 : x < y) : zMsi l ks yJ_pcheck cJ_pcheck 3 (some .int) zJ_pcheck g [.int x, .int y, .null] w (x) := by
  refine zMsi_of (own := "jdk/internal/util/Preconditions") rfl (by decide +kernel) (Nat.le_of_ble_eq_true rfl) rfl ?_
  intro p e s m args below meth c A Q hQ cx hE
  subst hQ
  refine z_iload_n cx dJ_pcheck_0 1 rfl rfl 0 rfl ?_
  refine z_if_lt cx dJ_pcheck_1 4 rfl 9 (by decide) (fun h => absurd h h0) (fun _ => ?_)
  refine z_iload_n cx dJ_pcheck_4 5 rfl rfl 0 rfl ?_
  refine z_iload_n cx dJ_pcheck_5 6 rfl rfl 1 rfl ?_
  refine z_icmp_lt cx dJ_pcheck_6 9 rfl 16 (by decide) (fun _ => ?_) (fun h => absurd h1 h)
  refine z_iload_n cx dJ_pcheck_16 17 rfl rfl 0 rfl ?_
  exact z_nret cx dJ_pcheck_17 rfl rfl rfl
theorem tJ_pcheckR {l : Launch} {ks : ZS} {g : ZG} {w : va_W} {x y : Int32} {t9 : Nat} (h0 : ¬ x < 0) (h1 : x < y) : zMsi l ks yJ_pcheck cJ_pcheck 3 (some .int) zJ_pcheck g [.int x, .int y, .ref t9] w (x) := by
  refine zMsi_of (own := "jdk/internal/util/Preconditions") rfl (by decide +kernel) (Nat.le_of_ble_eq_true rfl) rfl ?_
  intro p e s m args below meth c A Q hQ cx hE
  subst hQ
  refine z_iload_n cx dJ_pcheck_0 1 rfl rfl 0 rfl ?_
  refine z_if_lt cx dJ_pcheck_1 4 rfl 9 (by decide) (fun h => absurd h h0) (fun _ => ?_)
  refine z_iload_n cx dJ_pcheck_4 5 rfl rfl 0 rfl ?_
  refine z_iload_n cx dJ_pcheck_5 6 rfl rfl 1 rfl ?_
  refine z_icmp_lt cx dJ_pcheck_6 9 rfl 16 (by decide) (fun _ => ?_) (fun h => absurd h1 h)
  refine z_iload_n cx dJ_pcheck_16 17 rfl rfl 0 rfl ?_
  exact z_nret cx dJ_pcheck_17 rfl rfl rfl
theorem tJ_scheck {l : Launch} {ks : ZS} {g : ZG} {w : va_W} {x y : Int32} (h0 : ¬ x < 0) (h1 : x < y) : zMsv l ks yJ_scheck cJ_scheck 2 zJ_scheck g [.int x, .int y] w := by
  refine zMsv_of (own := "java/lang/String") rfl (by decide +kernel) (Nat.le_of_ble_eq_true rfl) rfl ?_
  intro p e s m args below meth c A Q hQ cx hE
  subst hQ
  refine z_iload_n cx dJ_scheck_0 1 rfl rfl 0 rfl ?_
  refine z_iload_n cx dJ_scheck_1 2 rfl rfl 1 rfl ?_
  rcases hE.2.2.2.1 with hz | ⟨t, hz⟩
  · refine z_gets cx dJ_scheck_2 5 rfl hz qs_164 ?_
    refine z_callSs_i (As := [.int x, .int y, .null]) (rest := []) cx hE (tJ_pcheckN h0 h1) dJ_scheck_5 8 rfl kJ_pcheck qs_166 qs_167 ⟨rfl, rfl⟩ ⟨Nat.le_of_ble_eq_true rfl, Nat.le_of_ble_eq_true rfl⟩ rfl rfl (Nat.le_of_ble_eq_true rfl) ⟨Nat.zero_le _, Nat.zero_le _⟩ ?_
    refine z_pop cx dJ_scheck_8 9 rfl rfl ?_
    exact z_vret cx dJ_scheck_9 rfl
  · refine z_gets cx dJ_scheck_2 5 rfl hz qs_164 ?_
    refine z_callSs_i (As := [.int x, .int y, .ref t]) (rest := []) cx hE (tJ_pcheckR h0 h1) dJ_scheck_5 8 rfl kJ_pcheck qs_166 qs_167 ⟨rfl, rfl⟩ ⟨Nat.le_of_ble_eq_true rfl, Nat.le_of_ble_eq_true rfl⟩ rfl rfl (Nat.le_of_ble_eq_true rfl) ⟨Nat.zero_le _, Nat.zero_le _⟩ ?_
    refine z_pop cx dJ_scheck_8 9 rfl rfl ?_
    exact z_vret cx dJ_scheck_9 rfl
theorem tJ_lchar {l : Launch} {ks : ZS} {g : ZG} {w : va_W} {i : Nat} (hi : i < 6) {x v : Int32} (h0 : ¬ x < 0) (h1 : x < Int32.ofNat (zLen.getD i 0)) (h2 : vp_in x (zLen.getD i 0)) (hv : ((((zByt.getD i []).getD x.toNatClampNeg 0) &&& 255).toUInt32 % 65536).toInt32 = v) (hn : narrow .char (.int v) = .int v) : zMsi l ks yJ_lchar cJ_lchar 2 (some .char) zJ_lchar g [.ref (ks.2 i), .int x] w (v) := by
  refine zMsi_of (own := "java/lang/StringLatin1") rfl (by decide +kernel) (Nat.le_of_ble_eq_true rfl) rfl ?_
  intro p e s m args below meth c A Q hQ cx hE
  subst hQ
  refine z_iload_n cx dJ_lchar_0 1 rfl rfl 1 rfl ?_
  refine z_aload_n cx dJ_lchar_1 2 rfl rfl 0 rfl ?_
  refine z_tlen cx dJ_lchar_2 3 rfl (hE.2.1.1 i hi).2.2.2 rfl ?_
  refine z_callSs_v (As := [.int x, .int (Int32.ofNat (zLen.getD i 0))]) (rest := []) cx hE (tJ_scheck h0 h1) dJ_lchar_3 6 rfl kJ_scheck qs_161 qs_162 ⟨rfl, rfl⟩ ⟨Nat.le_of_ble_eq_true rfl, Nat.le_of_ble_eq_true rfl⟩ rfl rfl (Nat.le_of_ble_eq_true rfl) ⟨Nat.zero_le _, Nat.zero_le _⟩ ?_
  refine z_aload_n cx dJ_lchar_6 7 rfl rfl 0 rfl ?_
  refine z_iload_n cx dJ_lchar_7 8 rfl rfl 1 rfl ?_
  refine z_tb cx dJ_lchar_8 9 rfl (hE.2.1.1 i hi).2.2.2 h2 rfl ?_
  refine z_sipush cx dJ_lchar_9 12 rfl rfl ?_
  refine z_iand cx dJ_lchar_12 13 rfl ?_
  refine z_i2c cx dJ_lchar_13 14 rfl hv ?_
  exact z_nret cx dJ_lchar_14 hn rfl rfl
theorem tJ_charAt {l : Launch} {ks : ZS} {g : ZG} {w : va_W} {i : Nat} (hi : i < 6) {x v : Int32} (h0 : ¬ x < 0) (h1 : x < Int32.ofNat (zLen.getD i 0)) (h2 : vp_in x (zLen.getD i 0)) (hv : ((((zByt.getD i []).getD x.toNatClampNeg 0) &&& 255).toUInt32 % 65536).toInt32 = v) (hn : narrow .char (.int v) = .int v) : zMsi l ks yJ_charAt cJ_charAt 2 (some .char) zJ_charAt g [.ref (ks.1 i), .int x] w (v) := by
  refine zMsi_of (own := "java/lang/String") rfl (by decide +kernel) (Nat.le_of_ble_eq_true rfl) rfl ?_
  intro p e s m args below meth c A Q hQ cx hE
  subst hQ
  refine z_aload_n cx dJ_charAt_0 1 rfl rfl 0 rfl ?_
  refine z_callVs_i (As := []) (rest := []) cx hE (tJ_isLatin1 hi) dJ_charAt_1 4 rfl kJ_isLatin1 qs_154 qs_155 qs_156 rfl (hE.2.1.1 i hi).1 ⟨rfl, rfl⟩ ⟨Nat.le_of_ble_eq_true rfl, Nat.le_of_ble_eq_true rfl⟩ rfl rfl (Nat.le_of_ble_eq_true rfl) ⟨Nat.zero_le _, Nat.zero_le _⟩ ?_
  refine z_if_eq cx dJ_charAt_4 7 rfl 16 (by decide) (fun h => absurd h (by decide)) (fun _ => ?_)
  refine z_aload_n cx dJ_charAt_7 8 rfl rfl 0 rfl ?_
  refine z_getOF cx dJ_charAt_8 11 rfl (hE.2.1.1 i hi).2.2.1 qs_1039 ?_
  refine z_iload_n cx dJ_charAt_11 12 rfl rfl 1 rfl ?_
  refine z_callSs_i (As := [.ref (ks.2 i), .int x]) (rest := []) cx hE (tJ_lchar hi h0 h1 h2 hv hn) dJ_charAt_12 15 rfl kJ_lchar qs_158 qs_159 ⟨rfl, rfl⟩ ⟨Nat.le_of_ble_eq_true rfl, Nat.le_of_ble_eq_true rfl⟩ rfl rfl (Nat.le_of_ble_eq_true rfl) ⟨Nat.zero_le _, Nat.zero_le _⟩ ?_
  exact z_nret cx dJ_charAt_15 hn rfl rfl
set_option maxHeartbeats 4000000 in
theorem tJ_codeOf0 {l : Launch} {ks : ZS} {g : ZG} {w : va_W} : zMsl l ks yX9_codeOf cX9_codeOf 4 (some .long) zJ_codeOf g [.ref (ks.1 0)] w (zJ 8805260) := by
  refine zMsl_of (own := RX9) rfl (by decide +kernel) (Nat.le_of_ble_eq_true rfl) rfl ?_
  intro p e s m args below meth c A Q hQ cx hE
  subst hQ
  refine z_lconst cx dJ_codeOf_0 1 rfl (v := zJ 0) (by decide) ?_
  refine y_lstore_n (e0 := 0) cx dJ_codeOf_1 2 rfl rfl (by decide) (lv' := [(1, .long (zJ 0)), (0, .ref (ks.1 0))]) rfl ?_
  refine y_iconst cx dJ_codeOf_2 3 rfl ?_
  refine y_istore_n (e0 := 0) cx dJ_codeOf_3 4 rfl rfl (by decide) (lv' := [(3, .int (zI 0)), (1, .long (zJ 0)), (0, .ref (ks.1 0))]) rfl ?_
  refine z_iload_n cx dJ_codeOf_4 5 rfl rfl 0 rfl ?_
  refine z_aload_n cx dJ_codeOf_5 6 rfl rfl 2 rfl ?_
  refine z_callVs_i (As := []) (rest := [.int (zI 0)]) cx hE (tJ_length (i := 0) (v := zI 5) (by decide) (by decide)) dJ_codeOf_6 9 rfl kJ_length qs_139 qs_140 qs_141 rfl (hE.2.1.1 0 (by decide)).1 ⟨rfl, rfl⟩ ⟨Nat.le_of_ble_eq_true rfl, Nat.le_of_ble_eq_true rfl⟩ rfl rfl (Nat.le_of_ble_eq_true rfl) ⟨Nat.zero_le _, Nat.zero_le _⟩ ?_
  refine z_icmp_ge cx dJ_codeOf_9 12 rfl 34 (by decide) (fun h => absurd h (by decide)) (fun _ => ?_)
  refine z_lload_n cx dJ_codeOf_12 13 rfl rfl 1 rfl ?_
  refine y_ldc2_w cx 27 dJ_codeOf_13 16 rfl qs_149 ?_
  refine y_lmul cx dJ_codeOf_16 17 rfl ?_
  refine z_aload_n cx dJ_codeOf_17 18 rfl rfl 2 rfl ?_
  refine z_iload_n cx dJ_codeOf_18 19 rfl rfl 0 rfl ?_
  refine z_callVs_i (As := [.int (zI 0)]) (rest := [.long (zJ (0 * 27))]) cx hE (tJ_charAt (i := 0) (v := zI 112) (by decide) (by decide) (by decide) (vp_in_iff.mpr (by decide)) (by decide) (by decide)) dJ_codeOf_19 22 rfl kJ_charAt qs_150 qs_151 qs_152 rfl (hE.2.1.1 0 (by decide)).1 ⟨rfl, rfl⟩ ⟨Nat.le_of_ble_eq_true rfl, Nat.le_of_ble_eq_true rfl⟩ rfl rfl (Nat.le_of_ble_eq_true rfl) ⟨Nat.zero_le _, Nat.zero_le _⟩ ?_
  refine z_callS_i (r := zI 16) (As := [.int (zI 112)]) (rest := [.long (zJ (0 * 27))]) cx (tRd_letterCode (a1 := 112) (r := 16) rfl) dJ_codeOf_22 25 rfl kJ_letterCode qs_188 qs_189 ⟨rfl, rfl⟩ ⟨Nat.le_of_ble_eq_true rfl, Nat.le_of_ble_eq_true rfl⟩ rfl rfl (Nat.le_of_ble_eq_true rfl) ⟨Nat.zero_le _, Nat.zero_le _⟩ ?_
  refine y_i2l2 (x2 := 16) cx dJ_codeOf_25 26 rfl (nm_eq (x := 16) (by decide) (by decide)) ?_
  refine y_ladd cx dJ_codeOf_26 27 rfl ?_
  rw [show (0 * 27 + 16 : Int) = 16 from by decide]
  refine y_lstore_n (e0 := 16) cx dJ_codeOf_27 28 rfl rfl (by decide) (lv' := [(1, .long (zJ 16)), (3, .int (zI 0)), (0, .ref (ks.1 0))]) rfl ?_
  refine z_iinc (n := 1) (x := zI 0) (y := zI 1) (lv' := [(3, .int (zI 1)), (1, .long (zJ 16)), (0, .ref (ks.1 0))]) cx 1 dJ_codeOf_28 31 rfl rfl (by decide) rfl (by decide) ?_
  refine z_goto cx dJ_codeOf_31 4 (by decide) ?_
  refine z_iload_n cx dJ_codeOf_4 5 rfl rfl 0 rfl ?_
  refine z_aload_n cx dJ_codeOf_5 6 rfl rfl 2 rfl ?_
  refine z_callVs_i (As := []) (rest := [.int (zI 1)]) cx hE (tJ_length (i := 0) (v := zI 5) (by decide) (by decide)) dJ_codeOf_6 9 rfl kJ_length qs_139 qs_140 qs_141 rfl (hE.2.1.1 0 (by decide)).1 ⟨rfl, rfl⟩ ⟨Nat.le_of_ble_eq_true rfl, Nat.le_of_ble_eq_true rfl⟩ rfl rfl (Nat.le_of_ble_eq_true rfl) ⟨Nat.zero_le _, Nat.zero_le _⟩ ?_
  refine z_icmp_ge cx dJ_codeOf_9 12 rfl 34 (by decide) (fun h => absurd h (by decide)) (fun _ => ?_)
  refine z_lload_n cx dJ_codeOf_12 13 rfl rfl 1 rfl ?_
  refine y_ldc2_w cx 27 dJ_codeOf_13 16 rfl qs_149 ?_
  refine y_lmul cx dJ_codeOf_16 17 rfl ?_
  refine z_aload_n cx dJ_codeOf_17 18 rfl rfl 2 rfl ?_
  refine z_iload_n cx dJ_codeOf_18 19 rfl rfl 0 rfl ?_
  refine z_callVs_i (As := [.int (zI 1)]) (rest := [.long (zJ (16 * 27))]) cx hE (tJ_charAt (i := 0) (v := zI 111) (by decide) (by decide) (by decide) (vp_in_iff.mpr (by decide)) (by decide) (by decide)) dJ_codeOf_19 22 rfl kJ_charAt qs_150 qs_151 qs_152 rfl (hE.2.1.1 0 (by decide)).1 ⟨rfl, rfl⟩ ⟨Nat.le_of_ble_eq_true rfl, Nat.le_of_ble_eq_true rfl⟩ rfl rfl (Nat.le_of_ble_eq_true rfl) ⟨Nat.zero_le _, Nat.zero_le _⟩ ?_
  refine z_callS_i (r := zI 15) (As := [.int (zI 111)]) (rest := [.long (zJ (16 * 27))]) cx (tRd_letterCode (a1 := 111) (r := 15) rfl) dJ_codeOf_22 25 rfl kJ_letterCode qs_188 qs_189 ⟨rfl, rfl⟩ ⟨Nat.le_of_ble_eq_true rfl, Nat.le_of_ble_eq_true rfl⟩ rfl rfl (Nat.le_of_ble_eq_true rfl) ⟨Nat.zero_le _, Nat.zero_le _⟩ ?_
  refine y_i2l2 (x2 := 15) cx dJ_codeOf_25 26 rfl (nm_eq (x := 15) (by decide) (by decide)) ?_
  refine y_ladd cx dJ_codeOf_26 27 rfl ?_
  rw [show (16 * 27 + 15 : Int) = 447 from by decide]
  refine y_lstore_n (e0 := 447) cx dJ_codeOf_27 28 rfl rfl (by decide) (lv' := [(1, .long (zJ 447)), (3, .int (zI 1)), (0, .ref (ks.1 0))]) rfl ?_
  refine z_iinc (n := 1) (x := zI 1) (y := zI 2) (lv' := [(3, .int (zI 2)), (1, .long (zJ 447)), (0, .ref (ks.1 0))]) cx 1 dJ_codeOf_28 31 rfl rfl (by decide) rfl (by decide) ?_
  refine z_goto cx dJ_codeOf_31 4 (by decide) ?_
  refine z_iload_n cx dJ_codeOf_4 5 rfl rfl 0 rfl ?_
  refine z_aload_n cx dJ_codeOf_5 6 rfl rfl 2 rfl ?_
  refine z_callVs_i (As := []) (rest := [.int (zI 2)]) cx hE (tJ_length (i := 0) (v := zI 5) (by decide) (by decide)) dJ_codeOf_6 9 rfl kJ_length qs_139 qs_140 qs_141 rfl (hE.2.1.1 0 (by decide)).1 ⟨rfl, rfl⟩ ⟨Nat.le_of_ble_eq_true rfl, Nat.le_of_ble_eq_true rfl⟩ rfl rfl (Nat.le_of_ble_eq_true rfl) ⟨Nat.zero_le _, Nat.zero_le _⟩ ?_
  refine z_icmp_ge cx dJ_codeOf_9 12 rfl 34 (by decide) (fun h => absurd h (by decide)) (fun _ => ?_)
  refine z_lload_n cx dJ_codeOf_12 13 rfl rfl 1 rfl ?_
  refine y_ldc2_w cx 27 dJ_codeOf_13 16 rfl qs_149 ?_
  refine y_lmul cx dJ_codeOf_16 17 rfl ?_
  refine z_aload_n cx dJ_codeOf_17 18 rfl rfl 2 rfl ?_
  refine z_iload_n cx dJ_codeOf_18 19 rfl rfl 0 rfl ?_
  refine z_callVs_i (As := [.int (zI 2)]) (rest := [.long (zJ (447 * 27))]) cx hE (tJ_charAt (i := 0) (v := zI 105) (by decide) (by decide) (by decide) (vp_in_iff.mpr (by decide)) (by decide) (by decide)) dJ_codeOf_19 22 rfl kJ_charAt qs_150 qs_151 qs_152 rfl (hE.2.1.1 0 (by decide)).1 ⟨rfl, rfl⟩ ⟨Nat.le_of_ble_eq_true rfl, Nat.le_of_ble_eq_true rfl⟩ rfl rfl (Nat.le_of_ble_eq_true rfl) ⟨Nat.zero_le _, Nat.zero_le _⟩ ?_
  refine z_callS_i (r := zI 9) (As := [.int (zI 105)]) (rest := [.long (zJ (447 * 27))]) cx (tRd_letterCode (a1 := 105) (r := 9) rfl) dJ_codeOf_22 25 rfl kJ_letterCode qs_188 qs_189 ⟨rfl, rfl⟩ ⟨Nat.le_of_ble_eq_true rfl, Nat.le_of_ble_eq_true rfl⟩ rfl rfl (Nat.le_of_ble_eq_true rfl) ⟨Nat.zero_le _, Nat.zero_le _⟩ ?_
  refine y_i2l2 (x2 := 9) cx dJ_codeOf_25 26 rfl (nm_eq (x := 9) (by decide) (by decide)) ?_
  refine y_ladd cx dJ_codeOf_26 27 rfl ?_
  rw [show (447 * 27 + 9 : Int) = 12078 from by decide]
  refine y_lstore_n (e0 := 12078) cx dJ_codeOf_27 28 rfl rfl (by decide) (lv' := [(1, .long (zJ 12078)), (3, .int (zI 2)), (0, .ref (ks.1 0))]) rfl ?_
  refine z_iinc (n := 1) (x := zI 2) (y := zI 3) (lv' := [(3, .int (zI 3)), (1, .long (zJ 12078)), (0, .ref (ks.1 0))]) cx 1 dJ_codeOf_28 31 rfl rfl (by decide) rfl (by decide) ?_
  refine z_goto cx dJ_codeOf_31 4 (by decide) ?_
  refine z_iload_n cx dJ_codeOf_4 5 rfl rfl 0 rfl ?_
  refine z_aload_n cx dJ_codeOf_5 6 rfl rfl 2 rfl ?_
  refine z_callVs_i (As := []) (rest := [.int (zI 3)]) cx hE (tJ_length (i := 0) (v := zI 5) (by decide) (by decide)) dJ_codeOf_6 9 rfl kJ_length qs_139 qs_140 qs_141 rfl (hE.2.1.1 0 (by decide)).1 ⟨rfl, rfl⟩ ⟨Nat.le_of_ble_eq_true rfl, Nat.le_of_ble_eq_true rfl⟩ rfl rfl (Nat.le_of_ble_eq_true rfl) ⟨Nat.zero_le _, Nat.zero_le _⟩ ?_
  refine z_icmp_ge cx dJ_codeOf_9 12 rfl 34 (by decide) (fun h => absurd h (by decide)) (fun _ => ?_)
  refine z_lload_n cx dJ_codeOf_12 13 rfl rfl 1 rfl ?_
  refine y_ldc2_w cx 27 dJ_codeOf_13 16 rfl qs_149 ?_
  refine y_lmul cx dJ_codeOf_16 17 rfl ?_
  refine z_aload_n cx dJ_codeOf_17 18 rfl rfl 2 rfl ?_
  refine z_iload_n cx dJ_codeOf_18 19 rfl rfl 0 rfl ?_
  refine z_callVs_i (As := [.int (zI 3)]) (rest := [.long (zJ (12078 * 27))]) cx hE (tJ_charAt (i := 0) (v := zI 110) (by decide) (by decide) (by decide) (vp_in_iff.mpr (by decide)) (by decide) (by decide)) dJ_codeOf_19 22 rfl kJ_charAt qs_150 qs_151 qs_152 rfl (hE.2.1.1 0 (by decide)).1 ⟨rfl, rfl⟩ ⟨Nat.le_of_ble_eq_true rfl, Nat.le_of_ble_eq_true rfl⟩ rfl rfl (Nat.le_of_ble_eq_true rfl) ⟨Nat.zero_le _, Nat.zero_le _⟩ ?_
  refine z_callS_i (r := zI 14) (As := [.int (zI 110)]) (rest := [.long (zJ (12078 * 27))]) cx (tRd_letterCode (a1 := 110) (r := 14) rfl) dJ_codeOf_22 25 rfl kJ_letterCode qs_188 qs_189 ⟨rfl, rfl⟩ ⟨Nat.le_of_ble_eq_true rfl, Nat.le_of_ble_eq_true rfl⟩ rfl rfl (Nat.le_of_ble_eq_true rfl) ⟨Nat.zero_le _, Nat.zero_le _⟩ ?_
  refine y_i2l2 (x2 := 14) cx dJ_codeOf_25 26 rfl (nm_eq (x := 14) (by decide) (by decide)) ?_
  refine y_ladd cx dJ_codeOf_26 27 rfl ?_
  rw [show (12078 * 27 + 14 : Int) = 326120 from by decide]
  refine y_lstore_n (e0 := 326120) cx dJ_codeOf_27 28 rfl rfl (by decide) (lv' := [(1, .long (zJ 326120)), (3, .int (zI 3)), (0, .ref (ks.1 0))]) rfl ?_
  refine z_iinc (n := 1) (x := zI 3) (y := zI 4) (lv' := [(3, .int (zI 4)), (1, .long (zJ 326120)), (0, .ref (ks.1 0))]) cx 1 dJ_codeOf_28 31 rfl rfl (by decide) rfl (by decide) ?_
  refine z_goto cx dJ_codeOf_31 4 (by decide) ?_
  refine z_iload_n cx dJ_codeOf_4 5 rfl rfl 0 rfl ?_
  refine z_aload_n cx dJ_codeOf_5 6 rfl rfl 2 rfl ?_
  refine z_callVs_i (As := []) (rest := [.int (zI 4)]) cx hE (tJ_length (i := 0) (v := zI 5) (by decide) (by decide)) dJ_codeOf_6 9 rfl kJ_length qs_139 qs_140 qs_141 rfl (hE.2.1.1 0 (by decide)).1 ⟨rfl, rfl⟩ ⟨Nat.le_of_ble_eq_true rfl, Nat.le_of_ble_eq_true rfl⟩ rfl rfl (Nat.le_of_ble_eq_true rfl) ⟨Nat.zero_le _, Nat.zero_le _⟩ ?_
  refine z_icmp_ge cx dJ_codeOf_9 12 rfl 34 (by decide) (fun h => absurd h (by decide)) (fun _ => ?_)
  refine z_lload_n cx dJ_codeOf_12 13 rfl rfl 1 rfl ?_
  refine y_ldc2_w cx 27 dJ_codeOf_13 16 rfl qs_149 ?_
  refine y_lmul cx dJ_codeOf_16 17 rfl ?_
  refine z_aload_n cx dJ_codeOf_17 18 rfl rfl 2 rfl ?_
  refine z_iload_n cx dJ_codeOf_18 19 rfl rfl 0 rfl ?_
  refine z_callVs_i (As := [.int (zI 4)]) (rest := [.long (zJ (326120 * 27))]) cx hE (tJ_charAt (i := 0) (v := zI 116) (by decide) (by decide) (by decide) (vp_in_iff.mpr (by decide)) (by decide) (by decide)) dJ_codeOf_19 22 rfl kJ_charAt qs_150 qs_151 qs_152 rfl (hE.2.1.1 0 (by decide)).1 ⟨rfl, rfl⟩ ⟨Nat.le_of_ble_eq_true rfl, Nat.le_of_ble_eq_true rfl⟩ rfl rfl (Nat.le_of_ble_eq_true rfl) ⟨Nat.zero_le _, Nat.zero_le _⟩ ?_
  refine z_callS_i (r := zI 20) (As := [.int (zI 116)]) (rest := [.long (zJ (326120 * 27))]) cx (tRd_letterCode (a1 := 116) (r := 20) rfl) dJ_codeOf_22 25 rfl kJ_letterCode qs_188 qs_189 ⟨rfl, rfl⟩ ⟨Nat.le_of_ble_eq_true rfl, Nat.le_of_ble_eq_true rfl⟩ rfl rfl (Nat.le_of_ble_eq_true rfl) ⟨Nat.zero_le _, Nat.zero_le _⟩ ?_
  refine y_i2l2 (x2 := 20) cx dJ_codeOf_25 26 rfl (nm_eq (x := 20) (by decide) (by decide)) ?_
  refine y_ladd cx dJ_codeOf_26 27 rfl ?_
  rw [show (326120 * 27 + 20 : Int) = 8805260 from by decide]
  refine y_lstore_n (e0 := 8805260) cx dJ_codeOf_27 28 rfl rfl (by decide) (lv' := [(1, .long (zJ 8805260)), (3, .int (zI 4)), (0, .ref (ks.1 0))]) rfl ?_
  refine z_iinc (n := 1) (x := zI 4) (y := zI 5) (lv' := [(3, .int (zI 5)), (1, .long (zJ 8805260)), (0, .ref (ks.1 0))]) cx 1 dJ_codeOf_28 31 rfl rfl (by decide) rfl (by decide) ?_
  refine z_goto cx dJ_codeOf_31 4 (by decide) ?_
  refine z_iload_n cx dJ_codeOf_4 5 rfl rfl 0 rfl ?_
  refine z_aload_n cx dJ_codeOf_5 6 rfl rfl 2 rfl ?_
  refine z_callVs_i (As := []) (rest := [.int (zI 5)]) cx hE (tJ_length (i := 0) (v := zI 5) (by decide) (by decide)) dJ_codeOf_6 9 rfl kJ_length qs_139 qs_140 qs_141 rfl (hE.2.1.1 0 (by decide)).1 ⟨rfl, rfl⟩ ⟨Nat.le_of_ble_eq_true rfl, Nat.le_of_ble_eq_true rfl⟩ rfl rfl (Nat.le_of_ble_eq_true rfl) ⟨Nat.zero_le _, Nat.zero_le _⟩ ?_
  refine z_icmp_ge cx dJ_codeOf_9 12 rfl 34 (by decide) (fun _ => ?_) (fun h => absurd h (by decide))
  refine z_lload_n cx dJ_codeOf_34 35 rfl rfl 1 rfl ?_
  exact z_lret cx dJ_codeOf_35 rfl rfl
set_option maxHeartbeats 4000000 in
theorem tJ_codeOf1 {l : Launch} {ks : ZS} {g : ZG} {w : va_W} : zMsl l ks yX9_codeOf cX9_codeOf 4 (some .long) zJ_codeOf g [.ref (ks.1 1)] w (zJ 243140) := by
  refine zMsl_of (own := RX9) rfl (by decide +kernel) (Nat.le_of_ble_eq_true rfl) rfl ?_
  intro p e s m args below meth c A Q hQ cx hE
  subst hQ
  refine z_lconst cx dJ_codeOf_0 1 rfl (v := zJ 0) (by decide) ?_
  refine y_lstore_n (e0 := 0) cx dJ_codeOf_1 2 rfl rfl (by decide) (lv' := [(1, .long (zJ 0)), (0, .ref (ks.1 1))]) rfl ?_
  refine y_iconst cx dJ_codeOf_2 3 rfl ?_
  refine y_istore_n (e0 := 0) cx dJ_codeOf_3 4 rfl rfl (by decide) (lv' := [(3, .int (zI 0)), (1, .long (zJ 0)), (0, .ref (ks.1 1))]) rfl ?_
  refine z_iload_n cx dJ_codeOf_4 5 rfl rfl 0 rfl ?_
  refine z_aload_n cx dJ_codeOf_5 6 rfl rfl 2 rfl ?_
  refine z_callVs_i (As := []) (rest := [.int (zI 0)]) cx hE (tJ_length (i := 1) (v := zI 4) (by decide) (by decide)) dJ_codeOf_6 9 rfl kJ_length qs_139 qs_140 qs_141 rfl (hE.2.1.1 1 (by decide)).1 ⟨rfl, rfl⟩ ⟨Nat.le_of_ble_eq_true rfl, Nat.le_of_ble_eq_true rfl⟩ rfl rfl (Nat.le_of_ble_eq_true rfl) ⟨Nat.zero_le _, Nat.zero_le _⟩ ?_
  refine z_icmp_ge cx dJ_codeOf_9 12 rfl 34 (by decide) (fun h => absurd h (by decide)) (fun _ => ?_)
  refine z_lload_n cx dJ_codeOf_12 13 rfl rfl 1 rfl ?_
  refine y_ldc2_w cx 27 dJ_codeOf_13 16 rfl qs_149 ?_
  refine y_lmul cx dJ_codeOf_16 17 rfl ?_
  refine z_aload_n cx dJ_codeOf_17 18 rfl rfl 2 rfl ?_
  refine z_iload_n cx dJ_codeOf_18 19 rfl rfl 0 rfl ?_
  refine z_callVs_i (As := [.int (zI 0)]) (rest := [.long (zJ (0 * 27))]) cx hE (tJ_charAt (i := 1) (v := zI 108) (by decide) (by decide) (by decide) (vp_in_iff.mpr (by decide)) (by decide) (by decide)) dJ_codeOf_19 22 rfl kJ_charAt qs_150 qs_151 qs_152 rfl (hE.2.1.1 1 (by decide)).1 ⟨rfl, rfl⟩ ⟨Nat.le_of_ble_eq_true rfl, Nat.le_of_ble_eq_true rfl⟩ rfl rfl (Nat.le_of_ble_eq_true rfl) ⟨Nat.zero_le _, Nat.zero_le _⟩ ?_
  refine z_callS_i (r := zI 12) (As := [.int (zI 108)]) (rest := [.long (zJ (0 * 27))]) cx (tRd_letterCode (a1 := 108) (r := 12) rfl) dJ_codeOf_22 25 rfl kJ_letterCode qs_188 qs_189 ⟨rfl, rfl⟩ ⟨Nat.le_of_ble_eq_true rfl, Nat.le_of_ble_eq_true rfl⟩ rfl rfl (Nat.le_of_ble_eq_true rfl) ⟨Nat.zero_le _, Nat.zero_le _⟩ ?_
  refine y_i2l2 (x2 := 12) cx dJ_codeOf_25 26 rfl (nm_eq (x := 12) (by decide) (by decide)) ?_
  refine y_ladd cx dJ_codeOf_26 27 rfl ?_
  rw [show (0 * 27 + 12 : Int) = 12 from by decide]
  refine y_lstore_n (e0 := 12) cx dJ_codeOf_27 28 rfl rfl (by decide) (lv' := [(1, .long (zJ 12)), (3, .int (zI 0)), (0, .ref (ks.1 1))]) rfl ?_
  refine z_iinc (n := 1) (x := zI 0) (y := zI 1) (lv' := [(3, .int (zI 1)), (1, .long (zJ 12)), (0, .ref (ks.1 1))]) cx 1 dJ_codeOf_28 31 rfl rfl (by decide) rfl (by decide) ?_
  refine z_goto cx dJ_codeOf_31 4 (by decide) ?_
  refine z_iload_n cx dJ_codeOf_4 5 rfl rfl 0 rfl ?_
  refine z_aload_n cx dJ_codeOf_5 6 rfl rfl 2 rfl ?_
  refine z_callVs_i (As := []) (rest := [.int (zI 1)]) cx hE (tJ_length (i := 1) (v := zI 4) (by decide) (by decide)) dJ_codeOf_6 9 rfl kJ_length qs_139 qs_140 qs_141 rfl (hE.2.1.1 1 (by decide)).1 ⟨rfl, rfl⟩ ⟨Nat.le_of_ble_eq_true rfl, Nat.le_of_ble_eq_true rfl⟩ rfl rfl (Nat.le_of_ble_eq_true rfl) ⟨Nat.zero_le _, Nat.zero_le _⟩ ?_
  refine z_icmp_ge cx dJ_codeOf_9 12 rfl 34 (by decide) (fun h => absurd h (by decide)) (fun _ => ?_)
  refine z_lload_n cx dJ_codeOf_12 13 rfl rfl 1 rfl ?_
  refine y_ldc2_w cx 27 dJ_codeOf_13 16 rfl qs_149 ?_
  refine y_lmul cx dJ_codeOf_16 17 rfl ?_
  refine z_aload_n cx dJ_codeOf_17 18 rfl rfl 2 rfl ?_
  refine z_iload_n cx dJ_codeOf_18 19 rfl rfl 0 rfl ?_
  refine z_callVs_i (As := [.int (zI 1)]) (rest := [.long (zJ (12 * 27))]) cx hE (tJ_charAt (i := 1) (v := zI 105) (by decide) (by decide) (by decide) (vp_in_iff.mpr (by decide)) (by decide) (by decide)) dJ_codeOf_19 22 rfl kJ_charAt qs_150 qs_151 qs_152 rfl (hE.2.1.1 1 (by decide)).1 ⟨rfl, rfl⟩ ⟨Nat.le_of_ble_eq_true rfl, Nat.le_of_ble_eq_true rfl⟩ rfl rfl (Nat.le_of_ble_eq_true rfl) ⟨Nat.zero_le _, Nat.zero_le _⟩ ?_
  refine z_callS_i (r := zI 9) (As := [.int (zI 105)]) (rest := [.long (zJ (12 * 27))]) cx (tRd_letterCode (a1 := 105) (r := 9) rfl) dJ_codeOf_22 25 rfl kJ_letterCode qs_188 qs_189 ⟨rfl, rfl⟩ ⟨Nat.le_of_ble_eq_true rfl, Nat.le_of_ble_eq_true rfl⟩ rfl rfl (Nat.le_of_ble_eq_true rfl) ⟨Nat.zero_le _, Nat.zero_le _⟩ ?_
  refine y_i2l2 (x2 := 9) cx dJ_codeOf_25 26 rfl (nm_eq (x := 9) (by decide) (by decide)) ?_
  refine y_ladd cx dJ_codeOf_26 27 rfl ?_
  rw [show (12 * 27 + 9 : Int) = 333 from by decide]
  refine y_lstore_n (e0 := 333) cx dJ_codeOf_27 28 rfl rfl (by decide) (lv' := [(1, .long (zJ 333)), (3, .int (zI 1)), (0, .ref (ks.1 1))]) rfl ?_
  refine z_iinc (n := 1) (x := zI 1) (y := zI 2) (lv' := [(3, .int (zI 2)), (1, .long (zJ 333)), (0, .ref (ks.1 1))]) cx 1 dJ_codeOf_28 31 rfl rfl (by decide) rfl (by decide) ?_
  refine z_goto cx dJ_codeOf_31 4 (by decide) ?_
  refine z_iload_n cx dJ_codeOf_4 5 rfl rfl 0 rfl ?_
  refine z_aload_n cx dJ_codeOf_5 6 rfl rfl 2 rfl ?_
  refine z_callVs_i (As := []) (rest := [.int (zI 2)]) cx hE (tJ_length (i := 1) (v := zI 4) (by decide) (by decide)) dJ_codeOf_6 9 rfl kJ_length qs_139 qs_140 qs_141 rfl (hE.2.1.1 1 (by decide)).1 ⟨rfl, rfl⟩ ⟨Nat.le_of_ble_eq_true rfl, Nat.le_of_ble_eq_true rfl⟩ rfl rfl (Nat.le_of_ble_eq_true rfl) ⟨Nat.zero_le _, Nat.zero_le _⟩ ?_
  refine z_icmp_ge cx dJ_codeOf_9 12 rfl 34 (by decide) (fun h => absurd h (by decide)) (fun _ => ?_)
  refine z_lload_n cx dJ_codeOf_12 13 rfl rfl 1 rfl ?_
  refine y_ldc2_w cx 27 dJ_codeOf_13 16 rfl qs_149 ?_
  refine y_lmul cx dJ_codeOf_16 17 rfl ?_
  refine z_aload_n cx dJ_codeOf_17 18 rfl rfl 2 rfl ?_
  refine z_iload_n cx dJ_codeOf_18 19 rfl rfl 0 rfl ?_
  refine z_callVs_i (As := [.int (zI 2)]) (rest := [.long (zJ (333 * 27))]) cx hE (tJ_charAt (i := 1) (v := zI 110) (by decide) (by decide) (by decide) (vp_in_iff.mpr (by decide)) (by decide) (by decide)) dJ_codeOf_19 22 rfl kJ_charAt qs_150 qs_151 qs_152 rfl (hE.2.1.1 1 (by decide)).1 ⟨rfl, rfl⟩ ⟨Nat.le_of_ble_eq_true rfl, Nat.le_of_ble_eq_true rfl⟩ rfl rfl (Nat.le_of_ble_eq_true rfl) ⟨Nat.zero_le _, Nat.zero_le _⟩ ?_
  refine z_callS_i (r := zI 14) (As := [.int (zI 110)]) (rest := [.long (zJ (333 * 27))]) cx (tRd_letterCode (a1 := 110) (r := 14) rfl) dJ_codeOf_22 25 rfl kJ_letterCode qs_188 qs_189 ⟨rfl, rfl⟩ ⟨Nat.le_of_ble_eq_true rfl, Nat.le_of_ble_eq_true rfl⟩ rfl rfl (Nat.le_of_ble_eq_true rfl) ⟨Nat.zero_le _, Nat.zero_le _⟩ ?_
  refine y_i2l2 (x2 := 14) cx dJ_codeOf_25 26 rfl (nm_eq (x := 14) (by decide) (by decide)) ?_
  refine y_ladd cx dJ_codeOf_26 27 rfl ?_
  rw [show (333 * 27 + 14 : Int) = 9005 from by decide]
  refine y_lstore_n (e0 := 9005) cx dJ_codeOf_27 28 rfl rfl (by decide) (lv' := [(1, .long (zJ 9005)), (3, .int (zI 2)), (0, .ref (ks.1 1))]) rfl ?_
  refine z_iinc (n := 1) (x := zI 2) (y := zI 3) (lv' := [(3, .int (zI 3)), (1, .long (zJ 9005)), (0, .ref (ks.1 1))]) cx 1 dJ_codeOf_28 31 rfl rfl (by decide) rfl (by decide) ?_
  refine z_goto cx dJ_codeOf_31 4 (by decide) ?_
  refine z_iload_n cx dJ_codeOf_4 5 rfl rfl 0 rfl ?_
  refine z_aload_n cx dJ_codeOf_5 6 rfl rfl 2 rfl ?_
  refine z_callVs_i (As := []) (rest := [.int (zI 3)]) cx hE (tJ_length (i := 1) (v := zI 4) (by decide) (by decide)) dJ_codeOf_6 9 rfl kJ_length qs_139 qs_140 qs_141 rfl (hE.2.1.1 1 (by decide)).1 ⟨rfl, rfl⟩ ⟨Nat.le_of_ble_eq_true rfl, Nat.le_of_ble_eq_true rfl⟩ rfl rfl (Nat.le_of_ble_eq_true rfl) ⟨Nat.zero_le _, Nat.zero_le _⟩ ?_
  refine z_icmp_ge cx dJ_codeOf_9 12 rfl 34 (by decide) (fun h => absurd h (by decide)) (fun _ => ?_)
  refine z_lload_n cx dJ_codeOf_12 13 rfl rfl 1 rfl ?_
  refine y_ldc2_w cx 27 dJ_codeOf_13 16 rfl qs_149 ?_
  refine y_lmul cx dJ_codeOf_16 17 rfl ?_
  refine z_aload_n cx dJ_codeOf_17 18 rfl rfl 2 rfl ?_
  refine z_iload_n cx dJ_codeOf_18 19 rfl rfl 0 rfl ?_
  refine z_callVs_i (As := [.int (zI 3)]) (rest := [.long (zJ (9005 * 27))]) cx hE (tJ_charAt (i := 1) (v := zI 101) (by decide) (by decide) (by decide) (vp_in_iff.mpr (by decide)) (by decide) (by decide)) dJ_codeOf_19 22 rfl kJ_charAt qs_150 qs_151 qs_152 rfl (hE.2.1.1 1 (by decide)).1 ⟨rfl, rfl⟩ ⟨Nat.le_of_ble_eq_true rfl, Nat.le_of_ble_eq_true rfl⟩ rfl rfl (Nat.le_of_ble_eq_true rfl) ⟨Nat.zero_le _, Nat.zero_le _⟩ ?_
  refine z_callS_i (r := zI 5) (As := [.int (zI 101)]) (rest := [.long (zJ (9005 * 27))]) cx (tRd_letterCode (a1 := 101) (r := 5) rfl) dJ_codeOf_22 25 rfl kJ_letterCode qs_188 qs_189 ⟨rfl, rfl⟩ ⟨Nat.le_of_ble_eq_true rfl, Nat.le_of_ble_eq_true rfl⟩ rfl rfl (Nat.le_of_ble_eq_true rfl) ⟨Nat.zero_le _, Nat.zero_le _⟩ ?_
  refine y_i2l2 (x2 := 5) cx dJ_codeOf_25 26 rfl (nm_eq (x := 5) (by decide) (by decide)) ?_
  refine y_ladd cx dJ_codeOf_26 27 rfl ?_
  rw [show (9005 * 27 + 5 : Int) = 243140 from by decide]
  refine y_lstore_n (e0 := 243140) cx dJ_codeOf_27 28 rfl rfl (by decide) (lv' := [(1, .long (zJ 243140)), (3, .int (zI 3)), (0, .ref (ks.1 1))]) rfl ?_
  refine z_iinc (n := 1) (x := zI 3) (y := zI 4) (lv' := [(3, .int (zI 4)), (1, .long (zJ 243140)), (0, .ref (ks.1 1))]) cx 1 dJ_codeOf_28 31 rfl rfl (by decide) rfl (by decide) ?_
  refine z_goto cx dJ_codeOf_31 4 (by decide) ?_
  refine z_iload_n cx dJ_codeOf_4 5 rfl rfl 0 rfl ?_
  refine z_aload_n cx dJ_codeOf_5 6 rfl rfl 2 rfl ?_
  refine z_callVs_i (As := []) (rest := [.int (zI 4)]) cx hE (tJ_length (i := 1) (v := zI 4) (by decide) (by decide)) dJ_codeOf_6 9 rfl kJ_length qs_139 qs_140 qs_141 rfl (hE.2.1.1 1 (by decide)).1 ⟨rfl, rfl⟩ ⟨Nat.le_of_ble_eq_true rfl, Nat.le_of_ble_eq_true rfl⟩ rfl rfl (Nat.le_of_ble_eq_true rfl) ⟨Nat.zero_le _, Nat.zero_le _⟩ ?_
  refine z_icmp_ge cx dJ_codeOf_9 12 rfl 34 (by decide) (fun _ => ?_) (fun h => absurd h (by decide))
  refine z_lload_n cx dJ_codeOf_34 35 rfl rfl 1 rfl ?_
  exact z_lret cx dJ_codeOf_35 rfl rfl
set_option maxHeartbeats 4000000 in
theorem tJ_codeOf2 {l : Launch} {ks : ZS} {g : ZG} {w : va_W} : zMsl l ks yX9_codeOf cX9_codeOf 4 (some .long) zJ_codeOf g [.ref (ks.1 2)] w (zJ 2549435302) := by
  refine zMsl_of (own := RX9) rfl (by decide +kernel) (Nat.le_of_ble_eq_true rfl) rfl ?_
  intro p e s m args below meth c A Q hQ cx hE
  subst hQ
  refine z_lconst cx dJ_codeOf_0 1 rfl (v := zJ 0) (by decide) ?_
  refine y_lstore_n (e0 := 0) cx dJ_codeOf_1 2 rfl rfl (by decide) (lv' := [(1, .long (zJ 0)), (0, .ref (ks.1 2))]) rfl ?_
  refine y_iconst cx dJ_codeOf_2 3 rfl ?_
  refine y_istore_n (e0 := 0) cx dJ_codeOf_3 4 rfl rfl (by decide) (lv' := [(3, .int (zI 0)), (1, .long (zJ 0)), (0, .ref (ks.1 2))]) rfl ?_
  refine z_iload_n cx dJ_codeOf_4 5 rfl rfl 0 rfl ?_
  refine z_aload_n cx dJ_codeOf_5 6 rfl rfl 2 rfl ?_
  refine z_callVs_i (As := []) (rest := [.int (zI 0)]) cx hE (tJ_length (i := 2) (v := zI 7) (by decide) (by decide)) dJ_codeOf_6 9 rfl kJ_length qs_139 qs_140 qs_141 rfl (hE.2.1.1 2 (by decide)).1 ⟨rfl, rfl⟩ ⟨Nat.le_of_ble_eq_true rfl, Nat.le_of_ble_eq_true rfl⟩ rfl rfl (Nat.le_of_ble_eq_true rfl) ⟨Nat.zero_le _, Nat.zero_le _⟩ ?_
  refine z_icmp_ge cx dJ_codeOf_9 12 rfl 34 (by decide) (fun h => absurd h (by decide)) (fun _ => ?_)
  refine z_lload_n cx dJ_codeOf_12 13 rfl rfl 1 rfl ?_
  refine y_ldc2_w cx 27 dJ_codeOf_13 16 rfl qs_149 ?_
  refine y_lmul cx dJ_codeOf_16 17 rfl ?_
  refine z_aload_n cx dJ_codeOf_17 18 rfl rfl 2 rfl ?_
  refine z_iload_n cx dJ_codeOf_18 19 rfl rfl 0 rfl ?_
  refine z_callVs_i (As := [.int (zI 0)]) (rest := [.long (zJ (0 * 27))]) cx hE (tJ_charAt (i := 2) (v := zI 102) (by decide) (by decide) (by decide) (vp_in_iff.mpr (by decide)) (by decide) (by decide)) dJ_codeOf_19 22 rfl kJ_charAt qs_150 qs_151 qs_152 rfl (hE.2.1.1 2 (by decide)).1 ⟨rfl, rfl⟩ ⟨Nat.le_of_ble_eq_true rfl, Nat.le_of_ble_eq_true rfl⟩ rfl rfl (Nat.le_of_ble_eq_true rfl) ⟨Nat.zero_le _, Nat.zero_le _⟩ ?_
  refine z_callS_i (r := zI 6) (As := [.int (zI 102)]) (rest := [.long (zJ (0 * 27))]) cx (tRd_letterCode (a1 := 102) (r := 6) rfl) dJ_codeOf_22 25 rfl kJ_letterCode qs_188 qs_189 ⟨rfl, rfl⟩ ⟨Nat.le_of_ble_eq_true rfl, Nat.le_of_ble_eq_true rfl⟩ rfl rfl (Nat.le_of_ble_eq_true rfl) ⟨Nat.zero_le _, Nat.zero_le _⟩ ?_
  refine y_i2l2 (x2 := 6) cx dJ_codeOf_25 26 rfl (nm_eq (x := 6) (by decide) (by decide)) ?_
  refine y_ladd cx dJ_codeOf_26 27 rfl ?_
  rw [show (0 * 27 + 6 : Int) = 6 from by decide]
  refine y_lstore_n (e0 := 6) cx dJ_codeOf_27 28 rfl rfl (by decide) (lv' := [(1, .long (zJ 6)), (3, .int (zI 0)), (0, .ref (ks.1 2))]) rfl ?_
  refine z_iinc (n := 1) (x := zI 0) (y := zI 1) (lv' := [(3, .int (zI 1)), (1, .long (zJ 6)), (0, .ref (ks.1 2))]) cx 1 dJ_codeOf_28 31 rfl rfl (by decide) rfl (by decide) ?_
  refine z_goto cx dJ_codeOf_31 4 (by decide) ?_
  refine z_iload_n cx dJ_codeOf_4 5 rfl rfl 0 rfl ?_
  refine z_aload_n cx dJ_codeOf_5 6 rfl rfl 2 rfl ?_
  refine z_callVs_i (As := []) (rest := [.int (zI 1)]) cx hE (tJ_length (i := 2) (v := zI 7) (by decide) (by decide)) dJ_codeOf_6 9 rfl kJ_length qs_139 qs_140 qs_141 rfl (hE.2.1.1 2 (by decide)).1 ⟨rfl, rfl⟩ ⟨Nat.le_of_ble_eq_true rfl, Nat.le_of_ble_eq_true rfl⟩ rfl rfl (Nat.le_of_ble_eq_true rfl) ⟨Nat.zero_le _, Nat.zero_le _⟩ ?_
  refine z_icmp_ge cx dJ_codeOf_9 12 rfl 34 (by decide) (fun h => absurd h (by decide)) (fun _ => ?_)
  refine z_lload_n cx dJ_codeOf_12 13 rfl rfl 1 rfl ?_
  refine y_ldc2_w cx 27 dJ_codeOf_13 16 rfl qs_149 ?_
  refine y_lmul cx dJ_codeOf_16 17 rfl ?_
  refine z_aload_n cx dJ_codeOf_17 18 rfl rfl 2 rfl ?_
  refine z_iload_n cx dJ_codeOf_18 19 rfl rfl 0 rfl ?_
  refine z_callVs_i (As := [.int (zI 1)]) (rest := [.long (zJ (6 * 27))]) cx hE (tJ_charAt (i := 2) (v := zI 111) (by decide) (by decide) (by decide) (vp_in_iff.mpr (by decide)) (by decide) (by decide)) dJ_codeOf_19 22 rfl kJ_charAt qs_150 qs_151 qs_152 rfl (hE.2.1.1 2 (by decide)).1 ⟨rfl, rfl⟩ ⟨Nat.le_of_ble_eq_true rfl, Nat.le_of_ble_eq_true rfl⟩ rfl rfl (Nat.le_of_ble_eq_true rfl) ⟨Nat.zero_le _, Nat.zero_le _⟩ ?_
  refine z_callS_i (r := zI 15) (As := [.int (zI 111)]) (rest := [.long (zJ (6 * 27))]) cx (tRd_letterCode (a1 := 111) (r := 15) rfl) dJ_codeOf_22 25 rfl kJ_letterCode qs_188 qs_189 ⟨rfl, rfl⟩ ⟨Nat.le_of_ble_eq_true rfl, Nat.le_of_ble_eq_true rfl⟩ rfl rfl (Nat.le_of_ble_eq_true rfl) ⟨Nat.zero_le _, Nat.zero_le _⟩ ?_
  refine y_i2l2 (x2 := 15) cx dJ_codeOf_25 26 rfl (nm_eq (x := 15) (by decide) (by decide)) ?_
  refine y_ladd cx dJ_codeOf_26 27 rfl ?_
  rw [show (6 * 27 + 15 : Int) = 177 from by decide]
  refine y_lstore_n (e0 := 177) cx dJ_codeOf_27 28 rfl rfl (by decide) (lv' := [(1, .long (zJ 177)), (3, .int (zI 1)), (0, .ref (ks.1 2))]) rfl ?_
  refine z_iinc (n := 1) (x := zI 1) (y := zI 2) (lv' := [(3, .int (zI 2)), (1, .long (zJ 177)), (0, .ref (ks.1 2))]) cx 1 dJ_codeOf_28 31 rfl rfl (by decide) rfl (by decide) ?_
  refine z_goto cx dJ_codeOf_31 4 (by decide) ?_
  refine z_iload_n cx dJ_codeOf_4 5 rfl rfl 0 rfl ?_
  refine z_aload_n cx dJ_codeOf_5 6 rfl rfl 2 rfl ?_
  refine z_callVs_i (As := []) (rest := [.int (zI 2)]) cx hE (tJ_length (i := 2) (v := zI 7) (by decide) (by decide)) dJ_codeOf_6 9 rfl kJ_length qs_139 qs_140 qs_141 rfl (hE.2.1.1 2 (by decide)).1 ⟨rfl, rfl⟩ ⟨Nat.le_of_ble_eq_true rfl, Nat.le_of_ble_eq_true rfl⟩ rfl rfl (Nat.le_of_ble_eq_true rfl) ⟨Nat.zero_le _, Nat.zero_le _⟩ ?_
  refine z_icmp_ge cx dJ_codeOf_9 12 rfl 34 (by decide) (fun h => absurd h (by decide)) (fun _ => ?_)
  refine z_lload_n cx dJ_codeOf_12 13 rfl rfl 1 rfl ?_
  refine y_ldc2_w cx 27 dJ_codeOf_13 16 rfl qs_149 ?_
  refine y_lmul cx dJ_codeOf_16 17 rfl ?_
  refine z_aload_n cx dJ_codeOf_17 18 rfl rfl 2 rfl ?_
  refine z_iload_n cx dJ_codeOf_18 19 rfl rfl 0 rfl ?_
  refine z_callVs_i (As := [.int (zI 2)]) (rest := [.long (zJ (177 * 27))]) cx hE (tJ_charAt (i := 2) (v := zI 114) (by decide) (by decide) (by decide) (vp_in_iff.mpr (by decide)) (by decide) (by decide)) dJ_codeOf_19 22 rfl kJ_charAt qs_150 qs_151 qs_152 rfl (hE.2.1.1 2 (by decide)).1 ⟨rfl, rfl⟩ ⟨Nat.le_of_ble_eq_true rfl, Nat.le_of_ble_eq_true rfl⟩ rfl rfl (Nat.le_of_ble_eq_true rfl) ⟨Nat.zero_le _, Nat.zero_le _⟩ ?_
  refine z_callS_i (r := zI 18) (As := [.int (zI 114)]) (rest := [.long (zJ (177 * 27))]) cx (tRd_letterCode (a1 := 114) (r := 18) rfl) dJ_codeOf_22 25 rfl kJ_letterCode qs_188 qs_189 ⟨rfl, rfl⟩ ⟨Nat.le_of_ble_eq_true rfl, Nat.le_of_ble_eq_true rfl⟩ rfl rfl (Nat.le_of_ble_eq_true rfl) ⟨Nat.zero_le _, Nat.zero_le _⟩ ?_
  refine y_i2l2 (x2 := 18) cx dJ_codeOf_25 26 rfl (nm_eq (x := 18) (by decide) (by decide)) ?_
  refine y_ladd cx dJ_codeOf_26 27 rfl ?_
  rw [show (177 * 27 + 18 : Int) = 4797 from by decide]
  refine y_lstore_n (e0 := 4797) cx dJ_codeOf_27 28 rfl rfl (by decide) (lv' := [(1, .long (zJ 4797)), (3, .int (zI 2)), (0, .ref (ks.1 2))]) rfl ?_
  refine z_iinc (n := 1) (x := zI 2) (y := zI 3) (lv' := [(3, .int (zI 3)), (1, .long (zJ 4797)), (0, .ref (ks.1 2))]) cx 1 dJ_codeOf_28 31 rfl rfl (by decide) rfl (by decide) ?_
  refine z_goto cx dJ_codeOf_31 4 (by decide) ?_
  refine z_iload_n cx dJ_codeOf_4 5 rfl rfl 0 rfl ?_
  refine z_aload_n cx dJ_codeOf_5 6 rfl rfl 2 rfl ?_
  refine z_callVs_i (As := []) (rest := [.int (zI 3)]) cx hE (tJ_length (i := 2) (v := zI 7) (by decide) (by decide)) dJ_codeOf_6 9 rfl kJ_length qs_139 qs_140 qs_141 rfl (hE.2.1.1 2 (by decide)).1 ⟨rfl, rfl⟩ ⟨Nat.le_of_ble_eq_true rfl, Nat.le_of_ble_eq_true rfl⟩ rfl rfl (Nat.le_of_ble_eq_true rfl) ⟨Nat.zero_le _, Nat.zero_le _⟩ ?_
  refine z_icmp_ge cx dJ_codeOf_9 12 rfl 34 (by decide) (fun h => absurd h (by decide)) (fun _ => ?_)
  refine z_lload_n cx dJ_codeOf_12 13 rfl rfl 1 rfl ?_
  refine y_ldc2_w cx 27 dJ_codeOf_13 16 rfl qs_149 ?_
  refine y_lmul cx dJ_codeOf_16 17 rfl ?_
  refine z_aload_n cx dJ_codeOf_17 18 rfl rfl 2 rfl ?_
  refine z_iload_n cx dJ_codeOf_18 19 rfl rfl 0 rfl ?_
  refine z_callVs_i (As := [.int (zI 3)]) (rest := [.long (zJ (4797 * 27))]) cx hE (tJ_charAt (i := 2) (v := zI 101) (by decide) (by decide) (by decide) (vp_in_iff.mpr (by decide)) (by decide) (by decide)) dJ_codeOf_19 22 rfl kJ_charAt qs_150 qs_151 qs_152 rfl (hE.2.1.1 2 (by decide)).1 ⟨rfl, rfl⟩ ⟨Nat.le_of_ble_eq_true rfl, Nat.le_of_ble_eq_true rfl⟩ rfl rfl (Nat.le_of_ble_eq_true rfl) ⟨Nat.zero_le _, Nat.zero_le _⟩ ?_
  refine z_callS_i (r := zI 5) (As := [.int (zI 101)]) (rest := [.long (zJ (4797 * 27))]) cx (tRd_letterCode (a1 := 101) (r := 5) rfl) dJ_codeOf_22 25 rfl kJ_letterCode qs_188 qs_189 ⟨rfl, rfl⟩ ⟨Nat.le_of_ble_eq_true rfl, Nat.le_of_ble_eq_true rfl⟩ rfl rfl (Nat.le_of_ble_eq_true rfl) ⟨Nat.zero_le _, Nat.zero_le _⟩ ?_
  refine y_i2l2 (x2 := 5) cx dJ_codeOf_25 26 rfl (nm_eq (x := 5) (by decide) (by decide)) ?_
  refine y_ladd cx dJ_codeOf_26 27 rfl ?_
  rw [show (4797 * 27 + 5 : Int) = 129524 from by decide]
  refine y_lstore_n (e0 := 129524) cx dJ_codeOf_27 28 rfl rfl (by decide) (lv' := [(1, .long (zJ 129524)), (3, .int (zI 3)), (0, .ref (ks.1 2))]) rfl ?_
  refine z_iinc (n := 1) (x := zI 3) (y := zI 4) (lv' := [(3, .int (zI 4)), (1, .long (zJ 129524)), (0, .ref (ks.1 2))]) cx 1 dJ_codeOf_28 31 rfl rfl (by decide) rfl (by decide) ?_
  refine z_goto cx dJ_codeOf_31 4 (by decide) ?_
  refine z_iload_n cx dJ_codeOf_4 5 rfl rfl 0 rfl ?_
  refine z_aload_n cx dJ_codeOf_5 6 rfl rfl 2 rfl ?_
  refine z_callVs_i (As := []) (rest := [.int (zI 4)]) cx hE (tJ_length (i := 2) (v := zI 7) (by decide) (by decide)) dJ_codeOf_6 9 rfl kJ_length qs_139 qs_140 qs_141 rfl (hE.2.1.1 2 (by decide)).1 ⟨rfl, rfl⟩ ⟨Nat.le_of_ble_eq_true rfl, Nat.le_of_ble_eq_true rfl⟩ rfl rfl (Nat.le_of_ble_eq_true rfl) ⟨Nat.zero_le _, Nat.zero_le _⟩ ?_
  refine z_icmp_ge cx dJ_codeOf_9 12 rfl 34 (by decide) (fun h => absurd h (by decide)) (fun _ => ?_)
  refine z_lload_n cx dJ_codeOf_12 13 rfl rfl 1 rfl ?_
  refine y_ldc2_w cx 27 dJ_codeOf_13 16 rfl qs_149 ?_
  refine y_lmul cx dJ_codeOf_16 17 rfl ?_
  refine z_aload_n cx dJ_codeOf_17 18 rfl rfl 2 rfl ?_
  refine z_iload_n cx dJ_codeOf_18 19 rfl rfl 0 rfl ?_
  refine z_callVs_i (As := [.int (zI 4)]) (rest := [.long (zJ (129524 * 27))]) cx hE (tJ_charAt (i := 2) (v := zI 115) (by decide) (by decide) (by decide) (vp_in_iff.mpr (by decide)) (by decide) (by decide)) dJ_codeOf_19 22 rfl kJ_charAt qs_150 qs_151 qs_152 rfl (hE.2.1.1 2 (by decide)).1 ⟨rfl, rfl⟩ ⟨Nat.le_of_ble_eq_true rfl, Nat.le_of_ble_eq_true rfl⟩ rfl rfl (Nat.le_of_ble_eq_true rfl) ⟨Nat.zero_le _, Nat.zero_le _⟩ ?_
  refine z_callS_i (r := zI 19) (As := [.int (zI 115)]) (rest := [.long (zJ (129524 * 27))]) cx (tRd_letterCode (a1 := 115) (r := 19) rfl) dJ_codeOf_22 25 rfl kJ_letterCode qs_188 qs_189 ⟨rfl, rfl⟩ ⟨Nat.le_of_ble_eq_true rfl, Nat.le_of_ble_eq_true rfl⟩ rfl rfl (Nat.le_of_ble_eq_true rfl) ⟨Nat.zero_le _, Nat.zero_le _⟩ ?_
  refine y_i2l2 (x2 := 19) cx dJ_codeOf_25 26 rfl (nm_eq (x := 19) (by decide) (by decide)) ?_
  refine y_ladd cx dJ_codeOf_26 27 rfl ?_
  rw [show (129524 * 27 + 19 : Int) = 3497167 from by decide]
  refine y_lstore_n (e0 := 3497167) cx dJ_codeOf_27 28 rfl rfl (by decide) (lv' := [(1, .long (zJ 3497167)), (3, .int (zI 4)), (0, .ref (ks.1 2))]) rfl ?_
  refine z_iinc (n := 1) (x := zI 4) (y := zI 5) (lv' := [(3, .int (zI 5)), (1, .long (zJ 3497167)), (0, .ref (ks.1 2))]) cx 1 dJ_codeOf_28 31 rfl rfl (by decide) rfl (by decide) ?_
  refine z_goto cx dJ_codeOf_31 4 (by decide) ?_
  refine z_iload_n cx dJ_codeOf_4 5 rfl rfl 0 rfl ?_
  refine z_aload_n cx dJ_codeOf_5 6 rfl rfl 2 rfl ?_
  refine z_callVs_i (As := []) (rest := [.int (zI 5)]) cx hE (tJ_length (i := 2) (v := zI 7) (by decide) (by decide)) dJ_codeOf_6 9 rfl kJ_length qs_139 qs_140 qs_141 rfl (hE.2.1.1 2 (by decide)).1 ⟨rfl, rfl⟩ ⟨Nat.le_of_ble_eq_true rfl, Nat.le_of_ble_eq_true rfl⟩ rfl rfl (Nat.le_of_ble_eq_true rfl) ⟨Nat.zero_le _, Nat.zero_le _⟩ ?_
  refine z_icmp_ge cx dJ_codeOf_9 12 rfl 34 (by decide) (fun h => absurd h (by decide)) (fun _ => ?_)
  refine z_lload_n cx dJ_codeOf_12 13 rfl rfl 1 rfl ?_
  refine y_ldc2_w cx 27 dJ_codeOf_13 16 rfl qs_149 ?_
  refine y_lmul cx dJ_codeOf_16 17 rfl ?_
  refine z_aload_n cx dJ_codeOf_17 18 rfl rfl 2 rfl ?_
  refine z_iload_n cx dJ_codeOf_18 19 rfl rfl 0 rfl ?_
  refine z_callVs_i (As := [.int (zI 5)]) (rest := [.long (zJ (3497167 * 27))]) cx hE (tJ_charAt (i := 2) (v := zI 116) (by decide) (by decide) (by decide) (vp_in_iff.mpr (by decide)) (by decide) (by decide)) dJ_codeOf_19 22 rfl kJ_charAt qs_150 qs_151 qs_152 rfl (hE.2.1.1 2 (by decide)).1 ⟨rfl, rfl⟩ ⟨Nat.le_of_ble_eq_true rfl, Nat.le_of_ble_eq_true rfl⟩ rfl rfl (Nat.le_of_ble_eq_true rfl) ⟨Nat.zero_le _, Nat.zero_le _⟩ ?_
  refine z_callS_i (r := zI 20) (As := [.int (zI 116)]) (rest := [.long (zJ (3497167 * 27))]) cx (tRd_letterCode (a1 := 116) (r := 20) rfl) dJ_codeOf_22 25 rfl kJ_letterCode qs_188 qs_189 ⟨rfl, rfl⟩ ⟨Nat.le_of_ble_eq_true rfl, Nat.le_of_ble_eq_true rfl⟩ rfl rfl (Nat.le_of_ble_eq_true rfl) ⟨Nat.zero_le _, Nat.zero_le _⟩ ?_
  refine y_i2l2 (x2 := 20) cx dJ_codeOf_25 26 rfl (nm_eq (x := 20) (by decide) (by decide)) ?_
  refine y_ladd cx dJ_codeOf_26 27 rfl ?_
  rw [show (3497167 * 27 + 20 : Int) = 94423529 from by decide]
  refine y_lstore_n (e0 := 94423529) cx dJ_codeOf_27 28 rfl rfl (by decide) (lv' := [(1, .long (zJ 94423529)), (3, .int (zI 5)), (0, .ref (ks.1 2))]) rfl ?_
  refine z_iinc (n := 1) (x := zI 5) (y := zI 6) (lv' := [(3, .int (zI 6)), (1, .long (zJ 94423529)), (0, .ref (ks.1 2))]) cx 1 dJ_codeOf_28 31 rfl rfl (by decide) rfl (by decide) ?_
  refine z_goto cx dJ_codeOf_31 4 (by decide) ?_
  refine z_iload_n cx dJ_codeOf_4 5 rfl rfl 0 rfl ?_
  refine z_aload_n cx dJ_codeOf_5 6 rfl rfl 2 rfl ?_
  refine z_callVs_i (As := []) (rest := [.int (zI 6)]) cx hE (tJ_length (i := 2) (v := zI 7) (by decide) (by decide)) dJ_codeOf_6 9 rfl kJ_length qs_139 qs_140 qs_141 rfl (hE.2.1.1 2 (by decide)).1 ⟨rfl, rfl⟩ ⟨Nat.le_of_ble_eq_true rfl, Nat.le_of_ble_eq_true rfl⟩ rfl rfl (Nat.le_of_ble_eq_true rfl) ⟨Nat.zero_le _, Nat.zero_le _⟩ ?_
  refine z_icmp_ge cx dJ_codeOf_9 12 rfl 34 (by decide) (fun h => absurd h (by decide)) (fun _ => ?_)
  refine z_lload_n cx dJ_codeOf_12 13 rfl rfl 1 rfl ?_
  refine y_ldc2_w cx 27 dJ_codeOf_13 16 rfl qs_149 ?_
  refine y_lmul cx dJ_codeOf_16 17 rfl ?_
  refine z_aload_n cx dJ_codeOf_17 18 rfl rfl 2 rfl ?_
  refine z_iload_n cx dJ_codeOf_18 19 rfl rfl 0 rfl ?_
  refine z_callVs_i (As := [.int (zI 6)]) (rest := [.long (zJ (94423529 * 27))]) cx hE (tJ_charAt (i := 2) (v := zI 115) (by decide) (by decide) (by decide) (vp_in_iff.mpr (by decide)) (by decide) (by decide)) dJ_codeOf_19 22 rfl kJ_charAt qs_150 qs_151 qs_152 rfl (hE.2.1.1 2 (by decide)).1 ⟨rfl, rfl⟩ ⟨Nat.le_of_ble_eq_true rfl, Nat.le_of_ble_eq_true rfl⟩ rfl rfl (Nat.le_of_ble_eq_true rfl) ⟨Nat.zero_le _, Nat.zero_le _⟩ ?_
  refine z_callS_i (r := zI 19) (As := [.int (zI 115)]) (rest := [.long (zJ (94423529 * 27))]) cx (tRd_letterCode (a1 := 115) (r := 19) rfl) dJ_codeOf_22 25 rfl kJ_letterCode qs_188 qs_189 ⟨rfl, rfl⟩ ⟨Nat.le_of_ble_eq_true rfl, Nat.le_of_ble_eq_true rfl⟩ rfl rfl (Nat.le_of_ble_eq_true rfl) ⟨Nat.zero_le _, Nat.zero_le _⟩ ?_
  refine y_i2l2 (x2 := 19) cx dJ_codeOf_25 26 rfl (nm_eq (x := 19) (by decide) (by decide)) ?_
  refine y_ladd cx dJ_codeOf_26 27 rfl ?_
  rw [show (94423529 * 27 + 19 : Int) = 2549435302 from by decide]
  refine y_lstore_n (e0 := 2549435302) cx dJ_codeOf_27 28 rfl rfl (by decide) (lv' := [(1, .long (zJ 2549435302)), (3, .int (zI 6)), (0, .ref (ks.1 2))]) rfl ?_
  refine z_iinc (n := 1) (x := zI 6) (y := zI 7) (lv' := [(3, .int (zI 7)), (1, .long (zJ 2549435302)), (0, .ref (ks.1 2))]) cx 1 dJ_codeOf_28 31 rfl rfl (by decide) rfl (by decide) ?_
  refine z_goto cx dJ_codeOf_31 4 (by decide) ?_
  refine z_iload_n cx dJ_codeOf_4 5 rfl rfl 0 rfl ?_
  refine z_aload_n cx dJ_codeOf_5 6 rfl rfl 2 rfl ?_
  refine z_callVs_i (As := []) (rest := [.int (zI 7)]) cx hE (tJ_length (i := 2) (v := zI 7) (by decide) (by decide)) dJ_codeOf_6 9 rfl kJ_length qs_139 qs_140 qs_141 rfl (hE.2.1.1 2 (by decide)).1 ⟨rfl, rfl⟩ ⟨Nat.le_of_ble_eq_true rfl, Nat.le_of_ble_eq_true rfl⟩ rfl rfl (Nat.le_of_ble_eq_true rfl) ⟨Nat.zero_le _, Nat.zero_le _⟩ ?_
  refine z_icmp_ge cx dJ_codeOf_9 12 rfl 34 (by decide) (fun _ => ?_) (fun h => absurd h (by decide))
  refine z_lload_n cx dJ_codeOf_34 35 rfl rfl 1 rfl ?_
  exact z_lret cx dJ_codeOf_35 rfl rfl
