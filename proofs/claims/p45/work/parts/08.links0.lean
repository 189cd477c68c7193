-- needs: 04.base
/-! the words that the methods link, by their places -/
abbrev cB_bitCount : ByteArray := prog_19_method_49_code
def yB_bitCount : MethodName := ⟨"java/lang/Integer", "bitCount", "(I)I"⟩
