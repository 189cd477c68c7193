-- needs: 07zzz06.thick
/-! thick, layers -/
def lsbf : Nat → Nat → Nat
  | 0, _ => 0
  | n + 1, s => if s % 2 = 1 then 0 else lsbf n (s / 2) + 1
def lsb (s : Nat) : Nat := lsbf 10 s
theorem lsb_all : ∀ s : Fin 1024, s.val ≠ 0 → zand (s.val : Int) (-(s.val : Int)) = ((2 ^ lsb s.val : Nat) : Int) ∧ lsb s.val < 10 ∧ s.val.testBit (lsb s.val) = true ∧ (s.val &&& (s.val - 1)) = s.val ^^^ 2 ^ lsb s.val := by decide +kernel
theorem lsb_low : ∀ s : Fin 1024, ∀ j : Fin 10, j.val < lsb s.val → s.val.testBit j.val = false := by decide +kernel
theorem bc_low : ∀ l : Fin 10, fJI_bitCount (((2 ^ l.val : Nat) : Int) - 1) = some (l.val : Int) := by decide +kernel
theorem terms_all : ∀ a : Fin 25, ∀ b : Fin 10, ∀ w : Fin 2, fX_leastTerms (a.val : Int) (b.val + 1 : Nat) (w.val : Int) = fM_part (a.val : Int) (b.val + 1 : Nat) (w.val : Int) ∧ (fM_part (a.val : Int) (b.val + 1 : Nat) (w.val : Int)).isSome = true := by decide +kernel
