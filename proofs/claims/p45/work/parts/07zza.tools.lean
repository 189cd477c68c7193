-- needs: 07zz.init
/-! the mathematics' tools: small whole numbers, bits, loops -/
theorem nmn {k : Nat} (h : k < 2147483648) : nm (k : Int) = k := nm_eq (by omega) (by omega)
theorem nmi {x : Int} (h1 : -2147483648 ≤ x ∧ x < 2147483648) : nm x = x := nm_eq h1.1 h1.2
theorem nm_m1 : nm (-1) = -1 := nm_eq (by omega) (by omega)
theorem rdn {β : Type} {f : Nat → Int} {n i : Nat} {k : Int → Option β} (h : i < n) : rd f n (i : Int) k = k (f i) := by
  unfold rd; rw [if_pos (by omega)]; simp
theorem rdi {β : Type} {f : Nat → Int} {n : Nat} {i : Int} {k : Int → Option β} (h : 0 ≤ i ∧ i < n) : rd f n i k = k (f i.toNat) := by
  unfold rd; rw [if_pos h]
theorem ixi {β : Type} {n : Nat} {i : Int} {k : Option β} (h : 0 ≤ i ∧ i < n) : ix n i k = k := by
  unfold ix; rw [if_pos h]
theorem ixn {β : Type} {n i : Nat} {k : Option β} (h : i < n) : ix n (i : Int) k = k := by
  unfold ix; rw [if_pos (by omega)]
theorem nzi {β : Type} {i : Int} {k : Option β} (h : nm i ≠ 0) : nz i k = k := by
  unfold nz; rw [if_neg h]
theorem zo0 {β : Type} {k : Option β} : zo 0 k = k := by unfold zo; rw [if_pos (Or.inl rfl)]
theorem zo1 {β : Type} {k : Option β} : zo 1 k = k := by unfold zo; rw [if_pos (Or.inr rfl)]
theorem zob {β : Type} {c : Prop} [Decidable c] {k : Option β} : zo (if c then 1 else 0) k = k := by
  split
  · exact zo1
  · exact zo0
theorem bds {α β : Type} {x : α} {k : α → Option β} : bd (some x) k = k x := rfl
theorem bde {α β : Type} {e : Option α} {x : α} {k : α → Option β} (h : e = some x) : bd e k = k x := by rw [h]; rfl
theorem up_e (f : Nat → Int) (k : Nat) (x : Int) : up f k x k = x := by unfold up; rw [if_pos rfl]
theorem up_n (f : Nat → Int) {j k : Nat} (x : Int) (h : j ≠ k) : up f k x j = f j := by unfold up; rw [if_neg h]
theorem ua_e {α : Type} (A : Nat → α) (k : Nat) (f : α) : ua A k f k = f := by unfold ua; rw [if_pos rfl]
theorem ua_n {α : Type} (A : Nat → α) {j k : Nat} (f : α) (h : j ≠ k) : ua A k f j = A j := by unfold ua; rw [if_neg h]
theorem ua_up {α : Type} (A : Nat → α) (k : Nat) (f g : α) : ua (ua A k f) k g = ua A k g := by
  funext j; unfold ua; split <;> rfl
theorem up_up (f : Nat → Int) (k : Nat) (x y : Int) : up (up f k x) k y = up f k y := by
  funext j; unfold up; split <;> rfl
theorem ua_self {α : Type} (A : Nat → α) (k : Nat) : ua A k (A k) = A := by
  funext j; unfold ua; split
  · rename_i h; rw [h]
  · rfl
/-! loops: what goes on along a row of states ends as told -/
theorem lop0_s {β : Type} {body : Option β → Option β} {res : β} (he : ∀ rec, body rec = some res) : lop0 FU body = some res := he _
theorem lop1_s {α0 β : Type} {body : (α0 → Option β) → α0 → Option β} {res : β} (m : Nat) (A : Nat → α0) (hs : ∀ rec, ∀ k, k < m → rec (A (k+1)) = some res → body rec (A k) = some res) (he : ∀ rec, body rec (A m) = some res) (hm : m < 100000) {x0 : α0} (h0 : A 0 = x0) : lop1 FU body x0 = some res := by
  have key : ∀ j, ∀ n, j ≤ m → j < n → lop1 n body (A (m - j)) = some res := by
    intro j
    induction j with
    | zero => intro n _ hn; cases n with
      | zero => omega
      | succ n => exact he _
    | succ j ih => intro n hj hn; cases n with
      | zero => omega
      | succ n =>
        have := ih n (by omega) (by omega)
        rw [show m - j = m - (j+1) + 1 by omega] at this
        exact hs _ _ (by omega) this
  have := key m FU (Nat.le_refl _) hm
  rw [Nat.sub_self, h0] at this; exact this
theorem lop2_s {α0 α1 β : Type} {body : (α0 → α1 → Option β) → α0 → α1 → Option β} {res : β} (m : Nat) (A : Nat → α0) (B : Nat → α1) (hs : ∀ rec, ∀ k, k < m → rec (A (k+1)) (B (k+1)) = some res → body rec (A k) (B k) = some res) (he : ∀ rec, body rec (A m) (B m) = some res) (hm : m < 100000) {x0 : α0} {x1 : α1} (h0 : A 0 = x0) (h1 : B 0 = x1) : lop2 FU body x0 x1 = some res := by
  have key : ∀ j, ∀ n, j ≤ m → j < n → lop2 n body (A (m - j)) (B (m - j)) = some res := by
    intro j
    induction j with
    | zero => intro n _ hn; cases n with
      | zero => omega
      | succ n => exact he _
    | succ j ih => intro n hj hn; cases n with
      | zero => omega
      | succ n =>
        have := ih n (by omega) (by omega)
        rw [show m - j = m - (j+1) + 1 by omega] at this
        exact hs _ _ (by omega) this
  have := key m FU (Nat.le_refl _) hm
  rw [Nat.sub_self, h0, h1] at this; exact this
theorem lop3_s {α0 α1 α2 β : Type} {body : (α0 → α1 → α2 → Option β) → α0 → α1 → α2 → Option β} {res : β} (m : Nat) (A : Nat → α0) (B : Nat → α1) (C : Nat → α2) (hs : ∀ rec, ∀ k, k < m → rec (A (k+1)) (B (k+1)) (C (k+1)) = some res → body rec (A k) (B k) (C k) = some res) (he : ∀ rec, body rec (A m) (B m) (C m) = some res) (hm : m < 100000) {x0 : α0} {x1 : α1} {x2 : α2} (h0 : A 0 = x0) (h1 : B 0 = x1) (h2 : C 0 = x2) : lop3 FU body x0 x1 x2 = some res := by
  have key : ∀ j, ∀ n, j ≤ m → j < n → lop3 n body (A (m - j)) (B (m - j)) (C (m - j)) = some res := by
    intro j
    induction j with
    | zero => intro n _ hn; cases n with
      | zero => omega
      | succ n => exact he _
    | succ j ih => intro n hj hn; cases n with
      | zero => omega
      | succ n =>
        have := ih n (by omega) (by omega)
        rw [show m - j = m - (j+1) + 1 by omega] at this
        exact hs _ _ (by omega) this
  have := key m FU (Nat.le_refl _) hm
  rw [Nat.sub_self, h0, h1, h2] at this; exact this
theorem lop4_s {α0 α1 α2 α3 β : Type} {body : (α0 → α1 → α2 → α3 → Option β) → α0 → α1 → α2 → α3 → Option β} {res : β} (m : Nat) (A : Nat → α0) (B : Nat → α1) (C : Nat → α2) (D : Nat → α3) (hs : ∀ rec, ∀ k, k < m → rec (A (k+1)) (B (k+1)) (C (k+1)) (D (k+1)) = some res → body rec (A k) (B k) (C k) (D k) = some res) (he : ∀ rec, body rec (A m) (B m) (C m) (D m) = some res) (hm : m < 100000) {x0 : α0} {x1 : α1} {x2 : α2} {x3 : α3} (h0 : A 0 = x0) (h1 : B 0 = x1) (h2 : C 0 = x2) (h3 : D 0 = x3) : lop4 FU body x0 x1 x2 x3 = some res := by
  have key : ∀ j, ∀ n, j ≤ m → j < n → lop4 n body (A (m - j)) (B (m - j)) (C (m - j)) (D (m - j)) = some res := by
    intro j
    induction j with
    | zero => intro n _ hn; cases n with
      | zero => omega
      | succ n => exact he _
    | succ j ih => intro n hj hn; cases n with
      | zero => omega
      | succ n =>
        have := ih n (by omega) (by omega)
        rw [show m - j = m - (j+1) + 1 by omega] at this
        exact hs _ _ (by omega) this
  have := key m FU (Nat.le_refl _) hm
  rw [Nat.sub_self, h0, h1, h2, h3] at this; exact this
/-! bits -/
theorem nm_n31 (x : Nat) (h : x < 2147483648) : (zI (x : Int)).toBitVec = BitVec.ofNat 32 x := by
  unfold zI
  rw [Int32.toBitVec_ofInt]
  exact BitVec.ofInt_natCast 32 x
theorem bv_toInt (b : BitVec 32) (h : b.toNat < 2147483648) : b.toInt = (b.toNat : Int) := by
  rw [BitVec.toInt_eq_toNat_cond]; rw [if_pos (by omega)]
theorem zandn {x y : Nat} (hx : x < 2147483648) (hy : y < 2147483648) : zand (x : Int) (y : Int) = ((x &&& y : Nat) : Int) := by
  unfold zand
  have h : (zI (x : Int) &&& zI (y : Int)).toBitVec = BitVec.ofNat 32 x &&& BitVec.ofNat 32 y := by
    rw [Int32.toBitVec_and, nm_n31 x hx, nm_n31 y hy]
  have h2 : (BitVec.ofNat 32 x &&& BitVec.ofNat 32 y).toNat = x &&& y := by
    simp only [BitVec.toNat_and, BitVec.toNat_ofNat]; rw [Nat.mod_eq_of_lt (by omega), Nat.mod_eq_of_lt (by omega)]
  have h3 : (x &&& y) ≤ x := Nat.and_le_left
  show (zI (x : Int) &&& zI (y : Int)).toBitVec.toInt = _
  rw [h, bv_toInt _ (by rw [h2]; omega), h2]
theorem zorn {x y : Nat} (hx : x < 2147483648) (hy : y < 2147483648) : zor (x : Int) (y : Int) = ((x ||| y : Nat) : Int) := by
  unfold zor
  have h : (zI (x : Int) ||| zI (y : Int)).toBitVec = BitVec.ofNat 32 x ||| BitVec.ofNat 32 y := by
    rw [Int32.toBitVec_or, nm_n31 x hx, nm_n31 y hy]
  have h2 : (BitVec.ofNat 32 x ||| BitVec.ofNat 32 y).toNat = x ||| y := by
    simp only [BitVec.toNat_or, BitVec.toNat_ofNat]; rw [Nat.mod_eq_of_lt (by omega), Nat.mod_eq_of_lt (by omega)]
  have h3 : (x ||| y) < 2147483648 := Nat.or_lt_two_pow (n := 31) hx hy
  show (zI (x : Int) ||| zI (y : Int)).toBitVec.toInt = _
  rw [h, bv_toInt _ (by rw [h2]; omega), h2]
theorem zxorn {x y : Nat} (hx : x < 2147483648) (hy : y < 2147483648) : zxor (x : Int) (y : Int) = ((x ^^^ y : Nat) : Int) := by
  unfold zxor
  have h : (zI (x : Int) ^^^ zI (y : Int)).toBitVec = BitVec.ofNat 32 x ^^^ BitVec.ofNat 32 y := by
    rw [Int32.toBitVec_xor, nm_n31 x hx, nm_n31 y hy]
  have h2 : (BitVec.ofNat 32 x ^^^ BitVec.ofNat 32 y).toNat = x ^^^ y := by
    simp only [BitVec.toNat_xor, BitVec.toNat_ofNat]; rw [Nat.mod_eq_of_lt (by omega), Nat.mod_eq_of_lt (by omega)]
  have h3 : (x ^^^ y) < 2147483648 := Nat.xor_lt_two_pow (n := 31) hx hy
  show (zI (x : Int) ^^^ zI (y : Int)).toBitVec.toInt = _
  rw [h, bv_toInt _ (by rw [h2]; omega), h2]
def ndf (x y : Nat) : Nat := x ^^^ (x &&& y)
theorem ndf_bit (x y i : Nat) : (ndf x y).testBit i = (x.testBit i && !y.testBit i) := by
  unfold ndf; rw [Nat.testBit_xor, Nat.testBit_and]; cases x.testBit i <;> cases y.testBit i <;> rfl
theorem ndf_le (x y : Nat) : ndf x y ≤ x := by
  apply Nat.le_of_testBit; intro i h; rw [ndf_bit] at h; simp at h; exact h.1
