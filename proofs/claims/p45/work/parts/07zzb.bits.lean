-- needs: 07zza.tools
/-! bits: shifts, complement, sets told as numbers, how many bits -/
theorem zI_and31 {y : Nat} (h : y < 32) : (zI (y : Int) &&& 31).toBitVec = BitVec.ofNat 32 y := by
  rw [Int32.toBitVec_and, nm_n31 y (by omega)]
  apply BitVec.eq_of_toNat_eq
  have : (31 : Int32).toBitVec.toNat = 31 := by decide +kernel
  rw [BitVec.toNat_and, this]
  simp only [BitVec.toNat_ofNat]
  rw [Nat.mod_eq_of_lt (by omega), show (31:Nat) = 2^5 - 1 from rfl, Nat.and_two_pow_sub_one_eq_mod]
  omega
theorem zshln {l : Nat} (h : l < 31) : zshl 1 (l : Int) = ((2 ^ l : Nat) : Int) := by
  have H : ∀ l : Fin 31, zshl 1 ((l.val : Nat) : Int) = ((2 ^ l.val : Nat) : Int) := by decide +kernel
  exact H ⟨l, h⟩
theorem zshl2n {l : Nat} (h : l < 30) : zshl 2 (l : Int) = ((2 ^ (l+1) : Nat) : Int) := by
  have H : ∀ l : Fin 30, zshl 2 ((l.val : Nat) : Int) = ((2 ^ (l.val+1) : Nat) : Int) := by decide +kernel
  exact H ⟨l, h⟩
theorem zshrn {x l : Nat} (hx : x < 2147483648) (h : l < 31) : zshr (x : Int) (l : Int) = ((x >>> l : Nat) : Int) := by
  unfold zshr
  have e1 : (zI (l : Int) &&& 31).toBitVec = BitVec.ofNat 32 l := zI_and31 (by omega)
  have h1 : (zI (x : Int) >>> (zI (l : Int) &&& 31)).toBitVec = (BitVec.ofNat 32 x).sshiftRight l := by
    rw [Int32.toBitVec_shiftRight, nm_n31 x hx, e1, BitVec.sshiftRight_eq']
    congr 1
    have : (BitVec.ofNat 32 l).smod 32 = BitVec.ofNat 32 l := by
      have H : ∀ l : Fin 31, (BitVec.ofNat 32 l.val).smod 32 = BitVec.ofNat 32 l.val := by decide +kernel
      exact H ⟨l, h⟩
    rw [this, BitVec.toNat_ofNat, Nat.mod_eq_of_lt (by omega)]
  show (zI (x : Int) >>> (zI (l : Int) &&& 31)).toBitVec.toInt = _
  have hm : (BitVec.ofNat 32 x).msb = false := by
    rw [BitVec.msb_eq_false_iff_two_mul_lt, BitVec.toNat_ofNat, Nat.mod_eq_of_lt (by omega)]; omega
  rw [h1, BitVec.sshiftRight_eq_of_msb_false hm]
  have h2 : (BitVec.ofNat 32 x >>> l).toNat = x >>> l := by
    rw [BitVec.toNat_ushiftRight, BitVec.toNat_ofNat, Nat.mod_eq_of_lt (by omega)]
  have h3 : x >>> l ≤ x := by rw [Nat.shiftRight_eq_div_pow]; exact Nat.div_le_self _ _
  rw [bv_toInt _ (by rw [h2]; omega), h2]
theorem zushrn {x l : Nat} (hx : x < 2147483648) (h : l < 31) : zushr (x : Int) (l : Int) = ((x >>> l : Nat) : Int) := by
  unfold zushr
  have e0 : ((zI (l : Int)).toUInt32 &&& Int32.toUInt32 31) = (zI (l : Int) &&& 31).toUInt32 := rfl
  have h1 : ((zI (x : Int)).toUInt32 >>> ((zI (l : Int)).toUInt32 &&& Int32.toUInt32 31)).toBitVec = (BitVec.ofNat 32 x) >>> l := by
    rw [UInt32.toBitVec_shiftRight]
    have e1 : ((zI (l : Int)).toUInt32 &&& Int32.toUInt32 31).toBitVec = BitVec.ofNat 32 l := zI_and31 (by omega)
    have e2 : (zI (x : Int)).toUInt32.toBitVec = BitVec.ofNat 32 x := nm_n31 x hx
    rw [e1, e2]
    have : (BitVec.ofNat 32 l) % 32 = BitVec.ofNat 32 l := by
      have H : ∀ l : Fin 31, (BitVec.ofNat 32 l.val) % 32 = BitVec.ofNat 32 l.val := by decide +kernel
      exact H ⟨l, h⟩
    rw [this, BitVec.ushiftRight_eq', BitVec.toNat_ofNat, Nat.mod_eq_of_lt (by omega)]
  show ((zI (x : Int)).toUInt32 >>> ((zI (l : Int)).toUInt32 &&& Int32.toUInt32 31)).toBitVec.toInt = _
  rw [h1]
  have h2 : (BitVec.ofNat 32 x >>> l).toNat = x >>> l := by
    rw [BitVec.toNat_ushiftRight, BitVec.toNat_ofNat, Nat.mod_eq_of_lt (by omega)]
  have h3 : x >>> l ≤ x := by rw [Nat.shiftRight_eq_div_pow]; exact Nat.div_le_self _ _
  rw [bv_toInt _ (by rw [h2]; omega), h2]
theorem zbit {x l : Nat} (hx : x < 2147483648) (h : l < 31) : zand (zshr (x : Int) (l : Int)) 1 = if x.testBit l then 1 else 0 := by
  have h3 : x >>> l ≤ x := by rw [Nat.shiftRight_eq_div_pow]; exact Nat.div_le_self _ _
  rw [zshrn hx h, show (1 : Int) = ((1 : Nat) : Int) from rfl, zandn (by omega) (by omega), Nat.testBit_eq_decide_div_mod_eq, Nat.shiftRight_eq_div_pow]
  rw [show (1 : Nat) = 2^1 - 1 from rfl, Nat.and_two_pow_sub_one_eq_mod]
  by_cases hh : x / 2 ^ l % 2 = 1
  · rw [show 2^1 = 2 from rfl, hh]; rfl
  · have : x / 2 ^ l % 2 = 0 := by omega
    rw [show 2^1 = 2 from rfl, this]; rfl
theorem zcompn {x y : Nat} (hx : x < 2147483648) (hy : y < 2147483648) : zand (x : Int) (zxor (y : Int) (-1)) = ((ndf x y : Nat) : Int) := by
  unfold zand
  have e1 : zI (zxor (y : Int) (-1)) = zI (y : Int) ^^^ zI (-1) := zI_toInt _
  rw [e1]
  have h : (zI (x : Int) &&& (zI (y : Int) ^^^ zI (-1))).toBitVec = BitVec.ofNat 32 x &&& (BitVec.ofNat 32 y ^^^ BitVec.allOnes 32) := by
    rw [Int32.toBitVec_and, Int32.toBitVec_xor, nm_n31 x hx, nm_n31 y hy]
    congr 2
  have h2 : (BitVec.ofNat 32 x &&& (BitVec.ofNat 32 y ^^^ BitVec.allOnes 32)).toNat = ndf x y := by
    apply Nat.eq_of_testBit_eq
    intro i
    rw [ndf_bit, BitVec.testBit_toNat, BitVec.getLsbD_and, BitVec.getLsbD_xor, BitVec.getLsbD_ofNat, BitVec.getLsbD_ofNat, BitVec.getLsbD_allOnes]
    by_cases hi : i < 32
    · simp [hi]
    · have : x.testBit i = false := Nat.testBit_lt_two_pow (Nat.lt_of_lt_of_le hx (Nat.pow_le_pow_right (n := 2) (by omega) (show 31 ≤ i by omega)))
      simp [hi, this]
  have h3 := ndf_le x y
  show (zI (x : Int) &&& (zI (y : Int) ^^^ zI (-1))).toBitVec.toInt = _
  rw [h, bv_toInt _ (by rw [h2]; omega), h2]
/-! sets below n, told as numbers -/
noncomputable def dc (p : Prop) : Bool := @decide p (Classical.propDecidable p)
theorem dc_t {p : Prop} : dc p = true ↔ p := by unfold dc; exact @decide_eq_true_iff p (Classical.propDecidable p)
theorem dc_f {p : Prop} : dc p = false ↔ ¬ p := by unfold dc; exact @decide_eq_false_iff_not p (Classical.propDecidable p)
noncomputable def bs : Nat → (Nat → Prop) → Nat
  | 0, _ => 0
  | n + 1, p => bs n p + (if dc (p n) then 2 ^ n else 0)
noncomputable def cnt : Nat → (Nat → Prop) → Nat
  | 0, _ => 0
  | n + 1, p => cnt n p + (if dc (p n) then 1 else 0)
theorem bs_lt (n : Nat) (p : Nat → Prop) : bs n p < 2 ^ n := by
  induction n with
  | zero => exact Nat.one_pos
  | succ n ih => unfold bs; rw [Nat.pow_succ]; split <;> omega
theorem bs_bit (n : Nat) (p : Nat → Prop) (i : Nat) : (bs n p).testBit i = true ↔ i < n ∧ p i := by
  induction n with
  | zero => simp [bs]
  | succ n ih =>
    have hl := bs_lt n p
    unfold bs
    by_cases h : p n
    · rw [dc_t.mpr h, if_pos rfl, Nat.add_comm]
      have : 2 ^ n + bs n p = 2 ^ n * 1 + bs n p := by rw [Nat.mul_one]
      rw [this, Nat.testBit_two_pow_mul_add _ hl]
      by_cases hi : i < n
      · rw [if_pos hi, ih]; constructor
        · intro q; exact ⟨by omega, q.2⟩
        · intro q; exact ⟨hi, q.2⟩
      · rw [if_neg hi]
        by_cases hj : i = n
        · subst hj; simp [h]
        · constructor
          · intro q
            have : Nat.testBit 1 (i - n) = false := by
              have : i - n = (i - n - 1) + 1 := by omega
              rw [this, Nat.testBit_succ]; simp
            rw [this] at q; cases q
          · intro q; omega
    · rw [dc_f.mpr h, if_neg (by decide), Nat.add_zero, ih]
      constructor
      · intro q; exact ⟨by omega, q.2⟩
      · intro q
        refine ⟨?_, q.2⟩
        have : i ≠ n := fun e => h (e ▸ q.2)
        omega
theorem bs_ext {n : Nat} {p q : Nat → Prop} (h : ∀ i, i < n → (p i ↔ q i)) : bs n p = bs n q := by
  apply Nat.eq_of_testBit_eq
  intro i
  have := bs_bit n p i
  have h2 := bs_bit n q i
  have h3 : (bs n p).testBit i = true ↔ (bs n q).testBit i = true := by
    rw [this, h2]; constructor
    · intro a; exact ⟨a.1, (h i a.1).mp a.2⟩
    · intro a; exact ⟨a.1, (h i a.1).mpr a.2⟩
  cases ha : (bs n p).testBit i <;> cases hb : (bs n q).testBit i <;> simp_all
theorem eq_bs {n x : Nat} (h : x < 2 ^ n) : x = bs n (fun i => x.testBit i = true) := by
  apply Nat.eq_of_testBit_eq
  intro i
  have := bs_bit n (fun i => x.testBit i = true) i
  by_cases hi : i < n
  · cases hb : x.testBit i
    · rw [hb] at this; simp [hi] at this; rw [this]
    · rw [hb] at this; simp [hi] at this; rw [this]
  · have h1 : x.testBit i = false := Nat.testBit_lt_two_pow (Nat.lt_of_lt_of_le h (Nat.pow_le_pow_right (by omega) (by omega)))
    rw [h1] at this; simp [hi] at this; rw [h1, this]
theorem nat_ext {x y : Nat} (h : ∀ i, x.testBit i = true ↔ y.testBit i = true) : x = y := by
  apply Nat.eq_of_testBit_eq
  intro i
  have := h i
  cases ha : x.testBit i <;> cases hb : y.testBit i <;> simp_all
theorem bs_or (n : Nat) (p q : Nat → Prop) : bs n p ||| bs n q = bs n (fun i => p i ∨ q i) := by
  apply nat_ext; intro i
  rw [Nat.testBit_or, Bool.or_eq_true, bs_bit, bs_bit, bs_bit]
  constructor
  · rintro (⟨a, b⟩ | ⟨a, b⟩)
    · exact ⟨a, Or.inl b⟩
    · exact ⟨a, Or.inr b⟩
  · rintro ⟨a, b | b⟩
    · exact Or.inl ⟨a, b⟩
    · exact Or.inr ⟨a, b⟩
theorem bs_and (n : Nat) (p q : Nat → Prop) : bs n p &&& bs n q = bs n (fun i => p i ∧ q i) := by
  apply nat_ext; intro i
  rw [Nat.testBit_and, Bool.and_eq_true, bs_bit, bs_bit, bs_bit]
  constructor
  · rintro ⟨⟨a, b⟩, ⟨_, d⟩⟩; exact ⟨a, b, d⟩
  · rintro ⟨a, b, c⟩; exact ⟨⟨a, b⟩, ⟨a, c⟩⟩
theorem bs_ndf (n : Nat) (p q : Nat → Prop) : ndf (bs n p) (bs n q) = bs n (fun i => p i ∧ ¬ q i) := by
  apply nat_ext; intro i
  rw [ndf_bit, Bool.and_eq_true, bs_bit, bs_bit, Bool.not_eq_true', ← Bool.not_eq_true, bs_bit]
  constructor
  · rintro ⟨⟨a, b⟩, d⟩; exact ⟨a, b, fun c => d ⟨a, c⟩⟩
  · rintro ⟨a, b, c⟩; exact ⟨⟨a, b⟩, fun d => c d.2⟩
theorem bs_one {n l : Nat} (h : l < n) : 2 ^ l = bs n (fun i => i = l) := by
  apply nat_ext; intro i
  rw [bs_bit, Nat.testBit_two_pow, decide_eq_true_iff]
  constructor
  · intro e; exact ⟨by omega, e.symm⟩
  · intro e; exact e.2.symm
theorem bs_mono {n m : Nat} {p : Nat → Prop} (h : n ≤ m) (hp : ∀ i, p i → i < n) : bs n p = bs m p := by
  apply nat_ext; intro i
  rw [bs_bit, bs_bit]
  constructor
  · intro q; exact ⟨by omega, q.2⟩
  · intro q; exact ⟨hp i q.2, q.2⟩
theorem bs_lt31 {n : Nat} {p : Nat → Prop} (h : n ≤ 31) : bs n p < 2147483648 := Nat.lt_of_lt_of_le (bs_lt n p) (Nat.pow_le_pow_right (n := 2) (by omega) h)
theorem p2_lt31 {n : Nat} (h : n < 31) : 2 ^ n < 2147483648 := Nat.pow_lt_pow_right (a := 2) (by omega) h
theorem bs_full (n : Nat) : 2 ^ n - 1 = bs n (fun _ => True) := by
  apply nat_ext; intro i
  rw [bs_bit, Nat.testBit_two_pow_sub_one]; simp
theorem bs_none (n : Nat) : bs n (fun _ => False) = 0 := by
  apply nat_ext; intro i
  rw [bs_bit]; simp
theorem bs_zero {n : Nat} {p : Nat → Prop} : bs n p = 0 ↔ ∀ i, i < n → ¬ p i := by
  constructor
  · intro h i hi hp
    have := (bs_bit n p i).mpr ⟨hi, hp⟩
    rw [h] at this; simp at this
  · intro h
    rw [← bs_none n]; exact bs_ext (fun i hi => ⟨fun q => h i hi q, fun q => q.elim⟩)
theorem bs_succ_t {n : Nat} {p : Nat → Prop} (h : p n) : bs (n+1) p = bs n p ||| 2 ^ n := by
  apply nat_ext; intro i
  rw [bs_bit, Nat.testBit_or, Bool.or_eq_true, bs_bit, Nat.testBit_two_pow, decide_eq_true_iff]
  constructor
  · intro q
    by_cases hi : i = n
    · exact Or.inr hi.symm
    · exact Or.inl ⟨by omega, q.2⟩
  · rintro (q | q)
    · exact ⟨by omega, q.2⟩
    · exact ⟨by omega, q ▸ h⟩
theorem bs_succ_f {n : Nat} {p : Nat → Prop} (h : ¬ p n) : bs (n+1) p = bs n p := by
  show bs n p + (if dc (p n) then 2 ^ n else 0) = bs n p
  rw [dc_f.mpr h]; simp
theorem cnt_succ_t {n : Nat} {p : Nat → Prop} (h : p n) : cnt (n+1) p = cnt n p + 1 := by
  show cnt n p + (if dc (p n) then 1 else 0) = _
  rw [dc_t.mpr h]; simp
theorem cnt_succ_f {n : Nat} {p : Nat → Prop} (h : ¬ p n) : cnt (n+1) p = cnt n p := by
  show cnt n p + (if dc (p n) then 1 else 0) = _
  rw [dc_f.mpr h]; simp
theorem cnt_le (n : Nat) (p : Nat → Prop) : cnt n p ≤ n := by
  induction n with
  | zero => exact Nat.le_refl _
  | succ n ih => unfold cnt; split <;> omega
theorem cnt_ext {n : Nat} {p q : Nat → Prop} (h : ∀ i, i < n → (p i ↔ q i)) : cnt n p = cnt n q := by
  induction n with
  | zero => rfl
  | succ n ih =>
    have := ih (fun i hi => h i (by omega))
    by_cases hp : p n
    · rw [cnt_succ_t hp, cnt_succ_t ((h n (by omega)).mp hp), this]
    · rw [cnt_succ_f hp, cnt_succ_f (fun hq => hp ((h n (by omega)).mpr hq)), this]
theorem cnt_shift (n : Nat) (p : Nat → Prop) : cnt (n+1) p = (if dc (p 0) then 1 else 0) + cnt n (fun i => p (i+1)) := by
  induction n with
  | zero => show cnt 0 p + _ = _ + cnt 0 _; unfold cnt; omega
  | succ n ih =>
    show cnt (n+1) p + (if dc (p (n+1)) then 1 else 0) = _
    rw [ih]
    show _ = _ + (cnt n (fun i => p (i+1)) + (if dc (p (n+1)) then 1 else 0))
    omega
def pcn : Nat → Nat → Nat
  | 0, _ => 0
  | n + 1, s => s % 2 + pcn n (s / 2)
theorem pcn_cnt (n : Nat) : ∀ s, pcn n s = cnt n (fun i => s.testBit i = true) := by
  induction n with
  | zero => intro s; rfl
  | succ n ih =>
    intro s
    rw [cnt_shift]
    show s % 2 + pcn n (s / 2) = _
    rw [ih]
    congr 1
    · rw [Nat.testBit_zero]
      by_cases h : s % 2 = 1
      · rw [dc_t.mpr (by simp [h])]; simp [h]
      · rw [dc_f.mpr (by simp [h])]; simp; omega
    · exact cnt_ext (fun i _ => by rw [Nat.testBit_succ])
theorem pcn_bs {n m : Nat} (h : n ≤ m) (p : Nat → Prop) : pcn m (bs n p) = cnt n p := by
  rw [pcn_cnt]
  have : ∀ k, cnt (n + k) (fun i => (bs n p).testBit i = true) = cnt n p := by
    intro k
    induction k with
    | zero => exact cnt_ext (fun i hi => by rw [bs_bit]; exact ⟨fun q => q.2, fun q => ⟨hi, q⟩⟩)
    | succ k ih =>
      rw [← Nat.add_assoc, cnt_succ_f, ih]
      intro q
      rw [bs_bit] at q; omega
  have := this (m - n)
  rwa [show n + (m - n) = m by omega] at this
theorem pcn_clear (n : Nat) : ∀ s, 0 < s → s < 2 ^ n → pcn n (s &&& (s - 1)) + 1 = pcn n s := by
  induction n with
  | zero => intro s h1 h2; simp at h2; omega
  | succ n ih =>
    intro s h1 h2
    show (s &&& (s-1)) % 2 + pcn n ((s &&& (s-1)) / 2) + 1 = s % 2 + pcn n (s / 2)
    have e1 : (s &&& (s-1)) / 2 = (s / 2) &&& ((s-1) / 2) := by rw [Nat.and_div_two]
    have e2 : (s &&& (s-1)) % 2 = 0 := by
      have := Nat.and_mod_two_eq_one (a := s) (b := s-1)
      rcases Nat.mod_two_eq_zero_or_one (s &&& (s-1)) with q | q
      · exact q
      · rw [this] at q; omega
    rw [e1, e2]
    by_cases ho : s % 2 = 1
    · have : (s-1)/2 = s/2 := by omega
      rw [this, Nat.and_self, ho]; omega
    · have h3 : s % 2 = 0 := by omega
      have h4 : (s-1)/2 = s/2 - 1 := by omega
      rw [h4, h3]
      have := ih (s/2) (by omega) (by rw [Nat.pow_succ] at h2; omega)
      omega
theorem pcn_add (m n : Nat) : ∀ s, pcn (m + n) s = pcn m s + pcn n (s / 2 ^ m) := by
  induction m with
  | zero => intro s; simp [pcn]
  | succ m ih =>
    intro s
    rw [show m + 1 + n = (m + n) + 1 by omega]
    show s % 2 + pcn (m+n) (s/2) = s % 2 + pcn m (s/2) + _
    rw [ih, Nat.div_div_eq_div_mul, ← Nat.pow_succ', Nat.add_assoc]
theorem pcn_low (m : Nat) : ∀ s t, s < 2 ^ m → pcn m (s + 2 ^ m * t) = pcn m s := by
  induction m with
  | zero => intro s t _; rfl
  | succ m ih =>
    intro s t h
    show (s + 2 ^ (m+1) * t) % 2 + pcn m ((s + 2 ^ (m+1) * t) / 2) = s % 2 + pcn m (s / 2)
    rw [Nat.pow_succ, show 2 ^ m * 2 * t = 2 * (2 ^ m * t) by rw [Nat.mul_right_comm, Nat.mul_comm]]
    rw [show (s + 2 * (2 ^ m * t)) % 2 = s % 2 by omega, show (s + 2 * (2 ^ m * t)) / 2 = s / 2 + 2 ^ m * t by omega]
    rw [ih _ _ (by rw [Nat.pow_succ] at h; omega)]
theorem and_split (u v m w : Nat) (hv : v < 256) (hw : w < 256) : (256 * u + v) &&& (256 * m + w) = 256 * (u &&& m) + (v &&& w) := by
  have h3 : (v &&& w) < 256 := Nat.lt_of_le_of_lt Nat.and_le_left hv
  apply Nat.eq_of_testBit_eq
  intro i
  rw [Nat.testBit_and, show 256 = 2 ^ 8 from rfl, Nat.testBit_two_pow_mul_add _ hv, Nat.testBit_two_pow_mul_add _ hw, Nat.testBit_two_pow_mul_add _ h3]
  split
  · rw [Nat.testBit_and]
  · rw [Nat.testBit_and]
def sw1 (a : Nat) : Nat := a - ((a >>> 1) &&& 85)
def sw2 (a : Nat) : Nat := (a &&& 51) + ((a >>> 2) &&& 51)
def sw3 (a : Nat) : Nat := (a + (a >>> 4)) &&& 15
theorem sw_byte : ∀ a : Fin 256, sw3 (sw2 (sw1 a.val)) = pcn 8 a.val ∧ sw1 a.val < 256 ∧ sw2 (sw1 a.val) < 120 ∧ ((a.val >>> 1) &&& 85) ≤ a.val ∧ (sw2 (sw1 a.val)) % 16 ≤ 4 := by decide +kernel
theorem sh_split {u v k : Nat} (hk : k ≤ 8) (hv : v < 256) : (256 * u + v) >>> k = 256 * (u >>> k) + (v >>> k) + (u % 2 ^ k) * 2 ^ (8 - k) := by
  simp only [Nat.shiftRight_eq_div_pow]
  have h1 : 256 = 2 ^ k * 2 ^ (8 - k) := by rw [← Nat.pow_add, show k + (8 - k) = 8 by omega]
  have hp : 0 < 2 ^ k := Nat.two_pow_pos k
  have e : 256 * u + v = 2 ^ k * (2 ^ (8-k) * u) + v := by rw [← Nat.mul_assoc, ← h1]
  rw [e, Nat.mul_add_div hp]
  have e2 : 2 ^ (8-k) * u = 2 ^ (8-k) * (2 ^ k * (u / 2 ^ k) + u % 2 ^ k) := by rw [Nat.div_add_mod]
  rw [e2, Nat.mul_add, ← Nat.mul_assoc, Nat.mul_comm (2 ^ (8-k)) (2 ^ k), ← h1, Nat.mul_comm (2 ^ (8-k)) (u % 2 ^ k)]
  omega
theorem sw_c1 : ∀ v : Fin 256, ∀ c : Fin 2, ((v.val >>> 1) + c.val * 128) &&& 85 = (v.val >>> 1) &&& 85 ∧ (v.val >>> 1) + c.val * 128 < 256 := by decide +kernel
theorem sw_c2 : ∀ v : Fin 256, ∀ c : Fin 4, ((v.val >>> 2) + c.val * 64) &&& 51 = (v.val >>> 2) &&& 51 ∧ (v.val >>> 2) + c.val * 64 < 256 ∧ (v.val &&& 51) < 256 := by decide +kernel
theorem sw_c3 : ∀ v : Fin 120, ∀ c : Fin 5, ((v.val + (v.val >>> 4)) + c.val * 16) &&& 15 = (v.val + (v.val >>> 4)) &&& 15 ∧ (v.val + (v.val >>> 4)) + c.val * 16 < 256 := by decide +kernel
def sm1 (m x : Nat) : Nat := x - ((x >>> 1) &&& m)
def sm2 (m x : Nat) : Nat := (x &&& m) + ((x >>> 2) &&& m)
def sm3 (m x : Nat) : Nat := (x + (x >>> 4)) &&& m
theorem sm1_s (m u v : Nat) (hv : v < 256) : sm1 (256 * m + 85) (256 * u + v) = 256 * sm1 m u + sw1 v := by
  unfold sm1 sw1
  have h := sw_c1 ⟨v, hv⟩ ⟨u % 2, by omega⟩
  simp only at h
  have hb := (sw_byte ⟨v, hv⟩).2.2.2.1
  simp only at hb
  have hl : ((u >>> 1) &&& m) ≤ u := Nat.le_trans Nat.and_le_left (by rw [Nat.shiftRight_eq_div_pow]; exact Nat.div_le_self _ _)
  rw [sh_split (by omega) hv, Nat.add_assoc, show (2:Nat) ^ 1 = 2 from rfl, show 2 ^ (8 - 1) = 128 from rfl, and_split _ _ _ _ h.2 (by omega), h.1]
  omega
theorem sm2_s (m u v : Nat) (hv : v < 256) : sm2 (256 * m + 51) (256 * u + v) = 256 * sm2 m u + sw2 v := by
  unfold sm2 sw2
  have h := sw_c2 ⟨v, hv⟩ ⟨u % 4, by omega⟩
  simp only at h
  rw [sh_split (by omega) hv, Nat.add_assoc, show (2:Nat) ^ 2 = 4 from rfl, show 2 ^ (8 - 2) = 64 from rfl, and_split _ _ _ _ h.2.1 (by omega), and_split _ _ _ _ hv (by omega), h.1]
  omega
theorem sm3_s (m u v : Nat) (hv : v < 120) (hu : u % 16 ≤ 4) : sm3 (256 * m + 15) (256 * u + v) = 256 * sm3 m u + sw3 v := by
  unfold sm3 sw3
  have h := sw_c3 ⟨v, hv⟩ ⟨u % 16, by omega⟩
  simp only at h
  rw [sh_split (by omega) (by omega), show (2:Nat) ^ 4 = 16 from rfl]
  rw [show 256 * u + v + (256 * (u >>> 4) + v >>> 4 + u % 16 * 16) = 256 * (u + (u >>> 4)) + (v + v >>> 4 + u % 16 * 16) by omega]
  rw [and_split _ _ _ _ h.2 (by omega), h.1]
theorem swar3 (a b c : Nat) (ha : a < 256) (hb : b < 256) (hc : c < 256) : sm3 252645135 (sm2 858993459 (sm1 1431655765 (256 * (256 * c + b) + a))) = 256 * (256 * pcn 8 c + pcn 8 b) + pcn 8 a ∧ sm1 1431655765 (256 * (256 * c + b) + a) = 256 * (256 * sw1 c + sw1 b) + sw1 a ∧ sm2 858993459 (sm1 1431655765 (256 * (256 * c + b) + a)) = 256 * (256 * sw2 (sw1 c) + sw2 (sw1 b)) + sw2 (sw1 a) := by
  have A := sw_byte ⟨a, ha⟩
  have B := sw_byte ⟨b, hb⟩
  have C := sw_byte ⟨c, hc⟩
  simp only at A B C
  have e1 : sm1 1431655765 (256 * (256 * c + b) + a) = 256 * (256 * sw1 c + sw1 b) + sw1 a := by
    rw [show 1431655765 = 256 * 5592405 + 85 from rfl, sm1_s _ _ _ ha, show 5592405 = 256 * 21845 + 85 from rfl, sm1_s _ _ _ hb]
    have : sm1 21845 c = sw1 c := by
      have := sm1_s 85 0 c hc
      rw [Nat.mul_zero, Nat.zero_add] at this
      rw [show 21845 = 256 * 85 + 85 from rfl, this]
      have : sm1 85 0 = 0 := by decide
      rw [this]; omega
    rw [this]
  have e2 : sm2 858993459 (256 * (256 * sw1 c + sw1 b) + sw1 a) = 256 * (256 * sw2 (sw1 c) + sw2 (sw1 b)) + sw2 (sw1 a) := by
    rw [show 858993459 = 256 * 3355443 + 51 from rfl, sm2_s _ _ _ A.2.1, show 3355443 = 256 * 13107 + 51 from rfl, sm2_s _ _ _ B.2.1]
    have : sm2 13107 (sw1 c) = sw2 (sw1 c) := by
      have := sm2_s 51 0 (sw1 c) C.2.1
      rw [Nat.mul_zero, Nat.zero_add] at this
      rw [show 13107 = 256 * 51 + 51 from rfl, this]
      have : sm2 51 0 = 0 := by decide
      rw [this]; omega
    rw [this]
  have e3 : sm3 252645135 (256 * (256 * sw2 (sw1 c) + sw2 (sw1 b)) + sw2 (sw1 a)) = 256 * (256 * pcn 8 c + pcn 8 b) + pcn 8 a := by
    rw [show 252645135 = 256 * 986895 + 15 from rfl, sm3_s _ _ _ A.2.2.1 (by omega), show 986895 = 256 * 3855 + 15 from rfl, sm3_s _ _ _ B.2.2.1 (by omega)]
    have : sm3 3855 (sw2 (sw1 c)) = sw3 (sw2 (sw1 c)) := by
      have := sm3_s 15 0 (sw2 (sw1 c)) C.2.2.1 (by omega)
      rw [Nat.mul_zero, Nat.zero_add] at this
      rw [show 3855 = 256 * 15 + 15 from rfl, this]
      have : sm3 15 0 = 0 := by decide
      rw [this]; omega
    rw [this, A.1, B.1, C.1]
  exact ⟨by rw [e1, e2, e3], e1, by rw [e1, e2]⟩
theorem lt_e {α β : Type} (e : α) (k : α → β) : lt e k = k e := rfl
theorem sw_end {A1 B1 C1 : Nat} (pa : A1 ≤ 8) (pb : B1 ≤ 8) (pc : C1 ≤ 8) (r : Int) (hr : r = ((256 * (256 * C1 + B1) + A1 : Nat) : Int)) : (lt (r + zushr r 8) fun v0_4 => lt (v0_4 + zushr v0_4 16) fun v0_5 => some (zand v0_5 63)) = some ((A1 + B1 + C1 : Nat) : Int) := by
  have r4 : r + zushr r 8 = ((256 * (256 * C1 + (B1 + C1)) + (A1 + B1) : Nat) : Int) := by
    rw [hr, show (8 : Int) = ((8 : Nat) : Int) from rfl, zushrn (by omega) (by omega), Nat.shiftRight_eq_div_pow, show 2 ^ 8 = 256 from rfl]
    omega
  have r5 : ((256 * (256 * C1 + (B1 + C1)) + (A1 + B1) : Nat) : Int) + zushr ((256 * (256 * C1 + (B1 + C1)) + (A1 + B1) : Nat) : Int) 16 = ((256 * (256 * C1 + (B1 + C1)) + (A1 + B1 + C1) : Nat) : Int) := by
    rw [show (16 : Int) = ((16 : Nat) : Int) from rfl, zushrn (by omega) (by omega), Nat.shiftRight_eq_div_pow, show 2 ^ 16 = 65536 from rfl]
    omega
  unfold lt
  rw [r4]
  show some (zand (((256 * (256 * C1 + (B1 + C1)) + (A1 + B1) : Nat) : Int) + zushr ((256 * (256 * C1 + (B1 + C1)) + (A1 + B1) : Nat) : Int) 16) 63) = _
  rw [r5, show (63 : Int) = ((63 : Nat) : Int) from rfl, zandn (by omega) (by omega), show (63 : Nat) = 2 ^ 6 - 1 from rfl, Nat.and_two_pow_sub_one_eq_mod, show 2 ^ 6 = 64 from rfl]
  have : (256 * (256 * C1 + (B1 + C1)) + (A1 + B1 + C1)) % 64 = A1 + B1 + C1 := by omega
  rw [this]
theorem bitCount_n {x : Nat} (hx : x < 2 ^ 24) : fJI_bitCount (x : Int) = some ((pcn 24 x : Nat) : Int) := by
  have hx2 : x < 16777216 := hx
  obtain ⟨a, ha⟩ : ∃ a, a = x % 256 := ⟨_, rfl⟩
  obtain ⟨b, hb⟩ : ∃ b, b = x / 256 % 256 := ⟨_, rfl⟩
  obtain ⟨c, hc⟩ : ∃ c, c = x / 65536 := ⟨_, rfl⟩
  have ha' : a < 256 := by omega
  have hb' : b < 256 := by omega
  have hc' : c < 256 := by omega
  have hxe : x = 256 * (256 * c + b) + a := by omega
  obtain ⟨h3, h1, h2⟩ := swar3 a b c ha' hb' hc'
  have A := sw_byte ⟨a, ha'⟩
  have B := sw_byte ⟨b, hb'⟩
  have C := sw_byte ⟨c, hc'⟩
  simp only at A B C
  have pa : pcn 8 a ≤ 8 := by rw [pcn_cnt]; exact cnt_le _ _
  have pb : pcn 8 b ≤ 8 := by rw [pcn_cnt]; exact cnt_le _ _
  have pc : pcn 8 c ≤ 8 := by rw [pcn_cnt]; exact cnt_le _ _
  rw [← hxe] at h1 h2 h3
  have s1 : x >>> 1 ≤ x := by rw [Nat.shiftRight_eq_div_pow]; exact Nat.div_le_self _ _
  have m1 : ((x >>> 1) &&& 1431655765) ≤ x := Nat.le_trans Nat.and_le_left s1
  have r1 : (x : Int) - zand (zushr (x : Int) 1) 1431655765 = ((sm1 1431655765 x : Nat) : Int) := by
    rw [show (1 : Int) = ((1 : Nat) : Int) from rfl, zushrn (by omega) (by omega), show (1431655765 : Int) = ((1431655765 : Nat) : Int) from rfl, zandn (by omega) (by omega)]
    unfold sm1; omega
  have l1 : sm1 1431655765 x < 16777216 := by rw [h1]; omega
  have s2 : sm1 1431655765 x >>> 2 ≤ sm1 1431655765 x := by rw [Nat.shiftRight_eq_div_pow]; exact Nat.div_le_self _ _
  have r2 : zand ((sm1 1431655765 x : Nat) : Int) 858993459 + zand (zushr ((sm1 1431655765 x : Nat) : Int) 2) 858993459 = ((sm2 858993459 (sm1 1431655765 x) : Nat) : Int) := by
    rw [show (2 : Int) = ((2 : Nat) : Int) from rfl, zushrn (by omega) (by omega), show (858993459 : Int) = ((858993459 : Nat) : Int) from rfl, zandn (by omega) (by omega), zandn (by omega) (by omega)]
    unfold sm2; omega
  have l2 : sm2 858993459 (sm1 1431655765 x) < 16777216 := by rw [h2]; omega
  have s3 : sm2 858993459 (sm1 1431655765 x) >>> 4 ≤ sm2 858993459 (sm1 1431655765 x) := by rw [Nat.shiftRight_eq_div_pow]; exact Nat.div_le_self _ _
  have r3 : zand (((sm2 858993459 (sm1 1431655765 x) : Nat) : Int) + zushr ((sm2 858993459 (sm1 1431655765 x) : Nat) : Int) 4) 252645135 = ((sm3 252645135 (sm2 858993459 (sm1 1431655765 x)) : Nat) : Int) := by
    rw [show (4 : Int) = ((4 : Nat) : Int) from rfl, zushrn (by omega) (by omega), ← Int.natCast_add, show (252645135 : Int) = ((252645135 : Nat) : Int) from rfl, zandn (by omega) (by omega)]
    rfl
  have e24 : pcn 24 x = pcn 8 a + pcn 8 b + pcn 8 c := by
    rw [show 24 = 8 + (8 + 8) from rfl, pcn_add, pcn_add]
    have q1 : pcn 8 x = pcn 8 a := by
      have := pcn_low 8 a (256 * c + b) ha'
      rw [← this]; congr 1; omega
    have q2 : pcn 8 (x / 2 ^ 8) = pcn 8 b := by
      have := pcn_low 8 b c hb'
      rw [← this]; congr 1; omega
    have q3 : x / 2 ^ 8 / 2 ^ 8 = c := by omega
    rw [q1, q2, q3, Nat.add_assoc]
  rw [e24]
  unfold fJI_bitCount
  rw [r1, lt_e, r2, lt_e, r3, lt_e]
  rw [h3]
  exact sw_end pa pb pc _ rfl
theorem bits_n {x : Nat} (hx : x < 2 ^ 24) : fM_bits (x : Int) = some ((pcn 24 x : Nat) : Int) := by
  unfold fM_bits
  have hx2 : x < 16777216 := hx
  have h := lop2_w (Q := fun r => r = ((pcn 24 x : Nat) : Int)) (fun (v1 v2 : Int) => ∃ (c s : Nat), v1 = c ∧ v2 = s ∧ s < 2 ^ 24 ∧ c + pcn 24 s = pcn 24 x) (fun _ v2 => pcn 24 v2.toNat)
    (body := fun rec_3 (v1_1 : Int) (v2_2 : Int) => if (nm v2_2) = 0 then (some v1_1) else (lt (zand v2_2 (v2_2 - 1)) fun v2_4 => rec_3 (v1_1 + 1) v2_4)) ?_ FU 0 (x : Int) ⟨0, x, rfl, rfl, hx, by omega⟩ ?_
  · obtain ⟨r, h1, h2⟩ := h
    rw [← h2]; exact h1
  · intro rec v1 v2 hI hr
    obtain ⟨c, s, rfl, rfl, hs, hc⟩ := hI
    have hs2 : s < 16777216 := hs
    rw [nmn (by omega)]
    by_cases h0 : s = 0
    · subst h0
      rw [if_pos (by decide)]
      refine ⟨_, rfl, ?_⟩
      have : pcn 24 0 = 0 := by decide
      omega
    · rw [if_neg (by omega)]
      unfold lt
      have e : ((s : Int) - 1) = ((s - 1 : Nat) : Int) := by omega
      have hcl := pcn_clear 24 s (by omega) hs
      have hle : s &&& (s-1) ≤ s := Nat.and_le_left
      rw [e, zandn (by omega) (by omega)]
      refine hr _ _ ⟨c+1, s &&& (s-1), by omega, rfl, by omega, by omega⟩ ?_
      simp only [Int.toNat_natCast]; omega
  · have : pcn 24 x ≤ 24 := by rw [pcn_cnt]; exact cnt_le _ _
    simp only [Int.toNat_natCast]
    show _ < 100000
    omega
theorem bitCount_bs {n : Nat} (h : n ≤ 24) (p : Nat → Prop) : fJI_bitCount ((bs n p : Nat) : Int) = some ((cnt n p : Nat) : Int) := by
  rw [bitCount_n (Nat.lt_of_lt_of_le (bs_lt n p) (Nat.pow_le_pow_right (by omega) h)), pcn_bs h]
theorem bits_bs {n : Nat} (h : n ≤ 24) (p : Nat → Prop) : fM_bits ((bs n p : Nat) : Int) = some ((cnt n p : Nat) : Int) := by
  rw [bits_n (Nat.lt_of_lt_of_le (bs_lt n p) (Nat.pow_le_pow_right (by omega) h)), pcn_bs h]
