-- needs: 07zzz57.lawpack
/-! a text in words of four bytes: what put writes -/
theorem and_bv (x y : Int) : (zI (zand x y)).toBitVec = (zI x).toBitVec &&& (zI y).toBitVec := by
  rw [show zI (zand x y) = zI x &&& zI y from zI_toInt _, Int32.toBitVec_and]
theorem or_bv (x y : Int) : (zI (zor x y)).toBitVec = (zI x).toBitVec ||| (zI y).toBitVec := by
  rw [show zI (zor x y) = zI x ||| zI y from zI_toInt _, Int32.toBitVec_or]
theorem xor_bv (x y : Int) : (zI (zxor x y)).toBitVec = (zI x).toBitVec ^^^ (zI y).toBitVec := by
  rw [show zI (zxor x y) = zI x ^^^ zI y from zI_toInt _, Int32.toBitVec_xor]
theorem zand_bv (x y : Int) : zand x y = ((zI x).toBitVec &&& (zI y).toBitVec).toInt := by
  show (zI x &&& zI y).toBitVec.toInt = _
  rw [Int32.toBitVec_and]
theorem sh_bv (x : Int) {l : Nat} (h : l < 31) : (zI (zshl x (l : Int))).toBitVec = (zI x).toBitVec <<< l := by
  have e1 : (zI (l : Int) &&& 31).toBitVec = BitVec.ofNat 32 l := zI_and31 (by omega)
  have e2 : (BitVec.ofNat 32 l).smod 32 = BitVec.ofNat 32 l := by
    have H : ∀ l : Fin 31, (BitVec.ofNat 32 l.val).smod 32 = BitVec.ofNat 32 l.val := by decide +kernel
    exact H ⟨l, h⟩
  rw [show zI (zshl x (l : Int)) = zI x <<< (zI (l : Int) &&& 31) from zI_toInt _, Int32.toBitVec_shiftLeft, e1, e2, BitVec.shiftLeft_eq', BitVec.toNat_ofNat, Nat.mod_eq_of_lt (by omega)]
theorem us_bv (x : Int) {l : Nat} (h : l < 31) : (zI (zushr x (l : Int))).toBitVec = (zI x).toBitVec >>> l := by
  have e1 : ((zI (l : Int)).toUInt32 &&& Int32.toUInt32 31).toBitVec = BitVec.ofNat 32 l := zI_and31 (by omega)
  have e2 : (BitVec.ofNat 32 l) % 32 = BitVec.ofNat 32 l := by
    have H : ∀ l : Fin 31, (BitVec.ofNat 32 l.val) % 32 = BitVec.ofNat 32 l.val := by decide +kernel
    exact H ⟨l, h⟩
  rw [show zI (zushr x (l : Int)) = ((zI x).toUInt32 >>> ((zI (l : Int)).toUInt32 &&& Int32.toUInt32 31)).toInt32 from zI_toInt _]
  show ((zI x).toUInt32 >>> ((zI (l : Int)).toUInt32 &&& Int32.toUInt32 31)).toBitVec = _
  rw [UInt32.toBitVec_shiftRight, e1, e2, BitVec.ushiftRight_eq', BitVec.toNat_ofNat, Nat.mod_eq_of_lt (by omega)]
  rfl
theorem bit255 (j : Nat) : (255#32).getLsbD j = decide (j < 8) := by
  by_cases h : j < 32
  · have H : ∀ j : Fin 32, (255#32).getLsbD j.val = decide (j.val < 8) := by decide +kernel
    exact H ⟨j, h⟩
  · rw [BitVec.getLsbD_of_ge _ _ (by omega), decide_eq_false (by omega)]
theorem bv_put (w c : BitVec 32) {a b : Nat} (ha : a = 0 ∨ a = 8 ∨ a = 16 ∨ a = 24) (hb : b = 0 ∨ b = 8 ∨ b = 16 ∨ b = 24) : (((w &&& (255#32 <<< a ^^^ BitVec.allOnes 32)) ||| ((c &&& 255#32) <<< a)) >>> b) &&& 255#32 = if b = a then c &&& 255#32 else (w >>> b) &&& 255#32 := by
  apply BitVec.eq_of_getLsbD_eq
  intro i hi
  by_cases h8 : i < 8
  · have n0 : b + i < 32 := by omega
    rcases Nat.lt_trichotomy b a with q | q | q
    · have n1 : b + i < a := by omega
      rw [if_neg (by omega)]
      simp only [BitVec.getLsbD_and, BitVec.getLsbD_ushiftRight, BitVec.getLsbD_or, BitVec.getLsbD_xor, BitVec.getLsbD_shiftLeft, BitVec.getLsbD_allOnes, bit255]
      rw [decide_eq_true n0, decide_eq_true n1, decide_eq_true h8]
      cases w.getLsbD (b + i) <;> rfl
    · subst q
      have n1 : ¬ b + i < b := by omega
      rw [if_pos rfl]
      simp only [BitVec.getLsbD_and, BitVec.getLsbD_ushiftRight, BitVec.getLsbD_or, BitVec.getLsbD_xor, BitVec.getLsbD_shiftLeft, BitVec.getLsbD_allOnes, bit255]
      rw [decide_eq_true n0, decide_eq_false n1, show b + i - b = i by omega, decide_eq_true h8]
      cases w.getLsbD (b + i) <;> cases c.getLsbD i <;> rfl
    · have n1 : ¬ b + i < a := by omega
      have n2 : ¬ b + i - a < 8 := by omega
      rw [if_neg (by omega)]
      simp only [BitVec.getLsbD_and, BitVec.getLsbD_ushiftRight, BitVec.getLsbD_or, BitVec.getLsbD_xor, BitVec.getLsbD_shiftLeft, BitVec.getLsbD_allOnes, bit255]
      rw [decide_eq_true n0, decide_eq_false n1, decide_eq_false n2, decide_eq_true h8]
      cases w.getLsbD (b + i) <;> cases c.getLsbD (b + i - a) <;> rfl
  · by_cases q : b = a
    · rw [if_pos q, BitVec.getLsbD_and, BitVec.getLsbD_and, bit255, decide_eq_false h8, Bool.and_false, Bool.and_false]
    · rw [if_neg q, BitVec.getLsbD_and, BitVec.getLsbD_and, bit255, decide_eq_false h8, Bool.and_false, Bool.and_false]
def wput (x c a : Int) : Int := zor (zand x (zxor (zshl 255 a) (-1))) (zshl (zand c 255) a)
theorem zand_c {c : Int} (hc : 0 ≤ c ∧ c ≤ 255) : zand c 255 = c := by
  obtain ⟨n, rfl⟩ : ∃ n : Nat, c = (n : Int) := ⟨c.toNat, by omega⟩
  rw [show (255 : Int) = ((255 : Nat) : Int) from rfl, zandn (by omega) (by omega), show (255 : Nat) = 2 ^ 8 - 1 from rfl, Nat.and_two_pow_sub_one_eq_mod, Nat.mod_eq_of_lt (by omega)]
theorem wput_get (x : Int) {c : Int} (hc : 0 ≤ c ∧ c ≤ 255) {j k : Nat} (hj : j < 4) (hk : k < 4) : zand (zushr (wput x c (24 - 8 * (j : Int))) (24 - 8 * (k : Int))) 255 = if k = j then c else zand (zushr x (24 - 8 * (k : Int))) 255 := by
  have ej : 24 - 8 * (j : Int) = ((24 - 8 * j : Nat) : Int) := by omega
  have ek : 24 - 8 * (k : Int) = ((24 - 8 * k : Nat) : Int) := by omega
  have e255 : (zI 255).toBitVec = 255#32 := by decide +kernel
  have em1 : (zI (-1)).toBitVec = BitVec.allOnes 32 := by decide +kernel
  have h := bv_put (zI x).toBitVec (zI c).toBitVec (a := 24 - 8 * j) (b := 24 - 8 * k) (by omega) (by omega)
  rw [ej, ek]
  unfold wput
  rw [zand_bv, us_bv _ (by omega), or_bv, and_bv, xor_bv, sh_bv _ (by omega), sh_bv _ (by omega), and_bv, e255, em1, h]
  by_cases e : k = j
  · rw [if_pos (by omega), if_pos e, ← e255, ← zand_bv, zand_c hc]
  · rw [if_neg (by omega), if_neg e, ← us_bv _ (by omega), ← e255, ← zand_bv]
def byt (f : Nat → Int) (i : Nat) : Int := zand (zushr (f (i / 4)) (24 - 8 * ((i % 4 : Nat) : Int))) 255
theorem L_put {La : ZB} {n : Nat} {c : Int} (hn : n < 256) (hc : 0 ≤ c ∧ c ≤ 255) : ∃ f, fL_put La (n : Int) c = some (((n + 1 : Nat) : Int), (La.1, ua La.2 0 f)) ∧ byt f n = c ∧ ∀ i, i ≠ n → byt f i = byt (La.2 0) i := by
  have e3 : zand (n : Int) 3 = ((n % 4 : Nat) : Int) := by
    rw [show (3 : Int) = ((3 : Nat) : Int) from rfl, zandn (by omega) (by omega), show (3 : Nat) = 2 ^ 2 - 1 from rfl, Nat.and_two_pow_sub_one_eq_mod]
  have e2 : zshr (n : Int) 2 = ((n / 4 : Nat) : Int) := by
    rw [show (2 : Int) = ((2 : Nat) : Int) from rfl, zshrn (by omega) (by omega), Nat.shiftRight_eq_div_pow]
  refine ⟨up (La.2 0) (n / 4) (wput (La.2 0 (n / 4)) c (24 - 8 * ((n % 4 : Nat) : Int))), ?_, ?_, fun i hi => ?_⟩
  · unfold fL_put
    rw [e3, e2, lt_e, rdn (by omega), ixn (by omega), lt_e, Int.toNat_natCast]
    rfl
  · unfold byt
    rw [up_e, wput_get _ hc (by omega) (by omega), if_pos rfl]
  · unfold byt
    by_cases e : i / 4 = n / 4
    · rw [e, up_e, wput_get _ hc (by omega) (by omega), if_neg (by omega)]
    · rw [up_n _ _ e]
/-- bytes that stand one behind another -/
def BAt (g : Nat → Int) : Nat → List Int → Prop
  | _, [] => True
  | p, x :: xs => g p = x ∧ BAt g (p + 1) xs
theorem At_keep {g g' : Nat → Int} : ∀ (S : List Int) (p : Nat), (∀ i, i < p + S.length → g' i = g i) → BAt g p S → BAt g' p S := by
  intro S
  induction S with
  | nil => intro p _ _; trivial
  | cons x xs ih =>
    intro p h hA
    rw [List.length_cons] at h
    exact ⟨(h p (by omega)).trans hA.1, ih (p + 1) (fun i hi => h i (by omega)) hA.2⟩
theorem At_app {g : Nat → Int} : ∀ (S S' : List Int) (p : Nat), BAt g p S → BAt g (p + S.length) S' → BAt g p (S ++ S') := by
  intro S
  induction S with
  | nil => intro S' p _ h; exact h
  | cons x xs ih =>
    intro S' p h h'
    rw [List.length_cons, show p + (xs.length + 1) = p + 1 + xs.length by omega] at h'
    exact ⟨h.1, ih S' (p + 1) h.2 h'⟩
/-- what was written at n, nothing ahead of it changed -/
def Wrt (La : ZB) (n : Nat) (S : List Int) (La' : ZB) : Prop := (∃ f, La' = (La.1, ua La.2 0 f)) ∧ BAt (byt (La'.2 0)) n S ∧ ∀ i, i < n → byt (La'.2 0) i = byt (La.2 0) i
theorem Wr_tr {A B C : ZB} {n : Nat} {S S' : List Int} (h : Wrt A n S B) (h' : Wrt B (n + S.length) S' C) : Wrt A n (S ++ S') C := by
  obtain ⟨⟨f, rfl⟩, a1, a2⟩ := h
  obtain ⟨⟨f', rfl⟩, b1, b2⟩ := h'
  refine ⟨⟨f', by show (A.1, ua (ua A.2 0 f) 0 f') = _; rw [ua_up]⟩, At_app S S' n (At_keep S n (fun i hi => b2 i hi) a1) b1, fun i hi => (b2 i (by omega)).trans (a2 i hi)⟩
theorem Wr_put {La : ZB} {n : Nat} {c : Int} (hn : n < 256) (hc : 0 ≤ c ∧ c ≤ 255) : ∃ La', fL_put La (n : Int) c = some (((n + 1 : Nat) : Int), La') ∧ Wrt La n [c] La' := by
  obtain ⟨f, h1, h2, h3⟩ := L_put (La := La) hn hc
  exact ⟨_, h1, ⟨f, rfl⟩, ⟨h2, trivial⟩, fun i hi => h3 i (by omega)⟩
theorem Wr_adds : ∀ (S : List Int) (La : ZB) (n : Nat), (∀ x, x ∈ S → 0 ≤ x ∧ x ≤ 255) → n + S.length ≤ 256 → ∃ La', fL_adds S La (n : Int) = some (((n + S.length : Nat) : Int), La') ∧ Wrt La n S La' := by
  intro S
  induction S with
  | nil => intro La n _ _; exact ⟨La, rfl, ⟨La.2 0, by rw [ua_self]⟩, trivial, fun i _ => rfl⟩
  | cons x xs ih =>
    intro La n hx hn
    rw [List.length_cons] at hn
    obtain ⟨L1, h1, h2⟩ := Wr_put (La := La) (n := n) (c := x) (by omega) (hx x (List.mem_cons_self ..))
    obtain ⟨L2, h3, h4⟩ := ih L1 (n + 1) (fun y hy => hx y (List.mem_cons_of_mem _ hy)) (by omega)
    refine ⟨L2, ?_, Wr_tr (S := [x]) h2 h4⟩
    show bd (fL_put La (n : Int) x) (fun u => fL_adds xs u.2 u.1) = _
    rw [h1, bds]
    show fL_adds xs L1 ((n + 1 : Nat) : Int) = _
    rw [h3, List.length_cons, show n + 1 + xs.length = n + (xs.length + 1) by omega]
def dig (v : Nat) : List Int := if 9 < v then [48 + ((v / 10 : Nat) : Int), 48 + ((v % 10 : Nat) : Int)] else [48 + (v : Int)]
theorem Wr_number {La : ZB} {n v : Nat} (hv : v ≤ 99) (hn : n + 2 ≤ 256) : ∃ La', fL_number La (n : Int) (v : Int) = some (((n + (dig v).length : Nat) : Int), La') ∧ Wrt La n (dig v) La' := by
  have n10 : (10 : Int) = ((10 : Nat) : Int) := rfl
  have hz : ∀ {β : Type} (k : Option β), nz 10 k = k := fun k => nzi (by decide)
  have er : zrem (v : Int) 10 = ((v % 10 : Nat) : Int) := by rw [n10, zremn (by omega) (by omega) (by omega)]
  have ed : zdiv (v : Int) 10 = ((v / 10 : Nat) : Int) := by rw [n10, zdivn (by omega) (by omega) (by omega)]
  have ee : zrem ((v / 10 : Nat) : Int) 10 = ((v / 10 : Nat) : Int) := by rw [n10, zremn (by omega) (by omega) (by omega), Nat.mod_eq_of_lt (by omega)]
  unfold fL_number dig
  simp only [kf2, hz]
  rw [nmn (show v < 2147483648 by omega), er, ed, ee]
  by_cases h : 9 < v
  · obtain ⟨L1, h1, h2⟩ := Wr_put (La := La) (n := n) (c := 48 + ((v / 10 : Nat) : Int)) (by omega) (by omega)
    obtain ⟨L2, h3, h4⟩ := Wr_put (La := L1) (n := n + 1) (c := 48 + ((v % 10 : Nat) : Int)) (by omega) (by omega)
    rw [if_pos (show (9 : Int) < (v : Int) by omega), if_pos h, h1, bds]
    dsimp only
    rw [h3, bds]
    exact ⟨L2, rfl, Wr_tr (S := [48 + ((v / 10 : Nat) : Int)]) h2 h4⟩
  · obtain ⟨L1, h1, h2⟩ := Wr_put (La := La) (n := n) (c := 48 + (v : Int)) (by omega) (by omega)
    rw [if_neg (show ¬ (9 : Int) < (v : Int) by omega), if_neg h, show v % 10 = v by omega, h1, bds]
    exact ⟨L1, rfl, h2⟩
