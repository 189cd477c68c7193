-- needs: 03.rows
/-! whole numbers in place of the machine's: the words of the programs that mirror the methods -/
def zI (x : Int) : Int32 := Int32.ofInt x
def zJ (x : Int) : Int64 := Int64.ofInt x
def nm (x : Int) : Int := (zI x).toInt
def nl (x : Int) : Int := (zJ x).toInt
def zand (x y : Int) : Int := (zI x &&& zI y).toInt
def zor (x y : Int) : Int := (zI x ||| zI y).toInt
def zxor (x y : Int) : Int := (zI x ^^^ zI y).toInt
def zshl (x y : Int) : Int := (zI x <<< (zI y &&& 31)).toInt
def zshr (x y : Int) : Int := (zI x >>> (zI y &&& 31)).toInt
def zushr (x y : Int) : Int := (((zI x).toUInt32 >>> ((zI y).toUInt32 &&& Int32.toUInt32 31)).toInt32).toInt
def zdiv (x y : Int) : Int := (zI x / zI y).toInt
def zrem (x y : Int) : Int := (zI x - zI x / zI y * zI y).toInt
def zlcmp (x y : Int) : Int := if nl y < nl x then 1 else if nl x = nl y then 0 else -1
def zmax (x y : Int) : Int := if nm x < nm y then y else x
def zmin (x y : Int) : Int := if nm y < nm x then y else x
def up (f : Nat → Int) (k : Nat) (x : Int) : Nat → Int := fun j => if j = k then x else f j
def ua {α : Type} (A : Nat → α) (k : Nat) (f : α) : Nat → α := fun j => if j = k then f else A j
def wi (f : Nat → Int) : Nat → Int32 := fun j => zI (f j)
def wj (f : Nat → Int) : Nat → Int64 := fun j => zJ (f j)
def lt {α β : Type} (e : α) (k : α → β) : β := k e
def bd {α β : Type} (e : Option α) (k : α → Option β) : Option β := match e with | none => none | some x => k x
def rd {β : Type} (f : Nat → Int) (n : Nat) (i : Int) (k : Int → Option β) : Option β := if 0 ≤ i ∧ i < n then k (f i.toNat) else none
def ix {β : Type} (n : Nat) (i : Int) (k : Option β) : Option β := if 0 ≤ i ∧ i < n then k else none
def nz {β : Type} (i : Int) (k : Option β) : Option β := if nm i = 0 then none else k
def zo {β : Type} (i : Int) (k : Option β) : Option β := if i = 0 ∨ i = 1 then k else none
def cpk {β : Type} (n0 n1 : Nat) (sp dp n : Int) (k : Option β) : Option β := if (0 ≤ sp ∧ 0 ≤ dp ∧ 0 ≤ n) ∧ sp + n ≤ n0 ∧ dp + n ≤ n1 then k else none
def zcpy (f g : Nat → Int) (sp dp n : Int) : Nat → Int := fun k => if dp ≤ k ∧ (k : Int) < dp + n then f (sp.toNat + (k - dp.toNat)) else g k
def FU : Nat := 100000
theorem zI_toInt (a : Int32) : zI a.toInt = a := Int32.ofInt_toInt a
theorem zJ_toInt (a : Int64) : zJ a.toInt = a := Int64.ofInt_toInt a
theorem zI_add (x y : Int) : zI (x + y) = zI x + zI y := Int32.ofInt_add x y
theorem zI_sub (x y : Int) : zI (x - y) = zI x - zI y := Int32.ofInt_sub x y
theorem zI_mul (x y : Int) : zI (x * y) = zI x * zI y := Int32.ofInt_mul x y
theorem zI_neg (x : Int) : zI (-x) = - zI x := Int32.ofInt_neg x
theorem zJ_add (x y : Int) : zJ (x + y) = zJ x + zJ y := Int64.ofInt_add x y
theorem zJ_sub (x y : Int) : zJ (x - y) = zJ x - zJ y := Int64.ofInt_sub x y
theorem zJ_mul (x y : Int) : zJ (x * y) = zJ x * zJ y := Int64.ofInt_mul x y
theorem zI_nm (x : Int) : zI (nm x) = zI x := zI_toInt _
theorem nm_bmod (x : Int) : nm x = x.bmod 4294967296 := Int32.toInt_ofInt
theorem nl_bmod (x : Int) : nl x = x.bmod 18446744073709551616 := Int64.toInt_ofInt
theorem nm_lo (x : Int) : -2147483648 ≤ nm x := Int32.le_toInt _
theorem nm_hi (x : Int) : nm x < 2147483648 := Int32.toInt_lt _
theorem nm_eq {x : Int} (h1 : -2147483648 ≤ x) (h2 : x < 2147483648) : nm x = x := Int32.toInt_ofInt_of_le h1 h2
theorem nl_eq {x : Int} (h1 : -9223372036854775808 ≤ x) (h2 : x < 9223372036854775808) : nl x = x := Int64.toInt_ofInt_of_le h1 h2
theorem nm_I (a : Int32) : nm a.toInt = a.toInt := by unfold nm; rw [zI_toInt]
theorem nm_nm (x : Int) : nm (nm x) = nm x := nm_I _
theorem nm_zand (x y : Int) : nm (zand x y) = zand x y := nm_I _
theorem nm_zor (x y : Int) : nm (zor x y) = zor x y := nm_I _
theorem nm_zxor (x y : Int) : nm (zxor x y) = zxor x y := nm_I _
theorem nm_zshl (x y : Int) : nm (zshl x y) = zshl x y := nm_I _
theorem nm_zshr (x y : Int) : nm (zshr x y) = zshr x y := nm_I _
theorem nm_zushr (x y : Int) : nm (zushr x y) = zushr x y := nm_I _
theorem nm_zdiv (x y : Int) : nm (zdiv x y) = zdiv x y := nm_I _
theorem nm_zrem (x y : Int) : nm (zrem x y) = zrem x y := nm_I _
theorem zI_eq {x y : Int} : zI x = zI y ↔ nm x = nm y := Int32.toInt_inj.symm
theorem zI_lt {x y : Int} : zI x < zI y ↔ nm x < nm y := Int32.lt_iff_toInt_lt
theorem zI_le {x y : Int} : zI x ≤ zI y ↔ nm x ≤ nm y := Int32.le_iff_toInt_le
theorem nm_0 : nm 0 = 0 := by decide +kernel
theorem nm_zlcmp (x y : Int) : nm (zlcmp x y) = zlcmp x y := by
  unfold zlcmp
  split
  · decide +kernel
  · split <;> decide +kernel
theorem zlcmp_w (x y : Int) : lg_cmp (zJ x) (zJ y) = zI (zlcmp x y) := by
  unfold lg_cmp zlcmp
  have e1 : (zJ x > zJ y) ↔ nl y < nl x := Int64.lt_iff_toInt_lt
  have e2 : (zJ x = zJ y) ↔ nl x = nl y := Int64.toInt_inj.symm
  by_cases h1 : nl y < nl x
  · rw [if_pos (e1.mpr h1), if_pos h1]; rfl
  · rw [if_neg (fun h => h1 (e1.mp h)), if_neg h1]
    by_cases h2 : nl x = nl y
    · rw [if_pos (e2.mpr h2), if_pos h2]; rfl
    · rw [if_neg (fun h => h2 (e2.mp h)), if_neg h2]; rfl
theorem zi2l (x : Int) : (zI x).toInt64 = zJ (nm x) := by
  apply Int64.toInt_inj.mp
  rw [Int32.toInt_toInt64]
  have h1 := nm_lo x
  have h2 := nm_hi x
  exact (nl_eq (x := nm x) (by omega) (by omega)).symm
theorem zl2i (x : Int) : (zJ x).toInt32 = zI x := by
  apply Int32.toInt_inj.mp
  rw [Int64.toInt_toInt32, show (zJ x).toInt = x.bmod 18446744073709551616 from nl_bmod x, show (zI x).toInt = x.bmod 4294967296 from nm_bmod x]
  exact Int.bmod_bmod_of_dvd (by decide)
theorem wi_up (f : Nat → Int) (k : Nat) (x : Int) : upd (wi f) k (zI x) = wi (up f k x) := by
  funext j
  unfold upd wi up
  split <;> rfl
theorem wj_up (f : Nat → Int) (k : Nat) (x : Int) : vp_updL (wj f) k (zJ x) = wj (up f k x) := by
  funext j
  unfold vp_updL wj up
  split <;> rfl
theorem zin_I {i : Int} {n : Nat} (h : 0 ≤ i ∧ i < n) (hn : n ≤ 2000) : vp_in (zI i) n := by
  rw [vp_in_iff, show (zI i).toInt = nm i from rfl, nm_eq (by omega) (by omega)]
  exact h
theorem ztn {i : Int} {n : Nat} (h : 0 ≤ i ∧ i < n) (hn : n ≤ 2000) : (zI i).toNatClampNeg = i.toNat := by
  rw [← Int32.toNat_toInt, show (zI i).toInt = nm i from rfl, nm_eq (by omega) (by omega)]
/-! the loops: lpN fuel body, the body is given the loop itself -/
def lop0 {β : Type} : Nat → (Option β → Option β) → Option β
  | 0, _ => none
  | n + 1, b => b (lop0 n b)
def lop1 {α0 β : Type} : Nat → ((α0 → Option β) → α0 → Option β) → α0 → Option β
  | 0, _ => fun _ => none
  | n + 1, b => b (lop1 n b)
def lop2 {α0 α1 β : Type} : Nat → ((α0 → α1 → Option β) → α0 → α1 → Option β) → α0 → α1 → Option β
  | 0, _ => fun _ _ => none
  | n + 1, b => b (lop2 n b)
def lop3 {α0 α1 α2 β : Type} : Nat → ((α0 → α1 → α2 → Option β) → α0 → α1 → α2 → Option β) → α0 → α1 → α2 → Option β
  | 0, _ => fun _ _ _ => none
  | n + 1, b => b (lop3 n b)
def lop4 {α0 α1 α2 α3 β : Type} : Nat → ((α0 → α1 → α2 → α3 → Option β) → α0 → α1 → α2 → α3 → Option β) → α0 → α1 → α2 → α3 → Option β
  | 0, _ => fun _ _ _ _ => none
  | n + 1, b => b (lop4 n b)
def lop5 {α0 α1 α2 α3 α4 β : Type} : Nat → ((α0 → α1 → α2 → α3 → α4 → Option β) → α0 → α1 → α2 → α3 → α4 → Option β) → α0 → α1 → α2 → α3 → α4 → Option β
  | 0, _ => fun _ _ _ _ _ => none
  | n + 1, b => b (lop5 n b)
def lop6 {α0 α1 α2 α3 α4 α5 β : Type} : Nat → ((α0 → α1 → α2 → α3 → α4 → α5 → Option β) → α0 → α1 → α2 → α3 → α4 → α5 → Option β) → α0 → α1 → α2 → α3 → α4 → α5 → Option β
  | 0, _ => fun _ _ _ _ _ _ => none
  | n + 1, b => b (lop6 n b)
def lop7 {α0 α1 α2 α3 α4 α5 α6 β : Type} : Nat → ((α0 → α1 → α2 → α3 → α4 → α5 → α6 → Option β) → α0 → α1 → α2 → α3 → α4 → α5 → α6 → Option β) → α0 → α1 → α2 → α3 → α4 → α5 → α6 → Option β
  | 0, _ => fun _ _ _ _ _ _ _ => none
  | n + 1, b => b (lop7 n b)
def lop8 {α0 α1 α2 α3 α4 α5 α6 α7 β : Type} : Nat → ((α0 → α1 → α2 → α3 → α4 → α5 → α6 → α7 → Option β) → α0 → α1 → α2 → α3 → α4 → α5 → α6 → α7 → Option β) → α0 → α1 → α2 → α3 → α4 → α5 → α6 → α7 → Option β
  | 0, _ => fun _ _ _ _ _ _ _ _ => none
  | n + 1, b => b (lop8 n b)
def lop9 {α0 α1 α2 α3 α4 α5 α6 α7 α8 β : Type} : Nat → ((α0 → α1 → α2 → α3 → α4 → α5 → α6 → α7 → α8 → Option β) → α0 → α1 → α2 → α3 → α4 → α5 → α6 → α7 → α8 → Option β) → α0 → α1 → α2 → α3 → α4 → α5 → α6 → α7 → α8 → Option β
  | 0, _ => fun _ _ _ _ _ _ _ _ _ => none
  | n + 1, b => b (lop9 n b)
def lop10 {α0 α1 α2 α3 α4 α5 α6 α7 α8 α9 β : Type} : Nat → ((α0 → α1 → α2 → α3 → α4 → α5 → α6 → α7 → α8 → α9 → Option β) → α0 → α1 → α2 → α3 → α4 → α5 → α6 → α7 → α8 → α9 → Option β) → α0 → α1 → α2 → α3 → α4 → α5 → α6 → α7 → α8 → α9 → Option β
  | 0, _ => fun _ _ _ _ _ _ _ _ _ _ => none
  | n + 1, b => b (lop10 n b)
def lop11 {α0 α1 α2 α3 α4 α5 α6 α7 α8 α9 α10 β : Type} : Nat → ((α0 → α1 → α2 → α3 → α4 → α5 → α6 → α7 → α8 → α9 → α10 → Option β) → α0 → α1 → α2 → α3 → α4 → α5 → α6 → α7 → α8 → α9 → α10 → Option β) → α0 → α1 → α2 → α3 → α4 → α5 → α6 → α7 → α8 → α9 → α10 → Option β
  | 0, _ => fun _ _ _ _ _ _ _ _ _ _ _ => none
  | n + 1, b => b (lop11 n b)
def lop12 {α0 α1 α2 α3 α4 α5 α6 α7 α8 α9 α10 α11 β : Type} : Nat → ((α0 → α1 → α2 → α3 → α4 → α5 → α6 → α7 → α8 → α9 → α10 → α11 → Option β) → α0 → α1 → α2 → α3 → α4 → α5 → α6 → α7 → α8 → α9 → α10 → α11 → Option β) → α0 → α1 → α2 → α3 → α4 → α5 → α6 → α7 → α8 → α9 → α10 → α11 → Option β
  | 0, _ => fun _ _ _ _ _ _ _ _ _ _ _ _ => none
  | n + 1, b => b (lop12 n b)
theorem lop0_f {β : Type} {r : β} {P : Prop} {body : (Option β) → Option β} (hb : ∀ rec : Option β, (rec = some r → P) → body rec = some r → P) : ∀ n, lop0 n body = some r → P := by
  intro n
  induction n with
  | zero => intro  h; exact absurd h (by simp [lop0])
  | succ n ih => exact hb _ ih
def kf0 {β : Type} {γ : Type} (K : Option β) (body : (Option β) → γ) : γ := body K
theorem kf0_f {β : Type} {r : β} {P : Prop} {K : Option β} {body : (Option β) → Option β} {G : Prop} (h : kf0 K body = some r) (h1 : K = some r → P) (h2 : ∀ k : Option β, (k = some r → P) → body k = some r → G) : G := h2 K h1 h
theorem lop0_w {β : Type} {Q : β → Prop} (I : Prop) (m : Nat) {body : (Option β) → Option β} (hb : ∀ rec : Option β, I → (I → m < m → ∃ r, rec = some r ∧ Q r) → ∃ r, body rec = some r ∧ Q r) : ∀ n, I → m < n → ∃ r, lop0 n body = some r ∧ Q r := by
  intro n
  induction n with
  | zero => intro  _ h; exact absurd h (Nat.not_lt_zero _)
  | succ n ih =>
    intro  hI hm
    exact hb _  hI (fun hy hlt => ih hy (Nat.lt_of_lt_of_le hlt (Nat.le_of_lt_succ hm)))
theorem lop1_f {α0 β : Type} {r : β} {P : α0 → Prop} {body : (α0 → Option β) → α0 → Option β} (hb : ∀ rec : α0 → Option β, (∀ x0, rec x0 = some r → P x0) → ∀ x0, body rec x0 = some r → P x0) : ∀ n, ∀ x0, lop1 n body x0 = some r → P x0 := by
  intro n
  induction n with
  | zero => intro x0 h; exact absurd h (by simp [lop1])
  | succ n ih => exact hb _ ih
def kf1 {α0 β : Type} {γ : Type} (K : α0 → Option β) (body : (α0 → Option β) → γ) : γ := body K
theorem kf1_f {α0 β : Type} {r : β} {P : α0 → Prop} {K : α0 → Option β} {body : (α0 → Option β) → Option β} {G : Prop} (h : kf1 K body = some r) (h1 : ∀ x0, K x0 = some r → P x0) (h2 : ∀ k : α0 → Option β, (∀ x0, k x0 = some r → P x0) → body k = some r → G) : G := h2 K h1 h
theorem lop1_w {α0 β : Type} {Q : β → Prop} (I : α0 → Prop) (m : α0 → Nat) {body : (α0 → Option β) → α0 → Option β} (hb : ∀ rec : α0 → Option β, ∀ x0, I x0 → (∀ y0, I y0 → m y0 < m x0 → ∃ r, rec y0 = some r ∧ Q r) → ∃ r, body rec x0 = some r ∧ Q r) : ∀ n, ∀ x0, I x0 → m x0 < n → ∃ r, lop1 n body x0 = some r ∧ Q r := by
  intro n
  induction n with
  | zero => intro x0 _ h; exact absurd h (Nat.not_lt_zero _)
  | succ n ih =>
    intro x0 hI hm
    exact hb _ x0 hI (fun y0 hy hlt => ih y0 hy (Nat.lt_of_lt_of_le hlt (Nat.le_of_lt_succ hm)))
theorem lop2_f {α0 α1 β : Type} {r : β} {P : α0 → α1 → Prop} {body : (α0 → α1 → Option β) → α0 → α1 → Option β} (hb : ∀ rec : α0 → α1 → Option β, (∀ x0 x1, rec x0 x1 = some r → P x0 x1) → ∀ x0 x1, body rec x0 x1 = some r → P x0 x1) : ∀ n, ∀ x0 x1, lop2 n body x0 x1 = some r → P x0 x1 := by
  intro n
  induction n with
  | zero => intro x0 x1 h; exact absurd h (by simp [lop2])
  | succ n ih => exact hb _ ih
def kf2 {α0 α1 β : Type} {γ : Type} (K : α0 → α1 → Option β) (body : (α0 → α1 → Option β) → γ) : γ := body K
theorem kf2_f {α0 α1 β : Type} {r : β} {P : α0 → α1 → Prop} {K : α0 → α1 → Option β} {body : (α0 → α1 → Option β) → Option β} {G : Prop} (h : kf2 K body = some r) (h1 : ∀ x0 x1, K x0 x1 = some r → P x0 x1) (h2 : ∀ k : α0 → α1 → Option β, (∀ x0 x1, k x0 x1 = some r → P x0 x1) → body k = some r → G) : G := h2 K h1 h
theorem lop2_w {α0 α1 β : Type} {Q : β → Prop} (I : α0 → α1 → Prop) (m : α0 → α1 → Nat) {body : (α0 → α1 → Option β) → α0 → α1 → Option β} (hb : ∀ rec : α0 → α1 → Option β, ∀ x0 x1, I x0 x1 → (∀ y0 y1, I y0 y1 → m y0 y1 < m x0 x1 → ∃ r, rec y0 y1 = some r ∧ Q r) → ∃ r, body rec x0 x1 = some r ∧ Q r) : ∀ n, ∀ x0 x1, I x0 x1 → m x0 x1 < n → ∃ r, lop2 n body x0 x1 = some r ∧ Q r := by
  intro n
  induction n with
  | zero => intro x0 x1 _ h; exact absurd h (Nat.not_lt_zero _)
  | succ n ih =>
    intro x0 x1 hI hm
    exact hb _ x0 x1 hI (fun y0 y1 hy hlt => ih y0 y1 hy (Nat.lt_of_lt_of_le hlt (Nat.le_of_lt_succ hm)))
theorem lop3_f {α0 α1 α2 β : Type} {r : β} {P : α0 → α1 → α2 → Prop} {body : (α0 → α1 → α2 → Option β) → α0 → α1 → α2 → Option β} (hb : ∀ rec : α0 → α1 → α2 → Option β, (∀ x0 x1 x2, rec x0 x1 x2 = some r → P x0 x1 x2) → ∀ x0 x1 x2, body rec x0 x1 x2 = some r → P x0 x1 x2) : ∀ n, ∀ x0 x1 x2, lop3 n body x0 x1 x2 = some r → P x0 x1 x2 := by
  intro n
  induction n with
  | zero => intro x0 x1 x2 h; exact absurd h (by simp [lop3])
  | succ n ih => exact hb _ ih
def kf3 {α0 α1 α2 β : Type} {γ : Type} (K : α0 → α1 → α2 → Option β) (body : (α0 → α1 → α2 → Option β) → γ) : γ := body K
theorem kf3_f {α0 α1 α2 β : Type} {r : β} {P : α0 → α1 → α2 → Prop} {K : α0 → α1 → α2 → Option β} {body : (α0 → α1 → α2 → Option β) → Option β} {G : Prop} (h : kf3 K body = some r) (h1 : ∀ x0 x1 x2, K x0 x1 x2 = some r → P x0 x1 x2) (h2 : ∀ k : α0 → α1 → α2 → Option β, (∀ x0 x1 x2, k x0 x1 x2 = some r → P x0 x1 x2) → body k = some r → G) : G := h2 K h1 h
theorem lop3_w {α0 α1 α2 β : Type} {Q : β → Prop} (I : α0 → α1 → α2 → Prop) (m : α0 → α1 → α2 → Nat) {body : (α0 → α1 → α2 → Option β) → α0 → α1 → α2 → Option β} (hb : ∀ rec : α0 → α1 → α2 → Option β, ∀ x0 x1 x2, I x0 x1 x2 → (∀ y0 y1 y2, I y0 y1 y2 → m y0 y1 y2 < m x0 x1 x2 → ∃ r, rec y0 y1 y2 = some r ∧ Q r) → ∃ r, body rec x0 x1 x2 = some r ∧ Q r) : ∀ n, ∀ x0 x1 x2, I x0 x1 x2 → m x0 x1 x2 < n → ∃ r, lop3 n body x0 x1 x2 = some r ∧ Q r := by
  intro n
  induction n with
  | zero => intro x0 x1 x2 _ h; exact absurd h (Nat.not_lt_zero _)
  | succ n ih =>
    intro x0 x1 x2 hI hm
    exact hb _ x0 x1 x2 hI (fun y0 y1 y2 hy hlt => ih y0 y1 y2 hy (Nat.lt_of_lt_of_le hlt (Nat.le_of_lt_succ hm)))
theorem lop4_f {α0 α1 α2 α3 β : Type} {r : β} {P : α0 → α1 → α2 → α3 → Prop} {body : (α0 → α1 → α2 → α3 → Option β) → α0 → α1 → α2 → α3 → Option β} (hb : ∀ rec : α0 → α1 → α2 → α3 → Option β, (∀ x0 x1 x2 x3, rec x0 x1 x2 x3 = some r → P x0 x1 x2 x3) → ∀ x0 x1 x2 x3, body rec x0 x1 x2 x3 = some r → P x0 x1 x2 x3) : ∀ n, ∀ x0 x1 x2 x3, lop4 n body x0 x1 x2 x3 = some r → P x0 x1 x2 x3 := by
  intro n
  induction n with
  | zero => intro x0 x1 x2 x3 h; exact absurd h (by simp [lop4])
  | succ n ih => exact hb _ ih
def kf4 {α0 α1 α2 α3 β : Type} {γ : Type} (K : α0 → α1 → α2 → α3 → Option β) (body : (α0 → α1 → α2 → α3 → Option β) → γ) : γ := body K
theorem kf4_f {α0 α1 α2 α3 β : Type} {r : β} {P : α0 → α1 → α2 → α3 → Prop} {K : α0 → α1 → α2 → α3 → Option β} {body : (α0 → α1 → α2 → α3 → Option β) → Option β} {G : Prop} (h : kf4 K body = some r) (h1 : ∀ x0 x1 x2 x3, K x0 x1 x2 x3 = some r → P x0 x1 x2 x3) (h2 : ∀ k : α0 → α1 → α2 → α3 → Option β, (∀ x0 x1 x2 x3, k x0 x1 x2 x3 = some r → P x0 x1 x2 x3) → body k = some r → G) : G := h2 K h1 h
theorem lop4_w {α0 α1 α2 α3 β : Type} {Q : β → Prop} (I : α0 → α1 → α2 → α3 → Prop) (m : α0 → α1 → α2 → α3 → Nat) {body : (α0 → α1 → α2 → α3 → Option β) → α0 → α1 → α2 → α3 → Option β} (hb : ∀ rec : α0 → α1 → α2 → α3 → Option β, ∀ x0 x1 x2 x3, I x0 x1 x2 x3 → (∀ y0 y1 y2 y3, I y0 y1 y2 y3 → m y0 y1 y2 y3 < m x0 x1 x2 x3 → ∃ r, rec y0 y1 y2 y3 = some r ∧ Q r) → ∃ r, body rec x0 x1 x2 x3 = some r ∧ Q r) : ∀ n, ∀ x0 x1 x2 x3, I x0 x1 x2 x3 → m x0 x1 x2 x3 < n → ∃ r, lop4 n body x0 x1 x2 x3 = some r ∧ Q r := by
  intro n
  induction n with
  | zero => intro x0 x1 x2 x3 _ h; exact absurd h (Nat.not_lt_zero _)
  | succ n ih =>
    intro x0 x1 x2 x3 hI hm
    exact hb _ x0 x1 x2 x3 hI (fun y0 y1 y2 y3 hy hlt => ih y0 y1 y2 y3 hy (Nat.lt_of_lt_of_le hlt (Nat.le_of_lt_succ hm)))
theorem lop5_f {α0 α1 α2 α3 α4 β : Type} {r : β} {P : α0 → α1 → α2 → α3 → α4 → Prop} {body : (α0 → α1 → α2 → α3 → α4 → Option β) → α0 → α1 → α2 → α3 → α4 → Option β} (hb : ∀ rec : α0 → α1 → α2 → α3 → α4 → Option β, (∀ x0 x1 x2 x3 x4, rec x0 x1 x2 x3 x4 = some r → P x0 x1 x2 x3 x4) → ∀ x0 x1 x2 x3 x4, body rec x0 x1 x2 x3 x4 = some r → P x0 x1 x2 x3 x4) : ∀ n, ∀ x0 x1 x2 x3 x4, lop5 n body x0 x1 x2 x3 x4 = some r → P x0 x1 x2 x3 x4 := by
  intro n
  induction n with
  | zero => intro x0 x1 x2 x3 x4 h; exact absurd h (by simp [lop5])
  | succ n ih => exact hb _ ih
def kf5 {α0 α1 α2 α3 α4 β : Type} {γ : Type} (K : α0 → α1 → α2 → α3 → α4 → Option β) (body : (α0 → α1 → α2 → α3 → α4 → Option β) → γ) : γ := body K
theorem kf5_f {α0 α1 α2 α3 α4 β : Type} {r : β} {P : α0 → α1 → α2 → α3 → α4 → Prop} {K : α0 → α1 → α2 → α3 → α4 → Option β} {body : (α0 → α1 → α2 → α3 → α4 → Option β) → Option β} {G : Prop} (h : kf5 K body = some r) (h1 : ∀ x0 x1 x2 x3 x4, K x0 x1 x2 x3 x4 = some r → P x0 x1 x2 x3 x4) (h2 : ∀ k : α0 → α1 → α2 → α3 → α4 → Option β, (∀ x0 x1 x2 x3 x4, k x0 x1 x2 x3 x4 = some r → P x0 x1 x2 x3 x4) → body k = some r → G) : G := h2 K h1 h
theorem lop5_w {α0 α1 α2 α3 α4 β : Type} {Q : β → Prop} (I : α0 → α1 → α2 → α3 → α4 → Prop) (m : α0 → α1 → α2 → α3 → α4 → Nat) {body : (α0 → α1 → α2 → α3 → α4 → Option β) → α0 → α1 → α2 → α3 → α4 → Option β} (hb : ∀ rec : α0 → α1 → α2 → α3 → α4 → Option β, ∀ x0 x1 x2 x3 x4, I x0 x1 x2 x3 x4 → (∀ y0 y1 y2 y3 y4, I y0 y1 y2 y3 y4 → m y0 y1 y2 y3 y4 < m x0 x1 x2 x3 x4 → ∃ r, rec y0 y1 y2 y3 y4 = some r ∧ Q r) → ∃ r, body rec x0 x1 x2 x3 x4 = some r ∧ Q r) : ∀ n, ∀ x0 x1 x2 x3 x4, I x0 x1 x2 x3 x4 → m x0 x1 x2 x3 x4 < n → ∃ r, lop5 n body x0 x1 x2 x3 x4 = some r ∧ Q r := by
  intro n
  induction n with
  | zero => intro x0 x1 x2 x3 x4 _ h; exact absurd h (Nat.not_lt_zero _)
  | succ n ih =>
    intro x0 x1 x2 x3 x4 hI hm
    exact hb _ x0 x1 x2 x3 x4 hI (fun y0 y1 y2 y3 y4 hy hlt => ih y0 y1 y2 y3 y4 hy (Nat.lt_of_lt_of_le hlt (Nat.le_of_lt_succ hm)))
theorem lop6_f {α0 α1 α2 α3 α4 α5 β : Type} {r : β} {P : α0 → α1 → α2 → α3 → α4 → α5 → Prop} {body : (α0 → α1 → α2 → α3 → α4 → α5 → Option β) → α0 → α1 → α2 → α3 → α4 → α5 → Option β} (hb : ∀ rec : α0 → α1 → α2 → α3 → α4 → α5 → Option β, (∀ x0 x1 x2 x3 x4 x5, rec x0 x1 x2 x3 x4 x5 = some r → P x0 x1 x2 x3 x4 x5) → ∀ x0 x1 x2 x3 x4 x5, body rec x0 x1 x2 x3 x4 x5 = some r → P x0 x1 x2 x3 x4 x5) : ∀ n, ∀ x0 x1 x2 x3 x4 x5, lop6 n body x0 x1 x2 x3 x4 x5 = some r → P x0 x1 x2 x3 x4 x5 := by
  intro n
  induction n with
  | zero => intro x0 x1 x2 x3 x4 x5 h; exact absurd h (by simp [lop6])
  | succ n ih => exact hb _ ih
def kf6 {α0 α1 α2 α3 α4 α5 β : Type} {γ : Type} (K : α0 → α1 → α2 → α3 → α4 → α5 → Option β) (body : (α0 → α1 → α2 → α3 → α4 → α5 → Option β) → γ) : γ := body K
theorem kf6_f {α0 α1 α2 α3 α4 α5 β : Type} {r : β} {P : α0 → α1 → α2 → α3 → α4 → α5 → Prop} {K : α0 → α1 → α2 → α3 → α4 → α5 → Option β} {body : (α0 → α1 → α2 → α3 → α4 → α5 → Option β) → Option β} {G : Prop} (h : kf6 K body = some r) (h1 : ∀ x0 x1 x2 x3 x4 x5, K x0 x1 x2 x3 x4 x5 = some r → P x0 x1 x2 x3 x4 x5) (h2 : ∀ k : α0 → α1 → α2 → α3 → α4 → α5 → Option β, (∀ x0 x1 x2 x3 x4 x5, k x0 x1 x2 x3 x4 x5 = some r → P x0 x1 x2 x3 x4 x5) → body k = some r → G) : G := h2 K h1 h
theorem lop6_w {α0 α1 α2 α3 α4 α5 β : Type} {Q : β → Prop} (I : α0 → α1 → α2 → α3 → α4 → α5 → Prop) (m : α0 → α1 → α2 → α3 → α4 → α5 → Nat) {body : (α0 → α1 → α2 → α3 → α4 → α5 → Option β) → α0 → α1 → α2 → α3 → α4 → α5 → Option β} (hb : ∀ rec : α0 → α1 → α2 → α3 → α4 → α5 → Option β, ∀ x0 x1 x2 x3 x4 x5, I x0 x1 x2 x3 x4 x5 → (∀ y0 y1 y2 y3 y4 y5, I y0 y1 y2 y3 y4 y5 → m y0 y1 y2 y3 y4 y5 < m x0 x1 x2 x3 x4 x5 → ∃ r, rec y0 y1 y2 y3 y4 y5 = some r ∧ Q r) → ∃ r, body rec x0 x1 x2 x3 x4 x5 = some r ∧ Q r) : ∀ n, ∀ x0 x1 x2 x3 x4 x5, I x0 x1 x2 x3 x4 x5 → m x0 x1 x2 x3 x4 x5 < n → ∃ r, lop6 n body x0 x1 x2 x3 x4 x5 = some r ∧ Q r := by
  intro n
  induction n with
  | zero => intro x0 x1 x2 x3 x4 x5 _ h; exact absurd h (Nat.not_lt_zero _)
  | succ n ih =>
    intro x0 x1 x2 x3 x4 x5 hI hm
    exact hb _ x0 x1 x2 x3 x4 x5 hI (fun y0 y1 y2 y3 y4 y5 hy hlt => ih y0 y1 y2 y3 y4 y5 hy (Nat.lt_of_lt_of_le hlt (Nat.le_of_lt_succ hm)))
theorem lop7_f {α0 α1 α2 α3 α4 α5 α6 β : Type} {r : β} {P : α0 → α1 → α2 → α3 → α4 → α5 → α6 → Prop} {body : (α0 → α1 → α2 → α3 → α4 → α5 → α6 → Option β) → α0 → α1 → α2 → α3 → α4 → α5 → α6 → Option β} (hb : ∀ rec : α0 → α1 → α2 → α3 → α4 → α5 → α6 → Option β, (∀ x0 x1 x2 x3 x4 x5 x6, rec x0 x1 x2 x3 x4 x5 x6 = some r → P x0 x1 x2 x3 x4 x5 x6) → ∀ x0 x1 x2 x3 x4 x5 x6, body rec x0 x1 x2 x3 x4 x5 x6 = some r → P x0 x1 x2 x3 x4 x5 x6) : ∀ n, ∀ x0 x1 x2 x3 x4 x5 x6, lop7 n body x0 x1 x2 x3 x4 x5 x6 = some r → P x0 x1 x2 x3 x4 x5 x6 := by
  intro n
  induction n with
  | zero => intro x0 x1 x2 x3 x4 x5 x6 h; exact absurd h (by simp [lop7])
  | succ n ih => exact hb _ ih
def kf7 {α0 α1 α2 α3 α4 α5 α6 β : Type} {γ : Type} (K : α0 → α1 → α2 → α3 → α4 → α5 → α6 → Option β) (body : (α0 → α1 → α2 → α3 → α4 → α5 → α6 → Option β) → γ) : γ := body K
theorem kf7_f {α0 α1 α2 α3 α4 α5 α6 β : Type} {r : β} {P : α0 → α1 → α2 → α3 → α4 → α5 → α6 → Prop} {K : α0 → α1 → α2 → α3 → α4 → α5 → α6 → Option β} {body : (α0 → α1 → α2 → α3 → α4 → α5 → α6 → Option β) → Option β} {G : Prop} (h : kf7 K body = some r) (h1 : ∀ x0 x1 x2 x3 x4 x5 x6, K x0 x1 x2 x3 x4 x5 x6 = some r → P x0 x1 x2 x3 x4 x5 x6) (h2 : ∀ k : α0 → α1 → α2 → α3 → α4 → α5 → α6 → Option β, (∀ x0 x1 x2 x3 x4 x5 x6, k x0 x1 x2 x3 x4 x5 x6 = some r → P x0 x1 x2 x3 x4 x5 x6) → body k = some r → G) : G := h2 K h1 h
theorem lop7_w {α0 α1 α2 α3 α4 α5 α6 β : Type} {Q : β → Prop} (I : α0 → α1 → α2 → α3 → α4 → α5 → α6 → Prop) (m : α0 → α1 → α2 → α3 → α4 → α5 → α6 → Nat) {body : (α0 → α1 → α2 → α3 → α4 → α5 → α6 → Option β) → α0 → α1 → α2 → α3 → α4 → α5 → α6 → Option β} (hb : ∀ rec : α0 → α1 → α2 → α3 → α4 → α5 → α6 → Option β, ∀ x0 x1 x2 x3 x4 x5 x6, I x0 x1 x2 x3 x4 x5 x6 → (∀ y0 y1 y2 y3 y4 y5 y6, I y0 y1 y2 y3 y4 y5 y6 → m y0 y1 y2 y3 y4 y5 y6 < m x0 x1 x2 x3 x4 x5 x6 → ∃ r, rec y0 y1 y2 y3 y4 y5 y6 = some r ∧ Q r) → ∃ r, body rec x0 x1 x2 x3 x4 x5 x6 = some r ∧ Q r) : ∀ n, ∀ x0 x1 x2 x3 x4 x5 x6, I x0 x1 x2 x3 x4 x5 x6 → m x0 x1 x2 x3 x4 x5 x6 < n → ∃ r, lop7 n body x0 x1 x2 x3 x4 x5 x6 = some r ∧ Q r := by
  intro n
  induction n with
  | zero => intro x0 x1 x2 x3 x4 x5 x6 _ h; exact absurd h (Nat.not_lt_zero _)
  | succ n ih =>
    intro x0 x1 x2 x3 x4 x5 x6 hI hm
    exact hb _ x0 x1 x2 x3 x4 x5 x6 hI (fun y0 y1 y2 y3 y4 y5 y6 hy hlt => ih y0 y1 y2 y3 y4 y5 y6 hy (Nat.lt_of_lt_of_le hlt (Nat.le_of_lt_succ hm)))
theorem lop8_f {α0 α1 α2 α3 α4 α5 α6 α7 β : Type} {r : β} {P : α0 → α1 → α2 → α3 → α4 → α5 → α6 → α7 → Prop} {body : (α0 → α1 → α2 → α3 → α4 → α5 → α6 → α7 → Option β) → α0 → α1 → α2 → α3 → α4 → α5 → α6 → α7 → Option β} (hb : ∀ rec : α0 → α1 → α2 → α3 → α4 → α5 → α6 → α7 → Option β, (∀ x0 x1 x2 x3 x4 x5 x6 x7, rec x0 x1 x2 x3 x4 x5 x6 x7 = some r → P x0 x1 x2 x3 x4 x5 x6 x7) → ∀ x0 x1 x2 x3 x4 x5 x6 x7, body rec x0 x1 x2 x3 x4 x5 x6 x7 = some r → P x0 x1 x2 x3 x4 x5 x6 x7) : ∀ n, ∀ x0 x1 x2 x3 x4 x5 x6 x7, lop8 n body x0 x1 x2 x3 x4 x5 x6 x7 = some r → P x0 x1 x2 x3 x4 x5 x6 x7 := by
  intro n
  induction n with
  | zero => intro x0 x1 x2 x3 x4 x5 x6 x7 h; exact absurd h (by simp [lop8])
  | succ n ih => exact hb _ ih
def kf8 {α0 α1 α2 α3 α4 α5 α6 α7 β : Type} {γ : Type} (K : α0 → α1 → α2 → α3 → α4 → α5 → α6 → α7 → Option β) (body : (α0 → α1 → α2 → α3 → α4 → α5 → α6 → α7 → Option β) → γ) : γ := body K
theorem kf8_f {α0 α1 α2 α3 α4 α5 α6 α7 β : Type} {r : β} {P : α0 → α1 → α2 → α3 → α4 → α5 → α6 → α7 → Prop} {K : α0 → α1 → α2 → α3 → α4 → α5 → α6 → α7 → Option β} {body : (α0 → α1 → α2 → α3 → α4 → α5 → α6 → α7 → Option β) → Option β} {G : Prop} (h : kf8 K body = some r) (h1 : ∀ x0 x1 x2 x3 x4 x5 x6 x7, K x0 x1 x2 x3 x4 x5 x6 x7 = some r → P x0 x1 x2 x3 x4 x5 x6 x7) (h2 : ∀ k : α0 → α1 → α2 → α3 → α4 → α5 → α6 → α7 → Option β, (∀ x0 x1 x2 x3 x4 x5 x6 x7, k x0 x1 x2 x3 x4 x5 x6 x7 = some r → P x0 x1 x2 x3 x4 x5 x6 x7) → body k = some r → G) : G := h2 K h1 h
theorem lop8_w {α0 α1 α2 α3 α4 α5 α6 α7 β : Type} {Q : β → Prop} (I : α0 → α1 → α2 → α3 → α4 → α5 → α6 → α7 → Prop) (m : α0 → α1 → α2 → α3 → α4 → α5 → α6 → α7 → Nat) {body : (α0 → α1 → α2 → α3 → α4 → α5 → α6 → α7 → Option β) → α0 → α1 → α2 → α3 → α4 → α5 → α6 → α7 → Option β} (hb : ∀ rec : α0 → α1 → α2 → α3 → α4 → α5 → α6 → α7 → Option β, ∀ x0 x1 x2 x3 x4 x5 x6 x7, I x0 x1 x2 x3 x4 x5 x6 x7 → (∀ y0 y1 y2 y3 y4 y5 y6 y7, I y0 y1 y2 y3 y4 y5 y6 y7 → m y0 y1 y2 y3 y4 y5 y6 y7 < m x0 x1 x2 x3 x4 x5 x6 x7 → ∃ r, rec y0 y1 y2 y3 y4 y5 y6 y7 = some r ∧ Q r) → ∃ r, body rec x0 x1 x2 x3 x4 x5 x6 x7 = some r ∧ Q r) : ∀ n, ∀ x0 x1 x2 x3 x4 x5 x6 x7, I x0 x1 x2 x3 x4 x5 x6 x7 → m x0 x1 x2 x3 x4 x5 x6 x7 < n → ∃ r, lop8 n body x0 x1 x2 x3 x4 x5 x6 x7 = some r ∧ Q r := by
  intro n
  induction n with
  | zero => intro x0 x1 x2 x3 x4 x5 x6 x7 _ h; exact absurd h (Nat.not_lt_zero _)
  | succ n ih =>
    intro x0 x1 x2 x3 x4 x5 x6 x7 hI hm
    exact hb _ x0 x1 x2 x3 x4 x5 x6 x7 hI (fun y0 y1 y2 y3 y4 y5 y6 y7 hy hlt => ih y0 y1 y2 y3 y4 y5 y6 y7 hy (Nat.lt_of_lt_of_le hlt (Nat.le_of_lt_succ hm)))
theorem lop9_f {α0 α1 α2 α3 α4 α5 α6 α7 α8 β : Type} {r : β} {P : α0 → α1 → α2 → α3 → α4 → α5 → α6 → α7 → α8 → Prop} {body : (α0 → α1 → α2 → α3 → α4 → α5 → α6 → α7 → α8 → Option β) → α0 → α1 → α2 → α3 → α4 → α5 → α6 → α7 → α8 → Option β} (hb : ∀ rec : α0 → α1 → α2 → α3 → α4 → α5 → α6 → α7 → α8 → Option β, (∀ x0 x1 x2 x3 x4 x5 x6 x7 x8, rec x0 x1 x2 x3 x4 x5 x6 x7 x8 = some r → P x0 x1 x2 x3 x4 x5 x6 x7 x8) → ∀ x0 x1 x2 x3 x4 x5 x6 x7 x8, body rec x0 x1 x2 x3 x4 x5 x6 x7 x8 = some r → P x0 x1 x2 x3 x4 x5 x6 x7 x8) : ∀ n, ∀ x0 x1 x2 x3 x4 x5 x6 x7 x8, lop9 n body x0 x1 x2 x3 x4 x5 x6 x7 x8 = some r → P x0 x1 x2 x3 x4 x5 x6 x7 x8 := by
  intro n
  induction n with
  | zero => intro x0 x1 x2 x3 x4 x5 x6 x7 x8 h; exact absurd h (by simp [lop9])
  | succ n ih => exact hb _ ih
def kf9 {α0 α1 α2 α3 α4 α5 α6 α7 α8 β : Type} {γ : Type} (K : α0 → α1 → α2 → α3 → α4 → α5 → α6 → α7 → α8 → Option β) (body : (α0 → α1 → α2 → α3 → α4 → α5 → α6 → α7 → α8 → Option β) → γ) : γ := body K
theorem kf9_f {α0 α1 α2 α3 α4 α5 α6 α7 α8 β : Type} {r : β} {P : α0 → α1 → α2 → α3 → α4 → α5 → α6 → α7 → α8 → Prop} {K : α0 → α1 → α2 → α3 → α4 → α5 → α6 → α7 → α8 → Option β} {body : (α0 → α1 → α2 → α3 → α4 → α5 → α6 → α7 → α8 → Option β) → Option β} {G : Prop} (h : kf9 K body = some r) (h1 : ∀ x0 x1 x2 x3 x4 x5 x6 x7 x8, K x0 x1 x2 x3 x4 x5 x6 x7 x8 = some r → P x0 x1 x2 x3 x4 x5 x6 x7 x8) (h2 : ∀ k : α0 → α1 → α2 → α3 → α4 → α5 → α6 → α7 → α8 → Option β, (∀ x0 x1 x2 x3 x4 x5 x6 x7 x8, k x0 x1 x2 x3 x4 x5 x6 x7 x8 = some r → P x0 x1 x2 x3 x4 x5 x6 x7 x8) → body k = some r → G) : G := h2 K h1 h
theorem lop9_w {α0 α1 α2 α3 α4 α5 α6 α7 α8 β : Type} {Q : β → Prop} (I : α0 → α1 → α2 → α3 → α4 → α5 → α6 → α7 → α8 → Prop) (m : α0 → α1 → α2 → α3 → α4 → α5 → α6 → α7 → α8 → Nat) {body : (α0 → α1 → α2 → α3 → α4 → α5 → α6 → α7 → α8 → Option β) → α0 → α1 → α2 → α3 → α4 → α5 → α6 → α7 → α8 → Option β} (hb : ∀ rec : α0 → α1 → α2 → α3 → α4 → α5 → α6 → α7 → α8 → Option β, ∀ x0 x1 x2 x3 x4 x5 x6 x7 x8, I x0 x1 x2 x3 x4 x5 x6 x7 x8 → (∀ y0 y1 y2 y3 y4 y5 y6 y7 y8, I y0 y1 y2 y3 y4 y5 y6 y7 y8 → m y0 y1 y2 y3 y4 y5 y6 y7 y8 < m x0 x1 x2 x3 x4 x5 x6 x7 x8 → ∃ r, rec y0 y1 y2 y3 y4 y5 y6 y7 y8 = some r ∧ Q r) → ∃ r, body rec x0 x1 x2 x3 x4 x5 x6 x7 x8 = some r ∧ Q r) : ∀ n, ∀ x0 x1 x2 x3 x4 x5 x6 x7 x8, I x0 x1 x2 x3 x4 x5 x6 x7 x8 → m x0 x1 x2 x3 x4 x5 x6 x7 x8 < n → ∃ r, lop9 n body x0 x1 x2 x3 x4 x5 x6 x7 x8 = some r ∧ Q r := by
  intro n
  induction n with
  | zero => intro x0 x1 x2 x3 x4 x5 x6 x7 x8 _ h; exact absurd h (Nat.not_lt_zero _)
  | succ n ih =>
    intro x0 x1 x2 x3 x4 x5 x6 x7 x8 hI hm
    exact hb _ x0 x1 x2 x3 x4 x5 x6 x7 x8 hI (fun y0 y1 y2 y3 y4 y5 y6 y7 y8 hy hlt => ih y0 y1 y2 y3 y4 y5 y6 y7 y8 hy (Nat.lt_of_lt_of_le hlt (Nat.le_of_lt_succ hm)))
theorem lop10_f {α0 α1 α2 α3 α4 α5 α6 α7 α8 α9 β : Type} {r : β} {P : α0 → α1 → α2 → α3 → α4 → α5 → α6 → α7 → α8 → α9 → Prop} {body : (α0 → α1 → α2 → α3 → α4 → α5 → α6 → α7 → α8 → α9 → Option β) → α0 → α1 → α2 → α3 → α4 → α5 → α6 → α7 → α8 → α9 → Option β} (hb : ∀ rec : α0 → α1 → α2 → α3 → α4 → α5 → α6 → α7 → α8 → α9 → Option β, (∀ x0 x1 x2 x3 x4 x5 x6 x7 x8 x9, rec x0 x1 x2 x3 x4 x5 x6 x7 x8 x9 = some r → P x0 x1 x2 x3 x4 x5 x6 x7 x8 x9) → ∀ x0 x1 x2 x3 x4 x5 x6 x7 x8 x9, body rec x0 x1 x2 x3 x4 x5 x6 x7 x8 x9 = some r → P x0 x1 x2 x3 x4 x5 x6 x7 x8 x9) : ∀ n, ∀ x0 x1 x2 x3 x4 x5 x6 x7 x8 x9, lop10 n body x0 x1 x2 x3 x4 x5 x6 x7 x8 x9 = some r → P x0 x1 x2 x3 x4 x5 x6 x7 x8 x9 := by
  intro n
  induction n with
  | zero => intro x0 x1 x2 x3 x4 x5 x6 x7 x8 x9 h; exact absurd h (by simp [lop10])
  | succ n ih => exact hb _ ih
def kf10 {α0 α1 α2 α3 α4 α5 α6 α7 α8 α9 β : Type} {γ : Type} (K : α0 → α1 → α2 → α3 → α4 → α5 → α6 → α7 → α8 → α9 → Option β) (body : (α0 → α1 → α2 → α3 → α4 → α5 → α6 → α7 → α8 → α9 → Option β) → γ) : γ := body K
theorem kf10_f {α0 α1 α2 α3 α4 α5 α6 α7 α8 α9 β : Type} {r : β} {P : α0 → α1 → α2 → α3 → α4 → α5 → α6 → α7 → α8 → α9 → Prop} {K : α0 → α1 → α2 → α3 → α4 → α5 → α6 → α7 → α8 → α9 → Option β} {body : (α0 → α1 → α2 → α3 → α4 → α5 → α6 → α7 → α8 → α9 → Option β) → Option β} {G : Prop} (h : kf10 K body = some r) (h1 : ∀ x0 x1 x2 x3 x4 x5 x6 x7 x8 x9, K x0 x1 x2 x3 x4 x5 x6 x7 x8 x9 = some r → P x0 x1 x2 x3 x4 x5 x6 x7 x8 x9) (h2 : ∀ k : α0 → α1 → α2 → α3 → α4 → α5 → α6 → α7 → α8 → α9 → Option β, (∀ x0 x1 x2 x3 x4 x5 x6 x7 x8 x9, k x0 x1 x2 x3 x4 x5 x6 x7 x8 x9 = some r → P x0 x1 x2 x3 x4 x5 x6 x7 x8 x9) → body k = some r → G) : G := h2 K h1 h
theorem lop10_w {α0 α1 α2 α3 α4 α5 α6 α7 α8 α9 β : Type} {Q : β → Prop} (I : α0 → α1 → α2 → α3 → α4 → α5 → α6 → α7 → α8 → α9 → Prop) (m : α0 → α1 → α2 → α3 → α4 → α5 → α6 → α7 → α8 → α9 → Nat) {body : (α0 → α1 → α2 → α3 → α4 → α5 → α6 → α7 → α8 → α9 → Option β) → α0 → α1 → α2 → α3 → α4 → α5 → α6 → α7 → α8 → α9 → Option β} (hb : ∀ rec : α0 → α1 → α2 → α3 → α4 → α5 → α6 → α7 → α8 → α9 → Option β, ∀ x0 x1 x2 x3 x4 x5 x6 x7 x8 x9, I x0 x1 x2 x3 x4 x5 x6 x7 x8 x9 → (∀ y0 y1 y2 y3 y4 y5 y6 y7 y8 y9, I y0 y1 y2 y3 y4 y5 y6 y7 y8 y9 → m y0 y1 y2 y3 y4 y5 y6 y7 y8 y9 < m x0 x1 x2 x3 x4 x5 x6 x7 x8 x9 → ∃ r, rec y0 y1 y2 y3 y4 y5 y6 y7 y8 y9 = some r ∧ Q r) → ∃ r, body rec x0 x1 x2 x3 x4 x5 x6 x7 x8 x9 = some r ∧ Q r) : ∀ n, ∀ x0 x1 x2 x3 x4 x5 x6 x7 x8 x9, I x0 x1 x2 x3 x4 x5 x6 x7 x8 x9 → m x0 x1 x2 x3 x4 x5 x6 x7 x8 x9 < n → ∃ r, lop10 n body x0 x1 x2 x3 x4 x5 x6 x7 x8 x9 = some r ∧ Q r := by
  intro n
  induction n with
  | zero => intro x0 x1 x2 x3 x4 x5 x6 x7 x8 x9 _ h; exact absurd h (Nat.not_lt_zero _)
  | succ n ih =>
    intro x0 x1 x2 x3 x4 x5 x6 x7 x8 x9 hI hm
    exact hb _ x0 x1 x2 x3 x4 x5 x6 x7 x8 x9 hI (fun y0 y1 y2 y3 y4 y5 y6 y7 y8 y9 hy hlt => ih y0 y1 y2 y3 y4 y5 y6 y7 y8 y9 hy (Nat.lt_of_lt_of_le hlt (Nat.le_of_lt_succ hm)))
theorem lop11_f {α0 α1 α2 α3 α4 α5 α6 α7 α8 α9 α10 β : Type} {r : β} {P : α0 → α1 → α2 → α3 → α4 → α5 → α6 → α7 → α8 → α9 → α10 → Prop} {body : (α0 → α1 → α2 → α3 → α4 → α5 → α6 → α7 → α8 → α9 → α10 → Option β) → α0 → α1 → α2 → α3 → α4 → α5 → α6 → α7 → α8 → α9 → α10 → Option β} (hb : ∀ rec : α0 → α1 → α2 → α3 → α4 → α5 → α6 → α7 → α8 → α9 → α10 → Option β, (∀ x0 x1 x2 x3 x4 x5 x6 x7 x8 x9 x10, rec x0 x1 x2 x3 x4 x5 x6 x7 x8 x9 x10 = some r → P x0 x1 x2 x3 x4 x5 x6 x7 x8 x9 x10) → ∀ x0 x1 x2 x3 x4 x5 x6 x7 x8 x9 x10, body rec x0 x1 x2 x3 x4 x5 x6 x7 x8 x9 x10 = some r → P x0 x1 x2 x3 x4 x5 x6 x7 x8 x9 x10) : ∀ n, ∀ x0 x1 x2 x3 x4 x5 x6 x7 x8 x9 x10, lop11 n body x0 x1 x2 x3 x4 x5 x6 x7 x8 x9 x10 = some r → P x0 x1 x2 x3 x4 x5 x6 x7 x8 x9 x10 := by
  intro n
  induction n with
  | zero => intro x0 x1 x2 x3 x4 x5 x6 x7 x8 x9 x10 h; exact absurd h (by simp [lop11])
  | succ n ih => exact hb _ ih
def kf11 {α0 α1 α2 α3 α4 α5 α6 α7 α8 α9 α10 β : Type} {γ : Type} (K : α0 → α1 → α2 → α3 → α4 → α5 → α6 → α7 → α8 → α9 → α10 → Option β) (body : (α0 → α1 → α2 → α3 → α4 → α5 → α6 → α7 → α8 → α9 → α10 → Option β) → γ) : γ := body K
theorem kf11_f {α0 α1 α2 α3 α4 α5 α6 α7 α8 α9 α10 β : Type} {r : β} {P : α0 → α1 → α2 → α3 → α4 → α5 → α6 → α7 → α8 → α9 → α10 → Prop} {K : α0 → α1 → α2 → α3 → α4 → α5 → α6 → α7 → α8 → α9 → α10 → Option β} {body : (α0 → α1 → α2 → α3 → α4 → α5 → α6 → α7 → α8 → α9 → α10 → Option β) → Option β} {G : Prop} (h : kf11 K body = some r) (h1 : ∀ x0 x1 x2 x3 x4 x5 x6 x7 x8 x9 x10, K x0 x1 x2 x3 x4 x5 x6 x7 x8 x9 x10 = some r → P x0 x1 x2 x3 x4 x5 x6 x7 x8 x9 x10) (h2 : ∀ k : α0 → α1 → α2 → α3 → α4 → α5 → α6 → α7 → α8 → α9 → α10 → Option β, (∀ x0 x1 x2 x3 x4 x5 x6 x7 x8 x9 x10, k x0 x1 x2 x3 x4 x5 x6 x7 x8 x9 x10 = some r → P x0 x1 x2 x3 x4 x5 x6 x7 x8 x9 x10) → body k = some r → G) : G := h2 K h1 h
theorem lop11_w {α0 α1 α2 α3 α4 α5 α6 α7 α8 α9 α10 β : Type} {Q : β → Prop} (I : α0 → α1 → α2 → α3 → α4 → α5 → α6 → α7 → α8 → α9 → α10 → Prop) (m : α0 → α1 → α2 → α3 → α4 → α5 → α6 → α7 → α8 → α9 → α10 → Nat) {body : (α0 → α1 → α2 → α3 → α4 → α5 → α6 → α7 → α8 → α9 → α10 → Option β) → α0 → α1 → α2 → α3 → α4 → α5 → α6 → α7 → α8 → α9 → α10 → Option β} (hb : ∀ rec : α0 → α1 → α2 → α3 → α4 → α5 → α6 → α7 → α8 → α9 → α10 → Option β, ∀ x0 x1 x2 x3 x4 x5 x6 x7 x8 x9 x10, I x0 x1 x2 x3 x4 x5 x6 x7 x8 x9 x10 → (∀ y0 y1 y2 y3 y4 y5 y6 y7 y8 y9 y10, I y0 y1 y2 y3 y4 y5 y6 y7 y8 y9 y10 → m y0 y1 y2 y3 y4 y5 y6 y7 y8 y9 y10 < m x0 x1 x2 x3 x4 x5 x6 x7 x8 x9 x10 → ∃ r, rec y0 y1 y2 y3 y4 y5 y6 y7 y8 y9 y10 = some r ∧ Q r) → ∃ r, body rec x0 x1 x2 x3 x4 x5 x6 x7 x8 x9 x10 = some r ∧ Q r) : ∀ n, ∀ x0 x1 x2 x3 x4 x5 x6 x7 x8 x9 x10, I x0 x1 x2 x3 x4 x5 x6 x7 x8 x9 x10 → m x0 x1 x2 x3 x4 x5 x6 x7 x8 x9 x10 < n → ∃ r, lop11 n body x0 x1 x2 x3 x4 x5 x6 x7 x8 x9 x10 = some r ∧ Q r := by
  intro n
  induction n with
  | zero => intro x0 x1 x2 x3 x4 x5 x6 x7 x8 x9 x10 _ h; exact absurd h (Nat.not_lt_zero _)
  | succ n ih =>
    intro x0 x1 x2 x3 x4 x5 x6 x7 x8 x9 x10 hI hm
    exact hb _ x0 x1 x2 x3 x4 x5 x6 x7 x8 x9 x10 hI (fun y0 y1 y2 y3 y4 y5 y6 y7 y8 y9 y10 hy hlt => ih y0 y1 y2 y3 y4 y5 y6 y7 y8 y9 y10 hy (Nat.lt_of_lt_of_le hlt (Nat.le_of_lt_succ hm)))
theorem lop12_f {α0 α1 α2 α3 α4 α5 α6 α7 α8 α9 α10 α11 β : Type} {r : β} {P : α0 → α1 → α2 → α3 → α4 → α5 → α6 → α7 → α8 → α9 → α10 → α11 → Prop} {body : (α0 → α1 → α2 → α3 → α4 → α5 → α6 → α7 → α8 → α9 → α10 → α11 → Option β) → α0 → α1 → α2 → α3 → α4 → α5 → α6 → α7 → α8 → α9 → α10 → α11 → Option β} (hb : ∀ rec : α0 → α1 → α2 → α3 → α4 → α5 → α6 → α7 → α8 → α9 → α10 → α11 → Option β, (∀ x0 x1 x2 x3 x4 x5 x6 x7 x8 x9 x10 x11, rec x0 x1 x2 x3 x4 x5 x6 x7 x8 x9 x10 x11 = some r → P x0 x1 x2 x3 x4 x5 x6 x7 x8 x9 x10 x11) → ∀ x0 x1 x2 x3 x4 x5 x6 x7 x8 x9 x10 x11, body rec x0 x1 x2 x3 x4 x5 x6 x7 x8 x9 x10 x11 = some r → P x0 x1 x2 x3 x4 x5 x6 x7 x8 x9 x10 x11) : ∀ n, ∀ x0 x1 x2 x3 x4 x5 x6 x7 x8 x9 x10 x11, lop12 n body x0 x1 x2 x3 x4 x5 x6 x7 x8 x9 x10 x11 = some r → P x0 x1 x2 x3 x4 x5 x6 x7 x8 x9 x10 x11 := by
  intro n
  induction n with
  | zero => intro x0 x1 x2 x3 x4 x5 x6 x7 x8 x9 x10 x11 h; exact absurd h (by simp [lop12])
  | succ n ih => exact hb _ ih
def kf12 {α0 α1 α2 α3 α4 α5 α6 α7 α8 α9 α10 α11 β : Type} {γ : Type} (K : α0 → α1 → α2 → α3 → α4 → α5 → α6 → α7 → α8 → α9 → α10 → α11 → Option β) (body : (α0 → α1 → α2 → α3 → α4 → α5 → α6 → α7 → α8 → α9 → α10 → α11 → Option β) → γ) : γ := body K
theorem kf12_f {α0 α1 α2 α3 α4 α5 α6 α7 α8 α9 α10 α11 β : Type} {r : β} {P : α0 → α1 → α2 → α3 → α4 → α5 → α6 → α7 → α8 → α9 → α10 → α11 → Prop} {K : α0 → α1 → α2 → α3 → α4 → α5 → α6 → α7 → α8 → α9 → α10 → α11 → Option β} {body : (α0 → α1 → α2 → α3 → α4 → α5 → α6 → α7 → α8 → α9 → α10 → α11 → Option β) → Option β} {G : Prop} (h : kf12 K body = some r) (h1 : ∀ x0 x1 x2 x3 x4 x5 x6 x7 x8 x9 x10 x11, K x0 x1 x2 x3 x4 x5 x6 x7 x8 x9 x10 x11 = some r → P x0 x1 x2 x3 x4 x5 x6 x7 x8 x9 x10 x11) (h2 : ∀ k : α0 → α1 → α2 → α3 → α4 → α5 → α6 → α7 → α8 → α9 → α10 → α11 → Option β, (∀ x0 x1 x2 x3 x4 x5 x6 x7 x8 x9 x10 x11, k x0 x1 x2 x3 x4 x5 x6 x7 x8 x9 x10 x11 = some r → P x0 x1 x2 x3 x4 x5 x6 x7 x8 x9 x10 x11) → body k = some r → G) : G := h2 K h1 h
theorem lop12_w {α0 α1 α2 α3 α4 α5 α6 α7 α8 α9 α10 α11 β : Type} {Q : β → Prop} (I : α0 → α1 → α2 → α3 → α4 → α5 → α6 → α7 → α8 → α9 → α10 → α11 → Prop) (m : α0 → α1 → α2 → α3 → α4 → α5 → α6 → α7 → α8 → α9 → α10 → α11 → Nat) {body : (α0 → α1 → α2 → α3 → α4 → α5 → α6 → α7 → α8 → α9 → α10 → α11 → Option β) → α0 → α1 → α2 → α3 → α4 → α5 → α6 → α7 → α8 → α9 → α10 → α11 → Option β} (hb : ∀ rec : α0 → α1 → α2 → α3 → α4 → α5 → α6 → α7 → α8 → α9 → α10 → α11 → Option β, ∀ x0 x1 x2 x3 x4 x5 x6 x7 x8 x9 x10 x11, I x0 x1 x2 x3 x4 x5 x6 x7 x8 x9 x10 x11 → (∀ y0 y1 y2 y3 y4 y5 y6 y7 y8 y9 y10 y11, I y0 y1 y2 y3 y4 y5 y6 y7 y8 y9 y10 y11 → m y0 y1 y2 y3 y4 y5 y6 y7 y8 y9 y10 y11 < m x0 x1 x2 x3 x4 x5 x6 x7 x8 x9 x10 x11 → ∃ r, rec y0 y1 y2 y3 y4 y5 y6 y7 y8 y9 y10 y11 = some r ∧ Q r) → ∃ r, body rec x0 x1 x2 x3 x4 x5 x6 x7 x8 x9 x10 x11 = some r ∧ Q r) : ∀ n, ∀ x0 x1 x2 x3 x4 x5 x6 x7 x8 x9 x10 x11, I x0 x1 x2 x3 x4 x5 x6 x7 x8 x9 x10 x11 → m x0 x1 x2 x3 x4 x5 x6 x7 x8 x9 x10 x11 < n → ∃ r, lop12 n body x0 x1 x2 x3 x4 x5 x6 x7 x8 x9 x10 x11 = some r ∧ Q r := by
  intro n
  induction n with
  | zero => intro x0 x1 x2 x3 x4 x5 x6 x7 x8 x9 x10 x11 _ h; exact absurd h (Nat.not_lt_zero _)
  | succ n ih =>
    intro x0 x1 x2 x3 x4 x5 x6 x7 x8 x9 x10 x11 hI hm
    exact hb _ x0 x1 x2 x3 x4 x5 x6 x7 x8 x9 x10 x11 hI (fun y0 y1 y2 y3 y4 y5 y6 y7 y8 y9 y10 y11 hy hlt => ih y0 y1 y2 y3 y4 y5 y6 y7 y8 y9 y10 y11 hy (Nat.lt_of_lt_of_le hlt (Nat.le_of_lt_succ hm)))
def wp {β : Type} (e : Option β) (Q : β → Prop) : Prop := ∃ r, e = some r ∧ Q r
theorem wp_some {β : Type} {x : β} {Q : β → Prop} (h : Q x) : wp (some x) Q := ⟨x, rfl, h⟩
theorem wp_mono {β : Type} {e : Option β} {P Q : β → Prop} (h : wp e P) (k : ∀ x, P x → Q x) : wp e Q := h.elim fun x q => ⟨x, q.1, k x q.2⟩
theorem wp_bd {α β : Type} {e : Option α} {k : α → Option β} {P : α → Prop} {Q : β → Prop} (h : wp e P) (hk : ∀ x, P x → wp (k x) Q) : wp (bd e k) Q := by
  obtain ⟨x, rfl, hx⟩ := h
  exact hk x hx
theorem wp_rd {β : Type} {f : Nat → Int} {n : Nat} {i : Int} {k : Int → Option β} {Q : β → Prop} (h : 0 ≤ i ∧ i < n) (hk : wp (k (f i.toNat)) Q) : wp (rd f n i k) Q := by
  unfold rd; rw [if_pos h]; exact hk
theorem wp_ix {β : Type} {n : Nat} {i : Int} {k : Option β} {Q : β → Prop} (h : 0 ≤ i ∧ i < n) (hk : wp k Q) : wp (ix n i k) Q := by
  unfold ix; rw [if_pos h]; exact hk
theorem wp_nz {β : Type} {i : Int} {k : Option β} {Q : β → Prop} (h : nm i ≠ 0) (hk : wp k Q) : wp (nz i k) Q := by
  unfold nz; rw [if_neg h]; exact hk
theorem wp_zo {β : Type} {i : Int} {k : Option β} {Q : β → Prop} (h : i = 0 ∨ i = 1) (hk : wp k Q) : wp (zo i k) Q := by
  unfold zo; rw [if_pos h]; exact hk
theorem wp_if {β : Type} {c : Prop} [Decidable c] {a b : Option β} {Q : β → Prop} (h1 : c → wp a Q) (h2 : ¬ c → wp b Q) : wp (if c then a else b) Q := by
  split
  · exact h1 ‹_›
  · exact h2 ‹_›
theorem bd_i {α β : Type} {e : Option α} {k : α → Option β} {r : β} (h : bd e k = some r) : ∃ x, e = some x ∧ k x = some r := by
  cases e with
  | none => cases h
  | some x => exact ⟨x, rfl, h⟩
theorem rd_i {β : Type} {f : Nat → Int} {n : Nat} {i : Int} {k : Int → Option β} {r : β} (h : rd f n i k = some r) : (0 ≤ i ∧ i < n) ∧ k (f i.toNat) = some r := by
  unfold rd at h
  split at h
  · rename_i q; exact ⟨q, h⟩
  · cases h
theorem ix_i {β : Type} {n : Nat} {i : Int} {k : Option β} {r : β} (h : ix n i k = some r) : (0 ≤ i ∧ i < n) ∧ k = some r := by
  unfold ix at h
  split at h
  · rename_i q; exact ⟨q, h⟩
  · cases h
theorem nz_i {β : Type} {i : Int} {k : Option β} {r : β} (h : nz i k = some r) : ¬ nm i = 0 ∧ k = some r := by
  unfold nz at h
  split at h
  · cases h
  · rename_i q; exact ⟨q, h⟩
theorem zo_i {β : Type} {i : Int} {k : Option β} {r : β} (h : zo i k = some r) : (i = 0 ∨ i = 1) ∧ k = some r := by
  unfold zo at h
  split at h
  · rename_i q; exact ⟨q, h⟩
  · cases h
theorem cpk_i {β : Type} {n0 n1 : Nat} {sp dp n : Int} {k : Option β} {r : β} (h : cpk n0 n1 sp dp n k = some r) : ((0 ≤ sp ∧ 0 ≤ dp ∧ 0 ≤ n) ∧ sp + n ≤ n0 ∧ dp + n ≤ n1) ∧ k = some r := by
  unfold cpk at h
  split at h
  · rename_i q; exact ⟨q, h⟩
  · cases h
theorem sw_out (n : Nat) : ∀ {x : Int}, (∀ i : Nat, i ≤ n → ¬ x = (i : Int)) → x < 0 ∨ (n : Int) < x := by
  intro x h
  rcases Int.lt_or_le x 0 with q | q
  · exact Or.inl q
  · rcases Int.lt_or_le (n : Int) x with r | r
    · exact Or.inr r
    · exact absurd (Int.toNat_of_nonneg q).symm (h x.toNat (by omega))
/-! the bundles: fields and arrays by the field's number in its class -/
abbrev ZB : Type := (Nat → Int) × (Nat → Nat → Int)
abbrev ZA : Type := (Nat → Int) × (Nat → ZB)
abbrev ZQ : Type := ZB × Nat × Nat
abbrev ZO : Type := Option ((Nat → Nat) × ZB)
