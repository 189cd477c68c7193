-- needs: 07zzd.net
/-! points to which one comes: class and reference -/
theorem cnt_mono {n : Nat} {p q : Nat → Prop} (h : ∀ i, i < n → p i → q i) : cnt n p ≤ cnt n q := by
  induction n with
  | zero => exact Nat.le_refl _
  | succ n ih =>
    have := ih (fun i hi => h i (by omega))
    by_cases hp : p n
    · rw [cnt_succ_t hp, cnt_succ_t (h n (by omega) hp)]; omega
    · rw [cnt_succ_f hp]
      by_cases hq : q n
      · rw [cnt_succ_t hq]; omega
      · rw [cnt_succ_f hq]; exact this
theorem cnt_lt {n i : Nat} {p q : Nat → Prop} (h : ∀ i, i < n → p i → q i) (hi : i < n) (hq : q i) (hp : ¬ p i) : cnt n p < cnt n q := by
  have h1 := cnt_del hi hq
  have h2 : cnt n p ≤ cnt n (fun j => q j ∧ j ≠ i) := cnt_mono (fun j hj pj => ⟨h j hj pj, fun e => hp (e ▸ pj)⟩)
  omega
theorem bits_ne {x y : Nat} (h : x ≠ y) (hs : ∀ i, x.testBit i = true → y.testBit i = true) : ∃ i, y.testBit i = true ∧ ¬ x.testBit i = true := by
  by_cases k : ∃ i, y.testBit i = true ∧ ¬ x.testBit i = true
  · exact k
  · exfalso
    apply h
    apply nat_ext
    intro i
    constructor
    · exact hs i
    · intro hy
      by_cases hx : x.testBit i = true
      · exact hx
      · exact absurd ⟨i, hy, hx⟩ k
theorem bit_lt {n x i : Nat} (hx : x < 2 ^ n) (h : x.testBit i = true) : i < n := by
  rcases Nat.lt_or_ge i n with q | q
  · exact q
  · have := Nat.testBit_lt_two_pow (x := x) (i := i) (Nat.lt_of_lt_of_le hx (Nat.pow_le_pow_right (by omega) q))
    rw [this] at h; cases h
/-- what grows in sets below n stands still before n rounds are over -/
theorem still_ex {n : Nat} (R : Nat → Nat) (h1 : ∀ t, R t < 2 ^ n) (h2 : ∀ t i, (R t).testBit i = true → (R (t+1)).testBit i = true) (h0 : R 0 ≠ 0) : ∃ t, t < n ∧ R (t+1) = R t ∧ ∀ s, s < t → R (s+1) ≠ R s := by
  have key : ∀ m, (∀ t, t < m → R (t+1) ≠ R t) → m + 1 ≤ cnt n (fun i => (R m).testBit i = true) := by
    intro m
    induction m with
    | zero =>
      intro _
      obtain ⟨i, hi, _⟩ := bits_ne (x := 0) (y := R 0) (fun e => h0 e.symm) (fun i hi => by simp at hi)
      have := cnt_lt (n := n) (i := i) (p := fun _ => False) (q := fun i => (R 0).testBit i = true) (fun _ _ k => k.elim) (bit_lt (h1 0) hi) hi (fun k => k)
      omega
    | succ m ih =>
      intro h
      have a := ih (fun t ht => h t (by omega))
      obtain ⟨i, hi, hn⟩ := bits_ne (x := R m) (y := R (m+1)) (fun e => h m (by omega) e.symm) (h2 m)
      have := cnt_lt (n := n) (p := fun i => (R m).testBit i = true) (q := fun i => (R (m+1)).testBit i = true) (fun i _ k => h2 m i k) (bit_lt (h1 _) hi) hi hn
      omega
  by_cases k : ∃ t, R (t+1) = R t
  · obtain ⟨t0, ht0⟩ := k
    obtain ⟨t, _, ht, hl⟩ := least_of (fun t => R (t+1) = R t) ht0
    refine ⟨t, ?_, ht, hl⟩
    have := key t hl
    have := cnt_le n (fun i => (R t).testBit i = true)
    omega
  · exfalso
    have := key n (fun t _ e => k ⟨t, e⟩)
    have := cnt_le n (fun i => (R n).testBit i = true)
    omega
def rps (G : GV) (S : Nat) (R : Nat) : Nat → Nat
  | 0 => R
  | k + 1 => if S.testBit k = true ∧ gen G k &&& rps G S R k ≠ 0 then rps G S R k ||| gen G k else rps G S R k
def rit (G : GV) (S : Nat) (R : Nat) : Nat → Nat
  | 0 => R
  | t + 1 => rps G S (rit G S R t) (gL G)
def Eb (G : GV) (S : Nat) : Nat → Prop := fun l => l < gL G ∧ S.testBit l = true
def Ca (G : GV) (S p x : Nat) : Prop := Cn (ga G) (gb G) (Eb G S) p x
section
variable {N M : ZB} {G : GV}
theorem rps_lt (hG : GOK G) {S R : Nat} (hR : R < 2 ^ gn G) : ∀ k, k ≤ gL G → rps G S R k < 2 ^ gn G := by
  intro k
  induction k with
  | zero => intro _; exact hR
  | succ k ih =>
    intro hk
    have h1 := ih (by omega)
    have hv := hG.2.1 k (by omega)
    unfold rps
    split
    · exact Nat.or_lt_two_pow h1 (Nat.or_lt_two_pow (Nat.pow_lt_pow_right (by omega) hv.1) (Nat.pow_lt_pow_right (by omega) hv.2.1))
    · exact h1
theorem rps_sup {S R : Nat} {i : Nat} : ∀ k, R.testBit i = true → (rps G S R k).testBit i = true := by
  intro k h
  induction k with
  | zero => exact h
  | succ k ih =>
    unfold rps; split
    · rw [Nat.testBit_or, ih]; rfl
    · exact ih
theorem rps_up {S R : Nat} {i k m : Nat} (hkm : k ≤ m) (h : (rps G S R k).testBit i = true) : (rps G S R m).testBit i = true := by
  induction hkm with
  | refl => exact h
  | step _ ih =>
    unfold rps; split
    · rw [Nat.testBit_or, ih]; rfl
    · exact ih
theorem and_ne {x y : Nat} : x &&& y ≠ 0 ↔ ∃ i, x.testBit i = true ∧ y.testBit i = true := by
  constructor
  · intro h
    obtain ⟨i, hi, _⟩ := bits_ne (x := 0) (y := x &&& y) (fun e => h e.symm) (fun i hi => by simp at hi)
    rw [Nat.testBit_and, Bool.and_eq_true] at hi
    exact ⟨i, hi⟩
  · rintro ⟨i, h1, h2⟩ e
    have : (x &&& y).testBit i = true := by rw [Nat.testBit_and, h1, h2]; rfl
    rw [e] at this; simp at this
theorem rps_in (hG : GOK G) {S R p : Nat} (h : ∀ i, R.testBit i = true → Ca G S p i) : ∀ k, k ≤ gL G → ∀ i, (rps G S R k).testBit i = true → Ca G S p i := by
  intro k
  induction k with
  | zero => intro _ i hi; exact h i hi
  | succ k ih =>
    intro hk i hi
    have ih' := ih (by omega)
    unfold rps at hi
    split at hi
    · rename_i hc
      obtain ⟨j, hj1, hj2⟩ := and_ne.mp hc.2
      have cj := ih' j hj2
      have he : Eb G S k := ⟨by omega, hc.1⟩
      rw [Nat.testBit_or, Bool.or_eq_true] at hi
      rcases hi with hi | hi
      · exact ih' i hi
      · rw [gen_bit hG] at hj1 hi
        rcases hj1 with rfl | rfl <;> rcases hi with rfl | rfl
        · exact cj
        · exact Cn_trans cj (Cn_edge he)
        · exact Cn_trans cj (Cn_edge' he)
        · exact cj
    · exact ih' i hi
theorem rps_closed (hG : GOK G) {S R : Nat} (h : rps G S R (gL G) = R) : ∀ l, Eb G S l → (R.testBit (ga G l) = true ↔ R.testBit (gb G l) = true) := by
  intro l hl
  have hR : rps G S R l = R := by
    apply nat_ext; intro i
    constructor
    · intro hi
      have := rps_up (G := G) (S := S) (R := R) (Nat.le_of_lt hl.1) hi
      rwa [h] at this
    · exact rps_sup l
  have hR2 : rps G S R (l+1) = R := by
    apply nat_ext; intro i
    constructor
    · intro hi
      have := rps_up (G := G) (S := S) (R := R) (show l + 1 ≤ gL G from hl.1) hi
      rwa [h] at this
    · exact rps_sup (l+1)
  have step : ∀ x y, (gen G l).testBit x = true → (gen G l).testBit y = true → R.testBit x = true → R.testBit y = true := by
    intro x y hx hy hRx
    have hc : S.testBit l = true ∧ gen G l &&& rps G S R l ≠ 0 := ⟨hl.2, and_ne.mpr ⟨x, hx, by rw [hR]; exact hRx⟩⟩
    rw [← hR2]
    unfold rps
    rw [if_pos hc, Nat.testBit_or, hy]; simp
  exact ⟨step _ _ ((gen_bit hG).mpr (Or.inl rfl)) ((gen_bit hG).mpr (Or.inr rfl)), step _ _ ((gen_bit hG).mpr (Or.inr rfl)) ((gen_bit hG).mpr (Or.inl rfl))⟩
theorem Ca_lt (hG : GOK G) {S p x : Nat} (hp : p < gn G) (h : Ca G S p x) : x < gn G :=
  h (fun y => y < gn G) hp (fun l hl => ⟨fun _ => (hG.2.1 l hl.1).2.1, fun _ => (hG.2.1 l hl.1).1⟩)
theorem rit_lt (hG : GOK G) {S p : Nat} (hp : p < gn G) : ∀ t, rit G S (2 ^ p) t < 2 ^ gn G := by
  intro t
  induction t with
  | zero => exact Nat.pow_lt_pow_right (by omega) hp
  | succ t ih => exact rps_lt hG ih _ (Nat.le_refl _)
theorem rit_p {S p : Nat} : ∀ t, (rit G S (2 ^ p) t).testBit p = true := by
  intro t
  induction t with
  | zero => show (2 ^ p).testBit p = true; rw [Nat.testBit_two_pow]; simp
  | succ t ih => exact rps_sup _ ih
theorem rit_in (hG : GOK G) {S p : Nat} : ∀ t i, (rit G S (2 ^ p) t).testBit i = true → Ca G S p i := by
  intro t
  induction t with
  | zero =>
    intro i hi
    have hi' : (2 ^ p).testBit i = true := hi
    rw [Nat.testBit_two_pow, decide_eq_true_iff] at hi'
    subst hi'; exact Cn_refl _
  | succ t ih => exact rps_in hG ih _ (Nat.le_refl _)
theorem rit_end (hG : GOK G) {S p t : Nat} (hp : p < gn G) (h : rit G S (2 ^ p) (t+1) = rit G S (2 ^ p) t) : rit G S (2 ^ p) t = bs (gn G) (Ca G S p) := by
  apply nat_ext; intro i
  rw [bs_bit]
  constructor
  · intro hi; exact ⟨bit_lt (rit_lt hG hp t) hi, rit_in hG t i hi⟩
  · rintro ⟨_, hc⟩
    exact hc (fun x => (rit G S (2 ^ p) t).testBit x = true) (rit_p t) (rps_closed hG h)
theorem rit_ex (hG : GOK G) (S : Nat) {p : Nat} (hp : p < gn G) : ∃ t, t < gn G ∧ rit G S (2 ^ p) (t+1) = rit G S (2 ^ p) t ∧ rit G S (2 ^ p) t = bs (gn G) (Ca G S p) ∧ ∀ s, s < t → rit G S (2 ^ p) (s+1) ≠ rit G S (2 ^ p) s := by
  obtain ⟨t, h1, h2, h3⟩ := still_ex (n := gn G) (rit G S (2 ^ p)) (rit_lt hG hp) (fun t i hi => rps_sup _ hi) (by show 2 ^ p ≠ 0; have := Nat.two_pow_pos p; omega)
  exact ⟨t, h1, h2, rit_end hG hp h2, h3⟩
theorem rps_lt31 (hG : GOK G) {S R : Nat} (hR : R < 2 ^ gn G) {k : Nat} (hk : k ≤ gL G) : rps G S R k < 2147483648 := Nat.lt_trans (rps_lt hG hR k hk) (p2_lt31 (by have := hG.1; omega))
theorem N_reach (hR : RN N G) (hG : GOK G) {p S : Nat} (hp : p < gn G) (hS : S < 2147483648) : fN_reach N (p : Int) (S : Int) = some ((bs (gn G) (Ca G S p) : Nat) : Int) := by
  have hb := hG.1
  obtain ⟨h4, h5, h6, h7, h8, ha⟩ := hR
  obtain ⟨m, hm1, hm2, hm3, hm4⟩ := rit_ex hG S hp
  rw [← hm3]
  unfold fN_reach
  rw [zshln (by omega), lt_e]
  refine lop2_s m (fun t => ((rit G S (2 ^ p) t : Nat) : Int)) (fun t => (t : Int)) ?_ ?_ (by omega) rfl rfl
  all_goals
    intro rec
    first
      | intro t ht hr
      | skip
    simp only [h4, h5, kf1]
    rw [nmn (by omega), nmn (by omega), if_pos (by omega)]
  · have hlt := rit_lt hG (S := S) hp t
    have hlt31 : rit G S (2 ^ p) t < 2147483648 := Nat.lt_trans hlt (p2_lt31 (by omega))
    refine lop2_s (gL G) (fun k => ((rps G S (rit G S (2 ^ p) t) k : Nat) : Int)) (fun k => (k : Int)) ?_ ?_ (by omega) rfl rfl
    · intro rec2 k hk hr2
      have hq := rps_lt31 hG (S := S) hlt (k := k) (by omega)
      rw [nmn (by omega), nmn (by omega), if_pos (by omega), zbit hS (by omega), N_ends ⟨h4, h5, h6, h7, h8, ha⟩ hG hk, bds, zandn (gen_lt31 hG hk) hq]
      simp only [bds]
      rw [lt_e, zorn hq (gen_lt31 hG hk)]
      unfold rps at hr2
      by_cases hs : S.testBit k = true
      · rw [hs, if_neg (by decide)]
        by_cases hz : gen G k &&& rps G S (rit G S (2 ^ p) t) k = 0
        · rw [if_pos (by omega)]
          rw [if_neg (fun z => z.2 hz)] at hr2
          exact hr2
        · rw [if_neg (by omega)]
          rw [if_pos ⟨hs, hz⟩] at hr2
          exact hr2
      · rw [if_neg (fun z => hs z.1)] at hr2
        rw [if_pos (by simp [hs])]
        exact hr2
    · intro rec2
      rw [nmn (by omega), if_neg (by omega)]
      have hq := rps_lt31 hG (S := S) hlt (k := gL G) (by omega)
      have hne := hm4 t ht
      have hne' : rps G S (rit G S (2 ^ p) t) (gL G) ≠ rit G S (2 ^ p) t := hne
      rw [nmn hq, nmn hlt31, if_neg (by omega)]
      exact hr
  · have hlt := rit_lt hG (S := S) hp m
    have hlt31 : rit G S (2 ^ p) m < 2147483648 := Nat.lt_trans hlt (p2_lt31 (by omega))
    refine lop2_s (gL G) (fun k => ((rps G S (rit G S (2 ^ p) m) k : Nat) : Int)) (fun k => (k : Int)) ?_ ?_ (by omega) rfl rfl
    · intro rec2 k hk hr2
      have hq := rps_lt31 hG (S := S) hlt (k := k) (by omega)
      rw [nmn (by omega), nmn (by omega), if_pos (by omega), zbit hS (by omega), N_ends ⟨h4, h5, h6, h7, h8, ha⟩ hG hk, bds, zandn (gen_lt31 hG hk) hq]
      simp only [bds]
      rw [lt_e, zorn hq (gen_lt31 hG hk)]
      unfold rps at hr2
      by_cases hs : S.testBit k = true
      · rw [hs, if_neg (by decide)]
        by_cases hz : gen G k &&& rps G S (rit G S (2 ^ p) m) k = 0
        · rw [if_pos (by omega)]
          rw [if_neg (fun z => z.2 hz)] at hr2
          exact hr2
        · rw [if_neg (by omega)]
          rw [if_pos ⟨hs, hz⟩] at hr2
          exact hr2
      · rw [if_neg (fun z => hs z.1)] at hr2
        rw [if_pos (by simp [hs])]
        exact hr2
    · intro rec2
      rw [nmn (by omega), if_neg (by omega)]
      have hq := rps_lt31 hG (S := S) hlt (k := gL G) (by omega)
      have hne' : rps G S (rit G S (2 ^ p) m) (gL G) = rit G S (2 ^ p) m := hm2
      rw [nmn hq, nmn hlt31, if_pos (by omega), hne']
end
