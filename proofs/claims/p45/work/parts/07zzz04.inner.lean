-- needs: 07zzz03.most
/-! lines inside of all sets of points, counted from pairs on -/
def liv (G : GV) (as : Nat → Nat) (l : Nat) : Prop := ¬ gbr G l ∧ as (ga G l) ≠ as (gb G l)
def inA (G : GV) (as : Nat → Nat) (l s : Nat) : Prop := s.testBit (as (ga G l)) = true ∧ s.testBit (as (gb G l)) = true
noncomputable def inL (G : GV) (as : Nat → Nat) (s : Nat) : Nat := cnt (gL G) (fun l => liv G as l ∧ inA G as l s)
def zq (G : GV) (as : Nat → Nat) (l p s : Nat) : Prop := inA G as l s ∧ ∀ i, p ≤ i → s.testBit i = true → (i = as (ga G l) ∨ i = as (gb G l))
noncomputable def zc (G : GV) (as : Nat → Nat) (p s : Nat) : Nat := cnt (gL G) (fun l => liv G as l ∧ zq G as l p s)
theorem xor_bit {s p i : Nat} : (s ^^^ 2 ^ p).testBit i = true ↔ ((s.testBit i = true ∧ i ≠ p) ∨ (¬ s.testBit i = true ∧ i = p)) := by
  rw [Nat.testBit_xor, Nat.testBit_two_pow]
  by_cases h : p = i
  · subst h; cases s.testBit p <;> simp
  · have h2 : i ≠ p := fun e => h e.symm
    cases s.testBit i <;> simp [h, h2]
theorem zc_t {G : GV} {as : Nat → Nat} {p s : Nat} (h : s.testBit p = true) : zc G as (p+1) s = zc G as p s + zc G as p (s ^^^ 2 ^ p) := by
  unfold zc
  apply cnt_add
  · intro l _
    unfold zq inA
    constructor
    · rintro ⟨h0, ⟨h1, h2⟩, h3⟩
      by_cases hp : p = as (ga G l) ∨ p = as (gb G l)
      · refine Or.inl ⟨h0, ⟨h1, h2⟩, fun i hi hs => ?_⟩
        by_cases e : i = p
        · subst e; exact hp
        · exact h3 i (by omega) hs
      · refine Or.inr ⟨h0, ⟨xor_bit.mpr (Or.inl ⟨h1, fun e => hp (Or.inl e.symm)⟩), xor_bit.mpr (Or.inl ⟨h2, fun e => hp (Or.inr e.symm)⟩)⟩, fun i hi hs => ?_⟩
        rcases xor_bit.mp hs with ⟨k1, k2⟩ | ⟨k1, k2⟩
        · exact h3 i (by omega) k1
        · subst k2; exact absurd h k1
    · rintro (⟨h0, h1, h2⟩ | ⟨h0, ⟨h1, h2⟩, h3⟩)
      · exact ⟨h0, h1, fun i hi hs => h2 i (by omega) hs⟩
      · have k : ∀ {i}, (s ^^^ 2 ^ p).testBit i = true → s.testBit i = true := by
          intro i hi
          rcases xor_bit.mp hi with ⟨k1, _⟩ | ⟨_, k2⟩
          · exact k1
          · subst k2; exact h
        exact ⟨h0, ⟨k h1, k h2⟩, fun i hi hs => h3 i (by omega) (xor_bit.mpr (Or.inl ⟨hs, by omega⟩))⟩
  · rintro l _ ⟨h0, h1, h2⟩ ⟨_, ⟨h3, h4⟩, _⟩
    rcases h2 p (Nat.le_refl p) h with e | e
    · rw [← e] at h3
      rcases xor_bit.mp h3 with ⟨_, k⟩ | ⟨k, _⟩
      · exact k rfl
      · exact k h
    · rw [← e] at h4
      rcases xor_bit.mp h4 with ⟨_, k⟩ | ⟨k, _⟩
      · exact k rfl
      · exact k h
theorem zc_f {G : GV} {as : Nat → Nat} {p s : Nat} (h : ¬ s.testBit p = true) : zc G as (p+1) s = zc G as p s := by
  unfold zc
  apply cnt_ext; intro l _
  unfold zq
  constructor
  · rintro ⟨h0, h1, h2⟩
    refine ⟨h0, h1, fun i hi hs => ?_⟩
    by_cases e : i = p
    · subst e; exact absurd hs h
    · exact h2 i (by omega) hs
  · rintro ⟨h0, h1, h2⟩; exact ⟨h0, h1, fun i hi hs => h2 i (by omega) hs⟩
theorem zc_n {G : GV} {as : Nat → Nat} {n s : Nat} (hs : s < 2 ^ n) : zc G as n s = inL G as s := by
  unfold zc inL
  apply cnt_ext; intro l _
  exact ⟨fun h => ⟨h.1, h.2.1⟩, fun h => ⟨h.1, h.2, fun i hi hb => by have := bit_lt hs hb; omega⟩⟩
theorem pair_zq {G : GV} {as : Nat → Nat} {l s : Nat} : s = 2 ^ as (ga G l) ||| 2 ^ as (gb G l) ↔ zq G as l 0 s := by
  have hb : ∀ i, (2 ^ as (ga G l) ||| 2 ^ as (gb G l)).testBit i = true ↔ (i = as (ga G l) ∨ i = as (gb G l)) := by
    intro i
    rw [Nat.testBit_or, Bool.or_eq_true, Nat.testBit_two_pow, Nat.testBit_two_pow, decide_eq_true_iff, decide_eq_true_iff]
    constructor
    · rintro (h | h)
      · exact Or.inl h.symm
      · exact Or.inr h.symm
    · rintro (h | h)
      · exact Or.inl h.symm
      · exact Or.inr h.symm
  unfold zq inA
  constructor
  · intro h
    subst h
    exact ⟨⟨(hb _).mpr (Or.inl rfl), (hb _).mpr (Or.inr rfl)⟩, fun i _ hi => (hb i).mp hi⟩
  · rintro ⟨⟨h1, h2⟩, h3⟩
    apply nat_ext; intro i
    rw [hb]
    constructor
    · exact h3 i (Nat.zero_le i)
    · rintro (h | h)
      · rw [h]; exact h1
      · rw [h]; exact h2
section
variable {N M PS Ly : ZB} {G : GV} {as : Nat → Nat}
theorem PS_countInner_itself (hN : RN N G) (hG : GOK G) (has : ∀ p, p < gn G → as p < gn G) (hP : ∀ p, p < gn G → PS.2 3 p = (as p : Nat)) : ∃ w, fPS_countInner_itself N PS = some (PS.1, ua PS.2 1 w) ∧ ∀ s, s < 2 ^ gn G → w s = ((inL G as s : Nat) : Int) := by
  have hb := hG.1
  have hp := Nat.two_pow_pos (gn G)
  have h10 : 2 ^ gn G ≤ 1024 := Nat.pow_le_pow_right (n := 2) (by omega) hb.1
  have main : wp (fPS_countInner_itself N PS) (fun r => ∃ w, r = (PS.1, ua PS.2 1 w) ∧ ∀ s, s < 2 ^ gn G → w s = ((inL G as s : Nat) : Int)) := by
    unfold fPS_countInner_itself
    rw [hN.1, zshln (by omega), lt_e]
    refine lop2_w (fun v3 C => ∃ (s : Nat) (w : Nat → Int), v3 = (s : Int) ∧ C = (PS.1, ua PS.2 1 w) ∧ s ≤ 2 ^ gn G ∧ ∀ t, t < s → w t = 0) (fun v3 _ => 2 ^ gn G - v3.toNat) ?_ FU _ _ ⟨0, PS.2 1, rfl, by rw [ua_self], by omega, fun t h => absurd h (Nat.not_lt_zero t)⟩ (by show 2 ^ gn G - _ < 100000; omega)
    intro rec v3 C hI hrec
    obtain ⟨s, w, rfl, rfl, hs, hw⟩ := hI
    rw [nmn (by omega), nmn (by omega)]
    by_cases h : s < 2 ^ gn G
    · rw [if_pos (by omega), ixn (by omega), lt_e, Int.toNat_natCast]
      simp only [ua_e, ua_up]
      refine hrec _ _ ⟨s+1, up w s 0, by omega, rfl, by omega, fun t ht => ?_⟩ (by omega)
      by_cases e : t = s
      · subst e; rw [up_e]
      · rw [up_n _ _ e]; exact hw t (by omega)
    · rw [if_neg (by omega)]
      refine lop2_w (fun v3 C => ∃ (m : Nat) (w : Nat → Int), v3 = (m : Int) ∧ C = (PS.1, ua PS.2 1 w) ∧ m ≤ gL G ∧ ∀ t, t < 2 ^ gn G → w t = ((cnt m (fun l => liv G as l ∧ zq G as l 0 t) : Nat) : Int)) (fun v3 _ => gL G - v3.toNat) ?_ FU _ _ ⟨0, w, rfl, rfl, by omega, fun t ht => by rw [hw t (by omega)]; rfl⟩ (by show gL G - _ < 100000; omega)
      intro rec2 v3 C hI2 hrec2
      obtain ⟨m, w, rfl, rfl, hm, hw⟩ := hI2
      rw [hN.2.1, nmn (by omega), nmn (by omega)]
      by_cases hmL : m < gL G
      · have hv := hG.2.1 m hmL
        obtain ⟨n0, n1, _⟩ := hN.2.2.2.2.2 m hmL
        have hap := has _ hv.1
        have hbp := has _ hv.2.1
        have hPa := hP _ hv.1
        have hPb := hP _ hv.2.1
        have e3 : ua PS.2 1 w 3 = PS.2 3 := rfl
        have hP10 : (2 ^ as (ga G m) ||| 2 ^ as (gb G m)) < 2 ^ gn G := Nat.or_lt_two_pow (Nat.pow_lt_pow_right (by omega) hap) (Nat.pow_lt_pow_right (by omega) hbp)
        simp only [kf1]
        rw [if_pos (by omega), rdn (by omega), n0, rdn (by omega), e3, hPa, rdn (by omega), n1, rdn (by omega), hPb, N_isSound hN (by omega), bds, nmn (by omega), nmn (by omega), zshln (by omega), zshln (by omega), zorn (p2_lt31 (by omega)) (p2_lt31 (by omega)), rdn (by omega), ixn (by omega), lt_e, Int.toNat_natCast]
        simp only [ua_e, ua_up]
        have skip : ¬ liv G as m → ∃ r, rec2 ((m : Int) + 1) (PS.1, ua PS.2 1 w) = some r ∧ ∃ w, r = (PS.1, ua PS.2 1 w) ∧ ∀ s, s < 2 ^ gn G → w s = ((inL G as s : Nat) : Int) := by
          intro hnl
          refine hrec2 _ _ ⟨m+1, w, by omega, rfl, by omega, fun t ht => ?_⟩ (by omega)
          rw [hw t ht, cnt_succ_f (p := fun l => liv G as l ∧ zq G as l 0 t) (fun z => hnl z.1)]
        by_cases hs1 : gbr G m
        · rw [i01t hs1]; exact skip (fun z => z.1 hs1)
        · rw [i01f hs1]
          by_cases hab : as (ga G m) = as (gb G m)
          · rw [if_pos (by omega)]; exact skip (fun z => z.2 hab)
          · rw [if_neg (by omega)]
            refine hrec2 _ _ ⟨m+1, _, by omega, rfl, by omega, fun t ht => ?_⟩ (by omega)
            by_cases e : t = 2 ^ as (ga G m) ||| 2 ^ as (gb G m)
            · have hz := pair_zq.mp e
              rw [← e, up_e, hw t ht, cnt_succ_t (p := fun l => liv G as l ∧ zq G as l 0 t) ⟨⟨hs1, hab⟩, hz⟩, Int.natCast_add]; rfl
            · rw [up_n _ _ e, hw t ht, cnt_succ_f (p := fun l => liv G as l ∧ zq G as l 0 t) (fun z => e (pair_zq.mpr z.2))]
      · rw [if_neg (by omega)]
        have hmm : m = gL G := by omega
        subst hmm
        refine lop2_w (fun v3 C => ∃ (p : Nat) (w : Nat → Int), v3 = (p : Int) ∧ C = (PS.1, ua PS.2 1 w) ∧ p ≤ gn G ∧ ∀ t, t < 2 ^ gn G → w t = ((zc G as p t : Nat) : Int)) (fun v3 _ => gn G - v3.toNat) ?_ FU _ _ ⟨0, w, rfl, rfl, by omega, hw⟩ (by show gn G - _ < 100000; omega)
        intro rec3 v3 C hI3 hrec3
        obtain ⟨p, w, rfl, rfl, hpn, hw⟩ := hI3
        rw [nmn (by omega), nmn (by omega)]
        by_cases hpl : p < gn G
        · rw [if_pos (by omega)]
          refine lop2_w (fun v4 C => ∃ (s : Nat) (w : Nat → Int), v4 = (s : Int) ∧ C = (PS.1, ua PS.2 1 w) ∧ s ≤ 2 ^ gn G ∧ ∀ t, t < 2 ^ gn G → w t = (if t < s then ((zc G as (p+1) t : Nat) : Int) else ((zc G as p t : Nat) : Int))) (fun v4 _ => 2 ^ gn G - v4.toNat) ?_ FU _ _ ⟨0, w, rfl, rfl, by omega, fun t ht => by rw [if_neg (by omega)]; exact hw t ht⟩ (by show 2 ^ gn G - _ < 100000; omega)
          intro rec4 v4 C hI4 hrec4
          obtain ⟨s, w, rfl, rfl, hs4, hw4⟩ := hI4
          rw [nmn (by omega)]
          by_cases hs5 : s < 2 ^ gn G
          · simp only [kf1]
            rw [if_pos (by omega), zbit (by omega) (by omega)]
            by_cases hbit : s.testBit p = true
            · have hx : (s ^^^ 2 ^ p) < s := by
                have h1 : (s ^^^ 2 ^ p) ≤ s := by
                  apply Nat.le_of_testBit; intro i hi
                  rcases xor_bit.mp hi with ⟨k, _⟩ | ⟨_, k⟩
                  · exact k
                  · subst k; exact hbit
                have h2 : (s ^^^ 2 ^ p) ≠ s := by
                  intro e
                  have : ¬ (s ^^^ 2 ^ p).testBit p = true := fun z => by
                    rcases xor_bit.mp z with ⟨_, k⟩ | ⟨k, _⟩
                    · exact k rfl
                    · exact k hbit
                  rw [e] at this; exact this hbit
                omega
              rw [b10t hbit, zshln (by omega), zxorn (by omega) (p2_lt31 (by omega)), rdn (by omega), rdn (by omega), ixn (by omega), lt_e, Int.toNat_natCast]
              simp only [ua_e, ua_up]
              refine hrec4 _ _ ⟨s+1, _, by omega, rfl, by omega, fun t ht => ?_⟩ (by omega)
              by_cases e : t = s
              · subst e
                rw [up_e, hw4 t hs5, hw4 _ (by omega), if_neg (by omega), if_pos hx, if_pos (by omega), zc_t hbit, Int.natCast_add]
                have : ¬ (t ^^^ 2 ^ p).testBit p = true := fun z => by
                  rcases xor_bit.mp z with ⟨_, k⟩ | ⟨k, _⟩
                  · exact k rfl
                  · exact k hbit
                rw [zc_f this]
              · rw [up_n _ _ e, hw4 t ht]
                by_cases z : t < s
                · rw [if_pos z, if_pos (by omega)]
                · rw [if_neg z, if_neg (by omega)]
            · rw [b10f hbit]
              refine hrec4 _ _ ⟨s+1, w, by omega, rfl, by omega, fun t ht => ?_⟩ (by omega)
              rw [hw4 t ht]
              by_cases e : t = s
              · subst e; rw [if_neg (by omega), if_pos (by omega), zc_f hbit]
              · by_cases z : t < s
                · rw [if_pos z, if_pos (by omega)]
                · rw [if_neg z, if_neg (by omega)]
          · rw [if_neg (by omega)]
            refine hrec3 _ _ ⟨p+1, w, by omega, rfl, by omega, fun t ht => ?_⟩ (by omega)
            rw [hw4 t ht, if_pos (by omega)]
        · rw [if_neg (by omega)]
          refine ⟨_, rfl, w, rfl, fun t ht => ?_⟩
          rw [hw t ht, show p = gn G by omega, zc_n ht]
  obtain ⟨r, h1, w, h2, h3⟩ := main
  exact ⟨w, by rw [h1, h2], h3⟩
theorem PS_countInner_as (hN : RN N G) (hG : GOK G) (has : ∀ p, p < gn G → as p < gn G) (hP : ∀ p, p < gn G → Ly.2 2 p = (as p : Nat)) : ∃ w, fPS_countInner_as N PS Ly = some (PS.1, ua PS.2 1 w) ∧ ∀ s, s < 2 ^ gn G → w s = ((inL G as s : Nat) : Int) := by
  have hb := hG.1
  have hp := Nat.two_pow_pos (gn G)
  have h10 : 2 ^ gn G ≤ 1024 := Nat.pow_le_pow_right (n := 2) (by omega) hb.1
  have main : wp (fPS_countInner_as N PS Ly) (fun r => ∃ w, r = (PS.1, ua PS.2 1 w) ∧ ∀ s, s < 2 ^ gn G → w s = ((inL G as s : Nat) : Int)) := by
    unfold fPS_countInner_as
    rw [hN.1, zshln (by omega), lt_e]
    refine lop2_w (fun v3 C => ∃ (s : Nat) (w : Nat → Int), v3 = (s : Int) ∧ C = (PS.1, ua PS.2 1 w) ∧ s ≤ 2 ^ gn G ∧ ∀ t, t < s → w t = 0) (fun v3 _ => 2 ^ gn G - v3.toNat) ?_ FU _ _ ⟨0, PS.2 1, rfl, by rw [ua_self], by omega, fun t h => absurd h (Nat.not_lt_zero t)⟩ (by show 2 ^ gn G - _ < 100000; omega)
    intro rec v3 C hI hrec
    obtain ⟨s, w, rfl, rfl, hs, hw⟩ := hI
    rw [nmn (by omega), nmn (by omega)]
    by_cases h : s < 2 ^ gn G
    · rw [if_pos (by omega), ixn (by omega), lt_e, Int.toNat_natCast]
      simp only [ua_e, ua_up]
      refine hrec _ _ ⟨s+1, up w s 0, by omega, rfl, by omega, fun t ht => ?_⟩ (by omega)
      by_cases e : t = s
      · subst e; rw [up_e]
      · rw [up_n _ _ e]; exact hw t (by omega)
    · rw [if_neg (by omega)]
      refine lop2_w (fun v3 C => ∃ (m : Nat) (w : Nat → Int), v3 = (m : Int) ∧ C = (PS.1, ua PS.2 1 w) ∧ m ≤ gL G ∧ ∀ t, t < 2 ^ gn G → w t = ((cnt m (fun l => liv G as l ∧ zq G as l 0 t) : Nat) : Int)) (fun v3 _ => gL G - v3.toNat) ?_ FU _ _ ⟨0, w, rfl, rfl, by omega, fun t ht => by rw [hw t (by omega)]; rfl⟩ (by show gL G - _ < 100000; omega)
      intro rec2 v3 C hI2 hrec2
      obtain ⟨m, w, rfl, rfl, hm, hw⟩ := hI2
      rw [hN.2.1, nmn (by omega), nmn (by omega)]
      by_cases hmL : m < gL G
      · have hv := hG.2.1 m hmL
        obtain ⟨n0, n1, _⟩ := hN.2.2.2.2.2 m hmL
        have hap := has _ hv.1
        have hbp := has _ hv.2.1
        have hPa := hP _ hv.1
        have hPb := hP _ hv.2.1
        have e3 : ua PS.2 1 w 3 = PS.2 3 := rfl
        have hP10 : (2 ^ as (ga G m) ||| 2 ^ as (gb G m)) < 2 ^ gn G := Nat.or_lt_two_pow (Nat.pow_lt_pow_right (by omega) hap) (Nat.pow_lt_pow_right (by omega) hbp)
        simp only [kf1]
        rw [if_pos (by omega), rdn (by omega), n0, rdn (by omega), hPa, rdn (by omega), n1, rdn (by omega), hPb, N_isSound hN (by omega), bds, nmn (by omega), nmn (by omega), zshln (by omega), zshln (by omega), zorn (p2_lt31 (by omega)) (p2_lt31 (by omega)), rdn (by omega), ixn (by omega), lt_e, Int.toNat_natCast]
        simp only [ua_e, ua_up]
        have skip : ¬ liv G as m → ∃ r, rec2 ((m : Int) + 1) (PS.1, ua PS.2 1 w) = some r ∧ ∃ w, r = (PS.1, ua PS.2 1 w) ∧ ∀ s, s < 2 ^ gn G → w s = ((inL G as s : Nat) : Int) := by
          intro hnl
          refine hrec2 _ _ ⟨m+1, w, by omega, rfl, by omega, fun t ht => ?_⟩ (by omega)
          rw [hw t ht, cnt_succ_f (p := fun l => liv G as l ∧ zq G as l 0 t) (fun z => hnl z.1)]
        by_cases hs1 : gbr G m
        · rw [i01t hs1]; exact skip (fun z => z.1 hs1)
        · rw [i01f hs1]
          by_cases hab : as (ga G m) = as (gb G m)
          · rw [if_pos (by omega)]; exact skip (fun z => z.2 hab)
          · rw [if_neg (by omega)]
            refine hrec2 _ _ ⟨m+1, _, by omega, rfl, by omega, fun t ht => ?_⟩ (by omega)
            by_cases e : t = 2 ^ as (ga G m) ||| 2 ^ as (gb G m)
            · have hz := pair_zq.mp e
              rw [← e, up_e, hw t ht, cnt_succ_t (p := fun l => liv G as l ∧ zq G as l 0 t) ⟨⟨hs1, hab⟩, hz⟩, Int.natCast_add]; rfl
            · rw [up_n _ _ e, hw t ht, cnt_succ_f (p := fun l => liv G as l ∧ zq G as l 0 t) (fun z => e (pair_zq.mpr z.2))]
      · rw [if_neg (by omega)]
        have hmm : m = gL G := by omega
        subst hmm
        refine lop2_w (fun v3 C => ∃ (p : Nat) (w : Nat → Int), v3 = (p : Int) ∧ C = (PS.1, ua PS.2 1 w) ∧ p ≤ gn G ∧ ∀ t, t < 2 ^ gn G → w t = ((zc G as p t : Nat) : Int)) (fun v3 _ => gn G - v3.toNat) ?_ FU _ _ ⟨0, w, rfl, rfl, by omega, hw⟩ (by show gn G - _ < 100000; omega)
        intro rec3 v3 C hI3 hrec3
        obtain ⟨p, w, rfl, rfl, hpn, hw⟩ := hI3
        rw [nmn (by omega), nmn (by omega)]
        by_cases hpl : p < gn G
        · rw [if_pos (by omega)]
          refine lop2_w (fun v4 C => ∃ (s : Nat) (w : Nat → Int), v4 = (s : Int) ∧ C = (PS.1, ua PS.2 1 w) ∧ s ≤ 2 ^ gn G ∧ ∀ t, t < 2 ^ gn G → w t = (if t < s then ((zc G as (p+1) t : Nat) : Int) else ((zc G as p t : Nat) : Int))) (fun v4 _ => 2 ^ gn G - v4.toNat) ?_ FU _ _ ⟨0, w, rfl, rfl, by omega, fun t ht => by rw [if_neg (by omega)]; exact hw t ht⟩ (by show 2 ^ gn G - _ < 100000; omega)
          intro rec4 v4 C hI4 hrec4
          obtain ⟨s, w, rfl, rfl, hs4, hw4⟩ := hI4
          rw [nmn (by omega)]
          by_cases hs5 : s < 2 ^ gn G
          · simp only [kf1]
            rw [if_pos (by omega), zbit (by omega) (by omega)]
            by_cases hbit : s.testBit p = true
            · have hx : (s ^^^ 2 ^ p) < s := by
                have h1 : (s ^^^ 2 ^ p) ≤ s := by
                  apply Nat.le_of_testBit; intro i hi
                  rcases xor_bit.mp hi with ⟨k, _⟩ | ⟨_, k⟩
                  · exact k
                  · subst k; exact hbit
                have h2 : (s ^^^ 2 ^ p) ≠ s := by
                  intro e
                  have : ¬ (s ^^^ 2 ^ p).testBit p = true := fun z => by
                    rcases xor_bit.mp z with ⟨_, k⟩ | ⟨k, _⟩
                    · exact k rfl
                    · exact k hbit
                  rw [e] at this; exact this hbit
                omega
              rw [b10t hbit, zshln (by omega), zxorn (by omega) (p2_lt31 (by omega)), rdn (by omega), rdn (by omega), ixn (by omega), lt_e, Int.toNat_natCast]
              simp only [ua_e, ua_up]
              refine hrec4 _ _ ⟨s+1, _, by omega, rfl, by omega, fun t ht => ?_⟩ (by omega)
              by_cases e : t = s
              · subst e
                rw [up_e, hw4 t hs5, hw4 _ (by omega), if_neg (by omega), if_pos hx, if_pos (by omega), zc_t hbit, Int.natCast_add]
                have : ¬ (t ^^^ 2 ^ p).testBit p = true := fun z => by
                  rcases xor_bit.mp z with ⟨_, k⟩ | ⟨k, _⟩
                  · exact k rfl
                  · exact k hbit
                rw [zc_f this]
              · rw [up_n _ _ e, hw4 t ht]
                by_cases z : t < s
                · rw [if_pos z, if_pos (by omega)]
                · rw [if_neg z, if_neg (by omega)]
            · rw [b10f hbit]
              refine hrec4 _ _ ⟨s+1, w, by omega, rfl, by omega, fun t ht => ?_⟩ (by omega)
              rw [hw4 t ht]
              by_cases e : t = s
              · subst e; rw [if_neg (by omega), if_pos (by omega), zc_f hbit]
              · by_cases z : t < s
                · rw [if_pos z, if_pos (by omega)]
                · rw [if_neg z, if_neg (by omega)]
          · rw [if_neg (by omega)]
            refine hrec3 _ _ ⟨p+1, w, by omega, rfl, by omega, fun t ht => ?_⟩ (by omega)
            rw [hw4 t ht, if_pos (by omega)]
        · rw [if_neg (by omega)]
          refine ⟨_, rfl, w, rfl, fun t ht => ?_⟩
          rw [hw t ht, show p = gn G by omega, zc_n ht]
  obtain ⟨r, h1, w, h2, h3⟩ := main
  exact ⟨w, by rw [h1, h2], h3⟩
theorem inL_id (hG : GOK G) (s : Nat) : inL G id s = inn G (snd_ G) s := by
  unfold inL inn
  apply cnt_ext; intro l hl
  exact ⟨fun h => ⟨h.1.1, h.2⟩, fun h => ⟨⟨h.1, (hG.2.1 l hl).2.2.1⟩, h.2⟩⟩
theorem PS_inner0 (hN : RN N G) (hG : GOK G) (hP : IPS PS) : ∃ w, fPS_countInner0 N PS = some (PS.1, ua PS.2 1 w) ∧ ∀ s, s < 2 ^ gn G → w s = ((inn G (snd_ G) s : Nat) : Int) := by
  have hb := hG.1
  obtain ⟨w, h1, h2⟩ := PS_countInner_itself (as := id) hN hG (fun p hp => hp) (fun p hp => hP p (by omega))
  refine ⟨w, ?_, fun s hs => by rw [h2 s hs, inL_id hG]⟩
  unfold fPS_countInner0
  rw [h1, bds]
end
