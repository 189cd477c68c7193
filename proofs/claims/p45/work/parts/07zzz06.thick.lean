-- needs: 07zzz05.share
/-! the thickest set; least terms -/
theorem kf1_e {α0 β γ : Type} (K : α0 → Option β) (body : (α0 → Option β) → γ) : kf1 K body = body K := rfl
def thU (f : Nat → Nat) (A : Nat) (m : Nat) (c : Nat × Nat × Nat) : Prop := (∀ i, m.testBit i = true → A.testBit i = true) ∧ 2 ≤ ppc m ∧ (c.2.1 = 0 ∨ c.1 * (ppc m - 1) < f m * c.2.1 ∨ (f m * c.2.1 = c.1 * (ppc m - 1) ∧ ppc m < ppc c.2.2))
noncomputable def thf (f : Nat → Nat) (A : Nat) : Nat → Nat × Nat × Nat
  | 0 => (0, 0, 0)
  | m + 1 => if dc (thU f A m (thf f A m)) then (f m, ppc m - 1, m) else thf f A m
theorem thf_t {f : Nat → Nat} {A m : Nat} (h : thU f A m (thf f A m)) : thf f A (m+1) = (f m, ppc m - 1, m) := by
  show (if dc _ then _ else _) = _
  rw [dc_t.mpr h, if_pos rfl]
theorem thf_f {f : Nat → Nat} {A m : Nat} (h : ¬ thU f A m (thf f A m)) : thf f A (m+1) = thf f A m := by
  show (if dc _ then _ else _) = _
  rw [dc_f.mpr h, if_neg (by decide)]
theorem thf_r {f : Nat → Nat} {A : Nat} (m : Nat) : thf f A m = (0, 0, 0) ∨ ((thf f A m).1 = f (thf f A m).2.2 ∧ (thf f A m).2.1 = ppc (thf f A m).2.2 - 1 ∧ (thf f A m).2.2 < m ∧ 2 ≤ ppc (thf f A m).2.2 ∧ ∀ i, (thf f A m).2.2.testBit i = true → A.testBit i = true) := by
  induction m with
  | zero => exact Or.inl rfl
  | succ m ih =>
    by_cases h : thU f A m (thf f A m)
    · rw [thf_t h]; exact Or.inr ⟨rfl, rfl, by show m < m + 1; omega, h.2.1, h.1⟩
    · rw [thf_f h]
      rcases ih with z | ⟨z1, z2, z3, z4⟩
      · exact Or.inl z
      · exact Or.inr ⟨z1, z2, by omega, z4⟩
theorem sub_le {m A : Nat} (h : ∀ i, m.testBit i = true → A.testBit i = true) : m ≤ A := Nat.le_of_testBit h
theorem thf_big {f : Nat → Nat} {A m : Nat} (j : Nat) (h : A < m) : thf f A (m + j) = thf f A m := by
  induction j with
  | zero => rfl
  | succ j ih =>
    rw [← Nat.add_assoc, thf_f, ih]
    intro hu
    have := sub_le hu.1
    omega
theorem thf_small {f : Nat → Nat} {A s : Nat} (hs : s ≤ 3) : thf f A s = (0, 0, 0) := by
  obtain ⟨p0, p1, p2⟩ := ppc_012
  have h0 : thf f A 0 = (0, 0, 0) := rfl
  have h1 : thf f A 1 = (0, 0, 0) := by rw [thf_f (fun h => by have := h.2.1; omega)]; exact h0
  have h2 : thf f A 2 = (0, 0, 0) := by rw [thf_f (fun h => by have := h.2.1; omega)]; exact h1
  have h3 : thf f A 3 = (0, 0, 0) := by rw [thf_f (fun h => by have := h.2.1; omega)]; exact h2
  rcases (show s = 0 ∨ s = 1 ∨ s = 2 ∨ s = 3 by omega) with h | h | h | h <;> subst h <;> assumption
/-- what the class holds of it -/
def thC (c : Nat × Nat × Nat) (u : Nat → Int) : Prop := if c.2.1 = 0 then u 4 = 0 ∧ u 5 = -1 ∧ u 6 = 1 else u 4 = (c.2.2 : Nat) ∧ u 5 = (c.1 : Nat) ∧ u 6 = (c.2.1 : Nat)
section
variable {N M PS Ly : ZB} {G : GV} {as : Nat → Nat}
theorem PS_thick_itself (hN : RN N G) (hG : GOK G) (has : ∀ p, p < gn G → as p < gn G) (hP : ∀ p, p < gn G → PS.2 3 p = (as p : Nat)) {A : Nat} (hA : A < 2 ^ gn G) : ∃ w u, fPS_findThick_itself N PS (A : Int) = some (u, ua PS.2 1 w) ∧ thC (thf (inL G as) A 1024) u ∧ ∀ j, j ≠ 4 → j ≠ 5 → j ≠ 6 → u j = PS.1 j := by
  have hb := hG.1
  have hp := Nat.two_pow_pos (gn G)
  have h10 : 2 ^ gn G ≤ 1024 := Nat.pow_le_pow_right (n := 2) (by omega) hb.1
  obtain ⟨w, h1, h2⟩ := PS_countInner_itself (PS := PS) hN hG has hP
  have main : wp (fPS_findThick_itself N PS (A : Int)) (fun r => ∃ w u, r = (u, ua PS.2 1 w) ∧ thC (thf (inL G as) A 1024) u ∧ ∀ j, j ≠ 4 → j ≠ 5 → j ≠ 6 → u j = PS.1 j) := by
    unfold fPS_findThick_itself
    rw [h1, bds, lt_e, lt_e, lt_e]
    refine lop2_w (fun v3 C => ∃ (s : Nat) (u : Nat → Int), 3 ≤ s ∧ v3 = (s : Int) ∧ s ≤ A + 4 ∧ C = (u, ua PS.2 1 w) ∧ thC (thf (inL G as) A s) u ∧ ∀ j, j ≠ 4 → j ≠ 5 → j ≠ 6 → u j = PS.1 j) (fun v3 _ => A + 10 - v3.toNat) ?_ FU _ _ ⟨3, _, by omega, rfl, by omega, rfl, ?_, fun j a b c => ?_⟩ (by show A + 10 - _ < 100000; omega)
    · intro rec v3 C hI hrec
      obtain ⟨s, u, hs3, rfl, hs, rfl, hu, hk⟩ := hI
      rw [nmn (by omega), nmn (by omega)]
      by_cases hsA : s ≤ A
      · have hsn : s < 2 ^ gn G := by omega
        have hs10 := p2_10 hG hsn
        have hpl := ppc_le (n := gn G) (by omega) hsn
        have hpp := ppc_pos (n := gn G) (by omega) hsn (by omega)
        have hil : inL G as s ≤ gL G := cnt_le _ _
        rw [if_neg (by omega), bitCount_p hs10, bds, lt_e, nmi (show -2147483648 ≤ ((ppc s : Nat) : Int) - 1 ∧ ((ppc s : Nat) : Int) - 1 < 2147483648 by omega), zcompn (by omega) (by omega)]
        simp only [kf1]
        have skip : ¬ thU (inL G as) A s (thf (inL G as) A s) → ∃ r, rec ((s : Int) + 1) (u, ua PS.2 1 w) = some r ∧ ∃ w u, r = (u, ua PS.2 1 w) ∧ thC (thf (inL G as) A 1024) u ∧ ∀ j, j ≠ 4 → j ≠ 5 → j ≠ 6 → u j = PS.1 j := by
          intro h
          exact hrec _ _ ⟨s+1, u, by omega, by omega, by omega, rfl, by rw [thf_f h]; exact hu, hk⟩ (by omega)
        by_cases hsub : ∀ i, s.testBit i = true → A.testBit i = true
        · rw [if_pos (by rw [ndf_zero.mpr hsub]; rfl)]
          by_cases hp2 : ppc s < 2
          · rw [if_pos (by omega)]; exact skip (fun h => by have := h.2.1; omega)
          · have e5 : ua PS.2 1 w 1 s = ((inL G as s : Nat) : Int) := h2 s hsn
            have hpe : ((ppc s : Nat) : Int) - 1 = ((ppc s - 1 : Nat) : Int) := by omega
            rw [if_neg (by omega), rdn (by omega), e5]
            simp only [kf0, lt_e]
            have e5' : ∀ k : Int → Option ZB, rd (ua PS.2 1 w 1) 1024 (s : Int) k = k ((inL G as s : Nat) : Int) := fun k => by rw [rdn (by omega), e5]
            simp only [e5']
            have upd : thU (inL G as) A s (thf (inL G as) A s) → ∃ r, rec ((s : Int) + 1) (up (up (up u 4 (s : Int)) 5 ((inL G as s : Nat) : Int)) 6 (((ppc s : Nat) : Int) - 1), ua PS.2 1 w) = some r ∧ ∃ w u, r = (u, ua PS.2 1 w) ∧ thC (thf (inL G as) A 1024) u ∧ ∀ j, j ≠ 4 → j ≠ 5 → j ≠ 6 → u j = PS.1 j := by
              intro h
              refine hrec _ _ ⟨s+1, _, by omega, by omega, by omega, rfl, ?_, fun j a b c => by rw [up_n _ _ c, up_n _ _ b, up_n _ _ a]; exact hk j a b c⟩ (by omega)
              rw [thf_t h]
              unfold thC
              rw [if_neg (by show ¬ ppc s - 1 = 0; omega)]
              exact ⟨rfl, rfl, by rw [hpe]; rfl⟩
            rcases thf_r (f := inL G as) (A := A) s with hz | ⟨q1, q2, q3, q4, q5⟩
            · have hu2 := hu
              unfold thC at hu2
              rw [hz, if_pos rfl] at hu2
              obtain ⟨u4, u5, u6⟩ := hu2
              rw [u5, u6]
              rw [nmi (show -2147483648 ≤ ((inL G as s : Nat) : Int) * 1 - (-1) * (((ppc s : Nat) : Int) - 1) ∧ ((inL G as s : Nat) : Int) * 1 - (-1) * (((ppc s : Nat) : Int) - 1) < 2147483648 by omega), if_pos (by omega)]
              exact upd ⟨hsub, by omega, Or.inl (by rw [hz])⟩
            · have hb1 : (thf (inL G as) A s).2.2 < 2 ^ gn G := by omega
              have hpb := ppc_le (n := gn G) (by omega) hb1
              have hil2 : inL G as (thf (inL G as) A s).2.2 ≤ gL G := cnt_le _ _
              have hu2 := hu
              unfold thC at hu2
              rw [if_neg (by omega)] at hu2
              obtain ⟨u4, u5, u6⟩ := hu2
              have m1 : inL G as s * (thf (inL G as) A s).2.1 ≤ 24 * 9 := Nat.mul_le_mul (by omega) (by omega)
              have m2 : (thf (inL G as) A s).1 * (ppc s - 1) ≤ 24 * 9 := Nat.mul_le_mul (by omega) (by omega)
              have e7 : ((inL G as s : Nat) : Int) * (((thf (inL G as) A s).2.1 : Nat) : Int) - (((thf (inL G as) A s).1 : Nat) : Int) * (((ppc s : Nat) : Int) - 1) = ((inL G as s * (thf (inL G as) A s).2.1 : Nat) : Int) - (((thf (inL G as) A s).1 * (ppc s - 1) : Nat) : Int) := by
                rw [hpe, Int.natCast_mul, Int.natCast_mul]
              rw [u5, u6, e7, nmi (show -2147483648 ≤ ((inL G as s * (thf (inL G as) A s).2.1 : Nat) : Int) - (((thf (inL G as) A s).1 * (ppc s - 1) : Nat) : Int) ∧ ((inL G as s * (thf (inL G as) A s).2.1 : Nat) : Int) - (((thf (inL G as) A s).1 * (ppc s - 1) : Nat) : Int) < 2147483648 by omega), nmn (show (thf (inL G as) A s).2.1 < 2147483648 by omega)]
              by_cases z1 : (thf (inL G as) A s).1 * (ppc s - 1) < inL G as s * (thf (inL G as) A s).2.1
              · rw [if_pos (by omega)]; exact upd ⟨hsub, by omega, Or.inr (Or.inl z1)⟩
              · rw [if_neg (by omega)]
                by_cases z2 : inL G as s * (thf (inL G as) A s).2.1 = (thf (inL G as) A s).1 * (ppc s - 1)
                · rw [if_pos (by omega)]
                  by_cases z3 : ppc s < ppc (thf (inL G as) A s).2.2
                  · rw [if_pos (by omega)]; exact upd ⟨hsub, by omega, Or.inr (Or.inr ⟨z2, z3⟩)⟩
                  · rw [if_neg (by omega)]
                    exact skip (fun h => by rcases h.2.2 with k | k | k; omega; exact z1 k; exact z3 k.2)
                · rw [if_neg (by omega)]
                  exact skip (fun h => by rcases h.2.2 with k | k | k; omega; exact z1 k; exact z2 k.1)
        · rw [if_neg (fun z => hsub (ndf_zero.mp (by omega)))]
          exact skip (fun h => hsub h.1)
      · rw [if_pos (by omega)]
        refine ⟨_, rfl, w, u, rfl, ?_, hk⟩
        have := thf_big (f := inL G as) (A := A) (m := s) (1024 - s) (by omega)
        rcases Nat.lt_or_ge s 1024 with z | z
        · rw [show s + (1024 - s) = 1024 by omega] at this
          rw [this]; exact hu
        · have h2 := thf_big (f := inL G as) (A := A) (m := 1024) (s - 1024) (by omega)
          rw [show 1024 + (s - 1024) = s by omega] at h2
          rw [← h2]; exact hu
    · rw [thf_small (by omega)]
      exact ⟨rfl, rfl, rfl⟩
    · show up (up (up PS.1 4 0) 5 (-1)) 6 1 j = _
      rw [up_n _ _ c, up_n _ _ b, up_n _ _ a]
  obtain ⟨r, e1, w, u, e2, e3, e4⟩ := main
  exact ⟨w, u, by rw [e1, e2], e3, e4⟩
theorem PS_thick_as (hN : RN N G) (hG : GOK G) (has : ∀ p, p < gn G → as p < gn G) (hP : ∀ p, p < gn G → Ly.2 2 p = (as p : Nat)) {A : Nat} (hA : A < 2 ^ gn G) : ∃ w u, fPS_findThick_as N PS Ly (A : Int) = some (u, ua PS.2 1 w) ∧ thC (thf (inL G as) A 1024) u ∧ ∀ j, j ≠ 4 → j ≠ 5 → j ≠ 6 → u j = PS.1 j := by
  have hb := hG.1
  have hp := Nat.two_pow_pos (gn G)
  have h10 : 2 ^ gn G ≤ 1024 := Nat.pow_le_pow_right (n := 2) (by omega) hb.1
  obtain ⟨w, h1, h2⟩ := PS_countInner_as (PS := PS) hN hG has hP
  have main : wp (fPS_findThick_as N PS Ly (A : Int)) (fun r => ∃ w u, r = (u, ua PS.2 1 w) ∧ thC (thf (inL G as) A 1024) u ∧ ∀ j, j ≠ 4 → j ≠ 5 → j ≠ 6 → u j = PS.1 j) := by
    unfold fPS_findThick_as
    rw [h1, bds, lt_e, lt_e, lt_e]
    refine lop2_w (fun v3 C => ∃ (s : Nat) (u : Nat → Int), 3 ≤ s ∧ v3 = (s : Int) ∧ s ≤ A + 4 ∧ C = (u, ua PS.2 1 w) ∧ thC (thf (inL G as) A s) u ∧ ∀ j, j ≠ 4 → j ≠ 5 → j ≠ 6 → u j = PS.1 j) (fun v3 _ => A + 10 - v3.toNat) ?_ FU _ _ ⟨3, _, by omega, rfl, by omega, rfl, ?_, fun j a b c => ?_⟩ (by show A + 10 - _ < 100000; omega)
    · intro rec v3 C hI hrec
      obtain ⟨s, u, hs3, rfl, hs, rfl, hu, hk⟩ := hI
      rw [nmn (by omega), nmn (by omega)]
      by_cases hsA : s ≤ A
      · have hsn : s < 2 ^ gn G := by omega
        have hs10 := p2_10 hG hsn
        have hpl := ppc_le (n := gn G) (by omega) hsn
        have hpp := ppc_pos (n := gn G) (by omega) hsn (by omega)
        have hil : inL G as s ≤ gL G := cnt_le _ _
        rw [if_neg (by omega), bitCount_p hs10, bds, lt_e, nmi (show -2147483648 ≤ ((ppc s : Nat) : Int) - 1 ∧ ((ppc s : Nat) : Int) - 1 < 2147483648 by omega), zcompn (by omega) (by omega)]
        simp only [kf1]
        have skip : ¬ thU (inL G as) A s (thf (inL G as) A s) → ∃ r, rec ((s : Int) + 1) (u, ua PS.2 1 w) = some r ∧ ∃ w u, r = (u, ua PS.2 1 w) ∧ thC (thf (inL G as) A 1024) u ∧ ∀ j, j ≠ 4 → j ≠ 5 → j ≠ 6 → u j = PS.1 j := by
          intro h
          exact hrec _ _ ⟨s+1, u, by omega, by omega, by omega, rfl, by rw [thf_f h]; exact hu, hk⟩ (by omega)
        by_cases hsub : ∀ i, s.testBit i = true → A.testBit i = true
        · rw [if_pos (by rw [ndf_zero.mpr hsub]; rfl)]
          by_cases hp2 : ppc s < 2
          · rw [if_pos (by omega)]; exact skip (fun h => by have := h.2.1; omega)
          · have e5 : ua PS.2 1 w 1 s = ((inL G as s : Nat) : Int) := h2 s hsn
            have hpe : ((ppc s : Nat) : Int) - 1 = ((ppc s - 1 : Nat) : Int) := by omega
            rw [if_neg (by omega), rdn (by omega), e5]
            simp only [kf0, lt_e]
            have e5' : ∀ k : Int → Option ZB, rd (ua PS.2 1 w 1) 1024 (s : Int) k = k ((inL G as s : Nat) : Int) := fun k => by rw [rdn (by omega), e5]
            simp only [e5']
            have upd : thU (inL G as) A s (thf (inL G as) A s) → ∃ r, rec ((s : Int) + 1) (up (up (up u 4 (s : Int)) 5 ((inL G as s : Nat) : Int)) 6 (((ppc s : Nat) : Int) - 1), ua PS.2 1 w) = some r ∧ ∃ w u, r = (u, ua PS.2 1 w) ∧ thC (thf (inL G as) A 1024) u ∧ ∀ j, j ≠ 4 → j ≠ 5 → j ≠ 6 → u j = PS.1 j := by
              intro h
              refine hrec _ _ ⟨s+1, _, by omega, by omega, by omega, rfl, ?_, fun j a b c => by rw [up_n _ _ c, up_n _ _ b, up_n _ _ a]; exact hk j a b c⟩ (by omega)
              rw [thf_t h]
              unfold thC
              rw [if_neg (by show ¬ ppc s - 1 = 0; omega)]
              exact ⟨rfl, rfl, by rw [hpe]; rfl⟩
            rcases thf_r (f := inL G as) (A := A) s with hz | ⟨q1, q2, q3, q4, q5⟩
            · have hu2 := hu
              unfold thC at hu2
              rw [hz, if_pos rfl] at hu2
              obtain ⟨u4, u5, u6⟩ := hu2
              rw [u5, u6]
              rw [nmi (show -2147483648 ≤ ((inL G as s : Nat) : Int) * 1 - (-1) * (((ppc s : Nat) : Int) - 1) ∧ ((inL G as s : Nat) : Int) * 1 - (-1) * (((ppc s : Nat) : Int) - 1) < 2147483648 by omega), if_pos (by omega)]
              exact upd ⟨hsub, by omega, Or.inl (by rw [hz])⟩
            · have hb1 : (thf (inL G as) A s).2.2 < 2 ^ gn G := by omega
              have hpb := ppc_le (n := gn G) (by omega) hb1
              have hil2 : inL G as (thf (inL G as) A s).2.2 ≤ gL G := cnt_le _ _
              have hu2 := hu
              unfold thC at hu2
              rw [if_neg (by omega)] at hu2
              obtain ⟨u4, u5, u6⟩ := hu2
              have m1 : inL G as s * (thf (inL G as) A s).2.1 ≤ 24 * 9 := Nat.mul_le_mul (by omega) (by omega)
              have m2 : (thf (inL G as) A s).1 * (ppc s - 1) ≤ 24 * 9 := Nat.mul_le_mul (by omega) (by omega)
              have e7 : ((inL G as s : Nat) : Int) * (((thf (inL G as) A s).2.1 : Nat) : Int) - (((thf (inL G as) A s).1 : Nat) : Int) * (((ppc s : Nat) : Int) - 1) = ((inL G as s * (thf (inL G as) A s).2.1 : Nat) : Int) - (((thf (inL G as) A s).1 * (ppc s - 1) : Nat) : Int) := by
                rw [hpe, Int.natCast_mul, Int.natCast_mul]
              rw [u5, u6, e7, nmi (show -2147483648 ≤ ((inL G as s * (thf (inL G as) A s).2.1 : Nat) : Int) - (((thf (inL G as) A s).1 * (ppc s - 1) : Nat) : Int) ∧ ((inL G as s * (thf (inL G as) A s).2.1 : Nat) : Int) - (((thf (inL G as) A s).1 * (ppc s - 1) : Nat) : Int) < 2147483648 by omega), nmn (show (thf (inL G as) A s).2.1 < 2147483648 by omega)]
              by_cases z1 : (thf (inL G as) A s).1 * (ppc s - 1) < inL G as s * (thf (inL G as) A s).2.1
              · rw [if_pos (by omega)]; exact upd ⟨hsub, by omega, Or.inr (Or.inl z1)⟩
              · rw [if_neg (by omega)]
                by_cases z2 : inL G as s * (thf (inL G as) A s).2.1 = (thf (inL G as) A s).1 * (ppc s - 1)
                · rw [if_pos (by omega)]
                  by_cases z3 : ppc s < ppc (thf (inL G as) A s).2.2
                  · rw [if_pos (by omega)]; exact upd ⟨hsub, by omega, Or.inr (Or.inr ⟨z2, z3⟩)⟩
                  · rw [if_neg (by omega)]
                    exact skip (fun h => by rcases h.2.2 with k | k | k; omega; exact z1 k; exact z3 k.2)
                · rw [if_neg (by omega)]
                  exact skip (fun h => by rcases h.2.2 with k | k | k; omega; exact z1 k; exact z2 k.1)
        · rw [if_neg (fun z => hsub (ndf_zero.mp (by omega)))]
          exact skip (fun h => hsub h.1)
      · rw [if_pos (by omega)]
        refine ⟨_, rfl, w, u, rfl, ?_, hk⟩
        have := thf_big (f := inL G as) (A := A) (m := s) (1024 - s) (by omega)
        rcases Nat.lt_or_ge s 1024 with z | z
        · rw [show s + (1024 - s) = 1024 by omega] at this
          rw [this]; exact hu
        · have h2 := thf_big (f := inL G as) (A := A) (m := 1024) (s - 1024) (by omega)
          rw [show 1024 + (s - 1024) = s by omega] at h2
          rw [← h2]; exact hu
    · rw [thf_small (by omega)]
      exact ⟨rfl, rfl, rfl⟩
    · show up (up (up PS.1 4 0) 5 (-1)) 6 1 j = _
      rw [up_n _ _ c, up_n _ _ b, up_n _ _ a]
  obtain ⟨r, e1, w, u, e2, e3, e4⟩ := main
  exact ⟨w, u, by rw [e1, e2], e3, e4⟩
/-- the reference's thickest set -/
theorem M_laysThick (hM : RW (M.2 12) G) (hG : GOK G) (has : ∀ p, p < gn G → as p < gn G) (hS : ∀ p, p < gn G → M.2 35 p = (as p : Nat)) {A : Nat} (hA : A < 2 ^ gn G) : ∃ g, fM_laysThick M (A : Int) ((bs (gL G) (liv G as) : Nat) : Int) = some (M.1, ua M.2 34 g) ∧ g 0 = ((thf (inL G as) A 1024).1 : Nat) ∧ g 1 = ((thf (inL G as) A 1024).2.1 : Nat) ∧ g 2 = ((thf (inL G as) A 1024).2.2 : Nat) := by
  have hb := hG.1
  have hp := Nat.two_pow_pos (gn G)
  have h10 : 2 ^ gn G ≤ 1024 := Nat.pow_le_pow_right (n := 2) (by omega) hb.1
  have main : wp (fM_laysThick M (A : Int) ((bs (gL G) (liv G as) : Nat) : Int)) (fun r => ∃ g, r = (M.1, ua M.2 34 g) ∧ g 0 = ((thf (inL G as) A 1024).1 : Nat) ∧ g 1 = ((thf (inL G as) A 1024).2.1 : Nat) ∧ g 2 = ((thf (inL G as) A 1024).2.2 : Nat)) := by
    unfold fM_laysThick
    rw [ixi (by omega), lt_e, ixi (by omega), lt_e, ixi (by omega), lt_e]
    refine lop2_w (fun v3 C => ∃ (s : Nat) (g : Nat → Int), 1 ≤ s ∧ v3 = (s : Int) ∧ s ≤ 1024 ∧ C = (M.1, ua M.2 34 g) ∧ g 0 = ((thf (inL G as) A s).1 : Nat) ∧ g 1 = ((thf (inL G as) A s).2.1 : Nat) ∧ g 2 = ((thf (inL G as) A s).2.2 : Nat)) (fun v3 _ => 1024 - v3.toNat) ?_ FU _ _ ⟨1, up (up (up (M.2 34) 0 0) 1 0) 2 0, by omega, rfl, by omega, ?_, ?_, ?_, ?_⟩ (by show 1024 - _ < 100000; omega)
    · intro rec v3 C hI hrec
      obtain ⟨s, g, hs1, rfl, hs, rfl, g0, g1, g2⟩ := hI
      have hR1 : ∀ g, RW (((M.1, ua M.2 34 g) : ZB).2 12) G := fun _ => hM
      rw [nmn (by omega)]
      by_cases hs24 : s < 1024
      · have hs10 : s < 2 ^ 10 := hs24
        have hpl := ppc_le (n := 10) (by omega) hs10
        have hpp := ppc_pos (n := 10) (by omega) hs10 (by omega)
        rw [if_pos (by omega), kf1_e, zcompn (by omega) (by omega), bits_p hs10, bds, nmn (by omega)]
        have skip : ¬ thU (inL G as) A s (thf (inL G as) A s) → ∃ r, rec ((s : Int) + 1) (M.1, ua M.2 34 g) = some r ∧ ∃ g, r = (M.1, ua M.2 34 g) ∧ g 0 = ((thf (inL G as) A 1024).1 : Nat) ∧ g 1 = ((thf (inL G as) A 1024).2.1 : Nat) ∧ g 2 = ((thf (inL G as) A 1024).2.2 : Nat) := by
          intro h
          exact hrec _ _ ⟨s+1, g, by omega, by omega, by omega, rfl, by rw [thf_f h]; exact g0, by rw [thf_f h]; exact g1, by rw [thf_f h]; exact g2⟩ (by omega)
        by_cases hsub : ∀ i, s.testBit i = true → A.testBit i = true
        · have hsA := sub_le hsub
          have hsn : s < 2 ^ gn G := by omega
          rw [if_pos (by rw [ndf_zero.mpr hsub]; rfl)]
          by_cases hp2 : ppc s < 2
          · rw [if_pos (by omega)]; exact skip (fun h => by have := h.2.1; omega)
          · have hil : inL G as s ≤ gL G := cnt_le _ _
            have hpe : ((ppc s : Nat) : Int) - 1 = ((ppc s - 1 : Nat) : Int) := by omega
            rw [if_neg (by omega)]
            have upd : thU (inL G as) A s (thf (inL G as) A s) → ∃ r, rec ((s : Int) + 1) (M.1, ua M.2 34 (up (up (up g 0 ((inL G as s : Nat) : Int)) 1 (((ppc s : Nat) : Int) - 1)) 2 (s : Int))) = some r ∧ ∃ g, r = (M.1, ua M.2 34 g) ∧ g 0 = ((thf (inL G as) A 1024).1 : Nat) ∧ g 1 = ((thf (inL G as) A 1024).2.1 : Nat) ∧ g 2 = ((thf (inL G as) A 1024).2.2 : Nat) := by
              intro h
              exact hrec _ _ ⟨s+1, _, by omega, by omega, by omega, rfl, by rw [thf_t h]; rfl, by rw [thf_t h, hpe]; rfl, by rw [thf_t h]; rfl⟩ (by omega)
            refine lop2_w (fun v4 v5 => ∃ m : Nat, v5 = (m : Int) ∧ m ≤ gL G ∧ v4 = ((cnt m (fun l => liv G as l ∧ inA G as l s) : Nat) : Int)) (fun _ v5 => gL G - v5.toNat) ?_ FU _ _ ⟨0, rfl, by omega, rfl⟩ (by show gL G - _ < 100000; omega)
            intro rec2 v4 v5 hI2 hrec2
            obtain ⟨m, rfl, hm, rfl⟩ := hI2
            rw [M_lines (hR1 g), bds, nmn (by omega), nmn (by omega)]
            by_cases hmL : m < gL G
            · have hv := hG.2.1 m hmL
              have hm12 := hM.2.2.2 m hmL
              have hap := has _ hv.1
              have hbp := has _ hv.2.1
              have f12 : ((M.1, ua M.2 34 g) : ZB).2 12 = M.2 12 := rfl
              have f35 : ((M.1, ua M.2 34 g) : ZB).2 35 = M.2 35 := rfl
              rw [if_pos (by omega), M_has (bs_lt31 (by omega)) (by omega), bds, kf1_e]
              have nx1 : liv G as m ∧ inA G as m s → ∃ r, rec2 (((cnt m (fun l => liv G as l ∧ inA G as l s) : Nat) : Int) + 1) ((m : Int) + 1) = some r ∧ ∃ g, r = (M.1, ua M.2 34 g) ∧ g 0 = ((thf (inL G as) A 1024).1 : Nat) ∧ g 1 = ((thf (inL G as) A 1024).2.1 : Nat) ∧ g 2 = ((thf (inL G as) A 1024).2.2 : Nat) := fun h => hrec2 _ _ ⟨m+1, by omega, by omega, by rw [cnt_succ_t (p := fun l => liv G as l ∧ inA G as l s) h]; omega⟩ (by omega)
              have nx0 : ¬ (liv G as m ∧ inA G as m s) → ∃ r, rec2 ((cnt m (fun l => liv G as l ∧ inA G as l s) : Nat) : Int) ((m : Int) + 1) = some r ∧ ∃ g, r = (M.1, ua M.2 34 g) ∧ g 0 = ((thf (inL G as) A 1024).1 : Nat) ∧ g 1 = ((thf (inL G as) A 1024).2.1 : Nat) ∧ g 2 = ((thf (inL G as) A 1024).2.2 : Nat) := fun h => hrec2 _ _ ⟨m+1, by omega, by omega, by rw [cnt_succ_f (p := fun l => liv G as l ∧ inA G as l s) h]⟩ (by omega)
              by_cases h1 : liv G as m
              · rw [t10t ((bs_bit _ _ _).mpr ⟨hmL, h1⟩), f12, rd3 (by omega), hm12.1, f35, rdn (by omega), hS _ hv.1, M_has (by omega) (by omega), bds]
                by_cases h2 : s.testBit (as (ga G m)) = true
                · rw [t10t h2, rd27 (by omega), hm12.2.1, rdn (by omega), hS _ hv.2.1, M_has (by omega) (by omega), bds]
                  by_cases h3 : s.testBit (as (gb G m)) = true
                  · rw [t10t h3]; exact nx1 ⟨h1, h2, h3⟩
                  · rw [t10f h3]; exact nx0 (fun h => h3 h.2.2)
                · rw [t10f h2]; exact nx0 (fun h => h2 h.2.1)
              · rw [t10f (fun z => h1 ((bs_bit _ _ _).mp z).2)]; exact nx0 (fun h => h1 h.1)
            · rw [if_neg (by omega)]
              have hmm : m = gL G := by omega
              subst hmm
              have hcnt : cnt (gL G) (fun l => liv G as l ∧ inA G as l s) = inL G as s := rfl
              have f34 : ((M.1, ua M.2 34 g) : ZB).2 34 = g := rfl
              rw [hcnt, bds, lt_e, f34, rdi (by omega), show Int.toNat 1 = 1 from rfl, g1]
              simp only [kf0, kf1, lt_e, ua_e, ua_up]
              have i0 : ∀ k : Option ZB, ix 3 0 k = k := fun k => ixi (by omega)
              have i1 : ∀ k : Option ZB, ix 3 1 k = k := fun k => ixi (by omega)
              have i2 : ∀ k : Option ZB, ix 3 2 k = k := fun k => ixi (by omega)
              simp only [i0, i1, i2, show Int.toNat 0 = 0 from rfl, show Int.toNat 1 = 1 from rfl, show Int.toNat 2 = 2 from rfl]
              rcases thf_r (f := inL G as) (A := A) s with hz | ⟨q1, q2, q3, q4, q5⟩
              · rw [hz]
                rw [if_pos (by decide : nm (((0, 0, 0) : Nat × Nat × Nat).2.1 : Int) = 0), if_neg (by decide : ¬ nm 1 < 0), if_neg (by decide : ¬ nm 1 = 0)]
                exact upd ⟨hsub, by omega, Or.inl (by rw [hz])⟩
              · have hb1 : (thf (inL G as) A s).2.2 < 2 ^ gn G := by omega
                have hpb := ppc_le (n := gn G) (by omega) hb1
                have hil2 : inL G as (thf (inL G as) A s).2.2 ≤ gL G := cnt_le _ _
                have m1 : inL G as s * (thf (inL G as) A s).2.1 ≤ 24 * 9 := Nat.mul_le_mul (by omega) (by omega)
                have m2 : (thf (inL G as) A s).1 * (ppc s - 1) ≤ 24 * 9 := Nat.mul_le_mul (by omega) (by have := ppc_le (n := gn G) (by omega) hsn; omega)
                have e7 : ((inL G as s : Nat) : Int) * (((thf (inL G as) A s).2.1 : Nat) : Int) - (((thf (inL G as) A s).1 : Nat) : Int) * (((ppc s : Nat) : Int) - 1) = ((inL G as s * (thf (inL G as) A s).2.1 : Nat) : Int) - (((thf (inL G as) A s).1 * (ppc s - 1) : Nat) : Int) := by
                  rw [hpe, Int.natCast_mul, Int.natCast_mul]
                rw [nmn (show (thf (inL G as) A s).2.1 < 2147483648 by omega), if_neg (by omega), rdi (by omega), rdi (by omega), show Int.toNat 0 = 0 from rfl, show Int.toNat 1 = 1 from rfl, g1, g0, e7, nmi (show -2147483648 ≤ ((inL G as s * (thf (inL G as) A s).2.1 : Nat) : Int) - (((thf (inL G as) A s).1 * (ppc s - 1) : Nat) : Int) ∧ ((inL G as s * (thf (inL G as) A s).2.1 : Nat) : Int) - (((thf (inL G as) A s).1 * (ppc s - 1) : Nat) : Int) < 2147483648 by omega)]
                by_cases z0 : inL G as s * (thf (inL G as) A s).2.1 < (thf (inL G as) A s).1 * (ppc s - 1)
                · rw [if_pos (by omega)]
                  exact skip (fun h => by rcases h.2.2 with k | k | k <;> omega)
                · rw [if_neg (by omega)]
                  by_cases z2 : inL G as s * (thf (inL G as) A s).2.1 = (thf (inL G as) A s).1 * (ppc s - 1)
                  · rw [if_pos (by omega), bds, rdi (by omega), show Int.toNat 2 = 2 from rfl, g2, bits_p (p2_10 hG hb1), bds, nmn (by omega), nmn (by omega)]
                    by_cases z3 : ppc s < ppc (thf (inL G as) A s).2.2
                    · rw [if_pos (by omega)]; exact upd ⟨hsub, by omega, Or.inr (Or.inr ⟨z2, z3⟩)⟩
                    · rw [if_neg (by omega)]
                      exact skip (fun h => by rcases h.2.2 with k | k | k; omega; omega; exact z3 k.2)
                  · rw [if_neg (by omega)]; exact upd ⟨hsub, by omega, Or.inr (Or.inl (by omega))⟩
        · rw [if_neg (fun z => hsub (ndf_zero.mp (by omega)))]
          exact skip (fun h => hsub h.1)
      · rw [if_neg (by omega)]
        have : s = 1024 := by omega
        subst this
        exact ⟨_, rfl, g, rfl, g0, g1, g2⟩
    · simp only [ua_e, ua_up]; rfl
    · rw [thf_small (by omega)]; rfl
    · rw [thf_small (by omega)]; rfl
    · rw [thf_small (by omega)]; rfl
  obtain ⟨r, e1, g, e2, e3⟩ := main
  exact ⟨g, by rw [e1, e2], e3⟩
end
