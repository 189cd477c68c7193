-- needs: 07zzz55.parting
/-! what the class tells of all forests that could be: one thing by another -/
def tck (a b : Nat) : Bool := match fX_leastTerms (a : Int) (b : Int) 0, fX_leastTerms (a : Int) (b : Int) 1 with
  | some x, some y => decide (0 ≤ x ∧ x ≤ 24 ∧ 1 ≤ y ∧ y ≤ 10 ∧ x * (b : Int) = (a : Int) * y)
  | _, _ => false
theorem tck_all : ∀ a : Fin 25, ∀ b : Fin 10, tck a.val (b.val + 1) = true := by decide +kernel
theorem terms_q {a b : Nat} (ha : a ≤ 24) (hb : 1 ≤ b) (hb2 : b ≤ 10) : ∃ A B : Nat, fX_leastTerms (a : Int) (b : Int) 0 = some (A : Int) ∧ fX_leastTerms (a : Int) (b : Int) 1 = some (B : Int) ∧ A ≤ 24 ∧ 1 ≤ B ∧ B ≤ 10 ∧ A * b = a * B := by
  have h := tck_all ⟨a, by omega⟩ ⟨b - 1, by omega⟩
  simp only at h
  rw [show b - 1 + 1 = b by omega] at h
  unfold tck at h
  cases h0 : fX_leastTerms (a : Int) (b : Int) 0 with
  | none => rw [h0] at h; exact absurd h (by simp)
  | some x =>
    cases h1 : fX_leastTerms (a : Int) (b : Int) 1 with
    | none => rw [h0, h1] at h; exact absurd h (by simp)
    | some y =>
      rw [h0, h1] at h
      obtain ⟨z1, z2, z3, z4, z5⟩ := of_decide_eq_true h
      refine ⟨x.toNat, y.toNat, by rw [Int.toNat_of_nonneg z1], by rw [Int.toNat_of_nonneg (by omega)], by omega, by omega, by omega, ?_⟩
      have e1 : ((x.toNat * b : Nat) : Int) = x * (b : Int) := by rw [Int.natCast_mul, Int.toNat_of_nonneg z1]
      have e2 : ((a * y.toNat : Nat) : Int) = (a : Int) * y := by rw [Int.natCast_mul, Int.toNat_of_nonneg (by omega)]
      omega
theorem fr_tr {a b c d e f : Nat} (h1 : a * d ≤ c * b) (h2 : c * f ≤ e * d) (hd : 0 < d) : a * f ≤ e * b := by
  have y1 : a * d * f ≤ c * b * f := Nat.mul_le_mul_right f h1
  have y2 : c * f * b ≤ e * d * b := Nat.mul_le_mul_right b h2
  have y3 : a * d * f = a * f * d := by rw [Nat.mul_assoc, Nat.mul_comm d f, ← Nat.mul_assoc]
  have y4 : c * b * f = c * f * b := by rw [Nat.mul_assoc, Nat.mul_comm b f, ← Nat.mul_assoc]
  have y5 : e * d * b = e * b * d := by rw [Nat.mul_assoc, Nat.mul_comm d b, ← Nat.mul_assoc]
  exact Nat.le_of_mul_le_mul_right (show a * f * d ≤ e * b * d by omega) hd
theorem thf_max {f : Nat → Nat} {A : Nat} (m : Nat) : ∀ s, s < m → 2 ≤ ppc s → (∀ i, s.testBit i = true → A.testBit i = true) → (thf f A m).2.1 ≠ 0 ∧ f s * (thf f A m).2.1 ≤ (thf f A m).1 * (ppc s - 1) := by
  induction m with
  | zero => intro s h; exact absurd h (Nat.not_lt_zero s)
  | succ m ih =>
    intro s hs h2 hA
    by_cases hu : thU f A m (thf f A m)
    · rw [thf_t hu]
      obtain ⟨u1, u2, u3⟩ := hu
      refine ⟨by show ppc m - 1 ≠ 0; omega, ?_⟩
      show f s * (ppc m - 1) ≤ f m * (ppc s - 1)
      by_cases e : s = m
      · rw [e]; exact Nat.le_refl _
      · obtain ⟨i1, i2⟩ := ih s (by omega) h2 hA
        have h3 : (thf f A m).1 * (ppc m - 1) ≤ f m * (thf f A m).2.1 := by
          rcases u3 with z | z | z
          · exact absurd z i1
          · exact Nat.le_of_lt z
          · exact Nat.le_of_eq z.1.symm
        exact fr_tr i2 h3 (by omega)
    · rw [thf_f hu]
      by_cases e : s = m
      · subst e
        by_cases z : (thf f A s).2.1 = 0
        · exact absurd ⟨hA, h2, Or.inl z⟩ hu
        · refine ⟨z, ?_⟩
          rcases Nat.lt_or_ge ((thf f A s).1 * (ppc s - 1)) (f s * (thf f A s).2.1) with y | y
          · exact absurd ⟨hA, h2, Or.inr (Or.inl y)⟩ hu
          · exact y
      · exact ih s (by omega) h2 hA
section
variable {G : GV} {N PS La : ZB}
theorem X_most (hN : RN N G) (hG : GOK G) (PS : ZB) {k : Nat} (hk : k ≤ 24) : ∃ w, fX_most N PS (k : Int) = some (((cnt (gL G) (Tk G k (snd_ G) (gL G)) : Nat) : Int), (PS.1, ua PS.2 2 w)) := by
  have hb := hG.1
  obtain ⟨w, h1, h2⟩ := PS_byNumber hN hG (k := k) (by omega) PS
  unfold fX_most
  simp only [kf0, kf2]
  rw [nmn (by omega), if_neg (by omega : ¬ (k : Int) < 0), if_neg (by omega : ¬ 24 < (k : Int)), h1, bds, bitCount_bs (by omega), bds]
  exact ⟨w, rfl⟩
theorem X_fewest (hN : RN N G) (hG : GOK G) (hP : IPS PS) : ∃ w, fX_fewest N PS = some (((mxs (shv G 1) (2 ^ gn G) : Nat) : Int), (PS.1, ua PS.2 1 w)) := by
  obtain ⟨w, h1⟩ := PS_share hN hG hP (less := 1) (by omega)
  have h1' : fPS_greatestShare N PS 1 = some (((mxs (shv G 1) (2 ^ gn G) : Nat) : Int), (PS.1, ua PS.2 1 w)) := h1
  unfold fX_fewest fPS_fewestForests
  rw [h1', bds, bds]
  exact ⟨w, rfl⟩
/-- so many forests hold all sound lines: no set of points has too many -/
theorem fw_le (hG : GOK G) {k : Nat} : mxs (shv G 1) (2 ^ gn G) ≤ k ↔ Sp G k (snd_ G) := by
  rw [mxs_le]
  constructor
  · intro h s hs hs0
    have h1 := h s hs
    unfold shv at h1
    by_cases q : 1 < ppc s
    · rw [if_pos q, ceil_le (by omega)] at h1; exact h1
    · rw [inn_small hG hs (by omega)]; exact Nat.zero_le _
  · intro h s hs
    unfold shv
    by_cases q : 1 < ppc s
    · rw [if_pos q, ceil_le (by omega)]; exact Sp_le h hs
    · rw [if_neg q]; exact Nat.zero_le _
theorem most_le (G : GV) (k : Nat) : cnt (gL G) (Tk G k (snd_ G) (gL G)) ≤ cnt (gL G) (snd_ G) := cnt_mono (fun l _ h => Tk_s l h)
theorem most_all (hG : GOK G) {k : Nat} : cnt (gL G) (Tk G k (snd_ G) (gL G)) = cnt (gL G) (snd_ G) ↔ Sp G k (snd_ G) := by
  constructor
  · intro h
    have hall : ∀ l, l < gL G → snd_ G l → Tk G k (snd_ G) (gL G) l := by
      intro l hl hs
      by_cases z : Tk G k (snd_ G) (gL G) l
      · exact z
      · have : cnt (gL G) (Tk G k (snd_ G) (gL G)) < cnt (gL G) (snd_ G) := cnt_lt (i := l) (fun i _ k => Tk_s i k) hl hs z
        omega
    intro s hs hs0
    have h1 := Tk_sp (k := k) hG (snd_ G) (gL G) (Nat.le_refl _) s hs hs0
    have h2 : inn G (snd_ G) s ≤ inn G (Tk G k (snd_ G) (gL G)) s := cnt_mono (fun l hl z => ⟨hall l hl z.1, z.2⟩)
    omega
  · intro h
    have h1 := sp_max (k := k) hG (B := Tk G k (snd_ G) (gL G)) (A := snd_ G) (I := snd_ G) (Tk_sp hG (snd_ G) (gL G) (Nat.le_refl _)) h (fun _ _ z => z) (fun l hl hs hn => Tk_max hG (snd_ G) hl hs hn)
    have h2 := most_le G k
    omega
/-- the thickest set: its quotient in least terms -/
def ThQ (G : GV) (A B S : Nat) : Prop := A ≤ 24 ∧ 1 ≤ B ∧ B ≤ 10 ∧ S < 2 ^ gn G ∧ 2 ≤ ppc S ∧ A * (ppc S - 1) = inn G (snd_ G) S * B ∧ ∀ s, s < 2 ^ gn G → 2 ≤ ppc s → inn G (snd_ G) s * (ppc S - 1) ≤ inn G (snd_ G) S * (ppc s - 1)
theorem X_thick (hN : RN N G) (hG : GOK G) (hn : 2 ≤ gn G) : ∃ A B S : Nat, ThQ G A B S ∧ ∀ PS, IPS PS → (∃ P', fX_thick N PS 0 = some ((A : Int), P') ∧ IPS P') ∧ (∃ P', fX_thick N PS 1 = some ((B : Int), P') ∧ IPS P') ∧ (∃ P', fX_thick N PS 2 = some ((S : Int), P') ∧ IPS P') := by
  have hb := hG.1
  have hp := Nat.two_pow_pos (gn G)
  have h10 : 2 ^ gn G ≤ 1024 := Nat.pow_le_pow_right (n := 2) (by omega) hb.1
  have h4 : 2 ^ 2 ≤ 2 ^ gn G := Nat.pow_le_pow_right (n := 2) (by omega) hn
  have hfound := thf_found (f := inL G id) (A := 2 ^ gn G - 1) 1024 ⟨3, by omega, by decide, fun i hi => by
    rw [full_bit]
    have := bit_lt (n := 2) (x := 3) (by decide) hi
    omega⟩
  have hz : thf (inL G id) (2 ^ gn G - 1) 1024 ≠ (0, 0, 0) := fun e => hfound (by rw [e])
  rcases thf_r (f := inL G id) (A := 2 ^ gn G - 1) 1024 with hz2 | ⟨q1, q2, q3, q4, q5⟩
  · exact absurd hz2 hz
  have hsl := sub_le q5
  have hS : (thf (inL G id) (2 ^ gn G - 1) 1024).2.2 < 2 ^ gn G := by omega
  have hpb := ppc_le (n := gn G) (s := (thf (inL G id) (2 ^ gn G - 1) 1024).2.2) (by omega) hS
  have hil2 : inL G id (thf (inL G id) (2 ^ gn G - 1) 1024).2.2 ≤ gL G := cnt_le _ _
  have hmax := thf_max (f := inL G id) (A := 2 ^ gn G - 1) 1024
  obtain ⟨A, B, t1, t2, t3, t4, t5, t6⟩ := terms_q (a := (thf (inL G id) (2 ^ gn G - 1) 1024).1) (b := (thf (inL G id) (2 ^ gn G - 1) 1024).2.1) (by omega) (by omega) (by omega)
  have hall : ∀ PS, IPS PS → ∃ w u, fPS_findThick0 N PS = some ((u, ua PS.2 1 w) : ZB) ∧ u 4 = (((thf (inL G id) (2 ^ gn G - 1) 1024).2.2 : Nat) : Int) ∧ u 5 = (((thf (inL G id) (2 ^ gn G - 1) 1024).1 : Nat) : Int) ∧ u 6 = (((thf (inL G id) (2 ^ gn G - 1) 1024).2.1 : Nat) : Int) := by
    intro PS hP
    obtain ⟨w, u, s1, s2, s3⟩ := PS_thick_itself (PS := PS) (as := id) hN hG (fun p hp => hp) (fun p hp => hP p (by omega)) (A := 2 ^ gn G - 1) (by omega)
    unfold thC at s2
    rw [if_neg hfound] at s2
    unfold fPS_findThick0
    rw [N_allPoints hN hG, bds, s1, bds]
    exact ⟨w, u, rfl, s2⟩
  refine ⟨A, B, (thf (inL G id) (2 ^ gn G - 1) 1024).2.2, ⟨t3, t4, t5, hS, q4, ?_, fun s hs h2 => ?_⟩, fun PS hP => ?_⟩
  · rw [← inL_id hG, ← q1, ← q2]; exact t6
  · have h := (hmax s (by omega) h2 (fun i hi => full_bit.mpr (bit_lt hs hi))).2
    rw [q1, q2, inL_id hG, inL_id hG] at h
    exact h
  · obtain ⟨w, u, s1, u4, u5, u6⟩ := hall PS hP
    have n0 : ¬ (N.1 4 < 2) := by rw [hN.1]; omega
    have n1 : nm (N.1 4) = N.1 4 := by rw [hN.1]; exact nmn (by omega)
    refine ⟨⟨(u, ua PS.2 1 w), ?_, hP⟩, ⟨(u, ua PS.2 1 w), ?_, hP⟩, ⟨(u, ua PS.2 1 w), ?_, hP⟩⟩
    · unfold fX_thick fPS_bestAbove fPS_bestBelow
      rw [kf0_e, n1, if_neg n0, if_neg (by decide : ¬ nm 0 < 0), if_neg (by decide : ¬ (2 : Int) < nm 0), s1, bds, if_neg (by decide : ¬ nm 0 = 2), bds, bds]
      show bd (fX_leastTerms (u 5) (u 6) 0) _ = _
      rw [u5, u6, t1, bds]
    · unfold fX_thick fPS_bestAbove fPS_bestBelow
      rw [kf0_e, n1, if_neg n0, if_neg (by decide : ¬ nm 1 < 0), if_neg (by decide : ¬ (2 : Int) < nm 1), s1, bds, if_neg (by decide : ¬ nm 1 = 2), bds, bds]
      show bd (fX_leastTerms (u 5) (u 6) 1) _ = _
      rw [u5, u6, t2, bds]
    · unfold fX_thick fPS_bestSet
      rw [kf0_e, n1, if_neg n0, if_neg (by decide : ¬ nm 2 < 0), if_neg (by decide : ¬ (2 : Int) < nm 2), s1, bds, if_pos (by decide : nm 2 = 2), bds]
      show some (u 4, _) = _
      rw [u4]
/-- the thickness, rounded up, is the fewest forests -/
theorem thick_fewest (hG : GOK G) {A B S : Nat} (h : ThQ G A B S) : (A + B - 1) / B = mxs (shv G 1) (2 ^ gn G) := by
  obtain ⟨h1, h2, h3, h4, h5, h6, h7⟩ := h
  have key : ∀ k, (A + B - 1) / B ≤ k ↔ mxs (shv G 1) (2 ^ gn G) ≤ k := by
    intro k
    rw [ceil_le (by omega), fw_le hG]
    constructor
    · intro h s hs hs0
      by_cases q : 2 ≤ ppc s
      · -- inn s * p ≤ inn S * ps, inn S * B = A * p, A ≤ k * B
        have y1 := h7 s hs q
        have y2 : inn G (snd_ G) S * B ≤ k * B * (ppc S - 1) := by rw [← h6]; exact Nat.mul_le_mul_right _ h
        have y3 : inn G (snd_ G) S ≤ k * (ppc S - 1) := by
          refine Nat.le_of_mul_le_mul_right (show inn G (snd_ G) S * B ≤ k * (ppc S - 1) * B from ?_) (by omega)
          rw [Nat.mul_assoc, Nat.mul_comm (ppc S - 1) B, ← Nat.mul_assoc]; exact y2
        have y4 : inn G (snd_ G) S * (ppc s - 1) ≤ k * (ppc S - 1) * (ppc s - 1) := Nat.mul_le_mul_right _ y3
        refine Nat.le_of_mul_le_mul_right (show inn G (snd_ G) s * (ppc S - 1) ≤ k * (ppc s - 1) * (ppc S - 1) from ?_) (by omega)
        have y5 : k * (ppc S - 1) * (ppc s - 1) = k * (ppc s - 1) * (ppc S - 1) := by rw [Nat.mul_assoc, Nat.mul_comm (ppc S - 1), ← Nat.mul_assoc]
        omega
      · rw [inn_small hG hs (by omega)]; exact Nat.zero_le _
    · intro h
      have y1 := Sp_le h h4
      have y2 : inn G (snd_ G) S * B ≤ k * (ppc S - 1) * B := Nat.mul_le_mul_right _ y1
      refine Nat.le_of_mul_le_mul_right (show A * (ppc S - 1) ≤ k * B * (ppc S - 1) from ?_) (by omega)
      rw [h6]
      have y3 : k * (ppc S - 1) * B = k * B * (ppc S - 1) := by rw [Nat.mul_assoc, Nat.mul_comm (ppc S - 1), ← Nat.mul_assoc]
      omega
  exact Nat.le_antisymm ((key _).mpr (Nat.le_refl _)) ((key _).mp (Nat.le_refl _))
theorem thick_each {A B S s : Nat} (h : ThQ G A B S) (hs : s < 2 ^ gn G) (h2 : 2 ≤ ppc s) : inn G (snd_ G) s * B ≤ A * (ppc s - 1) := by
  obtain ⟨a1, a2, a3, a4, a5, a6, a7⟩ := h
  have y1 := a7 s hs h2
  have y2 : inn G (snd_ G) s * (ppc S - 1) * B ≤ inn G (snd_ G) S * (ppc s - 1) * B := Nat.mul_le_mul_right _ y1
  refine Nat.le_of_mul_le_mul_right (show inn G (snd_ G) s * B * (ppc S - 1) ≤ A * (ppc s - 1) * (ppc S - 1) from ?_) (by omega)
  have e1 : inn G (snd_ G) s * (ppc S - 1) * B = inn G (snd_ G) s * B * (ppc S - 1) := by rw [Nat.mul_assoc, Nat.mul_comm (ppc S - 1), ← Nat.mul_assoc]
  have e2 : inn G (snd_ G) S * (ppc s - 1) * B = inn G (snd_ G) S * B * (ppc s - 1) := by rw [Nat.mul_assoc, Nat.mul_comm (ppc s - 1), ← Nat.mul_assoc]
  have e3 : A * (ppc s - 1) * (ppc S - 1) = A * (ppc S - 1) * (ppc s - 1) := by rw [Nat.mul_assoc, Nat.mul_comm (ppc s - 1), ← Nat.mul_assoc]
  rw [e3, a6]; omega
/-- trees: the most, each k below has them -/
theorem X_trees (hN : RN N G) (hG : GOK G) (hn : 2 ≤ gn G) (PS : ZB) : ∃ (m : Nat) (w : Nat → Int), m ≤ 24 ∧ fX_trees N PS = some ((m : Int), (PS.1, ua PS.2 2 w)) ∧ cnt (gL G) (Tk G (m+1) (snd_ G) (gL G)) ≠ (m + 1) * (gn G - 1) ∧ ∀ t, t < m → cnt (gL G) (Tk G (t+1) (snd_ G) (gL G)) = (t + 1) * (gn G - 1) := by
  have hb := hG.1
  have hcle : ∀ t, cnt (gL G) (Tk G (t+1) (snd_ G) (gL G)) ≤ 24 := fun t => by have := cnt_le (gL G) (Tk G (t+1) (snd_ G) (gL G)); omega
  have hmul : ∀ t : Nat, t ≤ 24 → (t + 1) * (gn G - 1) ≤ 25 * 9 := fun t ht => Nat.mul_le_mul (by omega) (by omega)
  obtain ⟨m, hm1, hm2, hm3⟩ := least_of (fun t => cnt (gL G) (Tk G (t+1) (snd_ G) (gL G)) ≠ (t + 1) * (gn G - 1)) (n := 24) (by
    have := hcle 24
    have : 25 * 1 ≤ (24 + 1) * (gn G - 1) := Nat.mul_le_mul (by omega) (by omega)
    omega)
  have hcast : ∀ t : Nat, (((t : Int) + 1) * ((gn G : Int) - 1)) = (((t + 1) * (gn G - 1) : Nat) : Int) := fun t => by
    have h1 : (gn G : Int) - 1 = ((gn G - 1 : Nat) : Int) := by omega
    have h2 : (t : Int) + 1 = ((t + 1 : Nat) : Int) := by omega
    rw [h1, h2, ← Int.natCast_mul]
  have cls : ∃ w, fPS_mostTrees N PS = some ((m : Int), (PS.1, ua PS.2 2 w)) := by
    have main : wp (fPS_mostTrees N PS) (fun r => ∃ w, r = ((m : Int), ((PS.1, ua PS.2 2 w) : ZB))) := by
      unfold fPS_mostTrees
      rw [lt_e, hN.1]
      refine lop2_w (fun v2 C => ∃ (t : Nat) (w : Nat → Int), v2 = (t : Int) ∧ C = (PS.1, ua PS.2 2 w) ∧ t ≤ m) (fun v2 _ => m - v2.toNat) ?_ FU _ _ ⟨0, PS.2 2, rfl, by rw [ua_self], by omega⟩ (by show m - _ < 100000; omega)
      intro rec v2 C hI hrec
      obtain ⟨t, w, rfl, rfl, ht⟩ := hI
      simp only [kf1]
      rw [nmn (by omega)]
      by_cases h24 : t < 24
      · obtain ⟨w2, e1, e2⟩ := PS_byNumber hN hG (k := t + 1) (by omega) (PS.1, ua PS.2 2 w)
        have hc := hcle t
        have hmu := hmul t (by omega)
        rw [if_pos (by omega), show (t : Int) + 1 = ((t + 1 : Nat) : Int) by omega, e1, bds, bitCount_bs (by omega), bds]
        rw [show ((t + 1 : Nat) : Int) = (t : Int) + 1 by omega, hcast t, nmn (by omega), nmn (by omega)]
        simp only [ua_up]
        by_cases e : t = m
        · subst e
          rw [if_neg (by omega)]
          exact ⟨_, rfl, w2, rfl⟩
        · have := hm3 t (by omega)
          rw [if_pos (by omega)]
          exact hrec _ _ ⟨t+1, w2, by omega, rfl, by omega⟩ (by omega)
      · rw [if_neg (by omega)]
        exact ⟨_, rfl, w, by rw [show t = m by omega]⟩
    obtain ⟨r, h1, w, h2⟩ := main
    exact ⟨w, by rw [h1, h2]⟩
  obtain ⟨w, hw⟩ := cls
  refine ⟨m, w, hm1, ?_, hm2, fun t ht => ?_⟩
  · unfold fX_trees
    simp only [kf2]
    rw [hN.1, nmn (by omega), if_neg (by omega : ¬ (gn G : Int) < 2), hw, bds]
  · have := hm3 t ht
    omega
theorem X_strength (hN : RN N G) (hG : GOK G) (hn : 2 ≤ gn G) : ∃ B P A D : Nat, Bst G B P ∧ A ≤ 24 ∧ 1 ≤ D ∧ D ≤ 10 ∧ A * (P - 1) = B * D ∧ ∀ PS Pa, IPS PS → (∃ P' Q', fX_strength N PS Pa 0 = some ((A : Int), P', Q') ∧ IPS P') ∧ (∃ P' Q', fX_strength N PS Pa 1 = some ((D : Int), P', Q') ∧ IPS P') := by
  have hb := hG.1
  obtain ⟨w0, Pa0, B, P, -, -, -, hBst⟩ := Pa_weak (PS := iPS) hN hG hn (by intro p hp; rcases (show p = 0 ∨ p = 1 ∨ p = 2 ∨ p = 3 ∨ p = 4 ∨ p = 5 ∨ p = 6 ∨ p = 7 ∨ p = 8 ∨ p = 9 by omega) with rfl | rfl | rfl | rfl | rfl | rfl | rfl | rfl | rfl | rfl <;> rfl) (iZ, 0, 0)
  obtain ⟨hP2, ⟨c3, g1, g2⟩, hmin⟩ := hBst
  have hBl := bcn_le G (gn G) c3
  have hPl := pcs_le (gn G) c3
  obtain ⟨A, D, t1, t2, t3, t4, t5, t6⟩ := terms_q (a := B) (b := P - 1) (by omega) (by omega) (by omega)
  refine ⟨B, P, A, D, ⟨hP2, ⟨c3, g1, g2⟩, hmin⟩, t3, t4, t5, t6, fun PS Pa hP => ?_⟩
  obtain ⟨w, Pa', B', P', w1, w2, w3, w4⟩ := Pa_weak hN hG hn hP Pa
  obtain ⟨f1, f2⟩ := Bst_uniq w4 ⟨hP2, ⟨c3, g1, g2⟩, hmin⟩
  subst f1
  subst f2
  have n0 : ¬ (N.1 4 < 2) := by rw [hN.1]; omega
  have n1 : nm (N.1 4) = N.1 4 := by rw [hN.1]; exact nmn (by omega)
  have ecast : (P' : Int) - 1 = ((P' - 1 : Nat) : Int) := by omega
  have w2' : ((((PS.1, ua PS.2 1 w), Pa') : ZB × ZQ).2).1.1 4 = (B' : Int) := w2
  have w3' : ((((PS.1, ua PS.2 1 w), Pa') : ZB × ZQ).2).1.1 5 = (P' : Int) := w3
  constructor
  · refine ⟨(PS.1, ua PS.2 1 w), Pa', ?_, hP⟩
    unfold fX_strength fPa_pieces fPa_above
    rw [kf0_e, n1, if_neg n0, if_neg (by decide : ¬ nm 0 < 0), if_neg (by decide : ¬ (2 : Int) < nm 0), w1, bds, if_neg (by decide : ¬ nm 0 = 2), bds, bds, w2', w3', ecast, t1, bds]
  · refine ⟨(PS.1, ua PS.2 1 w), Pa', ?_, hP⟩
    unfold fX_strength fPa_pieces fPa_above
    rw [kf0_e, n1, if_neg n0, if_neg (by decide : ¬ nm 1 < 0), if_neg (by decide : ¬ (2 : Int) < nm 1), w1, bds, if_neg (by decide : ¬ nm 1 = 2), bds, bds, w2', w3', ecast, t2, bds]
theorem X_crowded (hN : RN N G) (hG : GOK G) (hP : IPS PS) {k : Nat} (hk : k ≤ 24) : ∃ w, fX_crowded N PS (k : Int) = some ((((crf G k (2 ^ gn G)).1 : Nat) : Int), (PS.1, ua PS.2 1 w)) := by
  obtain ⟨w, h1⟩ := PS_crowded hN hG hP (k := k) hk
  unfold fX_crowded
  simp only [kf0, kf2]
  rw [nmn (by omega), if_neg (by omega : ¬ (k : Int) < 0), if_neg (by omega : ¬ 24 < (k : Int)), h1, bds]
  exact ⟨w, rfl⟩
/-- the crowd that is told: none, where there is none; else one with too many lines -/
theorem crf_what (hG : GOK G) {k : Nat} (m : Nat) : m ≤ 2 ^ gn G → ((crf G k m).1 = 0 ∧ (crf G k m).2 = 0 ∧ ∀ s, s < m → 2 ≤ ppc s → crD G k s ≤ 0) ∨ ((crf G k m).1 ≠ 0 ∧ (crf G k m).1 < m ∧ 2 ≤ ppc (crf G k m).1 ∧ 0 < (crf G k m).2 ∧ (crf G k m).2 = crD G k (crf G k m).1) := by
  induction m with
  | zero => intro _; exact Or.inl ⟨rfl, rfl, fun s h => absurd h (Nat.not_lt_zero s)⟩
  | succ m ih =>
    intro hm
    have i0 := ih (by omega)
    by_cases hu : 2 ≤ ppc m ∧ ((crf G k m).2 < crD G k m ∨ (crD G k m = (crf G k m).2 ∧ (crf G k m).1 ≠ 0 ∧ ppc m < ppc (crf G k m).1))
    · rw [crf_t hu]
      right
      have hm0 : m ≠ 0 := fun e => by rw [e] at hu; exact absurd hu.1 (by decide)
      refine ⟨hm0, Nat.lt_succ_self m, hu.1, ?_, rfl⟩
      show 0 < crD G k m
      rcases i0 with ⟨a1, a2, a3⟩ | ⟨a1, a2, a3, a4, a5⟩
      · rcases hu.2 with z | z
        · omega
        · exact absurd a1 z.2.1
      · rcases hu.2 with z | z <;> omega
    · rw [crf_f hu]
      rcases i0 with ⟨a1, a2, a3⟩ | ⟨a1, a2, a3, a4, a5⟩
      · refine Or.inl ⟨a1, a2, fun s hs h2 => ?_⟩
        by_cases e : s = m
        · subst e
          rcases Int.lt_or_le 0 (crD G k s) with z | z
          · exact absurd ⟨h2, Or.inl (by omega)⟩ hu
          · exact z
        · exact a3 s (by omega) h2
      · exact Or.inr ⟨a1, by omega, a3, a4, a5⟩
theorem crD_le {k s : Nat} (h : 1 ≤ ppc s) : crD G k s ≤ 0 ↔ inn G (snd_ G) s ≤ k * (ppc s - 1) := by
  unfold crD
  have e : (k : Int) * (((ppc s : Nat) : Int) - 1) = ((k * (ppc s - 1) : Nat) : Int) := by
    rw [Int.natCast_mul, Int.natCast_sub h]; rfl
  rw [e]; omega
theorem crf_zero (hG : GOK G) {k : Nat} : (crf G k (2 ^ gn G)).1 = 0 ↔ Sp G k (snd_ G) := by
  have hb := hG.1
  rcases crf_what (k := k) hG (2 ^ gn G) (Nat.le_refl _) with ⟨a1, a2, a3⟩ | ⟨a1, a2, a3, a4, a5⟩
  · refine ⟨fun _ s hs hs0 => ?_, fun _ => a1⟩
    by_cases q : 2 ≤ ppc s
    · exact (crD_le (by omega)).mp (a3 s hs q)
    · rw [inn_small hG hs (by omega)]; exact Nat.zero_le _
  · refine ⟨fun z => absurd z a1, fun h => ?_⟩
    have := (crD_le (G := G) (k := k) (s := (crf G k (2 ^ gn G)).1) (by omega)).mpr (Sp_le h a2)
    omega
end
