-- needs: 07zzz06.thick
/-! thick, layers -/
def lsbf : Nat → Nat → Nat
  | 0, _ => 0
  | n + 1, s => if s % 2 = 1 then 0 else lsbf n (s / 2) + 1
def lsb (s : Nat) : Nat := lsbf 10 s
theorem lsb_all : ∀ s : Fin 1024, s.val ≠ 0 → zand (s.val : Int) (-(s.val : Int)) = ((2 ^ lsb s.val : Nat) : Int) ∧ lsb s.val < 10 ∧ s.val.testBit (lsb s.val) = true ∧ (s.val &&& (s.val - 1)) = s.val ^^^ 2 ^ lsb s.val := by decide +kernel
theorem lsb_low : ∀ s : Fin 1024, ∀ j : Fin 10, j.val < lsb s.val → s.val.testBit j.val = false := by decide +kernel
theorem bc_low : ∀ l : Fin 10, fJI_bitCount (((2 ^ l.val : Nat) : Int) - 1) = some (l.val : Int) := by decide +kernel
theorem terms_all : ∀ a : Fin 25, ∀ b : Fin 10, ∀ w : Fin 2, fX_leastTerms (a.val : Int) (b.val + 1 : Nat) (w.val : Int) = fM_part (a.val : Int) (b.val + 1 : Nat) (w.val : Int) ∧ (fM_part (a.val : Int) (b.val + 1 : Nat) (w.val : Int)).isSome = true := by decide +kernel
theorem terms {a b : Nat} {w : Int} (ha : a ≤ 24) (hb : 1 ≤ b) (hb2 : b ≤ 10) (hw : w = 0 ∨ w = 1) : ∃ v, fX_leastTerms (a : Int) (b : Int) w = some v ∧ fM_part (a : Int) (b : Int) w = some v := by
  have h := terms_all ⟨a, by omega⟩ ⟨b - 1, by omega⟩ ⟨w.toNat, by omega⟩
  simp only at h
  rw [show b - 1 + 1 = b by omega, show ((w.toNat : Nat) : Int) = w by omega] at h
  obtain ⟨v, hv⟩ := Option.isSome_iff_exists.mp h.2
  exact ⟨v, by rw [h.1, hv], hv⟩
theorem thf_found {f : Nat → Nat} {A : Nat} (m : Nat) : (∃ s, s < m ∧ 2 ≤ ppc s ∧ ∀ i, s.testBit i = true → A.testBit i = true) → (thf f A m).2.1 ≠ 0 := by
  induction m with
  | zero => rintro ⟨s, h, _⟩; omega
  | succ m ih =>
    rintro ⟨s, h1, h2, h3⟩
    by_cases hu : thU f A m (thf f A m)
    · rw [thf_t hu]; have := hu.2.1; show ppc m - 1 ≠ 0; omega
    · rw [thf_f hu]
      by_cases e : s = m
      · subst e
        intro z
        exact hu ⟨h3, h2, Or.inl z⟩
      · exact ih ⟨s, by omega, h2, h3⟩
theorem full_bit {n i : Nat} : (2 ^ n - 1).testBit i = true ↔ i < n := by
  rw [Nat.testBit_two_pow_sub_one, decide_eq_true_iff]
section
variable {N M PS Ly : ZB} {G : GV} {as : Nat → Nat}
theorem M_standAlone (M : ZB) : ∃ g, fM_standAlone M = some (M.1, ua M.2 35 g) ∧ ∀ p, p < 10 → g p = (p : Nat) := by
  have main : wp (fM_standAlone M) (fun r => ∃ g, r = (M.1, ua M.2 35 g) ∧ ∀ p, p < 10 → g p = (p : Nat)) := by
    unfold fM_standAlone
    refine lop2_w (fun v1 C => ∃ (k : Nat) (g : Nat → Int), v1 = (k : Int) ∧ k ≤ 10 ∧ C = (M.1, ua M.2 35 g) ∧ ∀ p, p < k → g p = (p : Nat)) (fun v1 _ => 10 - v1.toNat) ?_ FU _ _ ⟨0, M.2 35, rfl, by omega, by rw [ua_self], fun p h => absurd h (Nat.not_lt_zero p)⟩ (by show 10 - _ < 100000; omega)
    intro rec v1 C hI hrec
    obtain ⟨k, g, rfl, hk, rfl, hg⟩ := hI
    rw [nmn (by omega)]
    by_cases h : k < 10
    · rw [if_pos (by omega), ixn (by omega), lt_e, Int.toNat_natCast]
      simp only [ua_e, ua_up]
      refine hrec _ _ ⟨k+1, up g k (k : Int), by omega, by omega, rfl, fun p hp => ?_⟩ (by omega)
      by_cases e : p = k
      · subst e; rw [up_e]
      · rw [up_n _ _ e]; exact hg p (by omega)
    · rw [if_neg (by omega)]
      exact ⟨_, rfl, g, rfl, fun p hp => hg p (by omega)⟩
  obtain ⟨r, h1, g, h2, h3⟩ := main
  exact ⟨g, by rw [h1, h2], h3⟩
theorem liv_id (hG : GOK G) : bs (gL G) (liv G id) = bs (gL G) (fun l => ¬ gbr G l) := bs_ext (fun l hl => ⟨fun h => h.1, fun h => ⟨h, (hG.2.1 l hl).2.2.1⟩⟩)
end
theorem sim29 : Sim29 INV := by
  intro X N T Rd Fr Ac Ch PS Ly Pa OT Ea Ga c0 c1 M a1 hI hr1
  have keep0 : INV X N T Rd Fr Ac Ch PS Ly Pa OT Ea Ga c0 c1 (up M.1 0 0, M.2) := hI
  obtain ⟨⟨G, hG, hN, hM⟩, hT, hR, hA, hC, hGa, hi0, hi1, hP⟩ := hI
  have hb := hG.1
  have hp := Nat.two_pow_pos (gn G)
  have h10 : 2 ^ gn G ≤ 1024 := Nat.pow_le_pow_right (n := 2) (by omega) hb.1
  have hM1 : RW (((up M.1 0 0, M.2) : ZB).2 12) G := hM
  unfold fX_thick fM_thick
  rw [lt_e, M_points hM1, bds, kf0_e, kf0_e, hN.1, nmn (by omega)]
  by_cases q : gn G < 2
  · rw [if_pos (by omega : (gn G : Int) < 2), if_pos (by omega : (gn G : Int) < 2)]; exact ⟨_, _, rfl, rfl, rfl, keep0⟩
  rw [if_neg (by omega : ¬ (gn G : Int) < 2), if_neg (by omega : ¬ (gn G : Int) < 2), M_isIn hr1 (by omega) (by omega), bds, nmi hr1]
  by_cases r : 0 ≤ a1 ∧ a1 ≤ 2
  · obtain ⟨w, u, t1, t2, t3⟩ := PS_thick_itself (PS := PS) (as := id) hN hG (fun p hp => hp) (fun p hp => hP p (by omega)) (A := 2 ^ gn G - 1) (by omega)
    obtain ⟨g0, s1, s2⟩ := M_standAlone (up M.1 0 0, M.2)
    have hM2 : RW (((up M.1 0 0, ua M.2 35 g0) : ZB).2 12) G := hM
    obtain ⟨g, l1, l2, l3, l4⟩ := M_laysThick (M := (up M.1 0 0, ua M.2 35 g0)) (as := id) hM2 hG (fun p hp => hp) (fun p hp => s2 p (by omega)) (A := 2 ^ gn G - 1) (by omega)
    rw [liv_id hG] at l1
    have hfound := thf_found (f := inL G id) (A := 2 ^ gn G - 1) 1024 ⟨3, by omega, by decide, fun i hi => by
      rw [full_bit]
      have := bit_lt (n := 2) (x := 3) (by decide) hi
      omega⟩
    have hz : thf (inL G id) (2 ^ gn G - 1) 1024 ≠ (0, 0, 0) := fun e => hfound (by rw [e])
    rcases thf_r (f := inL G id) (A := 2 ^ gn G - 1) 1024 with hz2 | ⟨q1, q2, q3, q4, q5⟩
    · exact absurd hz2 hz
    have hsl := sub_le q5
    have hpb := ppc_le (n := gn G) (s := (thf (inL G id) (2 ^ gn G - 1) 1024).2.2) (by omega) (by omega)
    have hil2 : inL G id (thf (inL G id) (2 ^ gn G - 1) 1024).2.2 ≤ gL G := cnt_le _ _
    unfold thC at t2
    rw [if_neg hfound] at t2
    obtain ⟨u4, u5, u6⟩ := t2
    have hkeep : INV X N T Rd Fr Ac Ch (u, ua PS.2 1 w) Ly Pa OT Ea Ga c0 c1 (up M.1 0 0, ua (ua M.2 35 g0) 34 g) := ⟨⟨G, hG, hN, hM⟩, hT, hR, hA, hC, hGa, hi0, hi1, hP⟩
    have hall : zshl 1 ((gn G : Nat) : Int) - 1 = ((2 ^ gn G - 1 : Nat) : Int) := by rw [zshln (by omega)]; omega
    unfold fPS_findThick0
    rw [if_neg (by omega : ¬ a1 < 0), if_neg (by omega : ¬ 2 < a1), q10t r, N_allPoints hN hG, bds, t1, bds, bds, s1, bds, M_points hM2, bds, M_sound hM2 hG, bds, hall, l1, bds]
    simp only [kf1]
    by_cases z2 : a1 = 2
    · rw [if_pos z2, if_pos z2]
      unfold fPS_bestSet
      rw [bds]
      refine ⟨_, ((((thf (inL G id) (2 ^ gn G - 1) 1024).2.2 : Nat) : Int), (up M.1 0 0, ua (ua M.2 35 g0) 34 g)), rfl, ?_, u4, hkeep⟩
      rw [rdi (by omega)]
      show some (g 2, _) = _
      rw [l4]
    · obtain ⟨v, v1, v2⟩ := terms (a := (thf (inL G id) (2 ^ gn G - 1) 1024).1) (b := (thf (inL G id) (2 ^ gn G - 1) 1024).2.1) (w := a1) (by omega) (by omega) (by omega) (by omega)
      rw [if_neg z2, if_neg z2]
      unfold fPS_bestAbove fPS_bestBelow
      rw [bds, bds]
      have e1 : fX_leastTerms (((u, ua PS.2 1 w) : ZB).1 5) (((u, ua PS.2 1 w) : ZB).1 6) a1 = some v := by
        show fX_leastTerms (u 5) (u 6) a1 = _
        rw [u5, u6]; exact v1
      rw [e1, bds]
      refine ⟨_, (v, (up M.1 0 0, ua (ua M.2 35 g0) 34 g)), rfl, ?_, rfl, hkeep⟩
      rw [rdi (by omega), rdi (by omega)]
      show bd (fM_part (g 0) (g 1) a1) _ = _
      rw [l2, l3, v2, bds]
  · rw [q10f r]
    refine ⟨(-1, PS), _, ?_, rfl, rfl, keep0⟩
    by_cases z : a1 < 0
    · rw [if_pos z]
    · rw [if_neg z, if_pos (by omega)]
/-! layers -/
noncomputable def lam (G : GV) (as : Nat → Nat) : Nat := bs (gn G) (fun p => as p = p)
noncomputable def lyT (G : GV) (as : Nat → Nat) : Nat × Nat × Nat := thf (inL G as) (lam G as) 1024
noncomputable def lyN (G : GV) (as : Nat → Nat) : Nat → Nat := fun p => if (lyT G as).2.2.testBit (as p) = true then lsb (lyT G as).2.2 else as p
noncomputable def lyA (G : GV) (as : Nat → Nat) : Nat := bs (gn G) (fun p => (lyT G as).2.2.testBit (as p) = true)
noncomputable def lyi (G : GV) : Nat → (Nat → Nat)
  | 0 => id
  | t + 1 => lyN G (lyi G t)
def lyL (G : GV) (as : Nat → Nat) : Prop := ∃ l, l < gL G ∧ liv G as l
def lyE (G : GV) (T : Nat) : Prop := (∀ t, t < T → lyL G (lyi G t)) ∧ ¬ lyL G (lyi G T)
def lyR (G : GV) (as : Nat → Nat) : Prop := ∀ p, p < gn G → as p < gn G ∧ as (as p) = as p
section
variable {N M PS Ly : ZB} {G : GV} {as : Nat → Nat}
theorem lyE_uniq {T T' : Nat} (h : lyE G T) (h' : lyE G T') : T = T' := by
  rcases Nat.lt_trichotomy T T' with z | z | z
  · exact absurd (h'.1 T z) h.2
  · exact z
  · exact absurd (h.1 T' z) h'.2
theorem lyT_ok (hG : GOK G) (hR : lyR G as) (hL : lyL G as) : (lyT G as).2.1 ≠ 0 ∧ (lyT G as).1 ≤ 24 ∧ (lyT G as).2.1 ≤ 9 ∧ (lyT G as).2.2 < 2 ^ gn G ∧ (lyT G as).2.2 ≠ 0 ∧ 2 ≤ ppc (lyT G as).2.2 ∧ ∀ i, (lyT G as).2.2.testBit i = true → i < gn G ∧ as i = i := by
  have hb := hG.1
  obtain ⟨l, hl, hlv⟩ := hL
  have hv := hG.2.1 l hl
  obtain ⟨ra, ra2⟩ := hR _ hv.1
  obtain ⟨rb, rb2⟩ := hR _ hv.2.1
  have hPlt : (2 ^ as (ga G l) ||| 2 ^ as (gb G l)) < 2 ^ gn G := Nat.or_lt_two_pow (Nat.pow_lt_pow_right (by omega) ra) (Nat.pow_lt_pow_right (by omega) rb)
  have h10 : 2 ^ gn G ≤ 1024 := Nat.pow_le_pow_right (n := 2) (by omega) hb.1
  have hbit : ∀ i, (2 ^ as (ga G l) ||| 2 ^ as (gb G l)).testBit i = true ↔ (i = as (ga G l) ∨ i = as (gb G l)) := by
    intro i
    rw [Nat.testBit_or, Bool.or_eq_true, Nat.testBit_two_pow, Nat.testBit_two_pow, decide_eq_true_iff, decide_eq_true_iff]
    constructor
    · rintro (h | h)
      · exact Or.inl h.symm
      · exact Or.inr h.symm
    · rintro (h | h)
      · exact Or.inl h.symm
      · exact Or.inr h.symm
  have hfound : (lyT G as).2.1 ≠ 0 := thf_found 1024 ⟨_, by omega, ppc_two (n := gn G) (by omega) hPlt ((hbit _).mpr (Or.inl rfl)) ((hbit _).mpr (Or.inr rfl)) hlv.2, fun i hi => by
    unfold lam
    rw [bs_bit]
    rcases (hbit i).mp hi with rfl | rfl
    · exact ⟨ra, ra2⟩
    · exact ⟨rb, rb2⟩⟩
  rcases thf_r (f := inL G as) (A := lam G as) 1024 with hz | ⟨q1, q2, q3, q4, q5⟩
  · exact absurd (show (lyT G as).2.1 = 0 by unfold lyT; rw [hz]) hfound
  · have hsub : ∀ i, (lyT G as).2.2.testBit i = true → i < gn G ∧ as i = i := fun i hi => (bs_bit _ (fun p => as p = p) i).mp (q5 i hi)
    have hlt : (lyT G as).2.2 < 2 ^ gn G := Nat.lt_of_le_of_lt (sub_le q5) (bs_lt _ _)
    have hpl := ppc_le (n := gn G) (s := (lyT G as).2.2) (by omega) hlt
    have hil : inL G as (lyT G as).2.2 ≤ gL G := cnt_le _ _
    have q1' : (lyT G as).1 = inL G as (lyT G as).2.2 := q1
    have q2' : (lyT G as).2.1 = ppc (lyT G as).2.2 - 1 := q2
    have q4' : 2 ≤ ppc (lyT G as).2.2 := q4
    refine ⟨hfound, by omega, by omega, hlt, ?_, q4', hsub⟩
    intro e
    rw [e] at q4'
    have := ppc_012.1
    omega
theorem lsb_ok {s n : Nat} (hs : s < 2 ^ n) (hn : n ≤ 10) (h0 : s ≠ 0) : zand (s : Int) (-(s : Int)) = ((2 ^ lsb s : Nat) : Int) ∧ lsb s < n ∧ s.testBit (lsb s) = true ∧ (s &&& (s - 1)) = s ^^^ 2 ^ lsb s ∧ ∀ j, j < lsb s → ¬ s.testBit j = true := by
  have h10 : 2 ^ n ≤ 1024 := Nat.pow_le_pow_right (n := 2) (by omega) hn
  obtain ⟨h1, h2, h3, h4⟩ := lsb_all ⟨s, by omega⟩ h0
  simp only at h1 h2 h3 h4
  refine ⟨h1, bit_lt hs h3, h3, h4, fun j hj => ?_⟩
  have := lsb_low ⟨s, by omega⟩ ⟨j, by omega⟩ hj
  simp only at this
  rw [this]; decide
theorem lyN_R (hG : GOK G) (hR : lyR G as) (hL : lyL G as) : lyR G (lyN G as) := by
  have hb := hG.1
  obtain ⟨t1, t2, t3, t4, t5, t6, t7⟩ := lyT_ok hG hR hL
  obtain ⟨l1, l2, l3, l4, l5⟩ := lsb_ok t4 hb.1 t5
  intro p hp
  unfold lyN
  by_cases h : (lyT G as).2.2.testBit (as p) = true
  · rw [if_pos h, (t7 _ l3).2, if_pos l3]; exact ⟨l2, rfl⟩
  · rw [if_neg h]
    obtain ⟨r1, r2⟩ := hR p hp
    rw [r2, if_neg h]; exact ⟨r1, rfl⟩
theorem lam_next (hG : GOK G) (hR : lyR G as) (hL : lyL G as) : lam G (lyN G as) = bs (gn G) (fun p => as p = p ∧ (¬ (lyT G as).2.2.testBit p = true ∨ p = lsb (lyT G as).2.2)) := by
  have hb := hG.1
  obtain ⟨t1, t2, t3, t4, t5, t6, t7⟩ := lyT_ok hG hR hL
  obtain ⟨l1, l2, l3, l4, l5⟩ := lsb_ok t4 hb.1 t5
  unfold lam
  apply bs_ext; intro p hp
  unfold lyN
  constructor
  · intro h
    by_cases k : (lyT G as).2.2.testBit (as p) = true
    · rw [if_pos k] at h
      exact ⟨by rw [← h]; exact (t7 _ l3).2, Or.inr h.symm⟩
    · rw [if_neg k] at h
      rw [h] at k
      exact ⟨h, Or.inl k⟩
  · rintro ⟨h1, h2⟩
    rw [h1]
    rcases h2 with h2 | h2
    · rw [if_neg h2]
    · rw [h2, if_pos l3]
theorem lam_less (hG : GOK G) (hR : lyR G as) (hL : lyL G as) : cnt (gn G) (fun p => lyN G as p = p) < cnt (gn G) (fun p => as p = p) := by
  have hb := hG.1
  obtain ⟨t1, t2, t3, t4, t5, t6, t7⟩ := lyT_ok hG hR hL
  obtain ⟨l1, l2, l3, l4, l5⟩ := lsb_ok t4 hb.1 t5
  have hex : ∃ i, (lyT G as).2.2.testBit i = true ∧ i ≠ lsb (lyT G as).2.2 := by
    by_cases k : ∃ i, (lyT G as).2.2.testBit i = true ∧ i ≠ lsb (lyT G as).2.2
    · exact k
    · exfalso
      rw [ppc_cnt (n := gn G) (by omega) t4] at t6
      have hd := cnt_del (n := gn G) (r := lsb (lyT G as).2.2) (p := fun i => (lyT G as).2.2.testBit i = true) l2 l3
      have : cnt (gn G) (fun i => (lyT G as).2.2.testBit i = true ∧ i ≠ lsb (lyT G as).2.2) = 0 := cnt_zero (fun i _ h => k ⟨i, h⟩)
      omega
  obtain ⟨i, i1, i2⟩ := hex
  refine cnt_lt (i := i) (fun p hp h => ?_) (t7 i i1).1 (t7 i i1).2 ?_
  · unfold lyN at h
    by_cases k : (lyT G as).2.2.testBit (as p) = true
    · rw [if_pos k] at h; rw [← h]; exact (t7 _ l3).2
    · rw [if_neg k] at h; exact h
  · intro h
    unfold lyN at h
    rw [(t7 i i1).2, if_pos i1] at h
    exact i2 h.symm
theorem lyi_R (hG : GOK G) : ∀ t, (∀ s, s < t → lyL G (lyi G s)) → lyR G (lyi G t) ∧ t + cnt (gn G) (fun p => lyi G t p = p) ≤ gn G := by
  intro t
  induction t with
  | zero =>
    intro _
    refine ⟨fun p hp => ⟨hp, rfl⟩, ?_⟩
    have := cnt_le (gn G) (fun p => lyi G 0 p = p)
    omega
  | succ t ih =>
    intro h
    obtain ⟨h1, h2⟩ := ih (fun s hs => h s (by omega))
    have hL := h t (by omega)
    have := lam_less hG h1 hL
    refine ⟨lyN_R hG h1 hL, ?_⟩
    show t + 1 + cnt (gn G) (fun p => lyN G (lyi G t) p = p) ≤ gn G
    omega
theorem lyi_lt (hG : GOK G) {t : Nat} (h : ∀ s, s < t → lyL G (lyi G s)) (hL : lyL G (lyi G t)) : t ≤ 8 := by
  have hb := hG.1
  obtain ⟨h1, h2⟩ := lyi_R hG t h
  obtain ⟨l, hl, hlv⟩ := hL
  have hv := hG.2.1 l hl
  obtain ⟨ra, ra2⟩ := h1 _ hv.1
  obtain ⟨rb, rb2⟩ := h1 _ hv.2.1
  have d1 := cnt_del (n := gn G) (p := fun p => lyi G t p = p) ra ra2
  have d2 := cnt_del (n := gn G) (p := fun p => lyi G t p = p ∧ p ≠ lyi G t (ga G l)) rb ⟨rb2, fun e => hlv.2 e.symm⟩
  omega
end
