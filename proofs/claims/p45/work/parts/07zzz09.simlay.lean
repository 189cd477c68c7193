-- needs: 07zzz08.melt
/-! layers: the reference and the two calls -/
def LM (G : GV) (t : Nat) (q : Nat → Int) : Prop := ∀ j, j < t → q (3*j) = ((lyT G (lyi G j)).1 : Nat) ∧ q (3*j+1) = ((lyT G (lyi G j)).2.1 : Nat) ∧ q (3*j+2) = ((lyA G (lyi G j) : Nat) : Int)
def MF (M M' : ZB) : Prop := (∀ i, i ≠ 40 → M'.1 i = M.1 i) ∧ ∀ i, i ≠ 34 → i ≠ 35 → i ≠ 39 → M'.2 i = M.2 i
theorem MF_eq {M M' : ZB} (h : MF M M') : M' = (up M.1 40 (M'.1 40), ua (ua (ua M.2 34 (M'.2 34)) 35 (M'.2 35)) 39 (M'.2 39)) := by
  obtain ⟨h1, h2⟩ := h
  have e1 : M'.1 = up M.1 40 (M'.1 40) := by
    funext i
    by_cases e : i = 40
    · subst e; rw [up_e]
    · rw [up_n _ _ e]; exact h1 i e
  have e2 : M'.2 = ua (ua (ua M.2 34 (M'.2 34)) 35 (M'.2 35)) 39 (M'.2 39) := by
    funext i
    by_cases e : i = 39
    · subst e; rw [ua_e]
    · rw [ua_n _ _ e]
      by_cases e' : i = 35
      · subst e'; rw [ua_e]
      · rw [ua_n _ _ e']
        by_cases e'' : i = 34
        · subst e''; rw [ua_e]
        · rw [ua_n _ _ e'']; exact h2 i e'' e' e
  rw [← e1, ← e2]
theorem lay_write (Mb : ZB) {t : Nat} (h40 : Mb.1 40 = (t : Int)) (ht : t ≤ 9) (v : Int) : ∃ Mx : ZB, (∀ (β : Type) (k : ZB → Option β),
    (rd (Mb.2 34) 3 0 fun x_23 =>
      ix 30 (3 * (Mb.1 40)) <| lt (Mb.1, ua Mb.2 39 (up (Mb.2 39) (Int.toNat (3 * (Mb.1 40))) x_23)) fun M_24 =>
      rd (M_24.2 34) 3 1 fun x_25 =>
      ix 30 ((3 * (M_24.1 40)) + 1) <| lt (M_24.1, ua M_24.2 39 (up (M_24.2 39) (Int.toNat ((3 * (M_24.1 40)) + 1)) x_25)) fun M_26 =>
      ix 30 ((3 * (M_26.1 40)) + 2) <| lt (M_26.1, ua M_26.2 39 (up (M_26.2 39) (Int.toNat ((3 * (M_26.1 40)) + 2)) v)) fun M_27 =>
      lt (up M_27.1 40 (((M_27.1 40) + 1)), M_27.2) k) = k Mx) ∧ Mx.1 = up Mb.1 40 ((t : Int) + 1) ∧ Mx.2 = ua Mb.2 39 (up (up (up (Mb.2 39) (3*t) (Mb.2 34 0)) (3*t+1) (Mb.2 34 1)) (3*t+2) v) := by
  refine ⟨(up Mb.1 40 ((t : Int) + 1), ua Mb.2 39 (up (up (up (Mb.2 39) (3*t) (Mb.2 34 0)) (3*t+1) (Mb.2 34 1)) (3*t+2) v)), fun β k => ?_, rfl, rfl⟩
  have a0 : Int.toNat (3 * (t : Int)) = 3 * t := by omega
  have a1 : Int.toNat (3 * (t : Int) + 1) = 3 * t + 1 := by omega
  have a2 : Int.toNat (3 * (t : Int) + 2) = 3 * t + 2 := by omega
  have r0 : ∀ (f : Nat → Int) (k : Int → Option β), rd f 3 0 k = k (f 0) := fun f k => rdi (by omega)
  have r1 : ∀ (f : Nat → Int) (k : Int → Option β), rd f 3 1 k = k (f 1) := fun f k => rdi (by omega)
  have b0 : ∀ k : Option β, ix 30 (3 * (t : Int)) k = k := fun k => ixi (by omega)
  have b1 : ∀ k : Option β, ix 30 (3 * (t : Int) + 1) k = k := fun k => ixi (by omega)
  have b2 : ∀ k : Option β, ix 30 (3 * (t : Int) + 2) k = k := fun k => ixi (by omega)
  have c : ∀ f, ua Mb.2 39 f 34 = Mb.2 34 := fun f => ua_n _ _ (by decide)
  simp only [lt_e, h40, a0, a1, a2, r0, r1, b0, b1, b2, ua_e, ua_up, c]
section
variable {N M PS Ly : ZB} {G : GV} {as : Nat → Nat}
theorem M_laysLayers (hM : RW (M.2 12) G) (hG : GOK G) : ∃ (T : Nat) (M' : ZB), fM_laysLayers M = some M' ∧ T ≤ 9 ∧ lyE G T ∧ M'.1 40 = (T : Int) ∧ LM G T (M'.2 39) ∧ MF M M' := by
  have hb := hG.1
  have hp := Nat.two_pow_pos (gn G)
  have h10 : 2 ^ gn G ≤ 1024 := Nat.pow_le_pow_right (n := 2) (by omega) hb.1
  have main : wp (fM_laysLayers M) (fun M' => ∃ T : Nat, T ≤ 9 ∧ lyE G T ∧ M'.1 40 = (T : Int) ∧ LM G T (M'.2 39) ∧ MF M M') := by
    obtain ⟨g0, s1, s2⟩ := M_standAlone M
    unfold fM_laysLayers
    have hM0 : RW (((up M.1 40 0, ua M.2 35 g0) : ZB).2 12) G := hM
    have hall : zshl 1 ((gn G : Nat) : Int) - 1 = ((lam G (lyi G 0) : Nat) : Int) := by
      have : 2 ^ gn G - 1 = lam G (lyi G 0) := by
        unfold lam
        rw [bs_full]
        exact bs_ext (fun p _ => ⟨fun _ => rfl, fun _ => trivial⟩)
      rw [zshln (by omega), ← this]; omega
    rw [s1, bds, lt_e, M_points hM0, bds, lt_e, M_sound hM0 hG, bds, hall, ← liv_id hG]
    refine lop3_w (fun v1 v2 (Mc : ZB) => ∃ t : Nat, t ≤ 9 ∧ v1 = ((lam G (lyi G t) : Nat) : Int) ∧ v2 = ((bs (gL G) (liv G (lyi G t)) : Nat) : Int) ∧ (∀ s, s < t → lyL G (lyi G s)) ∧ Mc.1 40 = (t : Int) ∧ (∀ p, p < gn G → Mc.2 35 p = ((lyi G t p : Nat) : Int)) ∧ LM G t (Mc.2 39) ∧ MF M Mc) (fun _ _ (Mc : ZB) => 10 - (Mc.1 40).toNat) ?_ FU _ _ _ ⟨0, by omega, rfl, rfl, fun s h => absurd h (Nat.not_lt_zero s), rfl, fun p hp => s2 p (by omega), fun j h => absurd h (Nat.not_lt_zero j), ⟨fun i hi => up_n _ _ hi, fun i _ h _ => ua_n _ _ h⟩⟩ (by show 10 - _ < 100000; omega)
    intro rec v1 v2 Mc hI hrec
    obtain ⟨t, ht, rfl, rfl, hlt, h40, hst, hLM, hMF⟩ := hI
    obtain ⟨hR, hRc⟩ := lyi_R hG t hlt
    have hMc : RW (Mc.2 12) G := by rw [hMF.2 12 (by decide) (by decide) (by decide)]; exact hM
    have hlamlt : lam G (lyi G t) < 2 ^ gn G := bs_lt _ _
    have hbsl := bs_lt31 (n := gL G) (p := liv G (lyi G t)) (by omega)
    rw [nmn hbsl]
    by_cases hL : lyL G (lyi G t)
    · have ht8 := lyi_lt hG hlt hL
      obtain ⟨l, hl, hlv⟩ := hL
      have hL : lyL G (lyi G t) := ⟨l, hl, hlv⟩
      have hne : ¬ bs (gL G) (liv G (lyi G t)) = 0 := fun z => bs_zero.mp z l hl hlv
      obtain ⟨t1, t2, t3, t4, t5, t6, t7⟩ := lyT_ok hG hR hL
      obtain ⟨l1, l2, l3, l4, l5⟩ := lsb_ok t4 hb.1 t5
      obtain ⟨g, k1, k2, k3, k4⟩ := M_laysThick (M := Mc) hMc hG (fun p hp => (hR p hp).1) hst hlamlt
      have k4' : g 2 = (((lyT G (lyi G t)).2.2 : Nat) : Int) := k4
      have k3' : g 1 = (((lyT G (lyi G t)).2.1 : Nat) : Int) := k3
      have k2' : g 0 = (((lyT G (lyi G t)).1 : Nat) : Int) := k2
      have hS31 : (lyT G (lyi G t)).2.2 < 2147483648 := by omega
      have hM1 : RW (((Mc.1, ua Mc.2 34 g) : ZB).2 12) G := hMc
      have f34 : ((Mc.1, ua Mc.2 34 g) : ZB).2 34 = g := rfl
      have f35 : ((Mc.1, ua Mc.2 34 g) : ZB).2 35 = Mc.2 35 := rfl
      rw [if_neg (by omega), k1, bds]
      refine lop1_w (fun v3 => ∃ j : Nat, v3 = (j : Int) ∧ j ≤ lsb (lyT G (lyi G t)).2.2) (fun v3 => lsb (lyT G (lyi G t)).2.2 - v3.toNat) ?_ FU _ ⟨0, rfl, by omega⟩ (by show lsb _ - _ < 100000; omega)
      intro rec1 v3 hI1 hrec1
      obtain ⟨j, rfl, hj⟩ := hI1
      rw [f34, rdi (by omega), show Int.toNat 2 = 2 from rfl, k4', M_has hS31 (by omega), bds]
      by_cases hjl : j = lsb (lyT G (lyi G t)).2.2
      · subst hjl
        rw [t10t l3]
        refine lop2_w (fun v4 v5 => ∃ k : Nat, v5 = (k : Int) ∧ k ≤ gn G ∧ v4 = ((bs (gn G) (fun p => p < k ∧ (lyT G (lyi G t)).2.2.testBit (lyi G t p) = true) : Nat) : Int)) (fun _ v5 => gn G - v5.toNat) ?_ FU _ _ ⟨0, rfl, by omega, ?_⟩ (by show gn G - _ < 100000; omega)
        · intro rec2 v4 v5 hI2 hrec2
          obtain ⟨k, rfl, hk, rfl⟩ := hI2
          rw [M_points hM1, bds, nmn (by omega), nmn (by omega)]
          by_cases hkn : k < gn G
          · have hap := (hR k hkn).1
            rw [if_pos (by omega), rdi (by omega), show Int.toNat 2 = 2 from rfl, k4', f35, rdn (by omega), hst k hkn, M_has hS31 (by omega), bds, kf1_e]
            by_cases h : (lyT G (lyi G t)).2.2.testBit (lyi G t k) = true
            · rw [t10t h, zshln (by omega), zorn (bs_lt31 (by omega)) (p2_lt31 (by omega)), lt_e]
              refine hrec2 _ _ ⟨k+1, by omega, by omega, ?_⟩ (by omega)
              rw [bs_one hkn, bs_or]
              congr 1
              apply bs_ext; intro p _
              constructor
              · rintro (⟨h1, h2⟩ | h1)
                · exact ⟨by omega, h2⟩
                · subst h1; exact ⟨by omega, h⟩
              · rintro ⟨h1, h2⟩
                by_cases e : p = k
                · exact Or.inr e
                · exact Or.inl ⟨by omega, h2⟩
            · rw [t10f h]
              refine hrec2 _ _ ⟨k+1, by omega, by omega, ?_⟩ (by omega)
              congr 1
              apply bs_ext; intro p _
              constructor
              · rintro ⟨h1, h2⟩; exact ⟨by omega, h2⟩
              · rintro ⟨h1, h2⟩
                by_cases e : p = k
                · subst e; exact absurd h2 h
                · exact ⟨by omega, h2⟩
          · rw [if_neg (by omega)]
            have hA : bs (gn G) (fun p => p < k ∧ (lyT G (lyi G t)).2.2.testBit (lyi G t p) = true) = lyA G (lyi G t) := bs_ext (fun p hp => ⟨fun h => h.2, fun h => ⟨by omega, h⟩⟩)
            rw [hA]
            have hAb : ∀ p, (lyA G (lyi G t)).testBit p = true ↔ p < gn G ∧ (lyT G (lyi G t)).2.2.testBit (lyi G t p) = true := bs_bit (gn G) (fun p => (lyT G (lyi G t)).2.2.testBit (lyi G t p) = true)
            have hA31 : lyA G (lyi G t) < 2147483648 := bs_lt31 (by omega)
            refine lop2_w (fun v5 Md => ∃ (m : Nat) (h : Nat → Int), v5 = (m : Int) ∧ m ≤ gn G ∧ Md = (Mc.1, ua (ua Mc.2 34 g) 35 h) ∧ ∀ p, p < gn G → h p = if p < m then ((lyi G (t+1) p : Nat) : Int) else ((lyi G t p : Nat) : Int)) (fun v5 _ => gn G - v5.toNat) ?_ FU _ _ ⟨0, Mc.2 35, rfl, by omega, ?_, fun p hp => by rw [if_neg (by omega)]; exact hst p hp⟩ (by show gn G - _ < 100000; omega)
            · intro rec3 v5 Md hI3 hrec3
              obtain ⟨m, h, rfl, hm, rfl, hh⟩ := hI3
              have hM2 : RW (((Mc.1, ua (ua Mc.2 34 g) 35 h) : ZB).2 12) G := hMc
              rw [M_points hM2, bds, nmn (by omega), nmn (by omega)]
              by_cases hmn : m < gn G
              · rw [if_pos (by omega), M_has hA31 (by omega), bds, kf1_e]
                by_cases hbt : (lyT G (lyi G t)).2.2.testBit (lyi G t m) = true
                · rw [t10t ((hAb _).mpr ⟨hmn, hbt⟩), ixn (by omega), lt_e, Int.toNat_natCast]
                  simp only [ua_e, ua_up]
                  refine hrec3 _ _ ⟨m+1, up h m (((lsb (lyT G (lyi G t)).2.2 : Nat) : Int)), by omega, by omega, rfl, fun p hp => ?_⟩ (by omega)
                  by_cases e : p = m
                  · subst e
                    rw [up_e, if_pos (by omega)]
                    show _ = ((lyN G (lyi G t) p : Nat) : Int)
                    unfold lyN
                    rw [if_pos hbt]
                  · rw [up_n _ _ e, hh p hp]
                    by_cases z : p < m
                    · rw [if_pos z, if_pos (by omega)]
                    · rw [if_neg z, if_neg (by omega)]
                · rw [t10f (fun z => hbt ((hAb _).mp z).2)]
                  refine hrec3 _ _ ⟨m+1, h, by omega, by omega, rfl, fun p hp => ?_⟩ (by omega)
                  rw [hh p hp]
                  by_cases e : p = m
                  · subst e
                    rw [if_neg (by omega), if_pos (by omega)]
                    show _ = ((lyN G (lyi G t) p : Nat) : Int)
                    unfold lyN
                    rw [if_neg hbt]
                  · by_cases z : p < m
                    · rw [if_pos z, if_pos (by omega)]
                    · rw [if_neg z, if_neg (by omega)]
              · rw [if_neg (by omega)]
                have hmm : m = gn G := by omega
                subst hmm
                have hh' : ∀ p, p < gn G → h p = (lyi G (t+1) p : Nat) := fun p hp => by rw [hh p hp, if_pos hp]
                have h40' : ((Mc.1, ua (ua Mc.2 34 g) 35 h) : ZB).1 40 = (t : Int) := h40
                obtain ⟨Mx, w1, w2, w3⟩ := lay_write (Mc.1, ua (ua Mc.2 34 g) 35 h) h40' (by omega) ((lyA G (lyi G t) : Nat) : Int)
                rw [w1]
                have x40 : Mx.1 40 = ((t + 1 : Nat) : Int) := by rw [w2, up_e]; rfl
                have x35 : Mx.2 35 = h := by rw [w3]; rfl
                have x39 : Mx.2 39 = up (up (up (Mc.2 39) (3*t) (g 0)) (3*t+1) (g 1)) (3*t+2) ((lyA G (lyi G t) : Nat) : Int) := by rw [w3]; rfl
                have hMx : RW (Mx.2 12) G := by rw [w3]; exact hMc
                have hMFx : MF M Mx := by
                  refine ⟨fun i hi => ?_, fun i e1 e2 e3 => ?_⟩
                  · rw [w2, up_n _ _ hi]; exact hMF.1 i hi
                  · rw [w3, ua_n _ _ e3]
                    show ua (ua Mc.2 34 g) 35 h i = _
                    rw [ua_n _ _ e2, ua_n _ _ e1]; exact hMF.2 i e1 e2 e3
                have hLMx : LM G (t+1) (Mx.2 39) := by
                  intro j hj
                  rw [x39]
                  by_cases e : j = t
                  · subst e
                    refine ⟨?_, ?_, ?_⟩
                    · rw [up_n _ _ (by omega), up_n _ _ (by omega), up_e]; exact k2'
                    · rw [up_n _ _ (by omega), up_e]; exact k3'
                    · rw [up_e]
                  · obtain ⟨s1, s2, s3⟩ := hLM j (by omega)
                    refine ⟨?_, ?_, ?_⟩
                    · rw [up_n _ _ (by omega), up_n _ _ (by omega), up_n _ _ (by omega)]; exact s1
                    · rw [up_n _ _ (by omega), up_n _ _ (by omega), up_n _ _ (by omega)]; exact s2
                    · rw [up_n _ _ (by omega), up_n _ _ (by omega), up_n _ _ (by omega)]; exact s3
                have hlt' : ∀ s, s < t + 1 → lyL G (lyi G s) := fun s hs => by
                  by_cases e : s = t
                  · subst e; exact hL
                  · exact hlt s (by omega)
                obtain ⟨hR', _⟩ := lyi_R hG (t+1) hlt'
                rw [zshln (by omega), zcompn (Nat.lt_of_lt_of_le hlamlt (by omega)) hA31, zorn (Nat.lt_of_le_of_lt (ndf_le _ _) (by omega)) (p2_lt31 (by omega)), lt_e]
                have hnext : (ndf (lam G (lyi G t)) (lyA G (lyi G t)) ||| 2 ^ lsb (lyT G (lyi G t)).2.2) = lam G (lyi G (t+1)) := by
                  show _ = lam G (lyN G (lyi G t))
                  rw [lam_next hG hR hL]
                  apply nat_ext; intro p
                  rw [Nat.testBit_or, Bool.or_eq_true, ndf_bit, Bool.and_eq_true, Bool.not_eq_true', ← Bool.not_eq_true, Nat.testBit_two_pow, decide_eq_true_iff, bs_bit]
                  have e1 : (lam G (lyi G t)).testBit p = true ↔ p < gn G ∧ lyi G t p = p := bs_bit (gn G) (fun p => lyi G t p = p) p
                  have e2 : (lyA G (lyi G t)).testBit p = true ↔ p < gn G ∧ (lyT G (lyi G t)).2.2.testBit (lyi G t p) = true := bs_bit (gn G) (fun p => (lyT G (lyi G t)).2.2.testBit (lyi G t p) = true) p
                  rw [e1, e2]
                  constructor
                  · rintro (⟨⟨z1, z2⟩, z3⟩ | z)
                    · refine ⟨z1, z2, Or.inl (fun z => z3 ⟨z1, by rw [z2]; exact z⟩)⟩
                    · subst z; exact ⟨l2, (t7 _ l3).2, Or.inr rfl⟩
                  · rintro ⟨z1, z2, z3 | z3⟩
                    · exact Or.inl ⟨⟨z1, z2⟩, fun z => z3 (by have := z.2; rw [z2] at this; exact this)⟩
                    · exact Or.inr z3.symm
                rw [hnext]
                refine lop2_w (fun v2 v5 => ∃ m : Nat, v5 = (m : Int) ∧ m ≤ gL G ∧ v2 = ((bs (gL G) (fun l => liv G (lyi G t) l ∧ ¬ (l < m ∧ lyi G (t+1) (ga G l) = lyi G (t+1) (gb G l))) : Nat) : Int)) (fun _ v5 => gL G - v5.toNat) ?_ FU _ _ ⟨0, rfl, by omega, ?_⟩ (by show gL G - _ < 100000; omega)
                · intro rec4 v2 v5 hI4 hrec4
                  obtain ⟨m, rfl, hm, rfl⟩ := hI4
                  rw [M_lines hMx, bds, nmn (by omega), nmn (by omega)]
                  by_cases hmL : m < gL G
                  · have hv := hG.2.1 m hmL
                    have hm12 := hMx.2.2.2 m hmL
                    have hap := (hR' _ hv.1).1
                    have hbp := (hR' _ hv.2.1).1
                    rw [if_pos (by omega), rd3 (by omega), hm12.1, x35, rdn (by omega), hh' _ hv.1, rd27 (by omega), hm12.2.1, rdn (by omega), hh' _ hv.2.1, kf1_e, nmn (by omega), nmn (by omega)]
                    by_cases e : lyi G (t+1) (ga G m) = lyi G (t+1) (gb G m)
                    · rw [if_pos (by omega), zshln (by omega), zcompn (bs_lt31 (by omega)) (p2_lt31 (by omega)), lt_e, bs_one hmL, bs_ndf]
                      refine hrec4 _ _ ⟨m+1, by omega, by omega, ?_⟩ (by omega)
                      congr 1
                      apply bs_ext; intro l hl
                      constructor
                      · rintro ⟨⟨z1, z2⟩, z3⟩
                        exact ⟨z1, fun z => z2 ⟨by omega, z.2⟩⟩
                      · rintro ⟨z1, z2⟩
                        exact ⟨⟨z1, fun z => z2 ⟨by omega, z.2⟩⟩, fun z => z2 ⟨by omega, by rw [z]; exact e⟩⟩
                    · rw [if_neg (by omega)]
                      refine hrec4 _ _ ⟨m+1, by omega, by omega, ?_⟩ (by omega)
                      congr 1
                      apply bs_ext; intro l hl
                      constructor
                      · rintro ⟨z1, z2⟩
                        refine ⟨z1, fun z => ?_⟩
                        by_cases q : l = m
                        · rw [q] at z; exact e z.2
                        · exact z2 ⟨by omega, z.2⟩
                      · rintro ⟨z1, z2⟩
                        exact ⟨z1, fun z => z2 ⟨by omega, z.2⟩⟩
                  · rw [if_neg (by omega)]
                    have hlv : bs (gL G) (fun l => liv G (lyi G t) l ∧ ¬ (l < m ∧ lyi G (t+1) (ga G l) = lyi G (t+1) (gb G l))) = bs (gL G) (liv G (lyi G (t+1))) := by
                      apply bs_ext; intro l hl
                      constructor
                      · rintro ⟨z1, z2⟩
                        exact ⟨z1.1, fun z => z2 ⟨by omega, z⟩⟩
                      · rintro ⟨z1, z2⟩
                        refine ⟨⟨z1, fun z => z2 ?_⟩, fun z => z2 z.2⟩
                        show lyN G (lyi G t) (ga G l) = lyN G (lyi G t) (gb G l)
                        unfold lyN
                        rw [z]
                    rw [hlv]
                    exact hrec _ _ _ ⟨t+1, by omega, rfl, rfl, hlt', x40, fun p hp => by rw [x35]; exact hh' p hp, hLMx, hMFx⟩ (by rw [x40, h40]; omega)
                · congr 1
                  apply bs_ext; intro l hl
                  exact ⟨fun h => ⟨h, fun z => absurd z.1 (Nat.not_lt_zero _)⟩, fun h => h.1⟩
            · exact congrArg (Prod.mk Mc.1) (ua_self (ua Mc.2 34 g) 35).symm
        · have : bs (gn G) (fun p => p < 0 ∧ (lyT G (lyi G t)).2.2.testBit (lyi G t p) = true) = 0 := bs_zero.mpr (fun i _ h => absurd h.1 (Nat.not_lt_zero _))
          rw [this]; rfl
      · rw [t10f (fun z => l5 j (by omega) z)]
        exact hrec1 _ ⟨j+1, by omega, by omega⟩ (by omega)
    · rw [if_pos (by rw [bs_zero.mpr (fun l hl h => hL ⟨l, hl, h⟩)]; rfl)]
      exact ⟨_, rfl, t, ht, ⟨hlt, hL⟩, h40, hLM, hMF⟩
  obtain ⟨r, h1, T, h2⟩ := main
  exact ⟨T, r, h1, h2⟩
end

theorem sim36 : Sim36 INV := by
  intro X N T Rd Fr Ac Ch PS Ly Pa OT Ea Ga c0 c1 M hI
  obtain ⟨⟨G, hG, hN, hM⟩, hT, hR, hA, hC, hGa, hi0, hi1, hP⟩ := hI
  have hM1 : RW (((up M.1 0 0, M.2) : ZB).2 12) G := hM
  obtain ⟨t, PS', Ly', m1, m2, m3, m4, m5⟩ := Ly_melt hN hG hP Ly
  obtain ⟨t', M', l1, l2, l3, l4, l5, l6⟩ := M_laysLayers (M := (up M.1 0 0, M.2)) hM1 hG
  have e := lyE_uniq m3 l3
  subst e
  have ek : INV X N T Rd Fr Ac Ch PS' Ly' Pa OT Ea Ga c0 c1 M' := by
    rw [MF_eq l6]
    exact ⟨⟨G, hG, hN, hM⟩, hT, hR, hA, hC, hGa, hi0, hi1, m5⟩
  unfold fX_layers fM_layers
  rw [lt_e, m1, l1, bds, bds]
  exact ⟨_, _, rfl, rfl, l4.symm, ek⟩
theorem sim37 : Sim37 INV := by
  intro X N T Rd Fr Ac Ch PS Ly Pa OT Ea Ga c0 c1 M a1 a2 hI hr1 hr2
  obtain ⟨⟨G, hG, hN, hM⟩, hT, hR, hA, hC, hGa, hi0, hi1, hP⟩ := hI
  have hM1 : RW (((up M.1 0 0, M.2) : ZB).2 12) G := hM
  obtain ⟨t, PS', Ly', m1, m2, m3, m4, m5⟩ := Ly_melt hN hG hP Ly
  obtain ⟨t', M', l1, l2, l3, l4, l5, l6⟩ := M_laysLayers (M := (up M.1 0 0, M.2)) hM1 hG
  have e := lyE_uniq m3 l3
  subst e
  have ek0 : INV X N T Rd Fr Ac Ch PS Ly Pa OT Ea Ga c0 c1 M' := by
    rw [MF_eq l6]
    exact ⟨⟨G, hG, hN, hM⟩, hT, hR, hA, hC, hGa, hi0, hi1, hP⟩
  have ek : INV X N T Rd Fr Ac Ch PS' Ly' Pa OT Ea Ga c0 c1 M' := by
    rw [MF_eq l6]
    exact ⟨⟨G, hG, hN, hM⟩, hT, hR, hA, hC, hGa, hi0, hi1, m5⟩
  unfold fM_layerAt
  rw [lt_e, l1, bds, l4, M_isIn hr1 (by omega) (by omega), bds, kf0_e]
  by_cases z : a1 < 0
  · rw [q10f (by omega : ¬ (0 ≤ a1 ∧ a1 ≤ (t : Int) - 1))]
    refine ⟨(-1, PS, Ly), _, ?_, rfl, rfl, ek0⟩
    unfold fX_layerAt
    show (if nm a1 < 0 then _ else _) = _
    rw [nmi hr1, if_pos z]
  obtain ⟨j, rfl⟩ : ∃ j : Nat, a1 = (j : Int) := ⟨a1.toNat, by omega⟩
  have hbig : (if nm (j : Int) < 0 then some (-1, PS, Ly) else bd (fLy_melt N PS Ly) fun u_4 =>
    if (nm (j : Int)) < (nm u_4.1) then (
      if (nm a2) < 0 then (
        some ((-1), u_4.2.1, u_4.2.2))
      else (
        if 2 < (nm a2) then (
          some ((-1), u_4.2.1, u_4.2.2))
        else (
          if (nm a2) = 2 then (
            bd (fLy_setAt u_4.2.2 (j : Int)) fun u_8 =>
            some (u_8, u_4.2.1, u_4.2.2))
          else (
            bd (fLy_aboveAt u_4.2.2 (j : Int)) fun u_5 =>
            bd (fLy_belowAt u_4.2.2 (j : Int)) fun u_6 =>
            bd (fX_leastTerms u_5 u_6 a2) fun u_7 =>
            some (u_7, u_4.2.1, u_4.2.2)))))
    else (
      some ((-1), u_4.2.1, u_4.2.2))) = if j < t then (if a2 < 0 then some (-1, PS', Ly') else if 2 < a2 then some (-1, PS', Ly') else if a2 = 2 then some (((lyA G (lyi G j) : Nat) : Int), PS', Ly') else bd (fM_part ((lyT G (lyi G j)).1 : Nat) ((lyT G (lyi G j)).2.1 : Nat) a2) fun v => some (v, PS', Ly')) else some (-1, PS', Ly') := by
    rw [nmi hr1, if_neg (by omega : ¬ (j : Int) < 0), m1, bds, nmn (by omega : t < 2147483648), nmi hr2]
    by_cases hj : j < t
    · obtain ⟨p1, p2, p3⟩ := m4.2 j hj
      obtain ⟨hRj, _⟩ := lyi_R hG j (fun s hs => m3.1 s (by omega))
      obtain ⟨t1, t2, t3, t4, t5, t6, t7⟩ := lyT_ok hG hRj (m3.1 j hj)
      rw [if_pos (by omega : (j : Int) < (t : Int)), if_pos hj]
      by_cases z1 : a2 < 0
      · rw [if_pos z1, if_pos z1]
      rw [if_neg z1, if_neg z1]
      by_cases z2 : 2 < a2
      · rw [if_pos z2, if_pos z2]
      rw [if_neg z2, if_neg z2]
      by_cases z3 : a2 = 2
      · rw [if_pos z3, if_pos z3]
        unfold fLy_setAt
        rw [kf1_e, kf0_e, nmi hr1, if_neg (by omega : ¬ (j : Int) < 0), if_pos (by omega : (j : Int) < 10), rdn (by omega)]
        show bd (some (Ly'.2 5 j)) _ = _
        rw [bds, p3]
      · rw [if_neg z3, if_neg z3]
        obtain ⟨v, v1, v2⟩ := terms (a := (lyT G (lyi G j)).1) (b := (lyT G (lyi G j)).2.1) (w := a2) (by omega) (by omega) (by omega) (by omega)
        have q5 : fLy_aboveAt Ly' (j : Int) = some (((lyT G (lyi G j)).1 : Nat) : Int) := by
          unfold fLy_aboveAt
          rw [kf1_e, kf0_e, nmi hr1, if_neg (by omega : ¬ (j : Int) < 0), if_pos (by omega : (j : Int) < 10), rdn (by omega), p1]
        have q6 : fLy_belowAt Ly' (j : Int) = some (((lyT G (lyi G j)).2.1 : Nat) : Int) := by
          unfold fLy_belowAt
          rw [kf1_e, kf0_e, nmi hr1, if_neg (by omega : ¬ (j : Int) < 0), if_pos (by omega : (j : Int) < 10), rdn (by omega), p2]
        show bd (fLy_aboveAt Ly' (j : Int)) _ = _
        rw [q5, bds]
        show bd (fLy_belowAt Ly' (j : Int)) _ = _
        rw [q6, bds, v1, v2, bds]
    · rw [if_neg (by omega : ¬ (j : Int) < (t : Int)), if_neg hj]
  have hcls : fX_layerAt N PS Ly (j : Int) a2 = _ := hbig
  by_cases hj : j < t
  · obtain ⟨p1, p2, p3⟩ := l5 j hj
    obtain ⟨hRj, _⟩ := lyi_R hG j (fun s hs => m3.1 s (by omega))
    obtain ⟨t1, t2, t3, t4, t5, t6, t7⟩ := lyT_ok hG hRj (m3.1 j hj)
    rw [if_pos hj] at hcls
    rw [q10t (by omega : (0 ≤ (j : Int) ∧ (j : Int) ≤ (t : Int) - 1)), M_isIn hr2 (by omega) (by omega), bds, kf1_e, nmi hr2]
    by_cases z1 : 0 ≤ a2 ∧ a2 ≤ 2
    · rw [if_neg (by omega : ¬ a2 < 0), if_neg (by omega : ¬ 2 < a2)] at hcls
      rw [q10t z1]
      by_cases z3 : a2 = 2
      · rw [if_pos z3] at hcls
        rw [if_pos z3, show 3 * (j : Int) + 2 = ((3 * j + 2 : Nat) : Int) by omega, rdn (by omega), p3]
        exact ⟨_, _, hcls, rfl, rfl, ek⟩
      · obtain ⟨v, v1, v2⟩ := terms (a := (lyT G (lyi G j)).1) (b := (lyT G (lyi G j)).2.1) (w := a2) (by omega) (by omega) (by omega) (by omega)
        rw [if_neg z3, v2, bds] at hcls
        rw [if_neg z3, show 3 * (j : Int) = ((3 * j : Nat) : Int) by omega, rdn (by omega), p1, show ((3 * j : Nat) : Int) + 1 = ((3 * j + 1 : Nat) : Int) by omega, rdn (by omega), p2, v2, bds]
        exact ⟨_, _, hcls, rfl, rfl, ek⟩
    · rw [q10f z1]
      refine ⟨(-1, PS', Ly'), _, hcls.trans ?_, rfl, rfl, ek⟩
      by_cases y : a2 < 0
      · rw [if_pos y]
      · rw [if_neg y, if_pos (by omega)]
  · rw [if_neg hj] at hcls
    rw [q10f (by omega : ¬ (0 ≤ (j : Int) ∧ (j : Int) ≤ (t : Int) - 1))]
    exact ⟨_, _, hcls, rfl, rfl, ek⟩
