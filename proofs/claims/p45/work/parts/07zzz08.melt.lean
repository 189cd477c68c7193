-- needs: 07zzz07.layers
/-! layers: the programs -/
def LyS (G : GV) (t : Nat) (B : Nat → Nat → Int) : Prop := (∀ p, p < gn G → B 2 p = (lyi G t p : Nat)) ∧ ∀ j, j < t → B 3 j = ((lyT G (lyi G j)).1 : Nat) ∧ B 4 j = ((lyT G (lyi G j)).2.1 : Nat) ∧ B 5 j = ((lyA G (lyi G j) : Nat) : Int)
section
variable {N M PS Ly : ZB} {G : GV} {as : Nat → Nat}
theorem Ly_isLineLeft (hN : RN N G) (hG : GOK G) (has : ∀ p, p < gn G → as p < gn G) (hP : ∀ p, p < gn G → Ly.2 2 p = (as p : Nat)) : fLy_isLineLeft N Ly = some (if dc (lyL G as) then 1 else 0) := by
  have hb := hG.1
  have main : wp (fLy_isLineLeft N Ly) (fun r => r = if dc (lyL G as) then 1 else 0) := by
    unfold fLy_isLineLeft
    refine lop1_w (fun v1 => ∃ k : Nat, v1 = (k : Int) ∧ k ≤ gL G ∧ ∀ j, j < k → ¬ liv G as j) (fun v1 => gL G - v1.toNat) ?_ FU _ ⟨0, rfl, by omega, fun j h => absurd h (Nat.not_lt_zero j)⟩ (by show gL G - _ < 100000; omega)
    intro rec v1 hI hrec
    obtain ⟨k, rfl, hk, hno⟩ := hI
    rw [hN.2.1, nmn (by omega), nmn (by omega)]
    by_cases hkL : k < gL G
    · have hv := hG.2.1 k hkL
      obtain ⟨n0, n1, _⟩ := hN.2.2.2.2.2 k hkL
      have hap := has _ hv.1
      have hbp := has _ hv.2.1
      have goOn : ¬ liv G as k → ∃ r, rec ((k : Int) + 1) = some r ∧ r = if dc (lyL G as) then 1 else 0 := by
        intro h
        refine hrec _ ⟨k+1, by omega, by omega, fun j hj => ?_⟩ (by omega)
        by_cases e : j = k
        · subst e; exact h
        · exact hno j (by omega)
      rw [if_pos (by omega), N_isSound hN (by omega), bds, kf0_e]
      by_cases hs : gbr G k
      · rw [i01t hs]; exact goOn (fun h => h.1 hs)
      · rw [i01f hs, rdn (by omega), n0, rdn (by omega), hP _ hv.1, rdn (by omega), n1, rdn (by omega), hP _ hv.2.1, nmn (by omega), nmn (by omega)]
        by_cases e : as (ga G k) = as (gb G k)
        · rw [if_pos (by omega)]; exact goOn (fun h => h.2 e)
        · rw [if_neg (by omega)]
          exact ⟨_, rfl, by rw [idt (show lyL G as from ⟨k, hkL, hs, e⟩)]⟩
    · rw [if_neg (by omega)]
      exact ⟨_, rfl, by rw [idf (fun ⟨l, h1, h2⟩ => hno l (by omega) h2)]⟩
  obtain ⟨r, h1, h2⟩ := main
  rw [h1, h2]
theorem Ly_join (hN : RN N G) (hG : GOK G) (hR : lyR G as) (hL : lyL G as) (hP : ∀ p, p < gn G → Ly.2 2 p = (as p : Nat)) : ∃ w, fLy_join N Ly (((lyT G as).2.2 : Nat) : Int) = some (((lyA G as : Nat) : Int), (Ly.1, ua Ly.2 2 w)) ∧ ∀ p, p < gn G → w p = (lyN G as p : Nat) := by
  have hb := hG.1
  have h10 : 2 ^ gn G ≤ 1024 := Nat.pow_le_pow_right (n := 2) (by omega) hb.1
  obtain ⟨t1, t2, t3, t4, t5, t6, t7⟩ := lyT_ok hG hR hL
  obtain ⟨l1, l2, l3, l4, l5⟩ := lsb_ok t4 hb.1 t5
  have main : wp (fLy_join N Ly (((lyT G as).2.2 : Nat) : Int)) (fun r => ∃ w, r = (((lyA G as : Nat) : Int), (Ly.1, ua Ly.2 2 w)) ∧ ∀ p, p < gn G → w p = (lyN G as p : Nat)) := by
    unfold fLy_join
    have hbc := bc_low ⟨lsb (lyT G as).2.2, by omega⟩
    simp only at hbc
    rw [l1, hbc, bds]
    refine lop3_w (fun v3 v4 C => ∃ (k : Nat) (w : Nat → Int), v4 = (k : Int) ∧ k ≤ gn G ∧ C = (Ly.1, ua Ly.2 2 w) ∧ v3 = ((bs (gn G) (fun p => p < k ∧ (lyT G as).2.2.testBit (as p) = true) : Nat) : Int) ∧ (∀ p, p < gn G → w p = (if p < k then ((lyN G as p : Nat) : Int) else ((as p : Nat) : Int)))) (fun _ v4 _ => gn G - v4.toNat) ?_ FU _ _ _ ⟨0, Ly.2 2, rfl, by omega, by rw [ua_self], ?_, fun p hp => by rw [if_neg (by omega)]; exact hP p hp⟩ (by show gn G - _ < 100000; omega)
    · intro rec v3 v4 C hI hrec
      obtain ⟨k, w, rfl, hk, rfl, rfl, hw⟩ := hI
      rw [hN.1, nmn (by omega), nmn (by omega)]
      by_cases hkn : k < gn G
      · have hap := (hR k hkn).1
        have hwk := hw k hkn
        rw [if_neg (by omega)] at hwk
        simp only [kf2]
        rw [if_pos (by omega), ua_e, rdn (by omega), hwk, zbit (by omega) (by omega)]
        by_cases h : (lyT G as).2.2.testBit (as k) = true
        · rw [b10t h, ixn (by omega), lt_e, zshln (by omega), zorn (bs_lt31 (by omega)) (p2_lt31 (by omega)), lt_e, Int.toNat_natCast]
          simp only [ua_up]
          refine hrec _ _ _ ⟨k+1, _, by omega, by omega, rfl, ?_, fun p hp => ?_⟩ (by omega)
          · rw [bs_one hkn, bs_or]
            congr 1
            apply bs_ext; intro p _
            constructor
            · rintro (⟨h1, h2⟩ | h1)
              · exact ⟨by omega, h2⟩
              · subst h1; exact ⟨by omega, h⟩
            · rintro ⟨h1, h2⟩
              by_cases e : p = k
              · exact Or.inr e
              · exact Or.inl ⟨by omega, h2⟩
          · by_cases e : p = k
            · subst e
              rw [up_e, if_pos (by omega)]
              unfold lyN; rw [if_pos h]
            · rw [up_n _ _ e, hw p hp]
              by_cases z : p < k
              · rw [if_pos z, if_pos (by omega)]
              · rw [if_neg z, if_neg (by omega)]
        · rw [b10f h]
          refine hrec _ _ _ ⟨k+1, w, by omega, by omega, rfl, ?_, fun p hp => ?_⟩ (by omega)
          · congr 1
            apply bs_ext; intro p _
            constructor
            · rintro ⟨h1, h2⟩; exact ⟨by omega, h2⟩
            · rintro ⟨h1, h2⟩
              by_cases e : p = k
              · subst e; exact absurd h2 h
              · exact ⟨by omega, h2⟩
          · rw [hw p hp]
            by_cases e : p = k
            · subst e
              rw [if_neg (by omega), if_pos (by omega)]
              unfold lyN; rw [if_neg h]
            · by_cases z : p < k
              · rw [if_pos z, if_pos (by omega)]
              · rw [if_neg z, if_neg (by omega)]
      · rw [if_neg (by omega)]
        refine ⟨_, rfl, w, ?_, fun p hp => by rw [hw p hp, if_pos (by omega)]⟩
        have : bs (gn G) (fun p => p < k ∧ (lyT G as).2.2.testBit (as p) = true) = lyA G as := bs_ext (fun p hp => ⟨fun h => h.2, fun h => ⟨by omega, h⟩⟩)
        rw [this]
    · have : bs (gn G) (fun p => p < 0 ∧ (lyT G as).2.2.testBit (as p) = true) = 0 := bs_zero.mpr (fun i _ h => by omega)
      rw [this]; rfl
  obtain ⟨r, h1, w, h2, h3⟩ := main
  exact ⟨w, by rw [h1, h2], h3⟩
theorem Ly_melt (hN : RN N G) (hG : GOK G) (hP : IPS PS) (Ly : ZB) : ∃ (T : Nat) (PS' Ly' : ZB), fLy_melt N PS Ly = some ((T : Int), PS', Ly') ∧ T ≤ 9 ∧ lyE G T ∧ LyS G T Ly'.2 ∧ IPS PS' := by
  have hb := hG.1
  have hp := Nat.two_pow_pos (gn G)
  have h10 : 2 ^ gn G ≤ 1024 := Nat.pow_le_pow_right (n := 2) (by omega) hb.1
  have main : wp (fLy_melt N PS Ly) (fun r => ∃ (T : Nat) (PS' Ly' : ZB), r = ((T : Int), PS', Ly') ∧ T ≤ 9 ∧ lyE G T ∧ LyS G T Ly'.2 ∧ IPS PS') := by
    unfold fLy_melt
    refine lop2_w (fun v1 C => ∃ (k : Nat) (w : Nat → Int), v1 = (k : Int) ∧ k ≤ 10 ∧ C = (Ly.1, ua Ly.2 2 w) ∧ ∀ p, p < k → w p = (p : Nat)) (fun v1 _ => 10 - v1.toNat) ?_ FU _ _ ⟨0, Ly.2 2, rfl, by omega, by rw [ua_self], fun p h => absurd h (Nat.not_lt_zero p)⟩ (by show 10 - _ < 100000; omega)
    intro rec v1 C hI hrec
    obtain ⟨k, w, rfl, hk, rfl, hw⟩ := hI
    rw [nmn (by omega)]
    by_cases hk10 : k < 10
    · rw [if_pos (by omega), ixn (by omega), lt_e, Int.toNat_natCast]
      simp only [ua_e, ua_up]
      refine hrec _ _ ⟨k+1, up w k (k : Int), by omega, by omega, rfl, fun p hp => ?_⟩ (by omega)
      by_cases e : p = k
      · subst e; rw [up_e]
      · rw [up_n _ _ e]; exact hw p (by omega)
    · rw [if_neg (by omega), N_allPoints hN hG, bds]
      have h0S : LyS G 0 (((Ly.1, ua Ly.2 2 w) : ZB).2) := by
        refine ⟨fun p hp => ?_, fun j h => absurd h (Nat.not_lt_zero j)⟩
        show ua Ly.2 2 w 2 p = _
        rw [ua_e, hw p (by omega)]; rfl
      have hlam0 : 2 ^ gn G - 1 = lam G (lyi G 0) := by
        unfold lam
        rw [bs_full]
        exact bs_ext (fun p _ => ⟨fun _ => rfl, fun _ => trivial⟩)
      refine lop4_w (Q := fun r => ∃ (T : Nat) (PS' Ly' : ZB), r = ((T : Int), PS', Ly') ∧ T ≤ 9 ∧ lyE G T ∧ LyS G T Ly'.2 ∧ IPS PS') (fun v1 v2 P L => ∃ t : Nat, v2 = (t : Int) ∧ t ≤ 9 ∧ v1 = ((lam G (lyi G t) : Nat) : Int) ∧ (∀ s, s < t → lyL G (lyi G s)) ∧ LyS G t L.2 ∧ IPS P) (fun _ v2 _ _ => 10 - v2.toNat) ?_ FU _ _ _ _ ⟨0, rfl, by omega, by rw [hlam0], fun s h => absurd h (Nat.not_lt_zero s), h0S, hP⟩ (by show 10 - _ < 100000; omega)
      intro rec2 v1 v2 P L hI2 hrec2
      obtain ⟨t, rfl, ht, rfl, hlt, hS, hPP⟩ := hI2
      obtain ⟨hR, hRc⟩ := lyi_R hG t hlt
      rw [kf0_e, nmn (by omega), if_pos (by omega), Ly_isLineLeft hN hG (fun p hp => (hR p hp).1) hS.1, bds]
      by_cases hL : lyL G (lyi G t)
      · have ht8 := lyi_lt hG hlt hL
        obtain ⟨t1, t2, t3, t4, t5, t6, t7⟩ := lyT_ok hG hR hL
        obtain ⟨l1, l2, l3, l4, l5⟩ := lsb_ok t4 hb.1 t5
        have hlamlt : lam G (lyi G t) < 2 ^ gn G := bs_lt _ _
        obtain ⟨w2, u, f1, f2, f3⟩ := PS_thick_as (PS := P) (Ly := L) hN hG (fun p hp => (hR p hp).1) hS.1 hlamlt
        have f2' : thC (lyT G (lyi G t)) u := f2
        unfold thC at f2'
        rw [if_neg t1] at f2'
        obtain ⟨u4, u5, u6⟩ := f2'
        have ej1 : ∀ A B : Nat → Int, ∀ p, p < gn G → ((L.1, ua (ua L.2 3 A) 4 B) : ZB).2 2 p = (lyi G t p : Nat) := fun A B p hp => hS.1 p hp
        obtain ⟨w3, j1, j2⟩ := Ly_join (Ly := (L.1, ua (ua L.2 3 (up (L.2 3) t ((lyT G (lyi G t)).1 : Nat))) 4 (up (ua L.2 3 (up (L.2 3) t ((lyT G (lyi G t)).1 : Nat)) 4) t ((lyT G (lyi G t)).2.1 : Nat)))) hN hG hR hL (ej1 _ _)
        unfold fPS_bestSet fPS_bestAbove fPS_bestBelow
        rw [i10t hL, f1, bds, bds, bds, ixn (by omega), lt_e, bds, ixn (by omega), lt_e, Int.toNat_natCast]
        have e4 : ((u, ua P.2 1 w2) : ZB).1 4 = (((lyT G (lyi G t)).2.2 : Nat) : Int) := u4
        have e5 : ((u, ua P.2 1 w2) : ZB).1 5 = (((lyT G (lyi G t)).1 : Nat) : Int) := u5
        have e6 : ((u, ua P.2 1 w2) : ZB).1 6 = (((lyT G (lyi G t)).2.1 : Nat) : Int) := u6
        rw [e4, e5, e6, j1, bds, ixn (by omega), lt_e]
        have hand : zand (((lyT G (lyi G t)).2.2 : Nat) : Int) ((((lyT G (lyi G t)).2.2 : Nat) : Int) - 1) = (((lyT G (lyi G t)).2.2 ^^^ 2 ^ lsb (lyT G (lyi G t)).2.2 : Nat) : Int) := by
          have : (((lyT G (lyi G t)).2.2 : Nat) : Int) - 1 = (((lyT G (lyi G t)).2.2 - 1 : Nat) : Int) := by omega
          rw [this, zandn (by omega) (by omega), l4]
        have hxlt : ((lyT G (lyi G t)).2.2 ^^^ 2 ^ lsb (lyT G (lyi G t)).2.2) < 2147483648 := Nat.xor_lt_two_pow (n := 31) (by show (lyT G (lyi G t)).2.2 < 2147483648; omega) (p2_lt31 (by omega))
        rw [hand, zcompn (by omega) hxlt, lt_e]
        refine hrec2 _ _ _ _ ⟨t+1, by omega, by omega, ?_, ?_, ⟨?_, ?_⟩, ?_⟩ (by omega)
        · congr 1
          show _ = lam G (lyN G (lyi G t))
          rw [lam_next hG hR hL]
          apply nat_ext; intro p
          rw [ndf_bit, Bool.and_eq_true, Bool.not_eq_true', ← Bool.not_eq_true, xor_bit, bs_bit]
          have hlb := bs_bit (gn G) (fun p => lyi G t p = p) p
          have hlb' : (lam G (lyi G t)).testBit p = true ↔ p < gn G ∧ lyi G t p = p := hlb
          rw [hlb']
          constructor
          · rintro ⟨⟨h1, h2⟩, h3⟩
            refine ⟨h1, h2, ?_⟩
            by_cases e : p = lsb (lyT G (lyi G t)).2.2
            · exact Or.inr e
            · exact Or.inl (fun z => h3 (Or.inl ⟨z, e⟩))
          · rintro ⟨h1, h2, h3⟩
            refine ⟨⟨h1, h2⟩, ?_⟩
            rintro (⟨k1, k2⟩ | ⟨k1, k2⟩)
            · rcases h3 with z | z
              · exact z k1
              · exact k2 z
            · subst k2; exact k1 l3
        · intro s hs
          by_cases e : s = t
          · subst e; exact hL
          · exact hlt s (by omega)
        · exact j2
        · intro j hj
          by_cases e : j = t
          · subst e
            refine ⟨?_, ?_, ?_⟩
            · show up (L.2 3) j _ j = _; rw [up_e]
            · show up _ j _ j = _; rw [up_e]
            · show up _ (Int.toNat (j : Int)) _ j = _; rw [Int.toNat_natCast, up_e]
          · obtain ⟨s1, s2, s3⟩ := hS.2 j (by omega)
            refine ⟨?_, ?_, ?_⟩
            · show up (L.2 3) t _ j = _; rw [up_n _ _ e]; exact s1
            · show up _ t _ j = _; rw [up_n _ _ e]; exact s2
            · show up _ (Int.toNat (t : Int)) _ j = _; rw [Int.toNat_natCast, up_n _ _ e]; exact s3
        · exact hPP
      · rw [i10f hL]
        exact ⟨_, rfl, t, P, L, rfl, ht, ⟨hlt, hL⟩, hS, hPP⟩
  obtain ⟨r, h1, T, PS', Ly', h2, h3⟩ := main
  exact ⟨T, PS', Ly', by rw [h1, h2], h3⟩
end
