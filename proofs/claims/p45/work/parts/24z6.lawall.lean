-- needs: 24z5.tells
/-! the law -/
theorem zand31 (y : Int) : ∃ x : Nat, x < 2147483648 ∧ zand y 2147483647 = (x : Int) := by
  have e : (zI 2147483647).toBitVec.toNat = 2147483647 := by decide +kernel
  have h : ((zI y).toBitVec &&& (zI 2147483647).toBitVec).toNat < 2147483648 := by
    rw [BitVec.toNat_and, e]
    exact Nat.lt_of_le_of_lt Nat.and_le_right (by decide)
  exact ⟨_, h, by rw [zand_bv, bv_toInt _ h]⟩
theorem kf4_w {α0 α1 α2 α3 β : Type} {X : α0 → α1 → α2 → α3 → Option β} {B : (α0 → α1 → α2 → α3 → Option β) → Option β} {Q : β → Prop} (h : ∀ k, k = X → ∃ r, B k = some r ∧ Q r) : ∃ r, kf4 X B = some r ∧ Q r := h X rfl
def OKG (G : GV) : Prop := 2 ≤ gn G ∧ gn G ≤ 7 ∧ gL G ≤ 14 ∧ gk G ≤ 4
theorem OKG_sn {G G' : GV} (h : SN G G') (hk : OKG G) : OKG G' := by
  obtain ⟨h1, h2, h3, -, -⟩ := h
  unfold OKG
  rw [h1, h2, h3]; exact hk
theorem bs_sn {G G' : GV} (h : SN G G') (p : Nat → Prop) : bs (gL G') p = bs (gL G) p := by rw [h.2.1]
/-- a forest with one line more -/
theorem fo_plus {G : GV} (hG : GOK G) {l f : Nat} (hl : l < gL G) (hn : gh G l = -1) : Fo (ga G) (gb G) (Eb G (bs (gL G) (fun i => gh G i = (f : Int) ∨ i = l))) ↔ grf G l (f : Int) = 0 := by
  have e : ∀ i, Eb G (bs (gL G) (fun i => gh G i = (f : Int) ∨ i = l)) i ↔ Ep (InF G (f : Int)) l i := by
    intro i
    unfold Eb Ep InF
    rw [bs_bit]
    constructor
    · rintro ⟨h1, -, h2 | h2⟩
      · exact Or.inl ⟨h1, h2⟩
      · exact Or.inr h2
    · rintro (⟨h1, h2⟩ | rfl)
      · exact ⟨h1, h1, Or.inl h2⟩
      · exact ⟨hl, hl, Or.inr rfl⟩
  rw [Fo_congr e, grf_zero hG hl (by omega)]
  constructor
  · intro h hc
    refine h l (Or.inr rfl) (Cn_mono (fun i hi => ⟨Or.inl hi, fun z => ?_⟩) hc)
    subst z
    have := hi.2
    omega
  · intro h
    exact Fo_add (hG.2.2.2 (f : Int) (by omega)) h
theorem law_all (L : Nat) (xs : Nat → Int32) (hL : L ≤ 260) (z : Int) (p1 p2 : Nat) : fL_law zNet0B iZ iRd zNet0B iAc iZ iPS (iZ, p1, p2) (iLa z) L xs = some () := by
  obtain ⟨N0, T0, Rd0, Fr0, Ac0, La, G0, h1, hN0, hG0, hA0, hv0, k1, k2, k3, k4⟩ := L_tells z
  have hP0 : IPS iPS := (initB 0 0).2.2.2.2.2.2.2.2
  obtain ⟨PS1, Pa1, h2, hP1⟩ := L_agree hN0 hG0 hv0 k1 k3 hP0 (iZ, p1, p2)
  have main : wp (fL_law zNet0B iZ iRd zNet0B iAc iZ iPS (iZ, p1, p2) (iLa z) L xs) (fun _ => True) := by
    unfold fL_law
    rw [h1, bds, kf2_e]
    dsimp only
    rw [if_neg (by decide : ¬ nm 1 = 0), h2, bds]
    dsimp only
    rw [if_neg (by decide : ¬ nm 1 = 0)]
    refine lop5_w (fun v N A _ P => ∃ (i : Nat) (G : GV), v = (i : Int) ∧ i ≤ 30 ∧ RN N G ∧ GOK G ∧ IAc A ∧ LV G (La.2 1) ∧ OKG G ∧ IPS P) (fun v _ _ _ _ => 31 - v.toNat) ?_ FU _ _ _ _ _ ⟨1, G0, rfl, by omega, hN0, hG0, hA0, hv0, ⟨k1, k2, k3, k4⟩, hP1⟩ (by show 31 - _ < 100000; omega)
    intro rec v N A C P hI hrec
    obtain ⟨i, G, rfl, hi, hN, hG, hA, hv, hk, hP⟩ := hI
    have hb := hG.1
    have hlie := L_lying (T := T0) (Ac := A) hN hG hv
    refine kf0_w ?_
    intro k12 h12
    have fin : ∃ r, k12 = some r ∧ True := by
      obtain ⟨PS', Pa', g1, -⟩ := L_agree hN hG hv hk.1 hk.2.2.1 hP Pa1
      rw [h12, hlie, bds]
      simp only [kf2, kf3]
      rw [nmn (bs_lt31 (show gL G ≤ 31 by omega)), if_neg (show ¬ ((bs (gL G) (lieS G) : Nat) : Int) < 0 by omega), g1, bds]
      dsimp only
      rw [if_neg (by decide : ¬ nm 1 = 0)]
      exact ⟨(), rfl, trivial⟩
    clear h12
    rw [nmn (show i < 2147483648 by omega), nmn (show L < 2147483648 by omega)]
    by_cases c1 : i < L
    · rw [if_pos (show (i : Int) < (L : Int) by omega)]
      by_cases c2 : i < 30
      · rw [if_pos (show (i : Int) < 30 by omega), rv1, hv.2.1, nmn (show gL G < 2147483648 by omega)]
        by_cases c3 : 0 < gL G
        · rw [if_pos (show (0 : Int) < ((gL G : Nat) : Int) by omega), ixn c1]
          obtain ⟨x, hx, ex⟩ := zand31 (zsc xs (i : Int))
          have hx3 : x >>> 3 ≤ x := by rw [Nat.shiftRight_eq_div_pow]; exact Nat.div_le_self _ _
          have hx12 : x >>> 12 ≤ x := by rw [Nat.shiftRight_eq_div_pow]; exact Nat.div_le_self _ _
          have e3 : zshr (x : Int) 3 = ((x >>> 3 : Nat) : Int) := zshrn (l := 3) hx (by omega)
          have e12 : zshr (x : Int) 12 = ((x >>> 12 : Nat) : Int) := zshrn (l := 12) hx (by omega)
          have e7 : zand (x : Int) 7 = ((x &&& 7 : Nat) : Int) := zandn (y := 7) hx (by omega)
          rw [ex, lt_e, rv1, hv.2.1, e3, e12, e7, nzi (by rw [nmn (by omega)]; omega), zremn (by omega) (by omega) c3, lt_e, rv2, hv.2.2.1, nzi (by rw [nmn (by omega)]; omega), zremn (by omega) (by omega) (by omega), lt_e, hlie, bds]
          obtain ⟨l, hld⟩ : ∃ l, (x >>> 3) % gL G = l := ⟨_, rfl⟩
          obtain ⟨f, hfd⟩ : ∃ f, (x >>> 12) % gk G = f := ⟨_, rfl⟩
          obtain ⟨s, hsd⟩ : ∃ s, x &&& 7 = s := ⟨_, rfl⟩
          have hl : l < gL G := by rw [← hld]; exact Nat.mod_lt _ c3
          have hf : f < gk G := by rw [← hfd]; exact Nat.mod_lt _ (by omega)
          have hs7 : s ≤ 7 := by rw [← hsd]; exact Nat.and_le_right
          rw [hld, hfd, hsd]
          refine kf4_w ?_
          intro k34 h34
          have nxt : ∀ N' A' C' P' G', RN N' G' → GOK G' → IAc A' → SN G G' → IPS P' → ∃ r, k34 N' A' C' P' = some r ∧ True := by
            intro N' A' C' P' G' n1 n2 n3 n4 n5
            rw [h34]
            exact hrec _ _ _ _ _ ⟨i + 1, G', by omega, by omega, n1, n2, n3, LV_sn n4 hv, OKG_sn n4 hk, n5⟩ (by omega)
          clear h34 hrec fin
          have hits4 := L_its4 hN hG hl
          have hits3 := L_its3 hN hG hl
          have h31 : bs (gL G) (lieS G) < 2147483648 := bs_lt31 (by omega)
          obtain ⟨Np, Ap, Cp, Gp, pl1, pl2, pl3, pl4, pl5⟩ := L_placed (T := T0) hN hG hA hv C hl
          by_cases s0 : s = 0
          · rw [if_pos (show (s : Int) = 0 by omega), pl1, bds]
            dsimp only
            rw [if_neg (by decide : ¬ nm 1 = 0)]
            exact nxt _ _ _ _ _ pl2 pl3 pl4 pl5 hP
          rw [if_neg (show ¬ (s : Int) = 0 by omega)]
          by_cases s1 : s = 1
          · rw [if_pos (show (s : Int) = 1 by omega), pl1, bds]
            dsimp only
            rw [if_neg (by decide : ¬ nm 1 = 0)]
            exact nxt _ _ _ _ _ pl2 pl3 pl4 pl5 hP
          rw [if_neg (show ¬ (s : Int) = 1 by omega)]
          by_cases s2 : s = 2
          · rw [if_pos (show (s : Int) = 2 by omega), pl1, bds]
            dsimp only
            rw [if_neg (by decide : ¬ nm 1 = 0)]
            exact nxt _ _ _ _ _ pl2 pl3 pl4 pl5 hP
          rw [if_neg (show ¬ (s : Int) = 2 by omega)]
          clear pl1 pl2 pl3 pl4 pl5
          by_cases s3 : s = 3
          · obtain ⟨N', A', G', a1, a2, a3, a4, a5, a6, a7⟩ := X_lift hN hG hA hl
            have hlie' := L_lying (T := T0) (Ac := A') a2 a3 (LV_sn a5 hv)
            have hset : ((bs (gL G) (lieS G') : Nat) : Int) = zand ((bs (gL G) (lieS G) : Nat) : Int) (zxor (zshl 1 (l : Int)) (-1)) := lie_out hl (by omega) a7
            rw [bs_sn a5] at hlie'
            rw [if_pos (show (s : Int) = 3 by omega), hits3, bds, a1, bds, kf0_e]
            dsimp only
            rw [if_pos rfl, hlie', bds, nmn (bs_lt31 (show gL G ≤ 31 by omega)), hset, if_pos rfl]
            exact nxt _ _ _ _ _ a2 a3 a4 a5 hP
          rw [if_neg (show ¬ (s : Int) = 3 by omega)]
          by_cases s4 : s = 4
          · rw [if_pos (show (s : Int) = 4 by omega), hits4, bds]
            refine kf1_w ?_
            intro k49 h49
            have done : ∀ w, w = gwhy G l (f : Int) → ∃ r, k49 w = some r ∧ True := by
              rintro w rfl
              rw [h49]
              obtain ⟨N', A', w', G', a1, a2, a3, a4, a5, a6, a7⟩ := X_put hN hG hA C hl hf
              have hlie' := L_lying (T := T0) (Ac := A') a2 a3 (LV_sn a5 hv)
              rw [bs_sn a5] at hlie'
              have hwr := gwhy_r G l (f : Int)
              dsimp only
              rw [a1, bds, kf0_e]
              dsimp only
              rw [if_pos rfl, hlie', bds, kf1_e, nmi (show -2147483648 ≤ gwhy G l (f : Int) ∧ gwhy G l (f : Int) < 2147483648 by omega)]
              by_cases w0 : gwhy G l (f : Int) = 0
              · have hset : ((bs (gL G) (lieS G') : Nat) : Int) = zor ((bs (gL G) (lieS G) : Nat) : Int) (zshl 1 (l : Int)) := lie_in hl (by omega) (fun j hj => (a7 j hj).trans ⟨fun y => y.elim Or.inl (fun y => Or.inr y.1), fun y => y.elim Or.inl (fun y => Or.inr ⟨y, w0⟩)⟩)
                rw [if_pos w0, ← hset]
                dsimp only
                rw [if_pos rfl]
                exact nxt _ _ _ _ _ a2 a3 a4 a5 hP
              · have hset : bs (gL G) (lieS G') = bs (gL G) (lieS G) := bs_ext (fun j hj => (a7 j hj).trans ⟨fun y => y.elim id (fun y => absurd y.2 w0), Or.inl⟩)
                rw [if_neg w0, hset]
                dsimp only
                rw [if_pos rfl]
                exact nxt _ _ _ _ _ a2 a3 a4 a5 hP
            clear h49
            unfold gwhy at done
            by_cases br : gbr G l
            · rw [idt br] at done
              rw [idt br, if_pos (by decide : nm 1 = 1)]
              exact done 1 rfl
            · rw [idf br] at done
              rw [idf br, if_neg (by decide : ¬ nm 0 = 1), L_has h31 (by omega), bds]
              by_cases li : (bs (gL G) (lieS G)).testBit l = true
              · have hne : gh G l ≠ -1 := ((bs_bit _ _ _).mp li).2
                rw [if_neg hne] at done
                rw [t10t li]
                exact done 2 rfl
              · have hn1 : gh G l = -1 := by
                  by_cases y : gh G l = -1
                  · exact y
                  · exact absurd ((bs_bit _ _ _).mpr ⟨hl, y⟩) li
                have hor : ((bs (gL G) (fun i => gh G i = (f : Int) ∨ i = l) : Nat) : Int) = zor ((bs (gL G) (fun i => gh G i = (f : Int)) : Nat) : Int) (zshl 1 (l : Int)) := lie_in hl (by omega) (fun j _ => Iff.rfl)
                rw [if_pos hn1] at done
                rw [t10f li, X_forest hN hG hf, bds, ← hor, L_isForest hG hv (bs_lt _ _), bds]
                by_cases fo : Fo (ga G) (gb G) (Eb G (bs (gL G) (fun i => gh G i = (f : Int) ∨ i = l)))
                · rw [if_pos ((fo_plus hG hl hn1).mp fo)] at done
                  rw [i10t fo]
                  exact done 0 rfl
                · rw [if_neg (fun y => fo ((fo_plus hG hl hn1).mpr y))] at done
                  rw [i10f fo]
                  exact done 3 rfl
          rw [if_neg (show ¬ (s : Int) = 4 by omega)]
          by_cases s5 : s = 5
          · obtain ⟨N', A', G', a1, a2, a3, a4, a5, a6, a7⟩ := X_breaks hN hG hA hl
            have hlie' := L_lying (T := T0) (Ac := A') a2 a3 (LV_sn a5 hv)
            rw [bs_sn a5] at hlie'
            have hset : ((bs (gL G) (lieS G') : Nat) : Int) = zand ((bs (gL G) (lieS G) : Nat) : Int) (zxor (zshl 1 (l : Int)) (-1)) := lie_out hl (by omega) a7
            have hits' := L_its4 a2 a3 (l := l) (by rw [a5.2.1]; exact hl)
            rw [idt a6] at hits'
            rw [if_pos (show (s : Int) = 5 by omega), hits4, bds, a1, bds, kf0_e]
            dsimp only
            rw [if_pos rfl, hits', bds, if_pos (by decide : nm 1 = 1), hlie', bds, nmn (bs_lt31 (show gL G ≤ 31 by omega)), hset, if_pos rfl]
            exact nxt _ _ _ _ _ a2 a3 a4 a5 hP
          rw [if_neg (show ¬ (s : Int) = 5 by omega)]
          by_cases s6 : s = 6
          · obtain ⟨N', A', G', a1, a2, a3, a4, a5, a6, a7⟩ := X_mend hN hG hA hl
            have hlie' := L_lying (T := T0) (Ac := A') a2 a3 (LV_sn a5 hv)
            rw [bs_sn a5, bs_ext a7] at hlie'
            have hits' := L_its4 a2 a3 (l := l) (by rw [a5.2.1]; exact hl)
            rw [idf a6] at hits'
            have hone : nm (if dc (gbr G l) then 0 else 1) = nm (1 - (if dc (gbr G l) then 1 else 0)) := by
              by_cases br : gbr G l
              · rw [idt br, idt br]; decide
              · rw [idf br, idf br]; decide
            rw [if_pos (show (s : Int) = 6 by omega), hits4, bds, a1, bds, kf0_e]
            dsimp only
            rw [if_pos hone, hits', bds, if_pos (by decide : nm 0 = 0), hlie', bds, if_pos rfl]
            exact nxt _ _ _ _ _ a2 a3 a4 a5 hP
          rw [if_neg (show ¬ (s : Int) = 6 by omega)]
          obtain ⟨v, N', A', C', G', a1, a2, a3, a4, a5, a6, a7, a8, a9⟩ := X_pack hN hG hA C
          have hlie' := L_lying (T := T0) (Ac := A') a2 a3 (LV_sn a5 hv)
          have hmost := max_most a3 a9
          obtain ⟨N2, A2, C2, G2, b1, b2, b3, b4, b5⟩ := X_pack2 a2 a3 a4 a9 C'
          obtain ⟨w, m1⟩ := X_most a2 a3 P (k := gk G') (by have := a3.1; omega)
          rw [← hmost] at m1
          rw [bs_sn a5] at hlie'
          have hz : bs (gL G) (fun i => lieS G i ∧ ¬ lieS G' i) = 0 := bs_zero.mpr (fun i _ y => y.2 (a7 i y.1))
          have hbit : ∀ p : Nat → Prop, fL_bits ((bs (gL G) p : Nat) : Int) = some ((cnt (gL G) p : Nat) : Int) := fun p => by rw [L_bits (Nat.lt_of_lt_of_le (bs_lt _ _) (Nat.pow_le_pow_right (by omega) hb.2.1)), ppc_bs hb.2.1]
          have hc1 := cnt_le (gL G) (lieS G')
          have hsum : ((cnt (gL G) (lieS G) : Nat) : Int) + (v : Int) = ((cnt (gL G) (lieS G') : Nat) : Int) := by omega
          have hgk : ((gk G : Nat) : Int) = ((gk G' : Nat) : Int) := by rw [a5.2.2.1]
          have hcl : cnt (gL G') (lieS G') = cnt (gL G) (lieS G') := by rw [a5.2.1]
          rw [hcl] at m1
          rw [a1, bds]
          dsimp only
          rw [hlie', bds]
          simp only [kf4]
          rw [nmn (bs_lt31 (show gL G ≤ 31 by omega)), if_neg (show ¬ ((bs (gL G) (lieS G') : Nat) : Int) < 0 by omega), zcompn (bs_lt31 (by omega)) (bs_lt31 (by omega)), bs_ndf, hz, if_pos (by decide : ((0 : Nat) : Int) = 0), hbit, bds, hbit, bds, hsum, if_pos rfl, bds, rv2, hv.2.2.1, hgk, m1, bds]
          dsimp only
          rw [if_pos rfl, b1, bds]
          dsimp only
          rw [if_pos (by decide : nm 0 = 0)]
          exact nxt _ _ _ _ _ b2 b3 b4 (SN_tr a5 b5) hP
        · rw [if_neg (show ¬ (0 : Int) < ((gL G : Nat) : Int) by omega)]
          exact fin
      · rw [if_neg (show ¬ (i : Int) < 30 by omega)]
        exact fin
    · rw [if_neg (show ¬ (i : Int) < (L : Int) by omega)]
      exact fin
  obtain ⟨r, h3, -⟩ := main
  exact h3
