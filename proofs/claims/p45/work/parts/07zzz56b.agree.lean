-- needs: 07zzz56.lawagree
/-! agree: fewest, most, thick, strength, trees, crowded, one by another -/
theorem floor_q {m A D B P : Nat} (hD : 1 ≤ D) (hP : 1 ≤ P) (h : A * P = B * D) (h1 : m * P ≤ B) (h2 : B < (m+1) * P) : A / D = m := by
  have y1 : m * D ≤ A := by
    have z : m * P * D ≤ B * D := Nat.mul_le_mul_right D h1
    have z2 : m * P * D = m * D * P := by rw [Nat.mul_assoc, Nat.mul_comm P D, ← Nat.mul_assoc]
    exact Nat.le_of_mul_le_mul_right (show m * D * P ≤ A * P by omega) (by omega)
  have y2 : A < (m+1) * D := by
    have z : (B + 1) * D ≤ (m+1) * P * D := Nat.mul_le_mul_right D h2
    have z1 : (B + 1) * D = B * D + D := Nat.succ_mul _ _
    have z2 : (m+1) * P * D = (m+1) * D * P := by rw [Nat.mul_assoc, Nat.mul_comm P D, ← Nat.mul_assoc]
    rcases Nat.lt_or_ge A ((m+1) * D) with q | q
    · exact q
    · have z3 : (m+1) * D * P ≤ A * P := Nat.mul_le_mul_right P q
      omega
  exact Nat.div_eq_of_lt_le y1 y2
section
variable {G : GV} {N PS La : ZB}
theorem inn_bs (G : GV) (s : Nat) : inn G (fun l => (bs (gL G) (snd_ G)).testBit l = true) s = inn G (snd_ G) s := cnt_ext (fun i hi => ⟨fun z => ⟨((bs_bit _ _ _).mp z.1).2, z.2⟩, fun z => ⟨(bs_bit _ _ _).mpr ⟨hi, z.1⟩, z.2⟩⟩)
theorem Sp_14 (hG : GOK G) (hL : gL G ≤ 14) : Sp G 14 (snd_ G) := by
  intro s hs hs0
  by_cases q : 2 ≤ ppc s
  · have h1 := inn_le G (snd_ G) s
    have h2 : 14 * 1 ≤ 14 * (ppc s - 1) := Nat.mul_le_mul_left 14 (by omega)
    omega
  · rw [inn_small hG hs (by omega)]; exact Nat.zero_le _
theorem Tk_cnt0 (hG : GOK G) (hn : 1 ≤ gn G) (A : Nat → Prop) : cnt (gL G) (Tk G 0 A (gL G)) = 0 := by
  have h := Tk_cnt (k := 0) hG hn A
  rw [Nat.zero_mul] at h
  omega
/-- agree, the sets of points and what stands behind them -/
theorem L_agree (hN : RN N G) (hG : GOK G) (hv : LV G (La.2 1)) (hn : 2 ≤ gn G) (hL : gL G ≤ 14) (hP : IPS PS) (Pa : ZQ) : ∃ PS' Pa', fL_agree N PS Pa La = some (1, PS', Pa') ∧ IPS PS' := by
  have hb := hG.1
  have h24 : bs (gL G) (snd_ G) < 2 ^ 24 := Nat.lt_of_lt_of_le (bs_lt _ _) (Nat.pow_le_pow_right (by omega) hb.2.1)
  have h31 : bs (gL G) (snd_ G) < 2147483648 := bs_lt31 (by omega)
  have hbits : fL_bits ((bs (gL G) (snd_ G) : Nat) : Int) = some ((cnt (gL G) (snd_ G) : Nat) : Int) := by rw [L_bits h24, ppc_bs hb.2.1]
  have hc := cnt_le (gL G) (snd_ G)
  have hS := Sp_14 hG hL
  have hn10 : 2 ^ gn G ≤ 1024 := Nat.pow_le_pow_right (n := 2) (by omega) hb.1
  have hpp := Nat.two_pow_pos (gn G)
  have c24 : (1024 : Nat) < 2 ^ 24 := by decide
  obtain ⟨K, hKd⟩ : ∃ K, mxs (shv G 1) (2 ^ gn G) = K := ⟨_, rfl⟩
  have hK14 : K ≤ 14 := by rw [← hKd]; exact (fw_le hG).mpr hS
  have hKs : Sp G K (snd_ G) := (fw_le hG).mp (by omega)
  obtain ⟨A, B, S, hQ, hth⟩ := X_thick hN hG hn
  have hfe := thick_fewest hG hQ
  rw [hKd] at hfe
  have heach := fun s => thick_each (s := s) hQ
  obtain ⟨q1, q2, q3, q4, q5, q6, q7⟩ := hQ
  obtain ⟨B2, P2, A2, D2, hBst, r1, r2, r3, r4, hst⟩ := X_strength hN hG hn
  have hS24 : S < 2 ^ 24 := by omega
  have eg : ((gn G : Nat) : Int) - 1 = ((gn G - 1 : Nat) : Int) := by omega
  have main : wp (fL_agree N PS Pa La) (fun r => r.1 = 1 ∧ IPS r.2.1) := by
    obtain ⟨w1, e1⟩ := X_fewest hN hG hP
    rw [hKd] at e1
    obtain ⟨w2, e2⟩ := X_most hN hG (PS.1, ua PS.2 1 w1) (k := K) (by omega)
    rw [(most_all hG).mpr hKs] at e2
    unfold fL_agree
    rw [L_sound hN hG hv, bds, e1, bds, e2, bds, hbits, bds]
    refine kf1_w ?_
    intro k6 _
    rw [if_pos rfl]
    refine kf1_w ?_
    intro k8 h8
    have h8' : ∀ P7, IPS P7 → wp (k8 P7) (fun r => r.1 = 1 ∧ IPS r.2.1) := by
      intro P7 hP7
      rw [h8]
      clear h8
      obtain ⟨t1, -, -⟩ := hth P7 hP7
      obtain ⟨P8, e8, hP8⟩ := t1
      obtain ⟨-, ⟨P9, e9, hP9⟩, -⟩ := hth P8 hP8
      obtain ⟨-, -, ⟨P10, e10, hP10⟩⟩ := hth P9 hP9
      show wp (bd (fX_thick N P7 0) _) _
      have hpl := ppc_le (n := gn G) (s := S) (by omega) q4
      have hil := inn_le G (snd_ G) S
      have ea : ((A : Int) + (B : Int)) - 1 = ((A + B - 1 : Nat) : Int) := by omega
      have eb : ((ppc S : Nat) : Int) - 1 = ((ppc S - 1 : Nat) : Int) := by omega
      have hm1 : A * (ppc S - 1) ≤ 24 * 9 := Nat.mul_le_mul q1 (by omega)
      rw [e8, bds, e9, bds, e10, bds, kf0_e]
      dsimp only
      rw [nmn (show B < 2147483648 by omega), if_neg (show ¬ (B : Int) < 1 by omega), nzi (by rw [nmn (by omega)]; omega), ea, zdivn (by omega) (by omega) (by omega), hfe, nmn (show K < 2147483648 by omega), if_pos rfl, L_inner hG hv (by omega) h31, bds, inn_bs, L_bits hS24, bds, eb, ← Int.natCast_mul, ← Int.natCast_mul, q6, if_pos rfl]
      refine lop1_w (fun v => ∃ s : Nat, v = (s : Int) ∧ 1 ≤ s ∧ s ≤ 2 ^ gn G) (fun v => 2 ^ gn G - v.toNat) ?_ FU _ ⟨1, rfl, Nat.le_refl 1, by omega⟩ (by show 2 ^ gn G - _ < 100000; omega)
      intro rec v hI hrec
      obtain ⟨s, rfl, hs1, hs2⟩ := hI
      rw [rv0, hv.1, zshln (show gn G < 31 by omega), nmn (show s < 2147483648 by omega)]
      by_cases hlt : s < 2 ^ gn G
      · have hs24 : s < 2 ^ 24 := by omega
        have hps := ppc_le (n := gn G) (s := s) (by omega) hlt
        have his := inn_le G (snd_ G) s
        have hnext := hrec ((s : Int) + 1) ⟨s+1, by omega, by omega, by omega⟩ (by omega)
        rw [if_pos (show (s : Int) < ((2 ^ gn G : Nat) : Int) by omega), L_bits hs24, bds, kf0_e, nmn (show ppc s < 2147483648 by omega)]
        by_cases h2 : 2 ≤ ppc s
        · have e3 := heach s hlt h2
          have ep : ((ppc s : Nat) : Int) - 1 = ((ppc s - 1 : Nat) : Int) := by omega
          have hm2 : A * (ppc s - 1) ≤ 24 * 9 := Nat.mul_le_mul q1 (by omega)
          rw [if_pos (show (1 : Int) < ((ppc s : Nat) : Int) by omega), L_inner hG hv (by omega) h31, bds, inn_bs, bds, ep, ← Int.natCast_mul, ← Int.natCast_mul, nmn (show A * (ppc s - 1) < 2147483648 by omega), nmn (show inn G (snd_ G) s * B < 2147483648 by omega), if_neg (show ¬ ((A * (ppc s - 1) : Nat) : Int) < ((inn G (snd_ G) s * B : Nat) : Int) by omega)]
          exact hnext
        · rw [if_neg (show ¬ (1 : Int) < ((ppc s : Nat) : Int) by omega)]
          exact hnext
      · rw [if_neg (show ¬ (s : Int) < ((2 ^ gn G : Nat) : Int) by omega)]
        obtain ⟨m, w4, hm24, e11, hm2, hm3⟩ := X_trees hN hG hn P10
        have hmt : cnt (gL G) (Tk G m (snd_ G) (gL G)) = m * (gn G - 1) := by
          cases m with
          | zero => rw [Tk_cnt0 hG (by omega), Nat.zero_mul]
          | succ m => exact hm3 m (Nat.lt_succ_self m)
        have hmc := cnt_le (gL G) (Tk G m (snd_ G) (gL G))
        have hmm : m * 1 ≤ m * (gn G - 1) := Nat.mul_le_mul_left m (by omega)
        have hm1l := Tk_cnt (k := m+1) hG (by omega) (snd_ G)
        have hmp : (m + 1) * (gn G - 1) ≤ 15 * 9 := Nat.mul_le_mul (by omega) (by omega)
        obtain ⟨g1, g2⟩ := trees_strength hG hn hBst hmt (by omega)
        have hP2 := hBst.1
        have hfl : A2 / D2 = m := floor_q r2 (by omega) r4 g1 g2
        obtain ⟨-, ⟨P12, Q12, e12, hP12⟩⟩ := hst (P10.1, ua P10.2 2 w4) Pa hP10
        obtain ⟨⟨P13, Q13, e13, hP13⟩, -⟩ := hst P12 Q12 hP12
        obtain ⟨-, ⟨P14, Q14, e14, hP14⟩⟩ := hst P13 Q13 hP13
        obtain ⟨w5, e15⟩ := X_most hN hG P14 (k := m) (by omega)
        rw [hmt] at e15
        obtain ⟨w6, e16⟩ := X_most hN hG (P14.1, ua P14.2 2 w5) (k := m + 1) (by omega)
        have em : (m : Int) + 1 = ((m + 1 : Nat) : Int) := by omega
        rw [e11, bds, e12, bds, kf2_e]
        dsimp only
        rw [nmn (show D2 < 2147483648 by omega), if_neg (show ¬ (D2 : Int) < 1 by omega), e13, bds, e14, bds]
        dsimp only
        rw [nzi (by rw [nmn (by omega)]; omega), zdivn (by omega) (by omega) (by omega), hfl, nmn (show m < 2147483648 by omega), if_pos rfl, e15, bds, rv0, hv.1]
        dsimp only
        rw [eg, ← Int.natCast_mul, if_pos rfl, em, e16, bds, rv0, hv.1]
        dsimp only
        rw [eg, ← Int.natCast_mul, nmn (show (m + 1) * (gn G - 1) < 2147483648 by omega), nmn (show cnt (gL G) (Tk G (m + 1) (snd_ G) (gL G)) < 2147483648 by omega), if_pos (show ((cnt (gL G) (Tk G (m + 1) (snd_ G) (gL G)) : Nat) : Int) < (((m + 1) * (gn G - 1) : Nat) : Int) by omega)]
        refine lop2_w (fun v P => ∃ k : Nat, v = (k : Int) ∧ k ≤ 4 ∧ IPS P) (fun v _ => 4 - v.toNat) ?_ FU _ _ ⟨0, rfl, by omega, hP14⟩ (by show 4 - _ < 100000; omega)
        intro rec2 v P hI hrec2
        obtain ⟨k, rfl, hk, hPP⟩ := hI
        simp only [kf0, kf1, kf2]
        rw [nmn (show k < 2147483648 by omega)]
        by_cases hk4 : k < 4
        · obtain ⟨w7, e17⟩ := X_crowded hN hG hPP (k := k) (by omega)
          obtain ⟨w8, e18⟩ := X_most hN hG (P.1, ua P.2 1 w7) (k := k) (by omega)
          have hcl := cnt_le (gL G) (Tk G k (snd_ G) (gL G))
          rw [if_pos (show (k : Int) < 4 by omega)]
          by_cases z : Sp G k (snd_ G)
          · rw [(crf_zero hG).mpr z] at e17
            rw [(most_all hG).mpr z] at e18
            rw [e17, bds]
            dsimp only
            rw [if_pos (by decide : nm ((0 : Nat) : Int) = 0), e18, bds]
            dsimp only
            rw [bds, if_pos rfl, if_pos trivial, if_pos (by decide : nm ((0 : Nat) : Int) = 0)]
            exact hrec2 _ _ ⟨k+1, by omega, by omega, hPP⟩ (by omega)
          · have hcz : (crf G k (2 ^ gn G)).1 ≠ 0 := fun y => z ((crf_zero hG).mp y)
            have hma : cnt (gL G) (Tk G k (snd_ G) (gL G)) ≠ cnt (gL G) (snd_ G) := fun y => z ((most_all hG).mp y)
            rcases crf_what (k := k) hG (2 ^ gn G) (Nat.le_refl _) with ⟨a1, -, -⟩ | ⟨-, a2, a3, a4, a5⟩
            · exact absurd a1 hcz
            · obtain ⟨c, hcd⟩ : ∃ c, (crf G k (2 ^ gn G)).1 = c := ⟨_, rfl⟩
              rw [hcd] at e17 hcz a2 a3 a5
              have hin : ¬ inn G (snd_ G) c ≤ k * (ppc c - 1) := fun y => by
                have := (crD_le (G := G) (k := k) (s := c) (by omega)).mpr y
                omega
              have hcp := ppc_le (n := gn G) (s := c) (by omega) a2
              have hci := inn_le G (snd_ G) c
              have ep : ((ppc c : Nat) : Int) - 1 = ((ppc c - 1 : Nat) : Int) := by omega
              rw [e17, bds]
              dsimp only
              rw [nmn (show c < 2147483648 by omega), if_neg (show ¬ (c : Int) = 0 by omega), e18, bds]
              dsimp only
              rw [bds, nmn (show cnt (gL G) (Tk G k (snd_ G) (gL G)) < 2147483648 by omega), nmn (show cnt (gL G) (snd_ G) < 2147483648 by omega), if_neg (show ¬ ((cnt (gL G) (Tk G k (snd_ G) (gL G)) : Nat) : Int) = ((cnt (gL G) (snd_ G) : Nat) : Int) by omega), if_pos trivial, if_neg (show ¬ (c : Int) = 0 by omega), L_inner hG hv (by omega) h31, bds, inn_bs, L_bits (by omega), bds, ep, ← Int.natCast_mul, nmn (show k * (ppc c - 1) < 2147483648 by omega), nmn (show inn G (snd_ G) c < 2147483648 by omega), if_pos (show ((k * (ppc c - 1) : Nat) : Int) < ((inn G (snd_ G) c : Nat) : Int) by omega)]
              exact hrec2 _ _ ⟨k+1, by omega, by omega, hPP⟩ (by omega)
        · rw [if_neg (show ¬ (k : Int) < 4 by omega)]
          exact ⟨_, rfl, rfl, hPP⟩
    rw [nmn (show K < 2147483648 by omega)]
    by_cases hK0 : 0 < K
    · obtain ⟨w3, e3⟩ := X_most hN hG (PS.1, ua (ua PS.2 1 w1) 2 w2) (k := K - 1) (by omega)
      have hlt : cnt (gL G) (Tk G (K-1) (snd_ G) (gL G)) < cnt (gL G) (snd_ G) := by
        have h1 := most_le G (K-1)
        rcases Nat.lt_or_ge (cnt (gL G) (Tk G (K-1) (snd_ G) (gL G))) (cnt (gL G) (snd_ G)) with z | z
        · exact z
        · have h2 := (fw_le hG).mpr ((most_all hG).mp (Nat.le_antisymm h1 z))
          omega
      have ek : ((K : Nat) : Int) - 1 = ((K - 1 : Nat) : Int) := by omega
      rw [if_pos (show (0 : Int) < ((K : Nat) : Int) by omega), ek, e3, bds]
      dsimp only
      rw [bds, nmn (show cnt (gL G) (Tk G (K-1) (snd_ G) (gL G)) < 2147483648 by omega), nmn (show cnt (gL G) (snd_ G) < 2147483648 by omega), if_pos (show ((cnt (gL G) (Tk G (K-1) (snd_ G) (gL G)) : Nat) : Int) < ((cnt (gL G) (snd_ G) : Nat) : Int) by omega)]
      exact h8' _ hP
    · rw [if_neg (show ¬ (0 : Int) < ((K : Nat) : Int) by omega)]
      exact h8' _ hP
  obtain ⟨⟨r, P', Q'⟩, h1, h2, h3⟩ := main
  have h2' : r = 1 := h2
  subst h2'
  exact ⟨P', Q', h1, h3⟩
end
