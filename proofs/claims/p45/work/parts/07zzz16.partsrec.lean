-- needs: 07zzz15.parts
/-! strength: the reference's recursion -/
section
variable {G : GV}
theorem pcs_le (i : Nat) (c : Nat → Nat) : pcsn i c ≤ i := cnt_le _ _
theorem bcn_le (G : GV) (i : Nat) (c : Nat → Nat) : bcn G i c ≤ gL G := cnt_le _ _
theorem Kn_pcs {i : Nat} {c d : Nat → Nat} (h : Kn i c d) : pcsn i d = pcsn i c := cnt_ext (fun x hx => by
  unfold fo
  exact ⟨fun z y hy q => z y hy ((h y x (by omega) hx).mpr q), fun z y hy q => z y hy ((h y x (by omega) hx).mp q)⟩)
theorem Kn_bcn {i : Nat} {c d : Nat → Nat} (h : Kn i c d) : bcn G i d = bcn G i c := cnt_ext (fun l _ => by
  constructor
  · rintro ⟨a, b, e, f⟩; exact ⟨a, b, e, fun z => f ((h _ _ b e).mpr z)⟩
  · rintro ⟨a, b, e, f⟩; exact ⟨a, b, e, fun z => f ((h _ _ b e).mp z)⟩)
theorem Kn_step {i v : Nat} {c d : Nat → Nat} (h : Kn i c d) (hv : ∀ x, x < i → (d x = d i ↔ c x = v)) : Kn (i+1) (cu c i v) d := by
  intro x y hx hy
  by_cases q : x = i
  · by_cases q' : y = i
    · rw [q, q']; exact ⟨fun _ => rfl, fun _ => rfl⟩
    · rw [q, cu_e, cu_n q']
      have := hv y (by omega)
      exact ⟨fun z => (this.mp z.symm).symm, fun z => (this.mpr z.symm).symm⟩
  · rw [cu_n q]
    by_cases q' : y = i
    · rw [q', cu_e]; exact hv x (by omega)
    · rw [cu_n q']; exact h x y (by omega) (by omega)
def PRes (G : GV) (M : ZB) (i : Nat) (c : Nat → Nat) (M' : ZB) : Prop := MFp M M' ∧ (∀ x, x < i → M'.2 36 x = M.2 36 x) ∧ StP G M' ∧ (∀ d, 2 ≤ pcsn (gn G) d → CovP G M d → CovP G M' d) ∧ ∀ d, Kn i c d → 2 ≤ pcsn (gn G) d → CovP G M' d
theorem lq_refl (B P : Nat) : lq B P B P := Or.inr ⟨rfl, Nat.le_refl _⟩
theorem M_leaf (hG : GOK G) {M : ZB} {a2 : Nat} {c : Nat → Nat} (hGr : Gr (gn G) a2 c) (hSt : StP G M) : ∃ M', (if nm ((a2 : Nat) : Int) < 2 then some M else
        kf1 (fun (w0_21 : Int) =>
          kf0 (some M) fun k_23 =>
          if 0 < (nm w0_21) then (
            k_23)
          else (
            kf0 (lt (up M.1 37 (((bcn G (gn G) c : Nat) : Int)), M.2) fun M_25 =>
            lt (up M_25.1 38 ((a2 : Int)), M_25.2) fun M_26 =>
            some M_26) fun k_24 =>
            if (nm w0_21) = 0 then (
              if (nm (a2 : Int)) < (nm (M.1 38)) then (
                k_24)
              else (
                k_23))
            else (
              k_24))) fun k_22 =>
        if (nm (M.1 38)) = 0 then (
          k_22 (-1))
        else (
          k_22 ((((bcn G (gn G) c : Nat) : Int) * ((M.1 38) - 1)) - ((M.1 37) * ((a2 : Int) - 1))))) = some M' ∧ PRes G M (gn G) c M' := by
  have hb := hG.1
  have hpc := pcs_le (gn G) c
  have hbc := bcn_le G (gn G) c
  have ha := hGr.2.2
  rw [nmn (show a2 < 2147483648 by omega)]
  have same : (∀ d, Kn (gn G) c d → 2 ≤ pcsn (gn G) d → CovP G M d) → PRes G M (gn G) c M := fun h => ⟨⟨fun _ _ _ => rfl, fun _ _ => rfl⟩, fun _ _ => rfl, hSt, fun _ _ h => h, h⟩
  by_cases h2 : a2 < 2
  · rw [if_pos (by omega)]
    exact ⟨M, rfl, same (fun d hd h => by rw [Kn_pcs hd] at h; omega)⟩
  · rw [if_neg (by omega)]
    have upd : (∀ d, 2 ≤ pcsn (gn G) d → CovP G M d → lq (bcn G (gn G) c) a2 (bcn G (gn G) d) (pcsn (gn G) d)) → PRes G M (gn G) c (up (up M.1 37 ((bcn G (gn G) c : Nat) : Int)) 38 (a2 : Int), M.2) := by
      intro h
      refine ⟨⟨fun i h1 h2 => ?_, fun _ _ => rfl⟩, fun _ _ => rfl, Or.inr ⟨c, rfl, by rw [← ha]; rfl, by omega⟩, fun d hd hc => ⟨_, _, rfl, rfl, by omega, h d hd hc⟩, fun d hd hc => ⟨_, _, rfl, rfl, by omega, ?_⟩⟩
      · show up (up M.1 37 _) 38 _ i = _
        rw [up_n _ _ h2, up_n _ _ h1]
      · rw [Kn_bcn hd, Kn_pcs hd, ← ha]; exact lq_refl _ _
    rw [kf1_e]
    rcases hSt with h0 | ⟨c0, s1, s2, s3⟩
    · refine ⟨_, ?_, upd (fun d _ hc => ?_)⟩
      · rw [h0, if_pos (by decide)]
        show (if 0 < nm (-1) then some M else if nm (-1) = 0 then (if (a2 : Int) < nm 0 then some (up (up M.1 37 ((bcn G (gn G) c : Nat) : Int)) 38 (a2 : Int), M.2) else some M) else some (up (up M.1 37 ((bcn G (gn G) c : Nat) : Int)) 38 (a2 : Int), M.2)) = _
        rw [if_neg (by decide), if_neg (by decide)]
      · obtain ⟨B, P, q1, q2, q3, q4⟩ := hc
        rw [h0] at q2; omega
    · have hp0 := pcs_le (gn G) c0
      have hb0 := bcn_le G (gn G) c0
      have m1 : bcn G (gn G) c * (pcsn (gn G) c0 - 1) ≤ 24 * 9 := Nat.mul_le_mul (by omega) (by omega)
      have m2 : bcn G (gn G) c0 * (a2 - 1) ≤ 24 * 9 := Nat.mul_le_mul (by omega) (by omega)
      have ev : (((bcn G (gn G) c : Nat) : Int) * (((pcsn (gn G) c0 : Nat) : Int) - 1)) - (((bcn G (gn G) c0 : Nat) : Int) * ((a2 : Int) - 1)) = ((bcn G (gn G) c * (pcsn (gn G) c0 - 1) : Nat) : Int) - ((bcn G (gn G) c0 * (a2 - 1) : Nat) : Int) := by
        rw [Int.natCast_mul, Int.natCast_mul, show ((pcsn (gn G) c0 - 1 : Nat) : Int) = ((pcsn (gn G) c0 : Nat) : Int) - 1 by omega, show ((a2 - 1 : Nat) : Int) = (a2 : Int) - 1 by omega]
      have hcov0 : CovP G M c0 := ⟨_, _, s1, s2, s3, lq_refl _ _⟩
      have keep : lq (bcn G (gn G) c0) (pcsn (gn G) c0) (bcn G (gn G) c) a2 → PRes G M (gn G) c M := by
        intro h
        refine same (fun d hd hc => ⟨_, _, s1, s2, s3, ?_⟩)
        rw [Kn_bcn hd, Kn_pcs hd, ← ha]; exact h
      have better : lq (bcn G (gn G) c) a2 (bcn G (gn G) c0) (pcsn (gn G) c0) → PRes G M (gn G) c (up (up M.1 37 ((bcn G (gn G) c : Nat) : Int)) 38 (a2 : Int), M.2) := by
        intro h
        refine upd (fun d hd hc => ?_)
        obtain ⟨B, P, q1, q2, q3, q4⟩ := hc
        have e1 : B = bcn G (gn G) c0 := by rw [s1] at q1; omega
        have e2 : P = pcsn (gn G) c0 := by rw [s2] at q2; omega
        rw [e1, e2] at q4
        exact lq_tr h q4 s3 (by omega) hd
      rw [s1, s2, nmn (show pcsn (gn G) c0 < 2147483648 by omega), if_neg (by omega), ev]
      show ∃ M', (if 0 < nm (((bcn G (gn G) c * (pcsn (gn G) c0 - 1) : Nat) : Int) - ((bcn G (gn G) c0 * (a2 - 1) : Nat) : Int)) then some M else if nm (((bcn G (gn G) c * (pcsn (gn G) c0 - 1) : Nat) : Int) - ((bcn G (gn G) c0 * (a2 - 1) : Nat) : Int)) = 0 then (if (a2 : Int) < ((pcsn (gn G) c0 : Nat) : Int) then some (up (up M.1 37 ((bcn G (gn G) c : Nat) : Int)) 38 (a2 : Int), M.2) else some M) else some (up (up M.1 37 ((bcn G (gn G) c : Nat) : Int)) 38 (a2 : Int), M.2)) = some M' ∧ _
      rw [nmi (by omega)]
      by_cases z1 : bcn G (gn G) c0 * (a2 - 1) < bcn G (gn G) c * (pcsn (gn G) c0 - 1)
      · rw [if_pos (by omega)]
        exact ⟨M, rfl, keep (Or.inl z1)⟩
      · rw [if_neg (by omega)]
        by_cases z2 : bcn G (gn G) c * (pcsn (gn G) c0 - 1) = bcn G (gn G) c0 * (a2 - 1)
        · rw [if_pos (by omega)]
          by_cases z3 : a2 < pcsn (gn G) c0
          · rw [if_pos (by omega)]
            exact ⟨_, rfl, better (Or.inr ⟨z2, by omega⟩)⟩
          · rw [if_neg (by omega)]
            exact ⟨M, rfl, keep (Or.inr ⟨z2.symm, by omega⟩)⟩
        · rw [if_neg (by omega)]
          exact ⟨_, rfl, better (Or.inl (by omega))⟩
theorem M_parts (hG : GOK G) : ∀ (fu i a2 : Nat) (c : Nat → Nat) (M : ZB), RW (M.2 12) G → i ≤ gn G → gn G - i < fu → Gr i a2 c → (∀ x, x < i → M.2 36 x = (c x : Nat)) → StP G M → ∃ M', fM_parts fu M (i : Int) (a2 : Int) ((bcn G i c : Nat) : Int) = some M' ∧ PRes G M i c M' := by
  intro fu
  induction fu with
  | zero => intro i a2 c M _ _ h; omega
  | succ fu ih =>
    intro i a2 c M hM hi hfu hGr hg hSt
    have hb := hG.1
    have ha := hGr.2.2
    have hpc := pcs_le i c
    unfold fM_parts
    rw [M_points hM, bds, nmn (show i < 2147483648 by omega), nmn (show gn G < 2147483648 by omega)]
    by_cases hin : i = gn G
    · subst hin
      rw [if_pos rfl]
      exact M_leaf hG hGr hSt
    · rw [if_neg (by omega)]
      have main : wp (lop2 FU (fun rec_4 (v4_2 : Int) (M_3 : ZB) =>
        if (nm (a2 : Int)) < (nm v4_2) then (
          some M_3)
        else (
          ix 10 (i : Int) <| lt (M_3.1, ua M_3.2 36 (up (M_3.2 36) (Int.toNat (i : Int)) v4_2)) fun M_5 =>
          lop2 FU (fun rec_8 (v5_6 : Int) (v6_7 : Int) =>
            bd (fM_lines M_5) fun u_9 =>
            if (nm v6_7) < (nm u_9) then (
              bd (fM_isBroken M_5 v6_7) fun u_13 =>
              kf1 (fun (v5_14 : Int) =>
                rec_8 v5_14 (v6_7 + 1)) fun k_15 =>
              if (nm u_13) = 0 then (
                bd (fM_isLatest M_5 v6_7 (i : Int)) fun u_16 =>
                if (nm u_16) = 0 then (
                  k_15 v5_6)
                else (
                  rd (M_5.2 12) 147 (3 + v6_7) fun x_17 =>
                  rd (M_5.2 36) 10 x_17 fun x_18 =>
                  rd (M_5.2 12) 147 (27 + v6_7) fun x_19 =>
                  rd (M_5.2 36) 10 x_19 fun x_20 =>
                  if (nm x_18) = (nm x_20) then (
                    k_15 v5_6)
                  else (
                    k_15 (v5_6 + 1))))
              else (
                k_15 v5_6))
            else (
              kf1 (fun (w2_10 : Int) =>
                bd (fM_parts fu M_5 ((i : Int) + 1) w2_10 (((bcn G i c : Nat) : Int) + v5_6)) fun u_12 =>
                rec_4 (v4_2 + 1) u_12) fun k_11 =>
              if (nm v4_2) = (nm (a2 : Int)) then (
                k_11 ((a2 : Int) + 1))
              else (
                k_11 (a2 : Int)))) 0 0)) 0 M) (fun M' => PRes G M i c M') := by
        refine lop2_w (fun v4 Mc => ∃ k : Nat, v4 = (k : Int) ∧ k ≤ a2 + 1 ∧ MFp M Mc ∧ (∀ x, x < i → Mc.2 36 x = (c x : Nat)) ∧ StP G Mc ∧ (∀ d, 2 ≤ pcsn (gn G) d → CovP G M d → CovP G Mc d) ∧ ∀ d, Kn i c d → 2 ≤ pcsn (gn G) d → (∃ v, v < k ∧ ∀ x, x < i → (d x = d i ↔ c x = v)) → CovP G Mc d) (fun v4 _ => a2 + 1 - v4.toNat) ?_ FU _ _ ⟨0, rfl, by omega, ⟨fun _ _ _ => rfl, fun _ _ => rfl⟩, hg, hSt, fun _ _ h => h, fun d _ _ ⟨v, h, _⟩ => absurd h (Nat.not_lt_zero v)⟩ (by show a2 + 1 - _ < 100000; omega)
        intro rec v4 Mc hI hrec
        obtain ⟨k, rfl, hk, hMF, hgc, hStc, hmon, hcov⟩ := hI
        rw [nmn (show a2 < 2147483648 by omega), nmn (show k < 2147483648 by omega)]
        by_cases hka : k ≤ a2
        · have hMc : RW (Mc.2 12) G := by rw [hMF.2 12 (by decide)]; exact hM
          have hM5 : RW (((Mc.1, ua Mc.2 36 (up (Mc.2 36) i (k : Int))) : ZB).2 12) G := hMc
          have hg5 : ∀ x, x < i + 1 → up (Mc.2 36) i (k : Int) x = (cu c i k x : Nat) := by
            intro x hx
            by_cases q : x = i
            · subst q; rw [up_e, cu_e]
            · rw [up_n _ _ q, cu_n q]; exact hgc x (by omega)
          rw [if_neg (by omega), ixn (by omega), lt_e, Int.toNat_natCast]
          refine lop2_w (fun v5 v6 => ∃ m : Nat, v6 = (m : Int) ∧ m ≤ gL G ∧ v5 = ((cnt m (fun l => snd_ G l ∧ lat G l i ∧ cu c i k (ga G l) ≠ cu c i k (gb G l)) : Nat) : Int)) (fun _ v6 => gL G - v6.toNat) ?_ FU _ _ ⟨0, rfl, by omega, rfl⟩ (by show gL G - _ < 100000; omega)
          intro rec2 v5 v6 hI2 hrec2
          obtain ⟨m, rfl, hm, rfl⟩ := hI2
          rw [M_lines hM5, bds, nmn (show m < 2147483648 by omega), nmn (show gL G < 2147483648 by omega)]
          by_cases hmL : m < gL G
          · have hv := hG.2.1 m hmL
            have hm12 := hMc.2.2.2 m hmL
            have f12 : ((Mc.1, ua Mc.2 36 (up (Mc.2 36) i (k : Int))) : ZB).2 12 = Mc.2 12 := rfl
            have f36 : ((Mc.1, ua Mc.2 36 (up (Mc.2 36) i (k : Int))) : ZB).2 36 = up (Mc.2 36) i (k : Int) := rfl
            have nx0 : ¬ (snd_ G m ∧ lat G m i ∧ cu c i k (ga G m) ≠ cu c i k (gb G m)) → ∃ q, rec2 ((cnt m (fun l => snd_ G l ∧ lat G l i ∧ cu c i k (ga G l) ≠ cu c i k (gb G l)) : Nat) : Int) ((m : Int) + 1) = some q ∧ PRes G M i c q := fun h => hrec2 _ _ ⟨m+1, by omega, by omega, by rw [cnt_succ_f h]⟩ (by omega)
            have nx1 : (snd_ G m ∧ lat G m i ∧ cu c i k (ga G m) ≠ cu c i k (gb G m)) → ∃ q, rec2 (((cnt m (fun l => snd_ G l ∧ lat G l i ∧ cu c i k (ga G l) ≠ cu c i k (gb G l)) : Nat) : Int) + 1) ((m : Int) + 1) = some q ∧ PRes G M i c q := fun h => hrec2 _ _ ⟨m+1, by omega, by omega, by rw [cnt_succ_t (p := fun l => snd_ G l ∧ lat G l i ∧ cu c i k (ga G l) ≠ cu c i k (gb G l)) h]; omega⟩ (by omega)
            rw [if_pos (by omega), M_isBroken hM5 hG hmL, bds, kf1_e]
            by_cases hs : gbr G m
            · rw [i10t hs]; exact nx0 (fun z => z.1 hs)
            · rw [i10f hs, M_isLatest hM5 hG hmL (by omega), bds]
              by_cases hl : lat G m i
              · have hl' := hl
                unfold lat at hl'
                have hca : cu c i k (ga G m) < 2147483648 := by
                  by_cases q : ga G m = i
                  · rw [q, cu_e]; omega
                  · rw [cu_n q]; have := hGr.1 (ga G m) (by omega); omega
                have hcb : cu c i k (gb G m) < 2147483648 := by
                  by_cases q : gb G m = i
                  · rw [q, cu_e]; omega
                  · rw [cu_n q]; have := hGr.1 (gb G m) (by omega); omega
                rw [i10t hl, f12, rd3 (by omega), hm12.1, f36, rdn (by omega), hg5 _ (by omega), rd27 (by omega), hm12.2.1, rdn (by omega), hg5 _ (by omega), nmn hca, nmn hcb]
                by_cases e : cu c i k (ga G m) = cu c i k (gb G m)
                · rw [if_pos (by omega)]; exact nx0 (fun z => z.2.2 e)
                · rw [if_neg (by omega)]; exact nx1 ⟨hs, hl, e⟩
              · rw [i10f hl]; exact nx0 (fun z => hl z.2.1)
          · rw [if_neg (by omega)]
            have hmm : m = gL G := by omega
            subst hmm
            have hstep := bcn_step (i := i) (v := k) (c := c) hG
            have hcast : ((bcn G i c : Nat) : Int) + ((cnt (gL G) (fun l => snd_ G l ∧ lat G l i ∧ cu c i k (ga G l) ≠ cu c i k (gb G l)) : Nat) : Int) = ((bcn G (i+1) (cu c i k) : Nat) : Int) := by omega
            obtain ⟨M6, r1, r2, r3, r4, r5, r6⟩ := ih (i+1) (if k = a2 then a2 + 1 else a2) (cu c i k) (Mc.1, ua Mc.2 36 (up (Mc.2 36) i (k : Int))) hM5 (by omega) (by omega) (Gr_step hGr hka) (fun x hx => hg5 x hx) hStc
            have go : ∃ q, (bd (fM_parts fu (Mc.1, ua Mc.2 36 (up (Mc.2 36) i (k : Int))) ((i : Int) + 1) ((if k = a2 then a2 + 1 else a2 : Nat) : Int) (((bcn G i c : Nat) : Int) + ((cnt (gL G) (fun l => snd_ G l ∧ lat G l i ∧ cu c i k (ga G l) ≠ cu c i k (gb G l)) : Nat) : Int))) fun u_12 => rec ((k : Int) + 1) u_12) = some q ∧ PRes G M i c q := by
              rw [hcast, show (i : Int) + 1 = ((i + 1 : Nat) : Int) by omega, r1, bds]
              refine hrec _ _ ⟨k+1, by omega, by omega, ⟨fun j j1 j2 => ?_, fun j j1 => ?_⟩, fun x hx => ?_, r4, fun d hd hc => r5 d hd (hmon d hd hc), fun d hd hc hex => ?_⟩ (by omega)
              · rw [r2.1 j j1 j2]; exact hMF.1 j j1 j2
              · rw [r2.2 j j1]
                show ua Mc.2 36 _ j = _
                rw [ua_n _ _ j1]; exact hMF.2 j j1
              · rw [r3 x (by omega)]
                show up (Mc.2 36) i (k : Int) x = _
                rw [up_n _ _ (by omega)]; exact hgc x hx
              · obtain ⟨v, v1, v2⟩ := hex
                by_cases q : v = k
                · subst q; exact r6 d (Kn_step hd v2) hc
                · exact r5 d hc (hcov d hd hc ⟨v, by omega, v2⟩)
            rw [kf1_e]
            by_cases q : k = a2
            · rw [if_pos q] at go
              rw [if_pos (by omega)]
              exact go
            · rw [if_neg q] at go
              rw [if_neg (by omega)]
              exact go
        · rw [if_pos (by omega)]
          refine ⟨Mc, rfl, hMF, fun x hx => by rw [hgc x hx, hg x hx], hStc, hmon, fun d hd hc => hcov d hd hc ?_⟩
          by_cases h : ∃ x0, x0 < i ∧ d x0 = d i
          · obtain ⟨x0, x1, x2⟩ := h
            refine ⟨c x0, by have := hGr.1 x0 x1; omega, fun x hx => ?_⟩
            rw [← x2]; exact hd x x0 hx x1
          · refine ⟨a2, by omega, fun x hx => ⟨fun z => absurd ⟨x, hx, z⟩ h, fun z => ?_⟩⟩
            have := hGr.1 x hx
            omega
      exact main
end
