-- needs: 07zzz20.nexttok
/-! net: the scanner's next token -/
def An (x : Int) : Prop := Le x ∨ Di x
noncomputable def wvf (t : Nat → Int) (q : Nat) : Nat → Int
  | 0 => 0
  | k + 1 => if k < 7 then (27 * wvf t q k + t (q + k)) - 96 else wvf t q k
noncomputable def nvf (t : Nat → Int) (q : Nat) : Nat → Int
  | 0 => 0
  | k + 1 => if k < 2 then (10 * nvf t q k + t (q + k)) - 48 else nvf t q k
def sam (t : Nat → Int) (q k : Nat) : Prop := ∀ i, i < k → (Le (t (q + i)) ↔ Le (t q))
noncomputable def kiM (t : Nat → Int) (q k : Nat) : Int := if dc (sam t q k) then (if dc (Le (t q)) then (if k ≤ 7 then 2 else 1) else (if k ≤ 2 then 3 else 1)) else 1
def NTm (t : Nat → Int) (u q : Nat) (M M' : ZB) : Prop := (∀ i, i ≠ 4 → i ≠ 5 → i ≠ 6 → i ≠ 7 → i ≠ 10 → M'.1 i = M.1 i) ∧ M'.2 = M.2 ∧ ((600 < u ∧ 600 ≤ q ∧ M'.1 5 = 600 ∧ M'.1 6 = 1) ∨ (¬ (600 < u ∧ 600 ≤ q) ∧ M'.1 5 = (q : Int) ∧ ((q = u ∧ M'.1 6 = 0) ∨ (q < u ∧ t q = 59 ∧ M'.1 6 = 4 ∧ M'.1 4 = ((q + 1 : Nat) : Int)) ∨ (q < u ∧ t q ≠ 59 ∧ ¬ An (t q) ∧ M'.1 6 = 1) ∨ (q < u ∧ An (t q) ∧ ∃ k, RunS t u q k ∧ M'.1 4 = ((q + k : Nat) : Int) ∧ M'.1 6 = kiM t q k ∧ M'.1 10 = wvf t q k ∧ M'.1 7 = nvf t q k))))
theorem M_isLetter {x : Int} (h : -2147483648 ≤ x ∧ x < 2147483648) : fM_isLetter x = some (if dc (Le x) then 1 else 0) := Rd_isLetter h
theorem M_isDigit {x : Int} (h : -2147483648 ≤ x ∧ x < 2147483648) : fM_isDigit x = some (if dc (Di x) then 1 else 0) := Rd_isDigit h
theorem M_tapeAt {M : ZB} {u i : Nat} (h3 : M.1 3 = (u : Int)) (hu : u ≤ 640) (hi : i ≤ u) : fM_tapeAt M (i : Int) = some (if i < u then M.2 1 i else 0) := by
  unfold fM_tapeAt
  rw [kf1_e, h3, nmn (by omega), nmn (by omega)]
  by_cases h : i < u
  · rw [if_pos (by omega), if_pos h, rdn (by omega)]
  · rw [if_neg (by omega), if_neg h]
theorem sam_step {t : Nat → Int} {q k : Nat} : sam t q (k+1) ↔ sam t q k ∧ (Le (t (q + k)) ↔ Le (t q)) := by
  constructor
  · intro h; exact ⟨fun i hi => h i (by omega), h k (by omega)⟩
  · rintro ⟨h1, h2⟩ i hi
    by_cases e : i = k
    · subst e; exact h2
    · exact h1 i (by omega)
theorem kf1_w {α0 β : Type} {K : α0 → Option β} {B : (α0 → Option β) → Option β} {Q : β → Prop} (h : ∀ k, k = K → ∃ r, B k = some r ∧ Q r) : ∃ r, kf1 K B = some r ∧ Q r := h K rfl
section
variable {M : ZB} {u : Nat}
def FrM (M R : ZB) : Prop := (∀ i, i ≠ 4 → i ≠ 5 → i ≠ 6 → i ≠ 7 → i ≠ 10 → R.1 i = M.1 i) ∧ R.2 = M.2
theorem M_run {R0 : ZB} {q : Nat} (hu : u ≤ 640) (hB : Byt (M.2 1) u) (h3 : M.1 3 = (u : Int)) (hF : FrM M R0) (h4 : R0.1 4 = (q : Int)) (h5 : R0.1 5 = (q : Int)) (h7 : R0.1 7 = 0) (h10 : R0.1 10 = 0) (hq : q < u) :
    ∃ r, lop2 FU (fun rec_14 (v3_12 : Int) (M_13 : ZB) =>
        bd (fM_tapeAt M_13 (M_13.1 4)) fun u_15 =>
        bd (fM_isLetter u_15) fun u_16 =>
        kf0 (rd (M_13.2 1) 640 (M_13.1 4) fun x_18 =>
        kf1 (fun (w0_19 : Int) =>
          kf1 (fun (M_21 : ZB) =>
            kf1 (fun (M_23 : ZB) =>
              lt (up M_23.1 4 (((M_23.1 4) + 1)), M_23.2) fun M_25 =>
              rec_14 w0_19 M_25) fun k_24 =>
            if (nm ((M_21.1 4) - (M_21.1 5))) < 2 then (
              lt (up M_21.1 7 ((((10 * (M_21.1 7)) + x_18) - 48)), M_21.2) fun M_26 =>
              k_24 M_26)
            else (
              k_24 M_21)) fun k_22 =>
          if (nm ((M_13.1 4) - (M_13.1 5))) < 7 then (
            lt (up M_13.1 10 ((((27 * (M_13.1 10)) + (nm x_18)) - 96)), M_13.2) fun M_27 =>
            k_22 M_27)
          else (
            k_22 M_13)) fun k_20 =>
        kf0 (k_20 0) fun k_28 =>
        if (nm v3_12) = 0 then (
          k_28)
        else (
          bd (fM_isLetter x_18) fun u_29 =>
          if (nm u_29) = (nm (if dc (Le (M.2 1 q)) then 1 else 0)) then (
            k_20 1)
          else (
            k_28))) fun k_17 =>
        if (nm u_16) = 0 then (
          bd (fM_tapeAt M_13 (M_13.1 4)) fun u_30 =>
          bd (fM_isDigit u_30) fun u_31 =>
          if (nm u_31) = 0 then (
            kf1 (fun (w1_32 : Int) =>
              lt (up M_13.1 6 (w1_32), M_13.2) fun M_34 =>
              some M_34) fun k_33 =>
            kf0 (k_33 1) fun k_35 =>
            if (nm v3_12) = 0 then (
              k_35)
            else (
              kf1 (fun (w2_36 : Int) =>
                if (nm w2_36) < (nm ((M_13.1 4) - (M_13.1 5))) then (
                  k_35)
                else (
                  if (nm (if dc (Le (M.2 1 q)) then 1 else 0)) = 0 then (
                    k_33 3)
                  else (
                    k_33 2))) fun k_37 =>
              if (nm (if dc (Le (M.2 1 q)) then 1 else 0)) = 0 then (
                k_37 2)
              else (
                k_37 7)))
          else (
            k_17))
        else (
          k_17)) 1 R0 = some r ∧ FrM M r ∧ r.1 5 = (q : Int) ∧ ∃ k, RunS (M.2 1) u q k ∧ r.1 4 = ((q + k : Nat) : Int) ∧ r.1 6 = kiM (M.2 1) q k ∧ r.1 10 = wvf (M.2 1) q k ∧ r.1 7 = nvf (M.2 1) q k := by
  refine lop2_w (Q := fun r => FrM M r ∧ r.1 5 = (q : Int) ∧ ∃ k, RunS (M.2 1) u q k ∧ r.1 4 = ((q + k : Nat) : Int) ∧ r.1 6 = kiM (M.2 1) q k ∧ r.1 10 = wvf (M.2 1) q k ∧ r.1 7 = nvf (M.2 1) q k) (fun v3 (R : ZB) => ∃ k : Nat, q + k ≤ u ∧ (∀ i, i < k → An (M.2 1 (q + i))) ∧ v3 = (if dc (sam (M.2 1) q k) then 1 else 0) ∧ FrM M R ∧ R.1 4 = ((q + k : Nat) : Int) ∧ R.1 5 = (q : Int) ∧ R.1 10 = wvf (M.2 1) q k ∧ R.1 7 = nvf (M.2 1) q k) (fun _ (R : ZB) => u - (R.1 4).toNat) ?_ FU _ _ ⟨0, by omega, fun i h => absurd h (Nat.not_lt_zero i), by rw [idt (show sam (M.2 1) q 0 from fun i h => absurd h (Nat.not_lt_zero i))], hF, h4, h5, h10, h7⟩ (by show u - _ < 100000; omega)
  intro rec v3 R hI hrec
  obtain ⟨k, hk, hal, rfl, hFR, r4, r5, r10, r7⟩ := hI
  have r3 : R.1 3 = (u : Int) := by rw [hFR.1 3 (by decide) (by decide) (by decide) (by decide) (by decide)]; exact h3
  have e21 : R.2 1 = M.2 1 := by rw [hFR.2]
  have hlen : R.1 4 - R.1 5 = (k : Int) := by rw [r4, r5]; omega
  have hx : -2147483648 ≤ (if q + k < u then R.2 1 (q + k) else 0) ∧ (if q + k < u then R.2 1 (q + k) else 0) < 2147483648 := by
    by_cases h : q + k < u
    · rw [if_pos h, e21]; have := hB (q + k) h; omega
    · rw [if_neg h]; omega
  have hta := M_tapeAt (M := R) r3 hu hk
  rw [r4, hta, bds, M_isLetter hx, bds]
  refine kf0_w (fun k17 hk17 => ?_)
  have go : (hku : q + k < u) → An (M.2 1 (q + k)) → ∃ r, k17 = some r ∧ FrM M r ∧ r.1 5 = (q : Int) ∧ ∃ k, RunS (M.2 1) u q k ∧ r.1 4 = ((q + k : Nat) : Int) ∧ r.1 6 = kiM (M.2 1) q k ∧ r.1 10 = wvf (M.2 1) q k ∧ r.1 7 = nvf (M.2 1) q k := by
    intro hku han
    have hb := hB (q + k) hku
    rw [hk17, rdn (by omega), e21]
    refine kf1_w (fun k20 hk20 => ?_)
    have st : ∀ w0 : Int, w0 = (if dc (sam (M.2 1) q (k+1)) then 1 else 0) → ∃ r, k20 w0 = some r ∧ FrM M r ∧ r.1 5 = (q : Int) ∧ ∃ k, RunS (M.2 1) u q k ∧ r.1 4 = ((q + k : Nat) : Int) ∧ r.1 6 = kiM (M.2 1) q k ∧ r.1 10 = wvf (M.2 1) q k ∧ r.1 7 = nvf (M.2 1) q k := by
      intro w0 hw0
      rw [hk20]
      show ∃ r, kf1 _ _ = some r ∧ _
      refine kf1_w (fun k22 hk22 => ?_)
      have s2 : ∀ R1 : ZB, FrM M R1 → R1.1 4 = ((q + k : Nat) : Int) → R1.1 5 = (q : Int) → R1.1 10 = wvf (M.2 1) q (k+1) → R1.1 7 = nvf (M.2 1) q k → ∃ r, k22 R1 = some r ∧ FrM M r ∧ r.1 5 = (q : Int) ∧ ∃ k, RunS (M.2 1) u q k ∧ r.1 4 = ((q + k : Nat) : Int) ∧ r.1 6 = kiM (M.2 1) q k ∧ r.1 10 = wvf (M.2 1) q k ∧ r.1 7 = nvf (M.2 1) q k := by
        intro R1 f1 a4 a5 a10 a7
        rw [hk22]
        show ∃ r, kf1 _ _ = some r ∧ _
        refine kf1_w (fun k24 hk24 => ?_)
        have s3 : ∀ R2 : ZB, FrM M R2 → R2.1 4 = ((q + k : Nat) : Int) → R2.1 5 = (q : Int) → R2.1 10 = wvf (M.2 1) q (k+1) → R2.1 7 = nvf (M.2 1) q (k+1) → ∃ r, k24 R2 = some r ∧ FrM M r ∧ r.1 5 = (q : Int) ∧ ∃ k, RunS (M.2 1) u q k ∧ r.1 4 = ((q + k : Nat) : Int) ∧ r.1 6 = kiM (M.2 1) q k ∧ r.1 10 = wvf (M.2 1) q k ∧ r.1 7 = nvf (M.2 1) q k := by
          intro R2 g1 b4 b5 b10 b7
          rw [hk24]
          show ∃ r, rec w0 (up R2.1 4 (R2.1 4 + 1), R2.2) = some r ∧ _
          have e4 : up R2.1 4 (R2.1 4 + 1) 4 = ((q + (k + 1) : Nat) : Int) := by rw [up_e, b4]; omega
          refine hrec _ _ ⟨k+1, by omega, fun i hi => ?_, hw0, ⟨fun i i1 i2 i3 i4 i5 => ?_, g1.2⟩, e4, b5, b10, b7⟩ ?_
          · by_cases e : i = k
            · subst e; exact han
            · exact hal i (by omega)
          · show up R2.1 4 _ i = _
            rw [up_n _ _ i1]; exact g1.1 i i1 i2 i3 i4 i5
          · show u - (up R2.1 4 (R2.1 4 + 1) 4).toNat < u - (R.1 4).toNat
            rw [e4, r4]; omega
        rw [a4, a5, show ((q + k : Nat) : Int) - (q : Int) = (k : Int) by omega, nmn (by omega)]
        by_cases h2 : k < 2
        · rw [if_pos (by omega), lt_e]
          refine s3 _ ⟨fun i i1 i2 i3 i4 i5 => ?_, f1.2⟩ a4 a5 a10 ?_
          · show up R1.1 7 _ i = _
            rw [up_n _ _ i4]; exact f1.1 i i1 i2 i3 i4 i5
          · have e : nvf (M.2 1) q (k+1) = (10 * R1.1 7 + M.2 1 (q + k)) - 48 := by rw [a7]; exact if_pos h2
            rw [e]; exact up_e R1.1 7 _
        · rw [if_neg (by omega)]
          refine s3 _ f1 a4 a5 a10 ?_
          show _ = if k < 2 then _ else _
          rw [if_neg h2]; exact a7
      rw [r5, show ((q + k : Nat) : Int) - (q : Int) = (k : Int) by omega, nmn (show k < 2147483648 by omega), nmi (show -2147483648 ≤ M.2 1 (q + k) ∧ M.2 1 (q + k) < 2147483648 by omega)]
      by_cases h7' : k < 7
      · rw [if_pos (by omega), lt_e]
        refine s2 _ ⟨fun i i1 i2 i3 i4 i5 => ?_, hFR.2⟩ r4 r5 ?_ r7
        · show up R.1 10 _ i = _
          rw [up_n _ _ i5]; exact hFR.1 i i1 i2 i3 i4 i5
        · have e : wvf (M.2 1) q (k+1) = (27 * R.1 10 + M.2 1 (q + k)) - 96 := by rw [r10]; exact if_pos h7'
          rw [e]; exact up_e R.1 10 _
      · rw [if_neg (by omega)]
        refine s2 _ hFR r4 r5 ?_ r7
        show _ = if k < 7 then _ else _
        rw [if_neg h7']; exact r10
    refine kf0_w (fun k28 hk28 => ?_)
    by_cases hs : sam (M.2 1) q k
    · rw [i10t hs, M_isLetter (by omega), bds]
      have both : ∀ (a b : Prop), nm (if dc a then 1 else 0) = nm (if dc b then 1 else 0) ↔ (a ↔ b) := by
        intro a b
        by_cases ha : a
        · by_cases hb' : b
          · rw [idt ha, idt hb']; exact ⟨fun _ => ⟨fun _ => hb', fun _ => ha⟩, fun _ => rfl⟩
          · rw [idt ha, idf hb']; exact ⟨fun z => absurd z (by decide), fun z => absurd (z.mp ha) hb'⟩
        · by_cases hb' : b
          · rw [idf ha, idt hb']; exact ⟨fun z => absurd z (by decide), fun z => absurd (z.mpr hb') ha⟩
          · rw [idf ha, idf hb']; exact ⟨fun _ => ⟨fun z => absurd z ha, fun z => absurd z hb'⟩, fun _ => rfl⟩
      by_cases hl : (Le (M.2 1 (q + k)) ↔ Le (M.2 1 q))
      · rw [if_pos ((both _ _).mpr hl)]
        exact st 1 (by rw [idt (sam_step.mpr ⟨hs, hl⟩)])
      · rw [if_neg (fun z => hl ((both _ _).mp z)), hk28]
        exact st 0 (by rw [idf (fun z => hl (sam_step.mp z).2)])
    · rw [i10f hs, hk28]
      exact st 0 (by rw [idf (fun z => hs (sam_step.mp z).1)])
  clear hk17
  have stop : (q + k < u → ¬ An (M.2 1 (q + k))) → ∀ x : Int, x = kiM (M.2 1) q k → FrM M (up R.1 6 x, R.2) ∧ ((up R.1 6 x, R.2) : ZB).1 5 = (q : Int) ∧ ∃ k, RunS (M.2 1) u q k ∧ ((up R.1 6 x, R.2) : ZB).1 4 = ((q + k : Nat) : Int) ∧ ((up R.1 6 x, R.2) : ZB).1 6 = kiM (M.2 1) q k ∧ ((up R.1 6 x, R.2) : ZB).1 10 = wvf (M.2 1) q k ∧ ((up R.1 6 x, R.2) : ZB).1 7 = nvf (M.2 1) q k := by
    intro hend x hx
    refine ⟨⟨fun i i1 i2 i3 i4 i5 => ?_, hFR.2⟩, r5, k, ⟨hk, hal, hend⟩, r4, ?_, r10, r7⟩
    · show up R.1 6 x i = _
      rw [up_n _ _ i3]; exact hFR.1 i i1 i2 i3 i4 i5
    · show up R.1 6 x 6 = _
      rw [up_e, hx]
  have fin : (q + k < u → ¬ An (M.2 1 (q + k))) → ∃ r, (kf1 (fun (w1_32 : Int) =>
              lt (up R.1 6 (w1_32), R.2) fun M_34 =>
              some M_34) fun k_33 =>
            kf0 (k_33 1) fun k_35 =>
            if (nm (if dc (sam (M.2 1) q k) then 1 else 0)) = 0 then (
              k_35)
            else (
              kf1 (fun (w2_36 : Int) =>
                if (nm w2_36) < (nm (((q + k : Nat) : Int) - (R.1 5))) then (
                  k_35)
                else (
                  if (nm (if dc (Le (M.2 1 q)) then 1 else 0)) = 0 then (
                    k_33 3)
                  else (
                    k_33 2))) fun k_37 =>
              if (nm (if dc (Le (M.2 1 q)) then 1 else 0)) = 0 then (
                k_37 2)
              else (
                k_37 7))) = some r ∧ FrM M r ∧ r.1 5 = (q : Int) ∧ ∃ k, RunS (M.2 1) u q k ∧ r.1 4 = ((q + k : Nat) : Int) ∧ r.1 6 = kiM (M.2 1) q k ∧ r.1 10 = wvf (M.2 1) q k ∧ r.1 7 = nvf (M.2 1) q k := by
    intro hend
    have st := stop hend
    rw [r5, show ((q + k : Nat) : Int) - (q : Int) = (k : Int) by omega, kf1_e, kf0_e, kf1_e]
    unfold kiM at st
    unfold kiM
    by_cases hs : sam (M.2 1) q k
    · rw [i10t hs, nmn (show k < 2147483648 by omega)]
      by_cases hl : Le (M.2 1 q)
      · rw [i10t hl, i10t hl]
        show ∃ r, (if nm 7 < (k : Int) then some (up R.1 6 1, R.2) else some (up R.1 6 2, R.2)) = some r ∧ _
        rw [show nm 7 = 7 from by decide]
        by_cases h : k ≤ 7
        · rw [if_neg (by omega)]
          exact ⟨_, rfl, st 2 (by rw [idt hs, idt hl, if_pos h])⟩
        · rw [if_pos (by omega)]
          exact ⟨_, rfl, st 1 (by rw [idt hs, idt hl, if_neg h])⟩
      · rw [i10f hl, i10f hl]
        show ∃ r, (if nm 2 < (k : Int) then some (up R.1 6 1, R.2) else some (up R.1 6 3, R.2)) = some r ∧ _
        rw [show nm 2 = 2 from by decide]
        by_cases h : k ≤ 2
        · rw [if_neg (by omega)]
          exact ⟨_, rfl, st 3 (by rw [idt hs, idf hl, if_pos h])⟩
        · rw [if_pos (by omega)]
          exact ⟨_, rfl, st 1 (by rw [idt hs, idf hl, if_neg h])⟩
    · rw [i10f hs]
      exact ⟨_, rfl, st 1 (by rw [idf hs])⟩
  by_cases hku : q + k < u
  · rw [if_pos hku] at hx
    rw [if_pos hku, e21]
    by_cases hl : Le (M.2 1 (q + k))
    · rw [i10t hl]; exact go hku (Or.inl hl)
    · rw [i10f hl, bds, M_isDigit (by rw [e21] at hx; exact hx), bds]
      by_cases hd : Di (M.2 1 (q + k))
      · rw [i10t hd]; exact go hku (Or.inr hd)
      · rw [i10f hd]; exact fin (fun _ z => z.elim hl hd)
  · have n1 : ¬ Le 0 := fun z => by have := z.1; omega
    have n2 : ¬ Di 0 := fun z => by have := z.1; omega
    rw [if_neg hku, i10f n1, bds, M_isDigit (by omega), bds, i10f n2]
    exact fin (fun z => absurd z hku)
end
