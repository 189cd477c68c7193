-- needs: 07zzo.find
/-! the class's find -/
def cs1 (Ch : ZB) (s : Int) : Nat → Int := fun j => if j = 6 then 0 else if j = 7 then s else Ch.1 j
def cs2 (Ch : ZB) (w qa pa : Nat → Int) : Nat → Nat → Int := fun j => if j = 1 then w else if j = 2 then qa else if j = 3 then pa else Ch.2 j
theorem cs1_7 (Ch : ZB) (s t : Int) : up (cs1 Ch s) 7 t = cs1 Ch t := by
  funext j; unfold up cs1
  by_cases h : j = 7
  · rw [if_pos h, if_neg (by omega), if_pos h]
  · rw [if_neg h, if_neg h, if_neg h]
theorem cs2_1 (Ch : ZB) (w qa pa w' : Nat → Int) : ua (cs2 Ch w qa pa) 1 w' = cs2 Ch w' qa pa := by
  funext j; unfold ua cs2
  by_cases h : j = 1
  · rw [if_pos h, if_pos h]
  · rw [if_neg h, if_neg h, if_neg h]
theorem cs2_2 (Ch : ZB) (w qa pa q' : Nat → Int) : ua (cs2 Ch w qa pa) 2 q' = cs2 Ch w q' pa := by
  funext j; unfold ua cs2
  by_cases h : j = 2
  · rw [if_pos h, if_neg (by omega), if_pos h]
  · rw [if_neg h, if_neg h, if_neg h]
theorem cs2_3 (Ch : ZB) (w qa pa p' : Nat → Int) : ua (cs2 Ch w qa pa) 3 p' = cs2 Ch w qa p' := by
  funext j; unfold ua cs2
  by_cases h : j = 3
  · rw [if_pos h, if_neg (by omega), if_neg (by omega), if_pos h]
  · rw [if_neg h, if_neg h, if_neg h]
def FS (G : GV) (l m i : Nat) (q pb : Nat → Nat) (qa pa : Nat → Int) : Prop := BQ (gE G) (gT G) l m i q pb q ∧ (∀ j, j < m → qa j = (q j : Nat) ∧ q j < gL G ∧ ¬ gbr G (q j)) ∧ pa 0 = -1 ∧ (∀ j, 1 ≤ j → j < m → pa j = (pb j : Nat))
section
variable {N M : ZB} {G : GV}
theorem FS_push (hG : GOK G) {l m i y : Nat} {q pb : Nat → Nat} {qa pa : Nat → Int} (h : FS G l m i q pb qa pa) (hi : i < m) (hy : gNx G (q i) y) (hnew : ∀ j, j < m → q j ≠ y) (hord : ∀ j, 1 ≤ j → j < m → pb j = i → q j < y) : FS G l (m+1) i (upn q m y) (upn pb m i) (up qa m (y : Int)) (up pa m (i : Int)) := by
  obtain ⟨⟨h0, h1, h2, h3, h4, h5⟩, hq, hp0, hp⟩ := h
  obtain ⟨qi1, qi2, qi3⟩ := hq i hi
  have hys := gE_sound hG hy
  have qo : ∀ j, j < m → upn q m y j = q j := fun j hj => upn_n _ _ (by omega)
  have po : ∀ j, j < m → upn pb m i j = pb j := fun j hj => upn_n _ _ (by omega)
  refine ⟨⟨by rw [qo 0 (by omega)]; exact h0, by omega, ?_, ?_, ?_, ?_⟩, ?_, by rw [up_n _ _ (by omega)]; exact hp0, ?_⟩
  · intro j j' hj hj' he
    by_cases e1 : j = m
    · by_cases e2 : j' = m
      · omega
      · rw [e1, upn_e, qo j' (by omega)] at he
        exact absurd he.symm (hnew j' (by omega))
    · by_cases e2 : j' = m
      · rw [e2, upn_e, qo j (by omega)] at he
        exact absurd he (hnew j (by omega))
      · rw [qo j (by omega), qo j' (by omega)] at he
        exact h2 j j' (by omega) (by omega) he
  · intro j hj1 hj
    by_cases e : j = m
    · subst e
      rw [upn_e, upn_e, qo i (by omega)]
      exact ⟨hi, Nat.le_refl i, rfl, qi2, qi3, hy⟩
    · rw [qo j (by omega), po j (by omega)]
      obtain ⟨a1, a2, a3⟩ := h3 j hj1 (by omega)
      rw [qo (pb j) (by omega)]
      exact ⟨a1, a2, a3⟩
  · intro j j' hj1 hjj hj'
    by_cases e : j' = m
    · subst e
      rw [upn_e, upn_e, qo j hjj, po j hjj]
      exact ⟨(h3 j hj1 hjj).2.1, fun k => hord j hj1 hjj k⟩
    · rw [qo j (by omega), po j (by omega), qo j' (by omega), po j' (by omega)]
      exact h4 j j' hj1 hjj (by omega)
  · intro j hj
    obtain ⟨a1, a2, a3⟩ := h5 j hj
    rw [qo j a1]
    refine ⟨by omega, a2, fun c z hz => ?_⟩
    obtain ⟨j', b1, b2, b3⟩ := a3 c z hz
    refine ⟨j', by omega, by rw [qo j' b1]; exact b2, ?_⟩
    rw [po j' b1, qo j' b1]; exact b3
  · intro j hj
    by_cases e : j = m
    · subst e; rw [up_e, upn_e]; exact ⟨rfl, hys⟩
    · rw [up_n _ _ e, qo j (by omega)]; exact hq j (by omega)
  · intro j hj1 hj
    by_cases e : j = m
    · subst e; rw [up_e, upn_e]
    · rw [up_n _ _ e, po j (by omega)]; exact hp j hj1 (by omega)
theorem FS_next {l m i : Nat} {q pb : Nat → Nat} {qa pa : Nat → Int} (h : FS G l m i q pb qa pa) (hi : i < m) (hT : ¬ gT G (q i)) (hall : ∀ y, gNx G (q i) y → ∃ j, j < m ∧ q j = y) : FS G l m (i+1) q pb qa pa := by
  obtain ⟨⟨h0, h1, h2, h3, h4, h5⟩, hq, hp0, hp⟩ := h
  refine ⟨⟨h0, h1, h2, fun j hj1 hj => ⟨(h3 j hj1 hj).1, by have := (h3 j hj1 hj).2.1; omega, (h3 j hj1 hj).2.2⟩, h4, ?_⟩, hq, hp0, hp⟩
  intro j hj
  by_cases e : j = i
  · subst e
    refine ⟨hi, hT, fun c y hy => ?_⟩
    obtain ⟨rfl, _, _, hn⟩ := hy
    obtain ⟨j', a1, a2⟩ := hall c hn
    refine ⟨j', a1, a2, ?_⟩
    rcases Nat.eq_zero_or_pos j' with z | z
    · exact Or.inl z
    · obtain ⟨b1, b2, _⟩ := h3 j' z a1
      rcases Nat.lt_or_ge (pb j') j with w | w
      · exact Or.inr (Or.inl w)
      · exact Or.inr (Or.inr ⟨by omega, by omega⟩)
  · exact h5 j (by omega)
theorem Ch_find (hN : RN N G) (hG : GOK G) {l : Nat} (hl : l < gL G) (hls : ¬ gbr G l) (Ch : ZB) : ∃ res, fCh_find N Ch (l : Int) = some res ∧ FindOK G l Ch res := by
  have hb := hG.1
  unfold fCh_find
  rw [lt_e, lt_e, ixi (by omega), lt_e, ixi (by omega), lt_e, zshln (by omega)]
  refine lop3_w (Q := FindOK G l Ch) (fun v2 v3 C => ∃ (m i : Nat) (w qa pa : Nat → Int) (q pb : Nat → Nat), v2 = (m : Int) ∧ v3 = (i : Int) ∧ C = (cs1 Ch ((bs (gL G) (fun z => ∃ j, j < m ∧ q j = z) : Nat) : Int), cs2 Ch w qa pa) ∧ FS G l m i q pb qa pa ∧ i ≤ m ∧ (∀ j, 1 ≤ j → j < m → pb j < i)) (fun _ v3 _ => gL G - v3.toNat) ?_ FU _ _ _ ?_ (by show gL G - _ < 100000; omega)
  · intro rec v2 v3 C hI hrec
    obtain ⟨m, i, w, qa, pa, q, pb, rfl, rfl, rfl, hF, him, hst⟩ := hI
    have hmL : m ≤ gL G := inj_le (fun j hj => (hF.2.1 j hj).2.1) hF.1.2.2.1
    rw [kf0_e, nmn (by omega), nmn (by omega)]
    by_cases hlt : i < m
    · obtain ⟨qi1, qi2, qi3⟩ := hF.2.1 i hlt
      obtain ⟨w2, hw2⟩ := Ch_freeForest hN hG qi2 (cs1 Ch ((bs (gL G) (fun z => ∃ j, j < m ∧ q j = z) : Nat) : Int), cs2 Ch w qa pa)
      have hgf := gfr_r hG (q i)
      rw [if_pos (by omega), if_pos (by omega), rdn (by omega)]
      have e0 : ((cs1 Ch ((bs (gL G) (fun z => ∃ j, j < m ∧ q j = z) : Nat) : Int), cs2 Ch w qa pa) : ZB).2 2 i = (q i : Nat) := qi1
      rw [e0, hw2, bds, nmi (show -2147483648 ≤ gfr G (q i) ∧ gfr G (q i) < 2147483648 by omega), cs2_1]
      by_cases hfree : gfr G (q i) = -1
      · have hnT : ¬ gT G (q i) := fun k => hgf.2.2.mp hfree k.2.2
        obtain ⟨w3, hw3⟩ := Ch_allRings hN hG qi2 (cs1 Ch ((bs (gL G) (fun z => ∃ j, j < m ∧ q j = z) : Nat) : Int), cs2 Ch w2 qa pa)
        rw [if_pos hfree, hw3, bds, cs2_1]
        have e7 : (cs1 Ch ((bs (gL G) (fun z => ∃ j, j < m ∧ q j = z) : Nat) : Int)) 7 = ((bs (gL G) (fun z => ∃ j, j < m ∧ q j = z) : Nat) : Int) := rfl
        simp only [e7]
        rw [zcompn (bs_lt31 (by omega)) (bs_lt31 (by omega)), bs_ndf, lt_e, zorn (bs_lt31 (by omega)) (bs_lt31 (by omega)), bs_or, lt_e, cs1_7]
        refine lop3_w (Q := FindOK G l Ch) (fun v2 v7 C => ∃ (m' y : Nat) (qa pa : Nat → Int) (q' pb' : Nat → Nat), v2 = (m' : Int) ∧ v7 = (y : Int) ∧ C = (cs1 Ch ((bs (gL G) (fun z => (∃ j, j < m ∧ q j = z) ∨ gNx G (q i) z ∧ ¬ ∃ j, j < m ∧ q j = z) : Nat) : Int), cs2 Ch w3 qa pa) ∧ FS G l m' i q' pb' qa pa ∧ i < m' ∧ q' i = q i ∧ (∀ j, 1 ≤ j → j < m' → pb' j = i → q' j < y) ∧ (∀ j, 1 ≤ j → j < m' → pb' j ≤ i) ∧ y ≤ gL G ∧ ∀ z, (∃ j, j < m' ∧ q' j = z) ↔ (∃ j, j < m ∧ q j = z) ∨ (z < y ∧ gNx G (q i) z ∧ ¬ ∃ j, j < m ∧ q j = z)) (fun _ v7 _ => gL G - v7.toNat) ?_ FU _ _ _ ?_ (by show gL G - _ < 100000; omega)
        · intro rec2 v2 v7 C hI2 hrec2
          obtain ⟨m', y, qa', pa', q', pb', rfl, rfl, rfl, hF', him', hqi', hord, hle, hyL, hset⟩ := hI2
          have hmL' : m' ≤ gL G := inj_le (fun j hj => (hF'.2.1 j hj).2.1) hF'.1.2.2.1
          have goOn : (∀ z, z < gL G → gNx G (q i) z → ∃ j, j < m' ∧ q' j = z) → ∃ r, rec (m' : Int) ((i : Int) + 1) (cs1 Ch ((bs (gL G) (fun z => (∃ j, j < m ∧ q j = z) ∨ gNx G (q i) z ∧ ¬ ∃ j, j < m ∧ q j = z) : Nat) : Int), cs2 Ch w3 qa' pa') = some r ∧ FindOK G l Ch r := by
            intro hall
            refine hrec _ _ _ ⟨m', i+1, w3, qa', pa', q', pb', rfl, by omega, ?_, FS_next hF' him' (by rw [hqi']; exact hnT) (fun z hz => by rw [hqi'] at hz; exact hall z (gNx_lt hz) hz), by omega, fun j h1 h2 => by have := hle j h1 h2; omega⟩ (by omega)
            have : bs (gL G) (fun z => (∃ j, j < m ∧ q j = z) ∨ gNx G (q i) z ∧ ¬ ∃ j, j < m ∧ q j = z) = bs (gL G) (fun z => ∃ j, j < m' ∧ q' j = z) := by
              apply bs_ext; intro z hz
              constructor
              · rintro (h | ⟨h, _⟩)
                · exact (hset z).mpr (Or.inl h)
                · exact hall z hz h
              · intro h
                rcases (hset z).mp h with k | k
                · exact Or.inl k
                · exact Or.inr k.2
            rw [this]
          rw [kf0_e, hN.2.1, nmn (by omega), nmn (by omega), nmn (by omega)]
          by_cases hyy : y < gL G
          · rw [if_pos (by omega)]
            by_cases hm24 : m' < 24
            · rw [if_pos (by omega), zbit (bs_lt31 (by omega)) (by omega)]
              simp only [kf2]
              by_cases hyF : gNx G (q i) y ∧ ¬ ∃ j, j < m ∧ q j = y
              · rw [b10t ((bs_bit _ _ _).mpr ⟨hyy, hyF⟩), ixn (by omega), lt_e, ixn (by omega), lt_e]
                have f2 : cs2 Ch w3 qa' pa' 2 = qa' := rfl
                have f3 : ∀ A, cs2 Ch w3 A pa' 3 = pa' := fun _ => rfl
                simp only [f2, cs2_2, f3, cs2_3, Int.toNat_natCast]
                have hnewq : ∀ j, j < m' → q' j ≠ y := by
                  intro j hj e
                  rcases (hset y).mp ⟨j, hj, e⟩ with k | k
                  · exact hyF.2 k
                  · omega
                refine hrec2 _ _ _ ⟨m'+1, y+1, up qa' m' (y : Int), up pa' m' (i : Int), upn q' m' y, upn pb' m' i, by omega, by omega, rfl, FS_push hG hF' him' (by rw [hqi']; exact hyF.1) hnewq hord, by omega, by rw [upn_n _ _ (by omega)]; exact hqi', ?_, ?_, by omega, ?_⟩ (by omega)
                · intro j h1 h2 h3
                  by_cases e : j = m'
                  · subst e; rw [upn_e]; omega
                  · rw [upn_n _ _ e] at h3 ⊢
                    have := hord j h1 (by omega) h3; omega
                · intro j h1 h2
                  by_cases e : j = m'
                  · subst e; rw [upn_e]; omega
                  · rw [upn_n _ _ e]; exact hle j h1 (by omega)
                · intro z
                  constructor
                  · rintro ⟨j, hj, hz⟩
                    by_cases e : j = m'
                    · subst e; rw [upn_e] at hz; subst hz; exact Or.inr ⟨by omega, hyF⟩
                    · rw [upn_n _ _ e] at hz
                      rcases (hset z).mp ⟨j, by omega, hz⟩ with k | k
                      · exact Or.inl k
                      · exact Or.inr ⟨by omega, k.2⟩
                  · intro h
                    by_cases e : z = y
                    · exact ⟨m', by omega, by rw [upn_e, e]⟩
                    · obtain ⟨j, hj, hz⟩ := (hset z).mpr (by
                        rcases h with k | k
                        · exact Or.inl k
                        · exact Or.inr ⟨by omega, k.2⟩)
                      exact ⟨j, by omega, by rw [upn_n _ _ (by omega)]; exact hz⟩
              · rw [b10f (fun k => hyF ((bs_bit _ _ _).mp k).2)]
                refine hrec2 _ _ _ ⟨m', y+1, qa', pa', q', pb', rfl, by omega, rfl, hF', him', hqi', fun j h1 h2 h3 => by have := hord j h1 h2 h3; omega, hle, by omega, ?_⟩ (by omega)
                intro z
                rw [hset z]
                constructor
                · rintro (k | k)
                  · exact Or.inl k
                  · exact Or.inr ⟨by omega, k.2⟩
                · rintro (k | k)
                  · exact Or.inl k
                  · refine Or.inr ⟨?_, k.2⟩
                    by_cases e : z = y
                    · subst e; exact absurd k.2 hyF
                    · omega
            · rw [if_neg (by omega)]
              apply goOn
              have hful := inj_cnt (L := gL G) m' (fun j hj => (hF'.2.1 j hj).2.1) hF'.1.2.2.1
              have hm : m' = gL G := by omega
              rw [hm] at hful
              intro z hz _
              have := cnt_full hful z hz
              rw [hm]; exact this
          · rw [if_neg (by omega)]
            apply goOn
            intro z hz hnz
            by_cases hin : ∃ j, j < m ∧ q j = z
            · exact (hset z).mpr (Or.inl hin)
            · exact (hset z).mpr (Or.inr ⟨by omega, hnz, hin⟩)
        · refine ⟨m, 0, qa, pa, q, pb, rfl, rfl, rfl, hF, hlt, rfl, fun j h1 h2 h3 => by have := hst j h1 h2; omega, fun j h1 h2 => by have := hst j h1 h2; omega, by omega, fun z => ⟨Or.inl, fun h => ?_⟩⟩
          rcases h with k | k
          · exact k
          · omega
      · have hTq : gT G (q i) := ⟨qi2, qi3, by
          by_cases k : gTx G (q i)
          · exact k
          · exact absurd (hgf.2.2.mpr k) hfree⟩
        obtain ⟨d, r, c, hdL, hr, hwd⟩ := Ch_writeDown (Ch := (cs1 Ch ((bs (gL G) (fun z => ∃ j, j < m ∧ q j = z) : Nat) : Int), cs2 Ch w2 qa pa)) hN hG hF.1 hlt hTq (fun j hj => ⟨(hF.2.1 j hj).1, (hF.2.1 j hj).2.1⟩) hF.2.2.1 hF.2.2.2 rfl
        rw [if_neg hfree, hwd, bds]
        refine ⟨_, rfl, rfl, rfl, rfl, rfl, rfl, Or.inl ⟨d, r, c, hdL, hr, rfl, fun t ht => ⟨?_, ?_⟩⟩⟩
        · show wsA _ (fun t => ((r t : Nat) : Int)) d (d+1) t = _
          unfold wsA; rw [if_pos (by omega)]
        · show wsA _ (gInto G d r) d (d+1) t = _
          unfold wsA; rw [if_pos (by omega)]
    · rw [if_neg (by omega)]
      have : i = m := by omega
      subst this
      refine ⟨_, rfl, rfl, rfl, rfl, rfl, rfl, Or.inr ⟨fun k => ?_, rfl, ?_⟩⟩
      · have := BQ_none hF.1 k 0 hF.1.2.1
        rwa [hF.1.1] at this
      · show ((bs (gL G) (fun z => ∃ j, j < i ∧ q j = z) : Nat) : Int) = _
        congr 1
        exact bs_ext (fun z _ => (BQ_reach hF.1 z).symm)
  · refine ⟨1, 0, Ch.2 1, up (Ch.2 2) 0 (l : Int), up (Ch.2 3) 0 (-1), fun _ => l, fun _ => 0, rfl, rfl, ?_, ⟨BQ_begin l rfl, fun j hj => ⟨?_, hl, hls⟩, rfl, fun j h1 h2 => by omega⟩, by omega, fun j h1 h2 => by omega⟩
    · have e1 : up (up Ch.1 6 0) 7 ((2 ^ l : Nat) : Int) = cs1 Ch ((bs (gL G) (fun z => ∃ j, j < 1 ∧ l = z) : Nat) : Int) := by
        have : bs (gL G) (fun z => ∃ j, j < 1 ∧ l = z) = 2 ^ l := by
          rw [bs_one hl]
          exact bs_ext (fun i _ => ⟨fun ⟨_, _, e⟩ => e.symm, fun e => ⟨0, by omega, e.symm⟩⟩)
        rw [this]
        funext j; unfold up cs1
        by_cases h : j = 7
        · rw [if_pos h, if_neg (by omega), if_pos h]
        · rw [if_neg h, if_neg h]
      have e2 : ua (ua Ch.2 2 (up (Ch.2 2) 0 (l : Int))) 3 (up (Ch.2 3) 0 (-1)) = cs2 Ch (Ch.2 1) (up (Ch.2 2) 0 (l : Int)) (up (Ch.2 3) 0 (-1)) := by
        funext j; unfold ua cs2
        by_cases h3 : j = 3
        · simp only [if_pos h3]; rw [if_neg (by omega), if_neg (by omega)]
        · by_cases h2 : j = 2
          · rw [if_neg h3, if_pos h2, if_neg (by omega), if_pos h2]
          · by_cases h1 : j = 1
            · rw [if_neg h3, if_neg h2, if_pos h1, h1]
            · rw [if_neg h3, if_neg h2, if_neg h1, if_neg h2, if_neg h3]
      rw [← e1, ← e2]; rfl
    · have : j = 0 := by omega
      subst this; rfl
end
