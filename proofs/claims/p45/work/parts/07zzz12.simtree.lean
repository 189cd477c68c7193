-- needs: 07zzz11.outtree
/-! out-trees: the programs -/
def OW (G : GV) (X : Nat) (w : Nat → Int) : Prop := ∀ s, 1 ≤ s → s < 2 ^ gn G → w s = ((ec G X s : Nat) : Int)
theorem ec_le (G : GV) (X s : Nat) : ec G X s ≤ gL G := cnt_le _ _
theorem k1_e {β : Type} (v : Int) (k : Int → Option β) : (fun w => k w) v = k v := rfl
section
variable {N M OT : ZB} {G : GV} {r c L C T : Nat}
theorem OT_canGo (hN : RN N G) (hG : GOK G) (hr : r < gn G) (hc : c ≤ 24) {l X : Nat} (hl : l < gL G) {w : Nat → Int} (hw : OW G X w) (OT : ZB) : fOT_canGo N (OT.1, ua OT.2 1 w) (r : Int) (l : Int) (c : Int) = some (if dc (∀ s, s < 2 ^ gn G → ¬ s.testBit r = true → enT G l s → c < ec G X s) then 1 else 0) := by
  have hb := hG.1
  have hp := Nat.two_pow_pos (gn G)
  have h10 : 2 ^ gn G ≤ 1024 := Nat.pow_le_pow_right (n := 2) (by omega) hb.1
  have main : wp (fOT_canGo N (OT.1, ua OT.2 1 w) (r : Int) (l : Int) (c : Int)) (fun q => q = if dc (∀ s, s < 2 ^ gn G → ¬ s.testBit r = true → enT G l s → c < ec G X s) then 1 else 0) := by
    unfold fOT_canGo
    refine lop1_w (fun v => ∃ k : Nat, v = (k : Int) ∧ 1 ≤ k ∧ k ≤ 2 ^ gn G ∧ ∀ s, s < k → ¬ s.testBit r = true → enT G l s → c < ec G X s) (fun v => 2 ^ gn G - v.toNat) ?_ FU _ ⟨1, rfl, by omega, by omega, fun s hs _ z => absurd (by omega) (bit_ne z.1)⟩ (by show 2 ^ gn G - _ < 100000; omega)
    intro rec v hI hrec
    obtain ⟨k, rfl, hk1, hk, hno⟩ := hI
    rw [N_allPoints hN hG, bds, nmn (by omega), nmn (by omega), kf0_e]
    by_cases hkn : k < 2 ^ gn G
    · have goOn : (¬ k.testBit r = true → enT G l k → c < ec G X k) → ∃ q, rec ((k : Int) + 1) = some q ∧ q = if dc (∀ s, s < 2 ^ gn G → ¬ s.testBit r = true → enT G l s → c < ec G X s) then 1 else 0 := by
        intro h
        refine hrec _ ⟨k+1, by omega, by omega, by omega, fun s hs => ?_⟩ (by omega)
        by_cases e : s = k
        · subst e; exact h
        · exact hno s (by omega)
      rw [if_neg (by omega), zbit (by omega) (by omega)]
      by_cases hkr : k.testBit r = true
      · rw [b10t hkr]; exact goOn (fun z => absurd hkr z)
      · rw [b10f hkr, N_enters hN hG hl (by omega), bds]
        by_cases he : enT G l k
        · have hel := ec_le G X k
          have e1 : ((OT.1, ua OT.2 1 w) : ZB).2 1 = w := rfl
          rw [i10t he, e1, rdn (by omega), hw k hk1 hkn, nmn (by omega), nmn (by omega)]
          by_cases z : c < ec G X k
          · rw [if_pos (by omega)]; exact goOn (fun _ _ => z)
          · rw [if_neg (by omega)]
            exact ⟨_, rfl, by rw [idf (fun y => z (y k hkn hkr he))]⟩
        · rw [i10f he]; exact goOn (fun _ z => absurd z he)
    · rw [if_pos (by omega)]
      exact ⟨_, rfl, by rw [idt (show ∀ s, s < 2 ^ gn G → ¬ s.testBit r = true → enT G l s → c < ec G X s from fun s hs => hno s (by omega))]⟩
  obtain ⟨q, h1, h2⟩ := main
  rw [h1, h2]
theorem enT_out (hG : GOK G) {l : Nat} (hl : l < gL G) : enT G l (ndf (2 ^ gn G - 1) C) ↔ C.testBit (gtl G l) = true ∧ ¬ C.testBit (ghd G l) = true := by
  have h1 := gtl_lt hG hl
  have h2 := ghd_lt hG hl
  unfold enT
  rw [ndf_b, ndf_b, full_bit, full_bit]
  constructor
  · rintro ⟨⟨_, a⟩, b⟩
    refine ⟨?_, a⟩
    by_cases z : C.testBit (gtl G l) = true
    · exact z
    · exact absurd ⟨h1, z⟩ b
  · rintro ⟨a, b⟩
    exact ⟨⟨h2, b⟩, fun z => z.2 a⟩
theorem OT_firstFit (hN : RN N G) (hG : GOK G) (hr : r < gn G) (hc : c ≤ 24) (hL : L < 2 ^ gL G) (hC : C < 2 ^ gn G) {w : Nat → Int} (hw : OW G (ndf L T) w) {m : Nat} (hm : Fit G r c L C T m) (hmin : ∀ j, j < m → ¬ Fit G r c L C T j) (OT : ZB) : fOT_firstFit N (OT.1, ua OT.2 1 w) (r : Int) (C : Int) (L : Int) (c : Int) = some (m : Int) := by
  have hb := hG.1
  have hp := Nat.two_pow_pos (gn G)
  have h10 : 2 ^ gn G ≤ 1024 := Nat.pow_le_pow_right (n := 2) (by omega) hb.1
  have hL31 : L < 2147483648 := Nat.lt_of_lt_of_le hL (Nat.pow_le_pow_right (n := 2) (by omega) (show gL G ≤ 31 by omega))
  have hmL := hm.1
  have main : wp (fOT_firstFit N (OT.1, ua OT.2 1 w) (r : Int) (C : Int) (L : Int) (c : Int)) (fun q => q = (m : Int)) := by
    unfold fOT_firstFit
    refine lop1_w (fun v => ∃ k : Nat, v = (k : Int) ∧ k ≤ m) (fun v => m - v.toNat) ?_ FU _ ⟨0, rfl, by omega⟩ (by show m - _ < 100000; omega)
    intro rec v hI hrec
    obtain ⟨k, rfl, hk⟩ := hI
    have goOn : ¬ Fit G r c L C T k → ∃ q, rec ((k : Int) + 1) = some q ∧ q = (m : Int) := by
      intro h
      have : k ≠ m := fun e => h (by rw [e]; exact hm)
      exact hrec _ ⟨k+1, by omega, by omega⟩ (by omega)
    have n0 : ∀ a b : Option Int, (if nm 0 = 0 then a else b) = a := fun a b => if_pos (by decide)
    have n1 : ∀ a b : Option Int, (if nm 1 = 0 then a else b) = b := fun a b => if_neg (by decide)
    rw [hN.2.1, nmn (by omega), nmn (by omega), if_pos (by omega), kf1_e, kf0_e, zbit hL31 (by omega)]
    have go0 : ¬ Fit G r c L C T k → ∃ q, (if nm 0 = 0 then rec ((k : Int) + 1) else bd (fOT_canGo N (OT.1, ua OT.2 1 w) (r : Int) (k : Int) (c : Int)) fun u_6 => if nm u_6 = 0 then rec ((k : Int) + 1) else some (k : Int)) = some q ∧ q = (m : Int) := fun h => by rw [n0]; exact goOn h
    by_cases h1 : L.testBit k = true
    · rw [b10t h1, N_allPoints hN hG, bds, zcompn (by omega) (by omega), N_enters hN hG (by omega) (Nat.lt_of_le_of_lt (ndf_le _ _) (by omega)), bds]
      by_cases h2 : enT G k (ndf (2 ^ gn G - 1) C)
      · have h2' := (enT_out hG (by omega)).mp h2
        rw [i10t h2]
        show ∃ q, (if nm 1 = 0 then rec ((k : Int) + 1) else bd (fOT_canGo N (OT.1, ua OT.2 1 w) (r : Int) (k : Int) (c : Int)) fun u_6 => if nm u_6 = 0 then rec ((k : Int) + 1) else some (k : Int)) = some q ∧ q = (m : Int)
        rw [n1, OT_canGo hN hG hr hc (by omega) hw OT, bds]
        by_cases h3 : ∀ s, s < 2 ^ gn G → ¬ s.testBit r = true → enT G k s → c < ec G (ndf L T) s
        · rw [i10t h3]
          refine ⟨_, rfl, ?_⟩
          have hF : Fit G r c L C T k := ⟨by omega, h1, h2'.1, h2'.2, h3⟩
          by_cases e : k = m
          · rw [e]
          · exact absurd hF (hmin k (by omega))
        · rw [i10f h3]; exact goOn (fun z => h3 z.2.2.2.2)
      · rw [i10f h2]; exact go0 (fun z => h2 ((enT_out hG (by omega)).mpr ⟨z.2.2.1, z.2.2.2.1⟩))
    · rw [b10f h1]; exact go0 (fun z => h1 z.2.1)
  obtain ⟨q, h1, h2⟩ := main
  rw [h1, h2]
noncomputable def trr (G : GV) (r c L : Nat) : Nat := (st G r c L (gn G - 1)).2
theorem OT_grow (hN : RN N G) (hG : GOK G) (hr : r < gn G) (hn : 2 ≤ gn G) (hc : c ≤ 24) (hLI : LI G r c L) {w : Nat → Int} (hw : OW G L w) (OT : ZB) : ∃ w', fOT_grow N (OT.1, ua OT.2 1 w) (r : Int) (L : Int) (c : Int) = some (((trr G r c L : Nat) : Int), (OT.1, ua OT.2 1 w')) ∧ OW G (ndf L (trr G r c L)) w' := by
  have hb := hG.1
  have hp := Nat.two_pow_pos (gn G)
  have h10 : 2 ^ gn G ≤ 1024 := Nat.pow_le_pow_right (n := 2) (by omega) hb.1
  have hp24 : 2 ^ gL G ≤ 2 ^ 24 := Nat.pow_le_pow_right (n := 2) (by omega) hb.2.1
  have main : wp (fOT_grow N (OT.1, ua OT.2 1 w) (r : Int) (L : Int) (c : Int)) (fun q => ∃ w', q = (((trr G r c L : Nat) : Int), (OT.1, ua OT.2 1 w')) ∧ OW G (ndf L (trr G r c L)) w') := by
    unfold fOT_grow
    rw [zshln (by omega), lt_e]
    refine lop4_w (Q := fun q => ∃ w', q = (((trr G r c L : Nat) : Int), (OT.1, ua OT.2 1 w')) ∧ OW G (ndf L (trr G r c L)) w') (fun v4 v5 v6 C => ∃ (i : Nat) (u : Nat → Int), v6 = ((i + 1 : Nat) : Int) ∧ i < gn G ∧ v4 = (((st G r c L i).1 : Nat) : Int) ∧ v5 = (((st G r c L i).2 : Nat) : Int) ∧ C = (OT.1, ua OT.2 1 u) ∧ OW G (ndf L (st G r c L i).2) u) (fun _ _ v6 _ => 10 - v6.toNat) ?_ FU _ _ _ _ ⟨0, w, rfl, by omega, rfl, rfl, rfl, by show OW G (ndf L 0) w; rw [ndf_0]; exact hw⟩ (by show 10 - _ < 100000; omega)
    intro rec v4 v5 v6 D hI hrec
    obtain ⟨i, u, rfl, hi, rfl, rfl, rfl, hu⟩ := hI
    obtain ⟨⟨t1, t2, t3, t4, t5⟩, t6⟩ := st_ok hG hr hLI i hi
    rw [kf0_e, hN.1, nmn (by omega), nmn (by omega)]
    by_cases hin : i + 1 < gn G
    · obtain ⟨f1, f2⟩ := st_fit hG hr hLI hin
      have hgl := ghd_lt hG f1.1
      have fs := fit_step hG ⟨t1, t2, t3, t4, t5⟩ f1
      obtain ⟨w2, c1, c2⟩ := OT_change hN hG f1.1 (-1) u OT
      have f11 := f1.1
      rw [if_pos (by omega), OT_firstFit hN hG hr hc hLI.1 t1 hu f1 f2 OT, bds, nmn (by omega), if_neg (by omega), c1, bds, N_head hN hG f1.1, bds, zshln (by omega), zorn (by omega) (p2_lt31 (by omega)), lt_e, zshln (by omega), zorn (by omega) (p2_lt31 (by omega)), lt_e]
      refine hrec _ _ _ _ ⟨i+1, w2, by omega, hin, rfl, rfl, rfl, fun s s1 s2 => ?_⟩ (by omega)
      have e := ec_del (s := s) f1.1 fs.2.1
      have e' : ec G (ndf L ((st G r c L i).2 ||| 2 ^ slf G r c L i)) s = ec G (ndf L (st G r c L (i+1)).2) s := rfl
      rw [← e', c2 s s1 s2, hu s s1 s2]
      by_cases z : enT G (slf G r c L i) s
      · rw [idt z] at e ⊢; omega
      · rw [idf z] at e ⊢; omega
    · rw [if_neg (by omega)]
      have : i = gn G - 1 := by omega
      subst this
      exact ⟨_, rfl, u, rfl, hu⟩
  obtain ⟨q, h1, w', h2, h3⟩ := main
  exact ⟨w', by rw [h1, h2], h3⟩
theorem M_rootedBy_m (hM : RW (M.2 12) G) (hG : GOK G) (hr : r < gn G) {x : Nat} (hx : x < 2 ^ gL G) : fM_rootedBy M (r : Int) (x : Int) = some ((mnf (ec G x) r 1000 (2 ^ gn G) : Nat) : Int) := by
  have h := M_rootedBy hM hG hr (fun i => x.testBit i = true)
  rw [← eq_bs hx] at h
  exact h
theorem M_treeFrom (hM : RW (M.2 12) G) (hG : GOK G) (hr : r < gn G) (hn : 2 ≤ gn G) (hc : c ≤ 24) (hLI : LI G r c L) : fM_treeFrom M (r : Int) (L : Int) (c : Int) = some ((trr G r c L : Nat) : Int) := by
  have hb := hG.1
  have hp := Nat.two_pow_pos (gn G)
  have h10 : 2 ^ gn G ≤ 1024 := Nat.pow_le_pow_right (n := 2) (by omega) hb.1
  have hp24 : 2 ^ gL G ≤ 2 ^ 24 := Nat.pow_le_pow_right (n := 2) (by omega) hb.2.1
  have hLl := hLI.1
  have main : wp (fM_treeFrom M (r : Int) (L : Int) (c : Int)) (fun q => q = ((trr G r c L : Nat) : Int)) := by
    unfold fM_treeFrom
    rw [zshln (by omega), lt_e]
    refine lop2_w (fun v4 v5 => ∃ i : Nat, i < gn G ∧ v4 = (((st G r c L i).1 : Nat) : Int) ∧ v5 = (((st G r c L i).2 : Nat) : Int)) (fun v4 _ => gn G - cnt (gn G) (fun p => v4.toNat.testBit p = true)) ?_ FU _ _ ⟨0, by omega, rfl, rfl⟩ (by show gn G - _ < 100000; omega)
    intro rec v4 v5 hI hrec
    obtain ⟨i, hi, rfl, rfl⟩ := hI
    obtain ⟨⟨t1, t2, t3, t4, t5⟩, t6⟩ := st_ok hG hr hLI i hi
    have hall : zshl 1 ((gn G : Nat) : Int) - 1 = ((2 ^ gn G - 1 : Nat) : Int) := by rw [zshln (by omega)]; omega
    rw [M_points hM, bds, hall, nmn (show (st G r c L i).1 < 2147483648 by omega), nmn (show 2 ^ gn G - 1 < 2147483648 by omega)]
    by_cases hin : i + 1 < gn G
    · obtain ⟨f1, f2⟩ := st_fit hG hr hLI hin
      have f11 := f1.1
      have hne : (st G r c L i).1 ≠ 2 ^ gn G - 1 := by
        intro e
        rw [e] at t6
        rw [cnt_all (n := gn G) (fun p hp => full_bit.mpr hp)] at t6
        omega
      rw [if_neg (by omega)]
      refine lop1_w (fun v6 => ∃ k : Nat, v6 = (k : Int) ∧ k ≤ slf G r c L i) (fun v6 => slf G r c L i - v6.toNat) ?_ FU _ ⟨0, rfl, by omega⟩ (by show slf G r c L i - _ < 100000; omega)
      intro rec2 v6 hI2 hrec2
      obtain ⟨k, rfl, hk⟩ := hI2
      have hkL : k < gL G := by omega
      have g1 := gtl_lt hG hkL
      have g2 := ghd_lt hG hkL
      have hiff := fit_iff hb.2.1 ⟨t1, t2, t3, t4, t5⟩ hc hkL
      have goOn : ¬ Fit G r c L (st G r c L i).1 (st G r c L i).2 k → ∃ q, rec2 ((k : Int) + 1) = some q ∧ q = ((trr G r c L : Nat) : Int) := by
        intro h
        have : k ≠ slf G r c L i := fun e => h (by rw [e]; exact f1)
        exact hrec2 _ ⟨k+1, by omega, by omega⟩ (by omega)
      have take : Fit G r c L (st G r c L i).1 (st G r c L i).2 k → ∃ q, rec ((((st G r c L i).1 ||| gen G k : Nat) : Int)) ((((st G r c L i).2 ||| 2 ^ k : Nat) : Int)) = some q ∧ q = ((trr G r c L : Nat) : Int) := by
        intro hF
        have ek : k = slf G r c L i := by
          by_cases e : k = slf G r c L i
          · exact e
          · exact absurd hF (f2 k (by omega))
        have eC : (st G r c L i).1 ||| gen G k = (st G r c L (i+1)).1 := by
          show _ = (st G r c L i).1 ||| 2 ^ ghd G (slf G r c L i)
          rw [← ek]
          apply nat_ext; intro p
          rw [or_b, or_b, gen_bit hG, two_b]
          have htl := hF.2.2.1
          unfold gtl at htl
          unfold ghd
          by_cases q : gtu G k
          · rw [idt q] at htl ⊢
            constructor
            · rintro (z | z | z)
              · exact Or.inl z
              · exact Or.inr z.symm
              · subst z; exact Or.inl htl
            · rintro (z | z)
              · exact Or.inl z
              · exact Or.inr (Or.inl z.symm)
          · rw [idf q] at htl ⊢
            constructor
            · rintro (z | z | z)
              · exact Or.inl z
              · subst z; exact Or.inl htl
              · exact Or.inr z.symm
            · rintro (z | z)
              · exact Or.inl z
              · exact Or.inr (Or.inr z.symm)
        have eT : (st G r c L i).2 ||| 2 ^ k = (st G r c L (i+1)).2 := by
          show _ = (st G r c L i).2 ||| 2 ^ slf G r c L i
          rw [← ek]
        obtain ⟨_, t6'⟩ := st_ok hG hr hLI (i+1) hin
        rw [eC, eT]
        refine hrec _ _ ⟨i+1, hin, rfl, rfl⟩ ?_
        rw [Int.toNat_natCast, Int.toNat_natCast, t6, t6']
        omega
      have hnl : ndf L (st G r c L i).2 < 2 ^ gL G := Nat.lt_of_le_of_lt (ndf_le _ _) hLl
      have hnl2 : ndf (ndf L (st G r c L i).2) (2 ^ k) < 2 ^ gL G := Nat.lt_of_le_of_lt (ndf_le _ _) hnl
      rw [zcompn (by omega) (by omega), M_has (by omega) (by omega), bds, kf0_e]
      by_cases h1 : (ndf L (st G r c L i).2).testBit k = true
      · rw [t10t h1, M_outOf hM hG hkL, bds, M_has (by omega) (by omega), bds]
        by_cases h2 : (st G r c L i).1.testBit (gtl G k) = true
        · rw [t10t h2, M_towards hM hG hkL, bds, M_has (by omega) (by omega), bds]
          by_cases h3 : (st G r c L i).1.testBit (ghd G k) = true
          · rw [t10t h3]; exact goOn (fun z => z.2.2.2.1 h3)
          · have hge := gen_lt31 hG hkL
            have hmb := (mnf_le (f := ec G (ndf (ndf L (st G r c L i).2) (2 ^ k))) (r := r) (b := 1000) (2 ^ gn G)).1
            rw [t10f h3, zshln (by omega), zorn (by omega) (p2_lt31 (by omega)), M_ends hM hG hkL, kf0_e, lt_e, bds, zorn (by omega) hge, lt_e, nmn (show c < 2147483648 by omega), zcompn (by omega) (p2_lt31 (by omega)), M_rootedBy_m hM hG hr hnl2, bds, nmn (show mnf (ec G (ndf (ndf L (st G r c L i).2) (2 ^ k))) r 1000 (2 ^ gn G) < 2147483648 by omega)]
            by_cases h4 : 0 < c
            · rw [if_pos (by omega)]
              by_cases h5 : mnf (ec G (ndf (ndf L (st G r c L i).2) (2 ^ k))) r 1000 (2 ^ gn G) < c
              · rw [if_pos (by omega)]
                exact goOn (fun z => by rcases (hiff.mp z).2.2.2 with y | y <;> omega)
              · rw [if_neg (by omega)]
                exact take (hiff.mpr ⟨h1, h2, h3, Or.inr (by omega)⟩)
            · rw [if_neg (by omega)]
              exact take (hiff.mpr ⟨h1, h2, h3, Or.inl (by omega)⟩)
        · rw [t10f h2]; exact goOn (fun z => h2 z.2.2.1)
      · rw [t10f h1]; exact goOn (fun z => h1 (hiff.mp z).1)
    · have hii : i = gn G - 1 := by omega
      have hfull : (st G r c L i).1 = 2 ^ gn G - 1 := by
        apply nat_ext; intro p
        rw [full_bit]
        constructor
        · intro z; exact bit_lt t1 z
        · intro z; exact cnt_full (by rw [t6]; omega) p z
      rw [if_pos (by rw [hfull])]
      refine ⟨_, rfl, ?_⟩
      rw [hii]; rfl
  obtain ⟨q, h1, h2⟩ := main
  rw [h1, h2]
noncomputable def Lj (G : GV) (r K : Nat) : Nat → Nat
  | 0 => bs (gL G) (snd_ G)
  | j + 1 => ndf (Lj G r K j) (trr G r (K - 1 - j) (Lj G r K j))
noncomputable def trj (G : GV) (r K j : Nat) : Nat := trr G r (K - 1 - j) (Lj G r K j)
theorem Lj_ok (hG : GOK G) (hr : r < gn G) {K : Nat} (hK : K = mnf (ecn G (snd_ G)) r 1000 (2 ^ gn G)) : ∀ j, j < K → LI G r (K - 1 - j) (Lj G r K j) := by
  intro j
  induction j with
  | zero =>
    intro h
    refine ⟨bs_lt _ _, fun s s1 s2 s3 => ?_⟩
    have e : ec G (Lj G r K 0) s = ecn G (snd_ G) s := by
      apply cnt_ext
      intro l hl
      show (bs (gL G) (snd_ G)).testBit l = true ∧ _ ↔ _
      rw [bs_bit]
      exact ⟨fun z => ⟨z.1.2, z.2⟩, fun z => ⟨⟨hl, z.1⟩, z.2⟩⟩
    have := (mnf_le (f := ecn G (snd_ G)) (r := r) (b := 1000) (2 ^ gn G)).2 s s1 s2 s3
    rw [e]; omega
  | succ j ih =>
    intro h
    have hL := ih (by omega)
    obtain ⟨⟨_, _, _, _, t5⟩, _⟩ := st_ok hG hr hL (gn G - 1) (by omega)
    refine ⟨Nat.lt_of_le_of_lt (ndf_le _ _) hL.1, fun s s1 s2 s3 => ?_⟩
    have : K - 1 - j ≤ ec G (Lj G r K (j+1)) s := t5 s s1 s2 s3
    omega
end
theorem sim34 : Sim34 INV := by
  intro X N T Rd Fr Ac Ch PS Ly Pa OT Ea Ga c0 c1 M a1 a2 hI hr1 hr2
  have keep0 : INV X N T Rd Fr Ac Ch PS Ly Pa OT Ea Ga c0 c1 (up M.1 0 0, M.2) := hI
  obtain ⟨⟨G, hG, hN, hM⟩, hT, hR, hA, hC, hGa, hi0, hi1, hP⟩ := hI
  have hb := hG.1
  have hM1 : RW (((up M.1 0 0, M.2) : ZB).2 12) G := hM
  have hp24 : 2 ^ gL G ≤ 2 ^ 24 := Nat.pow_le_pow_right (n := 2) (by omega) hb.2.1
  unfold fX_outTree fM_outTree
  rw [lt_e, M_isPoint hM1 hG hr1, bds, kf0_e, kf0_e, hN.1, nmn (by omega), nmi hr1]
  by_cases q : gn G < 2
  · rw [if_pos (by omega : (gn G : Int) < 2)]
    refine ⟨(-1, OT), (-1, (up M.1 0 0, M.2)), rfl, ?_, rfl, keep0⟩
    by_cases z : 0 ≤ a1 ∧ a1 < gn G
    · rw [q10t z, M_points hM1, bds, nmn (by omega), if_pos (by omega : (gn G : Int) < 2)]
    · rw [q10f z]
  rw [if_neg (by omega : ¬ (gn G : Int) < 2)]
  by_cases z : 0 ≤ a1 ∧ a1 < gn G
  · obtain ⟨r, rfl⟩ : ∃ r : Nat, a1 = (r : Int) := ⟨a1.toNat, by omega⟩
    have hr : r < gn G := by omega
    obtain ⟨w, oc1, oc2⟩ := OT_count hN hG hr OT
    obtain ⟨s1, s2⟩ := mnf_small (G := G) hb.2.1 (T := snd_ G) (r := r) (by omega)
    have hrb := M_rootedBy (M := (up M.1 0 0, M.2)) hM1 hG hr (fun l => ¬ gbr G l)
    have hrb' : fM_rootedBy (up M.1 0 0, M.2) (r : Int) ((bs (gL G) (fun l => ¬ gbr G l) : Nat) : Int) = some ((mnf (ecn G (snd_ G)) r 1000 (2 ^ gn G) : Nat) : Int) := hrb
    rw [s2] at oc1
    obtain ⟨K, hK⟩ : ∃ K, K = mnf (ecn G (snd_ G)) r 1000 (2 ^ gn G) := ⟨_, rfl⟩
    rw [← hK] at oc1 hrb' s1
    have hLj := Lj_ok hG hr hK
    have c2' : OW G (Lj G r K 0) w := by
      intro s s1 s2
      rw [oc2 s s1 s2]
      congr 1
      apply cnt_ext
      intro l hl
      show _ ↔ (bs (gL G) (snd_ G)).testBit l = true ∧ _
      rw [bs_bit]
      exact ⟨fun z => ⟨⟨hl, z.1⟩, z.2⟩, fun z => ⟨z.1.2, z.2⟩⟩
    have keep : ∀ w', INV X N T Rd Fr Ac Ch PS Ly Pa (OT.1, ua OT.2 1 w') Ea Ga c0 c1 (up M.1 0 0, M.2) := fun w' => keep0
    rw [q10t z, if_neg (by omega : ¬ (r : Int) < 0), if_pos z.2, M_points hM1, bds, nmn (by omega), if_neg (by omega : ¬ (gn G : Int) < 2), M_sound hM1 hG, bds, hrb', bds, M_isIn hr2 (by omega) (by omega), bds]
    unfold fOT_treeSet
    rw [oc1, bds, kf0_e, nmi hr2, nmn (by omega : K < 2147483648)]
    by_cases y : 0 ≤ a2 ∧ a2 ≤ (K : Int) - 1
    · obtain ⟨a, rfl⟩ : ∃ a : Nat, a2 = (a : Int) := ⟨a2.toNat, by omega⟩
      rw [q10t y, if_neg (by omega : ¬ (a : Int) < 0), if_pos (by omega : (a : Int) < (K : Int)), N_soundSet hN hG, bds]
      have hcls : wp (lop4 FU (fun rec_8 (v4_4 : Int) (v5_5 : Int) (v6_6 : Int) (OT_7 : ZB) =>
        if (a : Int) < (nm v6_6) then (
          some (v5_5, OT_7))
        else (
          lt (zand v4_4 (zxor v5_5 (-1))) fun v4_9 =>
          bd (fOT_grow N OT_7 (r : Int) v4_9 (((K : Int) - v6_6) - 1)) fun u_10 =>
          rec_8 v4_9 u_10.1 (v6_6 + 1) u_10.2)) ((bs (gL G) (fun l => ¬ gbr G l) : Nat) : Int) 0 0 (OT.1, ua OT.2 1 w)) (fun q => ∃ w', q = (((trj G r K a : Nat) : Int), (OT.1, ua OT.2 1 w'))) := by
        refine lop4_w (Q := fun q => ∃ w', q = (((trj G r K a : Nat) : Int), (OT.1, ua OT.2 1 w'))) (fun v4 v5 v6 D => ∃ (j x t : Nat) (u : Nat → Int), v4 = (x : Int) ∧ v5 = (t : Int) ∧ v6 = (j : Int) ∧ D = (OT.1, ua OT.2 1 u) ∧ x < 2 ^ gL G ∧ t < 2147483648 ∧ j ≤ a + 1 ∧ ndf x t = Lj G r K j ∧ (j = 0 ∨ t = trj G r K (j - 1)) ∧ OW G (Lj G r K j) u) (fun _ _ v6 _ => a + 1 - v6.toNat) ?_ FU _ _ _ _ ⟨0, bs (gL G) (snd_ G), 0, w, rfl, rfl, rfl, rfl, bs_lt _ _, by omega, by omega, ndf_0 _, Or.inl rfl, c2'⟩ (by show a + 1 - _ < 100000; omega)
        intro rec v4 v5 v6 D hI hrec
        obtain ⟨j, x, t, u, rfl, rfl, rfl, rfl, hx, ht, hj, hxt, hjt, hu⟩ := hI
        rw [nmn (by omega)]
        by_cases hja : a < j
        · rw [if_pos (by omega)]
          have : j - 1 = a := by omega
          rcases hjt with h | h
          · omega
          · exact ⟨_, rfl, u, by rw [h, this]⟩
        · have hLI := hLj j (by omega)
          obtain ⟨w', g1, g2⟩ := OT_grow hN hG hr (by omega) (by omega) hLI hu OT
          have hcc : (K : Int) - (j : Int) - 1 = ((K - 1 - j : Nat) : Int) := by omega
          obtain ⟨⟨_, _, t3, _, _⟩, _⟩ := st_ok hG hr hLI (gn G - 1) (by omega)
          have t3' : trj G r K j < 2 ^ gL G := t3
          rw [if_neg (by omega), zcompn (by omega) ht, lt_e, hxt, hcc, g1, bds]
          exact hrec _ _ _ _ ⟨j+1, Lj G r K j, trj G r K j, w', rfl, rfl, by omega, rfl, hLI.1, by omega, by omega, rfl, Or.inr rfl, g2⟩ (by omega)
      have href : wp (lop3 FU (fun rec_11 (v3_8 : Int) (v5_9 : Int) (v6_10 : Int) =>
          if (a : Int) < (nm v6_10) then (
            some (v5_9, (up M.1 0 0, M.2)))
          else (
            bd (fM_treeFrom (up M.1 0 0, M.2) (r : Int) v3_8 (((K : Int) - 1) - v6_10)) fun u_12 =>
            lt (zand v3_8 (zxor u_12 (-1))) fun v3_13 =>
            rec_11 v3_13 u_12 (v6_10 + 1))) ((bs (gL G) (fun l => ¬ gbr G l) : Nat) : Int) 0 0) (fun q => q = (((trj G r K a : Nat) : Int), (up M.1 0 0, M.2))) := by
        refine lop3_w (fun v3 v5 v6 => ∃ (j t : Nat), v3 = ((Lj G r K j : Nat) : Int) ∧ v5 = (t : Int) ∧ v6 = (j : Int) ∧ j ≤ a + 1 ∧ (j = 0 ∨ t = trj G r K (j - 1))) (fun _ _ v6 => a + 1 - v6.toNat) ?_ FU _ _ _ ⟨0, 0, rfl, rfl, rfl, by omega, Or.inl rfl⟩ (by show a + 1 - _ < 100000; omega)
        intro rec v3 v5 v6 hI hrec
        obtain ⟨j, t, rfl, rfl, rfl, hj, hjt⟩ := hI
        rw [nmn (by omega)]
        by_cases hja : a < j
        · rw [if_pos (by omega)]
          have : j - 1 = a := by omega
          rcases hjt with h | h
          · omega
          · exact ⟨_, rfl, by rw [h, this]⟩
        · have hLI := hLj j (by omega)
          have hcc : (K : Int) - 1 - (j : Int) = ((K - 1 - j : Nat) : Int) := by omega
          obtain ⟨⟨_, _, t3, _, _⟩, _⟩ := st_ok hG hr hLI (gn G - 1) (by omega)
          have t3' : trr G r (K - 1 - j) (Lj G r K j) < 2 ^ gL G := t3
          have hLl := hLI.1
          rw [if_neg (by omega), hcc, M_treeFrom hM1 hG hr (by omega) (by omega) hLI, bds, zcompn (by omega) (by omega), lt_e]
          exact hrec _ _ _ ⟨j+1, trj G r K j, rfl, rfl, by omega, by omega, Or.inr rfl⟩ (by omega)
      obtain ⟨x1, e1, w', e2⟩ := hcls
      obtain ⟨x2, e3, e4⟩ := href
      refine ⟨x1, x2, ?_, e3, by rw [e2, e4], by rw [e2, e4]; exact keep w'⟩
      exact (congrArg (fun z => bd z fun u_2 : Int × ZB => some (u_2.1, u_2.2)) e1).trans (by rw [bds])
    · rw [q10f y]
      refine ⟨(-1, (OT.1, ua OT.2 1 w)), (-1, (up M.1 0 0, M.2)), ?_, rfl, rfl, keep w⟩
      by_cases y2 : a2 < 0
      · rw [if_pos y2, bds]
      · rw [if_neg y2, if_neg (by omega : ¬ a2 < (K : Int)), bds]
  · rw [q10f z]
    refine ⟨(-1, OT), _, ?_, rfl, rfl, keep0⟩
    by_cases y : a1 < 0
    · rw [if_pos y]
    · rw [if_neg y, if_neg (by omega)]
