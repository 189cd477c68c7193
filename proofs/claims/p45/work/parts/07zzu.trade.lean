-- needs: 07zzt.place
/-! trade -/
def gTr (G : GV) (l : Nat) (f : Int) (m : Nat) : Prop := (grf G l f).testBit m = true ∧ (grf G m (gh G l)).testBit l = true
def gTc (G : GV) (l : Nat) (f : Int) : Prop := gh G l ≠ -1 ∧ gh G l ≠ f ∧ cnt (gL G) (fun x => gh G x = gh G l) + 1 = gn G ∧ cnt (gL G) (fun x => gh G x = f) + 1 = gn G
noncomputable def gtr (G : GV) (l : Nat) (f : Int) : Int := if dc (gTc G l f ∧ ∃ m, m < gL G ∧ gTr G l f m) then ((lst (gL G) (gTr G l f) : Nat) : Int) else -1
section
variable {N M : ZB} {G : GV}
theorem Ch_isTree (hN : RN N G) (hG : GOK G) (hn : 1 ≤ gn G) {f : Int} (hf : -2147483648 ≤ f ∧ f < 2147483648) : fCh_isTree N f = some (if dc (cnt (gL G) (fun x => gh G x = f) + 1 = gn G) then 1 else 0) := by
  have hb := hG.1
  have hc := cnt_le (gL G) (fun x => gh G x = f)
  unfold fCh_isTree
  rw [N_forestSet hN hG hf, bds, bitCount_bs (by omega), bds, hN.1]
  simp only [kf1]
  rw [nmn (by omega), nmi (show -2147483648 ≤ (gn G : Int) - 1 ∧ (gn G : Int) - 1 < 2147483648 by omega)]
  by_cases h : cnt (gL G) (fun x => gh G x = f) + 1 = gn G
  · rw [if_pos (by omega), idt h]; exact zo1
  · rw [if_neg (by omega), idf h]; exact zo0
theorem gtr_find {l : Nat} {f : Int} (hc : gTc G l f) {k : Nat} (hk : k < gL G) (hk2 : gTr G l f k) (hno : ∀ j, j < k → ¬ gTr G l f j) : gtr G l f = (k : Int) := by
  unfold gtr
  rw [idt ⟨hc, k, hk, hk2⟩, lst_at hk hk2 hno]
theorem gtr_no {l : Nat} {f : Int} (h : ¬ gTc G l f ∨ ∀ j, j < gL G → ¬ gTr G l f j) : gtr G l f = -1 := by
  unfold gtr
  rw [idf]
  rintro ⟨h1, m, h2, h3⟩
  rcases h with k | k
  · exact k h1
  · exact k m h2 h3
theorem Ch_traded (hN : RN N G) (hG : GOK G) {l : Nat} (hl : l < gL G) {f : Int} (hf0 : 0 ≤ f) (hf1 : f < gk G) (Ch : ZB) : ∃ w, fCh_traded N Ch (l : Int) f = some (gtr G l f, (Ch.1, ua Ch.2 1 w)) := by
  have hb := hG.1
  have hv := hG.2.1 l hl
  have hn := (hN.2.2.2.2.2 l hl).2.2.2
  have hself : some ((-1 : Int), Ch) = some ((-1 : Int), ((Ch.1, ua Ch.2 1 (Ch.2 1)) : ZB)) := by rw [ua_self]
  unfold fCh_traded
  simp only [kf0]
  rw [rdn (by omega), hn, nmh hG hl, nmi (show -2147483648 ≤ f ∧ f < 2147483648 by omega)]
  by_cases h1 : gh G l = -1
  · rw [if_pos h1, gtr_no (Or.inl (fun k => k.1 h1))]; exact ⟨_, hself⟩
  rw [if_neg h1]
  by_cases h2 : gh G l = f
  · rw [if_pos h2, gtr_no (Or.inl (fun k => k.2.1 h2))]; exact ⟨_, hself⟩
  rw [if_neg h2, Ch_isTree hN hG (by omega) (by omega), bds, Ch_isTree hN hG (by omega) (by omega), bds]
  by_cases h3 : cnt (gL G) (fun x => gh G x = gh G l) + 1 = gn G
  · rw [i10t h3]
    by_cases h4 : cnt (gL G) (fun x => gh G x = f) + 1 = gn G
    · rw [i10t h4]
      have hcond : gTc G l f := ⟨h1, h2, h3, h4⟩
      obtain ⟨w, hw⟩ := Ch_ringOf hN hG hl hf0 (by omega) Ch
      rw [hw, bds]
      have main : ∀ (e : Option (Int × ZB)), wp e (fun r => ∃ w, r = (gtr G l f, ((Ch.1, ua Ch.2 1 w) : ZB))) → ∃ w, e = some (gtr G l f, ((Ch.1, ua Ch.2 1 w) : ZB)) := by
        rintro e ⟨r, h1, w, h2⟩; exact ⟨w, by rw [h1, h2]⟩
      apply main
      refine lop2_w (fun v5 C => ∃ (k : Nat) (w : Nat → Int), v5 = (k : Int) ∧ C = (Ch.1, ua Ch.2 1 w) ∧ k ≤ gL G ∧ ∀ j, j < k → ¬ gTr G l f j) (fun v5 _ => gL G - v5.toNat) ?_ FU _ _ ⟨0, w, rfl, rfl, by omega, fun j hj => absurd hj (Nat.not_lt_zero j)⟩ (by show gL G - _ < 100000; omega)
      intro rec v5 C hI hrec
      obtain ⟨k, w, rfl, rfl, hk, hno⟩ := hI
      rw [hN.2.1, nmn (by omega), nmn (by omega)]
      by_cases hkL : k < gL G
      · have goOn : ∀ w2, ¬ gTr G l f k → ∃ r, rec ((k : Int) + 1) (Ch.1, ua Ch.2 1 w2) = some r ∧ ∃ w, r = (gtr G l f, ((Ch.1, ua Ch.2 1 w) : ZB)) := by
          intro w2 hnk
          refine hrec _ _ ⟨k+1, w2, by omega, rfl, by omega, fun j hj => ?_⟩ (by omega)
          by_cases e : j = k
          · subst e; exact hnk
          · exact hno j (by omega)
        obtain ⟨w2, hw2⟩ := Ch_ringOf hN hG hkL (f := gh G l) (by omega) (by omega) (Ch.1, ua Ch.2 1 w)
        rw [if_pos (by omega), zbit (grf_lt hG) (by omega)]
        simp only [kf1]
        by_cases h5 : (grf G l f).testBit k = true
        · rw [b10t h5, hw2, bds, zbit (grf_lt hG) (by omega)]
          simp only [ua_up]
          by_cases h6 : (grf G k (gh G l)).testBit l = true
          · rw [b10t h6]
            exact ⟨_, rfl, w2, by rw [gtr_find hcond hkL ⟨h5, h6⟩ hno]⟩
          · rw [b10f h6]; exact goOn w2 (fun k => h6 k.2)
        · rw [b10f h5]; exact goOn w (fun k => h5 k.1)
      · rw [if_neg (by omega)]
        exact ⟨_, rfl, w, by rw [gtr_no (Or.inr (fun j hj => hno j (by omega)))]⟩
    · rw [i10f h4, gtr_no (Or.inl (fun k => h4 k.2.2.2))]; exact ⟨_, hself⟩
  · rw [i10f h3, gtr_no (Or.inl (fun k => h3 k.2.2.1))]; exact ⟨_, hself⟩
/-- a forest with as many lines as points less one joins all -/
theorem tree_conn (hG : GOK G) {f : Int} (hf : 0 ≤ f) (hn : 1 ≤ gn G) (hc : cnt (gL G) (fun x => gh G x = f) + 1 = gn G) : ∀ p q, p < gn G → q < gn G → Cn (ga G) (gb G) (InF G f) p q := by
  have h1 := Rp_count (a := ga G) (b := gb G) (n := gn G) (gL G) (InF G f) (fun l hl => ⟨hl.1, (hG.2.1 l hl.1).1, (hG.2.1 l hl.1).2.1⟩) (hG.2.2.2 f hf)
  have h2 : cnt (gL G) (InF G f) = cnt (gL G) (fun x => gh G x = f) := cnt_ext (fun i hi => ⟨fun k => k.2, fun k => ⟨hi, k⟩⟩)
  exact (Rp_one (by omega)).mp (by omega)
theorem grg_zero (hG : GOK G) {f : Int} (hf : 0 ≤ f) {l m : Nat} (hm : m < gL G) : grg G (ndf (bs (gL G) (fun x => gh G x = f)) (2 ^ l)) (ga G m) (gb G m) = 0 ↔ ¬ Cn (ga G) (gb G) (Em (InF G f) l) (ga G m) (gb G m) := by
  have hE : ∀ x, Eb G (ndf (bs (gL G) (fun x => gh G x = f)) (2 ^ l)) x ↔ Em (InF G f) l x := by
    intro x
    rw [Eb_ndf]
    exact ⟨fun k => ⟨(Eb_forest x).mp k.1, k.2⟩, fun k => ⟨(Eb_forest x).mpr k.1, k.2⟩⟩
  unfold grg
  rw [bs_zero]
  constructor
  · intro h hc
    have hfo : Fo (ga G) (gb G) (Em (InF G f) l) := Fo_mono Em_sub (hG.2.2.2 f hf)
    obtain ⟨e, he⟩ := Rg_ne hfo hc (hG.2.1 m hm).2.2.1
    refine h e he.1.1.1 ⟨(Cn_congr hE).mpr hc, ((hE e).mpr he.1).2, ?_⟩
    intro hc2
    apply he.2
    refine Cn_mono ?_ hc2
    intro x hx
    have := (Eb_ndf x).mp hx
    exact ⟨(hE x).mp this.1, this.2⟩
  · intro h e _ k
    exact h ((Cn_congr hE).mp k.1)
theorem gTr_iff (hG : GOK G) {l m : Nat} (hl : l < gL G) (hm : m < gL G) {f : Int} (hf : 0 ≤ f) (hc : gTc G l f) : gTr G l f m ↔ gh G m = f ∧ ¬ Cn (ga G) (gb G) (Em (InF G (gh G l)) l) (ga G m) (gb G m) ∧ ¬ Cn (ga G) (gb G) (Em (InF G f) m) (ga G l) (gb G l) := by
  have hv := hG.2.1 l hl
  have hvm := hG.2.1 m hm
  obtain ⟨h1, h2, h3, h4⟩ := hc
  have c1 := tree_conn hG (f := gh G l) (by omega) (by omega) h3 _ _ hvm.1 hvm.2.1
  have c2 := tree_conn hG hf (by omega) h4 _ _ hv.1 hv.2.1
  unfold gTr
  rw [grf_bit, grf_bit]
  constructor
  · rintro ⟨⟨_, k1, k2⟩, _, k3, k4⟩; exact ⟨k1.2, k4, k2⟩
  · rintro ⟨k1, k2, k3⟩; exact ⟨⟨c2, ⟨hm, k1⟩, k3⟩, c1, ⟨hl, rfl⟩, k2⟩
theorem M_tradeOf (hM : RW (M.2 12) G) (hG : GOK G) {l : Nat} (hl : l < gL G) {f : Int} (hf0 : 0 ≤ f) (hf1 : f < gk G) : fM_tradeOf M (l : Int) f = some (gtr G l f) := by
  have hb := hG.1
  have hv := hG.2.1 l hl
  have hcf := cnt_le (gL G) (fun x => gh G x = f)
  have hcl := cnt_le (gL G) (fun x => gh G x = gh G l)
  have hfr : -2147483648 ≤ f ∧ f < 2147483648 := by omega
  unfold fM_tradeOf
  rw [M_lies hM hG hl, bds, kf0_e, nmh hG hl, nmi hfr]
  by_cases h1 : gh G l = -1
  · rw [if_pos h1, gtr_no (Or.inl (fun k => k.1 h1))]
  rw [if_neg h1]
  by_cases h2 : gh G l = f
  · rw [if_pos h2, gtr_no (Or.inl (fun k => k.2.1 h2))]
  rw [if_neg h2, M_inForest hM hG hfr, bds, bits_bs (by omega), bds, M_points hM, bds, M_inForest hM hG (by omega), bds, bits_bs (by omega), bds, bds, nmn (by omega), nmn (by omega), nmi (show -2147483648 ≤ (gn G : Int) - 1 ∧ (gn G : Int) - 1 < 2147483648 by omega)]
  by_cases h4 : cnt (gL G) (fun x => gh G x = f) + 1 = gn G
  · rw [if_pos (by omega)]
    by_cases h3 : cnt (gL G) (fun x => gh G x = gh G l) + 1 = gn G
    · rw [if_pos (by omega)]
      have hcond : gTc G l f := ⟨h1, h2, h3, h4⟩
      have main : ∀ (e : Option Int), wp e (fun r => r = gtr G l f) → e = some (gtr G l f) := by
        rintro e ⟨r, h1, h2⟩; rw [h1, h2]
      apply main
      refine lop1_w (fun v4 => ∃ (k : Nat), v4 = (k : Int) ∧ k ≤ gL G ∧ ∀ j, j < k → ¬ gTr G l f j) (fun v4 => gL G - v4.toNat) ?_ FU _ ⟨0, rfl, by omega, fun j hj => absurd hj (Nat.not_lt_zero j)⟩ (by show gL G - _ < 100000; omega)
      intro rec v4 hI hrec
      obtain ⟨k, rfl, hk, hno⟩ := hI
      rw [M_lines hM, bds, nmn (by omega), nmn (by omega)]
      by_cases hkL : k < gL G
      · have goOn : ¬ gTr G l f k → ∃ r, rec ((k : Int) + 1) = some r ∧ r = gtr G l f := by
          intro hnk
          refine hrec _ ⟨k+1, by omega, by omega, fun j hj => ?_⟩ (by omega)
          by_cases e : j = k
          · subst e; exact hnk
          · exact hno j (by omega)
        have hiff := gTr_iff hG hl hkL hf0 hcond
        have hS : ∀ p x, ndf (bs (gL G) p) (2 ^ x) < 2147483648 := fun p x => Nat.lt_of_le_of_lt (ndf_le _ _) (bs_lt31 (by omega))
        simp only [kf0]
        rw [if_pos (by omega), M_lies hM hG hkL, bds, nmh hG hkL, bds, lt_e, bds, lt_e, zshln (by omega), zshln (by omega), zcompn (bs_lt31 (by omega)) (p2_lt31 (by omega)), zcompn (bs_lt31 (by omega)) (p2_lt31 (by omega)), M_ringIn hM hG hkL (hS _ _), bds, M_ringIn hM hG hl (hS _ _), bds]
        have hz1 := grg_zero hG (f := gh G l) (l := l) (by omega) hkL
        have hz2 := grg_zero hG (f := f) (l := k) hf0 hl
        have r1 : grg G (ndf (bs (gL G) (fun x => gh G x = gh G l)) (2 ^ l)) (ga G k) (gb G k) < 2147483648 := bs_lt31 (by omega)
        have r2 : grg G (ndf (bs (gL G) (fun x => gh G x = f)) (2 ^ k)) (ga G l) (gb G l) < 2147483648 := bs_lt31 (by omega)
        rw [nmn r1, nmn r2]
        by_cases e1 : gh G k = f
        · rw [if_pos e1]
          by_cases e2 : grg G (ndf (bs (gL G) (fun x => gh G x = gh G l)) (2 ^ l)) (ga G k) (gb G k) = 0
          · rw [if_pos (by omega)]
            by_cases e3 : grg G (ndf (bs (gL G) (fun x => gh G x = f)) (2 ^ k)) (ga G l) (gb G l) = 0
            · rw [if_pos (by omega)]
              exact ⟨_, rfl, (gtr_find hcond hkL (hiff.mpr ⟨e1, hz1.mp e2, hz2.mp e3⟩) hno).symm⟩
            · rw [if_neg (by omega)]; exact goOn (fun h => e3 (hz2.mpr (hiff.mp h).2.2))
          · rw [if_neg (by omega)]; exact goOn (fun h => e2 (hz1.mpr (hiff.mp h).2.1))
        · rw [if_neg e1]; exact goOn (fun h => e1 (hiff.mp h).1)
      · rw [if_neg (by omega)]
        exact ⟨_, rfl, (gtr_no (Or.inr (fun j hj => hno j (by omega)))).symm⟩
    · rw [if_neg (by omega), gtr_no (Or.inl (fun k => h3 k.2.2.1))]
  · rw [if_neg (by omega), gtr_no (Or.inl (fun k => h4 k.2.2.2))]
noncomputable def gSw (G : GV) (l m : Nat) : GV := sh_ G (up (up (gh G) l (gh G m)) m (gh G l))
theorem gtr_sp {l : Nat} {f : Int} (h : gtr G l f ≠ -1) : ∃ m : Nat, gtr G l f = (m : Int) ∧ m < gL G ∧ gTc G l f ∧ gTr G l f m := by
  unfold gtr at h ⊢
  by_cases k : gTc G l f ∧ ∃ m, m < gL G ∧ gTr G l f m
  · rw [idt k] at h ⊢
    obtain ⟨s1, s2, _⟩ := lst_sp k.2
    exact ⟨_, rfl, s1, k.1, s2⟩
  · rw [idf k] at h; exact absurd rfl h
theorem gSw_ok (hG : GOK G) {l m : Nat} (hl : l < gL G) (hm : m < gL G) {f : Int} (hf0 : 0 ≤ f) (hf1 : f < gk G) (hc : gTc G l f) (ht : gTr G l f m) : GOK (gSw G l m) := by
  have hv := hG.2.1 l hl
  have hvm := hG.2.1 m hm
  obtain ⟨e1, e2, e3⟩ := (gTr_iff hG hl hm hf0 hc).mp ht
  obtain ⟨h1, h2, h3, h4⟩ := hc
  have hlm : l ≠ m := fun e => h2 (by rw [e]; exact e1)
  refine GOK_h hG (fun i hi => ?_) (fun g hg => ?_)
  · obtain ⟨a1, a2, a3, a4, a5, a6, a7, a8⟩ := hG.2.1 i hi
    by_cases q1 : i = m
    · subst q1; rw [up_e]; exact ⟨by omega, by omega, fun k => by have := a8 k; omega⟩
    · rw [up_n _ _ q1]
      by_cases q2 : i = l
      · subst q2; rw [up_e]; exact ⟨by omega, by omega, fun k => by have := a8 k; omega⟩
      · rw [up_n _ _ q2]; exact ⟨a6, a7, a8⟩
  · have hval : ∀ i, up (up (gh G) l (gh G m)) m (gh G l) i = g → i < gL G → (i = m ∧ g = gh G l) ∨ (i ≠ m ∧ i = l ∧ g = f) ∨ (i ≠ m ∧ i ≠ l ∧ gh G i = g) := by
      intro i hi _
      by_cases q1 : i = m
      · subst q1; rw [up_e] at hi; exact Or.inl ⟨rfl, hi.symm⟩
      · rw [up_n _ _ q1] at hi
        by_cases q2 : i = l
        · subst q2; rw [up_e] at hi; exact Or.inr (Or.inl ⟨q1, rfl, by omega⟩)
        · rw [up_n _ _ q2] at hi; exact Or.inr (Or.inr ⟨q1, q2, hi⟩)
    by_cases g1 : g = gh G l
    · subst g1
      refine Fo_mono ?_ (Fo_add (e := m) (Fo_mono (Em_sub (e := l)) (hG.2.2.2 (gh G l) hg)) e2)
      rintro i ⟨i1, i2⟩
      rcases hval i i2 i1 with k | k | k
      · exact Or.inr k.1
      · exact absurd k.2.2 h2
      · exact Or.inl ⟨⟨i1, k.2.2⟩, k.2.1⟩
    · by_cases g2 : g = f
      · subst g2
        refine Fo_mono ?_ (Fo_add (e := l) (Fo_mono (Em_sub (e := m)) (hG.2.2.2 g hg)) e3)
        rintro i ⟨i1, i2⟩
        rcases hval i i2 i1 with k | k | k
        · exact absurd k.2 g1
        · exact Or.inr k.2.1
        · exact Or.inl ⟨⟨i1, k.2.2⟩, k.1⟩
      · refine Fo_mono ?_ (hG.2.2.2 g hg)
        rintro i ⟨i1, i2⟩
        rcases hval i i2 i1 with k | k | k
        · exact absurd k.2 g1
        · exact absurd k.2.2 g2
        · exact ⟨i1, k.2.2⟩
theorem Ch_swap (hN : RN N G) (hG : GOK G) {l m : Nat} (hl : l < gL G) (hm : m < gL G) : ∃ N', fCh_swap N (l : Int) (m : Int) = some N' ∧ RN N' (gSw G l m) := by
  have hb := hG.1
  unfold fCh_swap
  rw [rdn (by omega), rdn (by omega), (hN.2.2.2.2.2 l hl).2.2.2, (hN.2.2.2.2.2 m hm).2.2.2, ixn (by omega), lt_e, ixn (by omega), lt_e]
  simp only [ua_e, ua_up, Int.toNat_natCast]
  refine ⟨_, rfl, RN_h hN (fun i hi => ?_)⟩
  by_cases q1 : i = m
  · subst q1; rw [up_e, up_e]
  · rw [up_n _ _ q1, up_n _ _ q1]
    by_cases q2 : i = l
    · subst q2; rw [up_e, up_e]
    · rw [up_n _ _ q2, up_n _ _ q2]; exact (hN.2.2.2.2.2 i hi).2.2.2
theorem M_trades (hM : RW (M.2 12) G) (hG : GOK G) {l m : Nat} (hl : l < gL G) (hm : m < gL G) : ∃ g, fM_trades M (l : Int) (m : Int) = some (M.1, ua M.2 12 g) ∧ RW g (gSw G l m) := by
  have hb := hG.1
  unfold fM_trades
  rw [M_lies hM hG hl, bds, M_lies hM hG hm, bds, ix75 (by omega), lt_e, ix75 (by omega), lt_e, tn75, tn75]
  simp only [ua_e, ua_up]
  refine ⟨_, rfl, RW_h (by omega) hM (fun i hi => ?_) (fun j hj => ?_)⟩
  · by_cases q1 : i = m
    · subst q1; rw [up_e, up_e]
    · rw [up_n _ _ (by omega), up_n _ _ q1]
      by_cases q2 : i = l
      · subst q2; rw [up_e, up_e]
      · rw [up_n _ _ (by omega), up_n _ _ q2]; exact (hM.2.2.2 i hi).2.2.2.1
  · rw [up_n _ _ (by omega), up_n _ _ (by omega)]
end
theorem sim16 : Sim16 INV := by
  intro X N T Rd Fr Ac Ch PS Ly Pa OT Ea Ga c0 c1 M a1 a2 hI hr1 hr2
  have keep : ∀ w, INV X N T Rd Fr Ac (Ch.1, ua Ch.2 1 w) PS Ly Pa OT Ea Ga c0 c1 (up M.1 0 0, M.2) := fun _ => hI
  have keep0 : INV X N T Rd Fr Ac Ch PS Ly Pa OT Ea Ga c0 c1 (up M.1 0 0, M.2) := hI
  obtain ⟨⟨G, hG, hN, hM⟩, hT, hR, hA, hC, hGa, hi0, hi1, hP⟩ := hI
  have hb := hG.1
  have hM' : RW (((up M.1 0 0, M.2) : ZB).2 12) G := hM
  obtain ⟨B, hB, hBA, E, hE, hS⟩ := act hA hN hG
  unfold fX_trade fM_trade
  simp only [kf0, kf2, lt_e]
  rw [N_hasLine hN hG hr1, M_isLine hM' hG hr1, N_hasForest hN hG hr2, M_isForest hM' hG hr2, bds, bds, bds, bds]
  by_cases q : 0 ≤ a1 ∧ a1 < gL G
  · obtain ⟨l, rfl⟩ : ∃ l : Nat, a1 = l := ⟨a1.toNat, by omega⟩
    have hl : l < gL G := by omega
    rw [q10t q, q10t q]
    by_cases r : 0 ≤ a2 ∧ a2 < gk G
    · obtain ⟨w, hw⟩ := Ch_traded hN hG hl r.1 r.2 Ch
      rw [q10t r, q10t r, hw, bds, M_tradeOf hM' hG hl r.1 r.2, bds]
      by_cases s : gtr G l a2 = -1
      · rw [s, if_pos (by decide : nm (-1) = -1), if_pos (by decide : nm (-1) = -1)]
        exact ⟨_, _, rfl, rfl, rfl, keep w⟩
      · obtain ⟨m, e, hm, hc, ht⟩ := gtr_sp s
        obtain ⟨x, t, hx, hxA⟩ := hS (up M.1 0 0, M.2) rfl rfl hM'
        have hM2 : RW (((up (up M.1 0 0) 20 x, ua M.2 15 t) : ZB).2 12) G := hM
        obtain ⟨N', n1, n2⟩ := Ch_swap hN hG hl hm
        obtain ⟨g, m1, m2⟩ := M_trades hM2 hG hl hm
        rw [e, nmn (by omega), if_neg (by omega), if_neg (by omega), hB, bds, n1, bds, hE, bds, hx, bds, m1, bds]
        exact ⟨_, _, rfl, rfl, rfl, ⟨_, gSw_ok hG hl hm r.1 r.2 hc ht, n2, m2⟩, hT, hR, hxA, hC, hGa, hi0, hi1, hP⟩
    · rw [q10f r, q10f r]; exact ⟨_, _, rfl, rfl, rfl, keep0⟩
  · rw [q10f q, q10f q]; exact ⟨_, _, rfl, rfl, rfl, keep0⟩
