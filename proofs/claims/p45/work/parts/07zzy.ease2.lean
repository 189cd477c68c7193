-- needs: 07zzx.ease
/-! ease: the reference -/
def OS (G : GV) (a : Nat → Int) : Prop := ∀ q, q < gn G → (a q = 1000 ∨ ∃ j : Nat, a q = (j : Int) ∧ DW (eE G) (eT G) j q) ∧ 0 ≤ a q ∧ a q ≤ 1000
def OC (G : GV) (t : Nat) (a : Nat → Int) : Prop := ∀ q, q < gn G → ∀ j : Nat, j ≤ t → DW (eE G) (eT G) j q → a q ≤ (j : Int)
def tx (G : GV) (c : Nat → Nat) (t : Nat) (x : Nat) : Prop := (gtu G x ∧ ¬ ∃ s, s < t ∧ c s = x) ∨ (¬ gtu G x ∧ ∃ s, s < t ∧ c s = x)
def eG (G : GV) (c : Nat → Nat) (t : Nat) : GV := st_ G (tx G c t)
section
variable {N M : ZB} {G : GV}
theorem eDW_lt (hG : GOK G) {j q : Nat} (h : DW (eE G) (eT G) j q) : q < gn G := by
  cases j with
  | zero => exact h.1
  | succ j => obtain ⟨c, y, h1, _⟩ := h; rw [← h1.2.2.1]; exact gtl_lt hG h1.1
theorem eDE_lt (hG : GOK G) {d e : Nat} (h : DE (eE G) (eT G) d e) : d < gn G := DE_lt (n := gn G) (fun x h => h.1) (fun x c y h => by rw [← h.2.2.1]; exact gtl_lt hG h.1) h
theorem OW_fin (hG : GOK G) {a : Nat → Int} (h1 : OS G a) (h2 : OC G (gn G) a) {q : Nat} (hq : q < gn G) : (∀ d, DE (eE G) (eT G) d q → a q = (d : Int)) ∧ ((∀ k, ¬ DW (eE G) (eT G) k q) → a q = 1000) ∧ (a q ≠ 1000 → ∃ d, DE (eE G) (eT G) d q) := by
  have hb := hG.1
  refine ⟨fun d hd => ?_, fun h => ?_, fun h => ?_⟩
  · have hdl := eDE_lt hG hd
    have a1 := h2 q hq d (Nat.le_of_lt hdl) hd.1
    rcases (h1 q hq).1 with k | ⟨j, k1, k2⟩
    · omega
    · rcases Nat.lt_or_ge j d with z | z
      · exact absurd k2 (hd.2 j z)
      · omega
  · rcases (h1 q hq).1 with k | ⟨j, k1, k2⟩
    · exact k
    · exact absurd k2 (h j)
  · rcases (h1 q hq).1 with k | ⟨j, k1, k2⟩
    · exact absurd k h
    · obtain ⟨d, _, hd⟩ := DE_ex k2
      exact ⟨d, hd⟩
theorem eG_ok (hG : GOK G) {d l : Nat} {r c : Nat → Nat} (hr : RS (eE G) (eT G) d l r c) {t : Nat} (ht : t ≤ d) : GOK (eG G c t) := by
  refine ⟨hG.1, hG.2.1, fun i hi => ?_, hG.2.2.2⟩
  have hi' : gL G ≤ i := hi
  obtain ⟨h1, h2⟩ := hG.2.2.1 i hi'
  refine ⟨h1, ?_⟩
  rintro (⟨k, _⟩ | ⟨_, s, k1, k2⟩)
  · exact h2 k
  · have := eRS_lt hr (show s < d by omega); omega
theorem eG_step {d l : Nat} {r c : Nat → Nat} (hr : RS (eE G) (eT G) d l r c) {t : Nat} (ht : t < d) : upp (gtu (eG G c t)) (c t) (¬ gtu (eG G c t) (c t)) = tx G c (t+1) := by
  funext x
  apply propext
  have hno : ¬ ∃ s, s < t ∧ c s = c t := fun ⟨s, h1, h2⟩ => by have := eRS_inj hr (by omega) ht h2; omega
  by_cases e : x = c t
  · subst e
    rw [upp_e]
    show ¬ tx G c t (c t) ↔ _
    unfold tx
    have hyes : ∃ s, s < t + 1 ∧ c s = c t := ⟨t, by omega, rfl⟩
    by_cases k : gtu G (c t)
    · simp [k, hno, hyes]
    · simp [k, hno, hyes]
  · rw [upp_n _ _ e]
    show tx G c t x ↔ _
    unfold tx
    have : (∃ s, s < t + 1 ∧ c s = x) ↔ ∃ s, s < t ∧ c s = x := by
      constructor
      · rintro ⟨s, h1, h2⟩
        refine ⟨s, ?_, h2⟩
        by_cases w : s = t
        · subst w; exact absurd h2.symm e
        · omega
      · rintro ⟨s, h1, h2⟩; exact ⟨s, by omega, h2⟩
    rw [this]
theorem eG_out {c : Nat → Nat} {t x : Nat} (h : ¬ ∃ s, s < t ∧ c s = x) : gtl (eG G c t) x = gtl G x ∧ ghd (eG G c t) x = ghd G x := by
  have : gtu (eG G c t) x ↔ gtu G x := by
    show tx G c t x ↔ _
    unfold tx
    simp [h]
  unfold gtl ghd
  by_cases k : gtu G x
  · rw [dc_t.mpr k, dc_t.mpr (this.mpr k)]; exact ⟨rfl, rfl⟩
  · rw [dc_f.mpr k, dc_f.mpr (fun z => k (this.mp z))]; exact ⟨rfl, rfl⟩
theorem eG_in {c : Nat → Nat} {t x : Nat} (h : ∃ s, s < t ∧ c s = x) : gtl (eG G c t) x = ghd G x ∧ ghd (eG G c t) x = gtl G x := by
  have : gtu (eG G c t) x ↔ ¬ gtu G x := by
    show tx G c t x ↔ _
    unfold tx
    simp [h]
  unfold gtl ghd
  by_cases k : gtu G x
  · rw [dc_t.mpr k, dc_f.mpr (fun z => this.mp z k)]; exact ⟨rfl, rfl⟩
  · rw [dc_f.mpr k, dc_t.mpr (this.mpr k)]; exact ⟨rfl, rfl⟩
def EaseOK (G : GV) (M : ZB) (E : ZA) (r : Int × ZB) : Prop := (∃ d q c, 1 ≤ d ∧ RS (eE G) (eT G) d (est G) q c ∧ r.1 = (d : Int) ∧ ∃ x t g a, r.2 = (up (up M.1 0 0) 20 x, ua (ua (ua M.2 30 a) 15 t) 12 g) ∧ RW g (eG G c d) ∧ IActs E x t) ∨ ((∀ k, ¬ DW (eE G) (eT G) k (est G)) ∧ r.1 = 0 ∧ ∃ a, r.2 = (up M.1 0 0, ua M.2 30 a))
theorem M_ease (hM : RW (M.2 12) G) (hG : GOK G) (hn : 0 < gn G) {E : ZA} (hS : ∀ M' : ZB, M'.1 20 = M.1 20 → M'.2 15 = M.2 15 → RW (M'.2 12) G → ∃ x t, fM_snap M' = some (up M'.1 20 x, ua M'.2 15 t) ∧ IActs E x t) : ∃ r, fM_ease M = some r ∧ EaseOK G M E r := by
  have hb := hG.1
  have hst := est_lt hG hn
  have hM1 : RW (((up M.1 0 0, M.2) : ZB).2 12) G := hM
  unfold fM_ease
  rw [lt_e, M_points hM1, bds, nmn (by omega), if_neg (by omega)]
  refine lop2_w (Q := EaseOK G M E) (fun v1 v2 => ∃ k : Nat, k < gn G ∧ v1 = ((mlo G k : Nat) : Int) ∧ v2 = ((k + 1 : Nat) : Int)) (fun _ v2 => gn G - v2.toNat) ?_ FU _ _ ⟨0, hn, rfl, rfl⟩ (by show gn G - _ < 100000; omega)
  intro rec v1 v2 hI hrec
  obtain ⟨k, hk, rfl, rfl⟩ := hI
  have hmk := mlo_le G k
  rw [bds, nmn (by omega), nmn (by omega)]
  by_cases hk1 : k + 1 < gn G
  · have g1 := gload_le hG (k+1)
    have g2 := gload_le hG (mlo G k)
    rw [if_pos (by omega), M_loadOf hM1 hG (by omega), bds, M_loadOf hM1 hG (by omega), bds, nmn (by omega), nmn (by omega)]
    simp only [kf1]
    by_cases z : gload G (mlo G k) < gload G (k+1)
    · rw [if_pos (by omega)]
      exact hrec _ _ ⟨k+1, hk1, by rw [mlo_t z], by omega⟩ (by omega)
    · rw [if_neg (by omega)]
      exact hrec _ _ ⟨k+1, hk1, by rw [mlo_f z], by omega⟩ (by omega)
  · rw [if_neg (by omega)]
    have hke : mlo G k = est G := by unfold est; rw [show k = gn G - 1 by omega]
    rw [hke]
    have hup : ∀ a b : Nat → Int, ua (ua M.2 30 a) 30 b = ua M.2 30 b := fun a b => ua_up _ _ _ _
    have hRm : ∀ a : Nat → Int, RW (((up M.1 0 0, ua M.2 30 a) : ZB).2 12) G := fun _ => hM
    refine lop2_w (Q := EaseOK G M E) (fun v2 C => ∃ (q : Nat) (a : Nat → Int), v2 = (q : Int) ∧ C = (up M.1 0 0, ua M.2 30 a) ∧ q ≤ gn G ∧ ∀ e, e < q → a e = (if dc (eT G e) then 0 else 1000)) (fun v2 _ => gn G - v2.toNat) ?_ FU _ _ ⟨0, M.2 30, rfl, by rw [ua_self], by omega, fun e h => absurd h (Nat.not_lt_zero e)⟩ (by show gn G - _ < 100000; omega)
    intro rec2 v2 C hI2 hrec2
    obtain ⟨q, a, rfl, rfl, hq, ha⟩ := hI2
    rw [M_points (hRm a), bds, nmn (by omega), nmn (by omega)]
    by_cases hqn : q < gn G
    · have g1 := gload_le hG q
      have g2 := gload_le hG (est G)
      rw [if_pos (by omega), M_loadOf (hRm a) hG (by omega), bds, M_loadOf (hRm a) hG (by omega), bds, nmi (show -2147483648 ≤ ((gload G (est G) : Nat) : Int) - 2 ∧ ((gload G (est G) : Nat) : Int) - 2 < 2147483648 by omega), nmn (by omega)]
      simp only [kf1]
      have fin : ∀ v : Int, v = (if dc (eT G q) then 0 else 1000) → ∃ r, (ix 10 (q : Int) (lt ((((up M.1 0 0, ua M.2 30 a) : ZB).1, ua ((up M.1 0 0, ua M.2 30 a) : ZB).2 30 (up (((up M.1 0 0, ua M.2 30 a) : ZB).2 30) (Int.toNat (q : Int)) v)) : ZB) fun M_51 => rec2 ((q : Int) + 1) M_51)) = some r ∧ EaseOK G M E r := by
        intro v hv
        rw [ixn (by omega), lt_e, Int.toNat_natCast]
        simp only [hup, ua_e]
        refine hrec2 _ _ ⟨q+1, up a q v, by omega, rfl, by omega, fun e he => ?_⟩ (by omega)
        by_cases w : e = q
        · subst w; rw [up_e]; exact hv
        · rw [up_n _ _ w]; exact ha e (by omega)
      by_cases z : eT G q
      · rw [if_neg (by have := z.2; omega)]
        exact fin 0 (by rw [idt z])
      · rw [if_pos (by
          rcases Nat.lt_or_ge (gload G (est G)) (gload G q + 2) with w | w
          · omega
          · exact absurd ⟨hqn, w⟩ z)]
        exact fin 1000 (by rw [idf z])
    · rw [if_neg (by omega)]
      have hS0 : OS G a := by
        intro e he
        rw [ha e (by omega)]
        by_cases w : eT G e
        · rw [idt w]; exact ⟨Or.inr ⟨0, rfl, w⟩, by omega, by omega⟩
        · rw [idf w]; exact ⟨Or.inl rfl, by omega, by omega⟩
      have hC0 : OC G 0 a := by
        intro e he j hj hw
        have : j = 0 := by omega
        subst this
        rw [ha e (by omega), idt (show eT G e from hw)]; omega
      refine lop2_w (Q := EaseOK G M E) (fun v2 C => ∃ (t : Nat) (a : Nat → Int), v2 = (t : Int) ∧ C = (up M.1 0 0, ua M.2 30 a) ∧ t ≤ gn G ∧ OS G a ∧ OC G t a) (fun v2 _ => gn G - v2.toNat) ?_ FU _ _ ⟨0, a, rfl, rfl, by omega, hS0, hC0⟩ (by show gn G - _ < 100000; omega)
      intro rec3 v2 C hI3 hrec3
      obtain ⟨t, a, rfl, rfl, ht, hOS, hOC⟩ := hI3
      rw [M_points (hRm a), bds, nmn (by omega), nmn (by omega)]
      by_cases htn : t < gn G
      · rw [if_pos (by omega)]
        refine lop2_w (Q := EaseOK G M E) (fun v3 C => ∃ (l : Nat) (a : Nat → Int), v3 = (l : Int) ∧ C = (up M.1 0 0, ua M.2 30 a) ∧ l ≤ gL G ∧ OS G a ∧ OC G t a ∧ ∀ l', l' < l → ¬ gbr G l' → ∀ j : Nat, j ≤ t → DW (eE G) (eT G) j (ghd G l') → a (gtl G l') ≤ (j : Int) + 1) (fun v3 _ => gL G - v3.toNat) ?_ FU _ _ ⟨0, a, rfl, rfl, by omega, hOS, hOC, fun l h => absurd h (Nat.not_lt_zero l)⟩ (by show gL G - _ < 100000; omega)
        intro rec4 v3 C hI4 hrec4
        obtain ⟨l, a, rfl, rfl, hl, hOS, hOC, hX⟩ := hI4
        rw [M_lines (hRm a), bds, nmn (by omega), nmn (by omega)]
        by_cases hlL : l < gL G
        · have htl := gtl_lt hG hlL
          have hhd := ghd_lt hG hlL
          rw [if_pos (by omega), M_isBroken (hRm a) hG hlL, bds]
          simp only [kf1]
          have next : ∀ b, OS G b → (∀ i, b i ≤ a i) → (¬ gbr G l → ∀ j : Nat, j ≤ t → DW (eE G) (eT G) j (ghd G l) → b (gtl G l) ≤ (j : Int) + 1) → ∃ r, rec4 ((l : Int) + 1) (up M.1 0 0, ua M.2 30 b) = some r ∧ EaseOK G M E r := by
            intro b hSb hle hnew
            refine hrec4 _ _ ⟨l+1, b, by omega, rfl, by omega, hSb, ?_, ?_⟩ (by omega)
            · intro e he j hj hw; have := hOC e he j hj hw; have := hle e; omega
            · intro l' hl' hs j hj hw
              by_cases w : l' = l
              · subst w; exact hnew hs j hj hw
              · have := hX l' (by omega) hs j hj hw; have := hle (gtl G l'); omega
          by_cases s : gbr G l
          · rw [i10t s]
            exact next a hOS (fun _ => Int.le_refl _) (fun h => absurd s h)
          · obtain ⟨sh1, sh2, sh3⟩ := hOS _ hhd
            obtain ⟨st1, st2, st3⟩ := hOS _ htl
            rw [i10f s, M_towards (hRm a) hG hlL, bds, rdn (by omega), M_outOf (hRm a) hG hlL, bds, rdn (by omega), bds, bds, rdn (by omega)]
            simp only [ua_e, hup]
            rw [nmi (show -2147483648 ≤ a (ghd G l) + 1 ∧ a (ghd G l) + 1 < 2147483648 by omega), nmi (show -2147483648 ≤ a (gtl G l) ∧ a (gtl G l) < 2147483648 by omega)]
            by_cases hlt : a (ghd G l) + 1 < a (gtl G l)
            · rw [if_pos hlt, ixn (by omega), lt_e, Int.toNat_natCast]
              refine next _ ?_ ?_ ?_
              · intro i hi
                by_cases w : i = gtl G l
                · subst w
                  rw [up_e]
                  refine ⟨Or.inr ?_, by omega, by omega⟩
                  rcases sh1 with z | ⟨j, z1, z2⟩
                  · omega
                  · exact ⟨j+1, by omega, l, ghd G l, ⟨hlL, s, rfl, rfl⟩, z2⟩
                · rw [up_n _ _ w]; exact hOS i hi
              · intro i
                by_cases w : i = gtl G l
                · subst w; rw [up_e]; omega
                · rw [up_n _ _ w]; exact Int.le_refl _
              · intro _ j hj hw
                rw [up_e]
                have := hOC _ hhd j hj hw; omega
            · rw [if_neg hlt]
              refine next a hOS (fun _ => Int.le_refl _) (fun _ j hj hw => ?_)
              have := hOC _ hhd j hj hw; omega
        · rw [if_neg (by omega)]
          refine hrec3 _ _ ⟨t+1, a, by omega, rfl, by omega, hOS, fun e he j hj hw => ?_⟩ (by omega)
          cases j with
          | zero => exact hOC e he 0 (by omega) hw
          | succ j =>
            obtain ⟨c, y, ⟨h1, h2, rfl, rfl⟩, h4⟩ := hw
            have := hX c (by omega) h2 j (by omega) h4
            omega
      · rw [if_neg (by omega)]
        have htt : t = gn G := by omega
        rw [htt] at hOC
        have hfin := fun {e : Nat} (he : e < gn G) => OW_fin hG hOS hOC he
        have har : ∀ e, e < gn G → -2147483648 ≤ a e ∧ a e < 2147483648 := fun e he => by have := (hOS e he).2; omega
        have e30 : ((up M.1 0 0, ua M.2 30 a) : ZB).2 30 = a := rfl
        rw [e30, rdn (by omega), nmi (har _ hst)]
        by_cases h1000 : a (est G) = 1000
        · have hno : ∀ k, ¬ DW (eE G) (eT G) k (est G) := by
            intro k hk
            obtain ⟨d, _, hd⟩ := DE_ex hk
            have := (hfin hst).1 d hd
            have := eDE_lt hG hd
            omega
          rw [if_neg (by omega)]
          exact ⟨_, rfl, Or.inr ⟨hno, rfl, a, rfl⟩⟩
        · obtain ⟨d, hd⟩ := (hfin hst).2.2 h1000
          have hdn := eDE_lt hG hd
          have had := (hfin hst).1 d hd
          have hd1 : 1 ≤ d := by
            rcases Nat.eq_zero_or_pos d with z | z
            · subst z; exact absurd hd.1 (eT_start hG)
            · exact z
          obtain ⟨r, c, hrs⟩ := RS_ex d _ hd
          have hrt := eRS_dist hrs
          have hrn : ∀ t, t ≤ d → r t < gn G := fun t ht => eDW_lt hG (hrt t ht).1
          have hat : ∀ t, t ≤ d → a (r t) = ((d - t : Nat) : Int) := fun t ht => (hfin (hrn t ht)).1 _ (hrt t ht)
          obtain ⟨x, tt, hx, hxA⟩ := hS (up M.1 0 0, ua M.2 30 a) rfl rfl hM
          have e30b : ((up (up M.1 0 0) 20 x, ua (ua M.2 30 a) 15 tt) : ZB).2 30 = a := rfl
          rw [if_pos (by omega), hx, bds, e30b, rdn (by omega), had]
          refine lop3_w (Q := EaseOK G M E) (fun v3 v4 C => ∃ (t : Nat) (g : Nat → Int), t ≤ d ∧ v3 = ((r t : Nat) : Int) ∧ v4 = ((d - t : Nat) : Int) ∧ C = (up (up M.1 0 0) 20 x, ua (ua (ua M.2 30 a) 15 tt) 12 g) ∧ RW g (eG G c t)) (fun _ v4 _ => v4.toNat) ?_ FU _ _ _ ⟨0, M.2 12, by omega, by rw [hrs.1], rfl, ?_, ?_⟩ (by show (d : Int).toNat < 100000; omega)
          · intro rec5 v3 v4 C hI5 hrec5
            obtain ⟨t, g, htd, rfl, rfl, rfl, hg⟩ := hI5
            rw [nmn (by omega)]
            by_cases htd2 : t < d
            · have hGt := eG_ok hG hrs htd
              obtain ⟨⟨k11, k12, k13, k14⟩, k2, k3⟩ := hrs.2.2 t htd2
              have hRg : RW (((up (up M.1 0 0) 20 x, ua (ua (ua M.2 30 a) 15 tt) 12 g) : ZB).2 12) (eG G c t) := hg
              rw [if_pos (by omega)]
              refine lop1_w (Q := EaseOK G M E) (fun v5 => ∃ l : Nat, v5 = (l : Int) ∧ l ≤ c t) (fun v5 => c t - v5.toNat) ?_ FU _ ⟨0, rfl, by omega⟩ (by show c t - _ < 100000; omega)
              intro rec6 v5 hI6 hrec6
              obtain ⟨l, rfl, hlc⟩ := hI6
              have hlL : l < gL G := by omega
              have hhd' : ghd (eG G c t) l < gn G := ghd_lt hGt hlL
              have htl' : gtl (eG G c t) l < gn G := gtl_lt hGt hlL
              simp only [kf0]
              rw [M_isBroken hRg hGt hlL, bds, M_outOf hRg hGt hlL, bds, M_towards hRg hGt hlL, bds, bds]
              have e30c : ua (ua (ua M.2 30 a) 15 tt) 12 g 30 = a := rfl
              have e12c : ua (ua (ua M.2 30 a) 15 tt) 12 g 12 = g := rfl
              simp only [e30c, e12c, ua_up]
              have hrn' := hrn t htd
              rw [rdn (by omega), rd123 (by omega), ixi (by omega), tn123, lt_e, nmn (by omega), nmn (by omega), nmi (har _ hhd'), nmi (show -2147483648 ≤ ((d - t : Nat) : Int) - 1 ∧ ((d - t : Nat) : Int) - 1 < 2147483648 by omega)]
              by_cases hcl : l = c t
              · subst hcl
                have hno : ¬ ∃ s, s < t ∧ c s = c t := fun ⟨s, h1, h2⟩ => by have := eRS_inj hrs (by omega) htd2 h2; omega
                obtain ⟨o1, o2⟩ := eG_out (G := G) hno
                have hbr : ¬ gbr (eG G c t) (c t) := k12
                rw [i10f hbr, o1, k13, if_pos rfl, o2, k14, hat (t+1) (by omega), if_pos (by omega)]
                have hturn := RW_turn hGt hg (l := c t) k11
                rw [eG_step hrs htd2] at hturn
                refine hrec5 _ _ _ ⟨t+1, up g (123 + c t) (1 - g (123 + c t)), by omega, rfl, by omega, rfl, hturn⟩ ?_
                show _ < ((d - t : Nat) : Int).toNat
                omega
              · have hnot : gbr (eG G c t) l ∨ ¬ gtl (eG G c t) l = r t ∨ ¬ a (ghd (eG G c t) l) = ((d - t : Nat) : Int) - 1 := by
                  by_cases q1 : gbr G l
                  · exact Or.inl q1
                  · refine Or.inr ?_
                    by_cases q2 : ∃ s, s < t ∧ c s = l
                    · obtain ⟨o1, o2⟩ := eG_in (G := G) q2
                      obtain ⟨s, s1, s2⟩ := q2
                      refine Or.inr ?_
                      have hs' := (hrs.2.2 s (by omega)).1.2.2.1
                      rw [s2] at hs'
                      rw [o2, hs', hat s (by omega)]; omega
                    · obtain ⟨o1, o2⟩ := eG_out (G := G) q2
                      rw [o1, o2]
                      by_cases q3 : gtl G l = r t
                      · refine Or.inr (fun h => ?_)
                        have hne : a (ghd G l) ≠ 1000 := by omega
                        obtain ⟨d', hd'⟩ := (hfin (ghd_lt hG hlL)).2.2 hne
                        have hv := (hfin (ghd_lt hG hlL)).1 d' hd'
                        have : d' = d - t - 1 := by omega
                        subst this
                        exact k3 l (ghd G l) (by omega) ⟨hlL, q1, q3, rfl⟩ hd'
                      · exact Or.inl q3
                have goOn : ∃ r, rec6 ((l : Int) + 1) = some r ∧ EaseOK G M E r := hrec6 _ ⟨l+1, by omega, by omega⟩ (by omega)
                by_cases q1 : gbr (eG G c t) l
                · rw [i10t q1]; exact goOn
                · rw [i10f q1]
                  by_cases q2 : gtl (eG G c t) l = r t
                  · rw [if_pos (by omega)]
                    have q3 : ¬ a (ghd (eG G c t) l) = ((d - t : Nat) : Int) - 1 := by
                      rcases hnot with z | z | z
                      · exact absurd z q1
                      · exact absurd q2 z
                      · exact z
                    rw [if_neg q3]; exact goOn
                  · rw [if_neg (by omega)]; exact goOn
            · rw [if_neg (by omega)]
              have : t = d := by omega
              subst this
              exact ⟨_, rfl, Or.inl ⟨t, r, c, hd1, hrs, rfl, x, tt, g, a, rfl, hg, hxA⟩⟩
          · have : ua (ua M.2 30 a) 15 tt 12 = M.2 12 := rfl
            rw [← this, ua_self]
          · have : eG G c 0 = G := by
              have e : tx G c 0 = gtu G := by
                funext y; apply propext; unfold tx
                have : ¬ ∃ s, s < 0 ∧ c s = y := fun ⟨s, h, _⟩ => by omega
                simp [this]
              unfold eG; rw [e]; rfl
            rw [this]; exact hM
end
theorem sim22 : Sim22 INV := by
  intro X N T Rd Fr Ac Ch PS Ly Pa OT Ea Ga c0 c1 M hI
  have keep0 : INV X N T Rd Fr Ac Ch PS Ly Pa OT Ea Ga c0 c1 (up M.1 0 0, M.2) := hI
  obtain ⟨⟨G, hG, hN, hM⟩, hT, hR, hA, hC, hGa, hi0, hi1, hP⟩ := hI
  have hb := hG.1
  have hM1 : RW (((up M.1 0 0, M.2) : ZB).2 12) G := hM
  obtain ⟨B, hB, hBA, E, hE, hS⟩ := act hA hN hG
  unfold fX_ease
  by_cases hn : 0 < gn G
  · obtain ⟨v, E', h1, h2⟩ := Ea_findWay hN hG hn Ea
    obtain ⟨r, h3, h4⟩ := M_ease (M := M) hM hG hn (E := E) hS
    rw [h1, bds, h3]
    rcases h2 with ⟨d, q, c, hd1, hq, rfl⟩ | ⟨hno, rfl⟩
    · rcases h4 with ⟨d', q', c', hd1', hq', e1, x, t, g, a, e2, e3, e4⟩ | ⟨hno, _⟩
      · have hdd : d' = d := DE_uniq hq'.2.1 hq.2.1
        subst hdd
        have hdet := RS_det (E := eE G) (T := eT G) (fun x c y y' a b => eE_det a b) hq hq'
        have hway : eway G d' c = eway G d' c' := by
          unfold eway
          apply bs_ext; intro y _
          constructor
          · rintro ⟨s, s1, s2⟩; exact ⟨s, s1, by rw [← (hdet s (by omega)).2 s1]; exact s2⟩
          · rintro ⟨s, s1, s2⟩; exact ⟨s, s1, by rw [(hdet s (by omega)).2 s1]; exact s2⟩
        have hcnt : cnt (gL G) (fun y => ∃ s, s < d' ∧ c' s = y) = d' := inj_cnt d' (fun j hj => eRS_lt hq' hj) (fun j j' a b e => eRS_inj hq' a b e)
        have hne : eway G d' c' ≠ 0 := by
          intro z
          have := bs_zero.mp z (c' 0) (eRS_lt hq' (by omega))
          exact this ⟨0, by omega, rfl⟩
        have hlt : eway G d' c' < 2147483648 := bs_lt31 (by omega)
        have hGe := eG_ok hG hq' (Nat.le_refl d')
        rw [hway, nmn hlt, if_neg (by omega), hB, bds, lt_e, hE, bds]
        have hbc : fJI_bitCount ((eway G d' c' : Nat) : Int) = some ((d' : Nat) : Int) := by
          have := bitCount_bs (n := gL G) (by omega) (fun y => ∃ s, s < d' ∧ c' s = y)
          rw [hcnt] at this; exact this
        rw [hbc, bds]
        refine ⟨_, _, rfl, rfl, ?_, ⟨eG G c' d', hGe, ⟨hN.1, hN.2.1, hN.2.2.1, hN.2.2.2.1, ?_, hN.2.2.2.2.2⟩, ?_⟩, ?_, ?_, ?_, ?_, ?_, ?_, ?_, hP⟩
        · show (d' : Int) = r.1; rw [e1]
        · show zxor (N.1 8) ((eway G d' c' : Nat) : Int) = ((bs 24 (gtu (eG G c' d')) : Nat) : Int)
          rw [hN.2.2.2.2.1, zxorn (bs_lt31 (by omega)) hlt]
          congr 1
          apply nat_ext; intro i
          rw [Nat.testBit_xor, bs_bit]
          have b1 := bs_bit 24 (gtu G) i
          have b2 := bs_bit (gL G) (fun y => ∃ s, s < d' ∧ c' s = y) i
          have hw : (eway G d' c').testBit i = true ↔ ∃ s, s < d' ∧ c' s = i := by
            unfold eway
            rw [b2]
            exact ⟨fun k => k.2, fun k => ⟨by obtain ⟨s, s1, s2⟩ := k; have := eRS_lt hq' s1; omega, k⟩⟩
          have ht : (bs 24 (gtu G)).testBit i = true ↔ gtu G i := by
            rw [b1]
            exact ⟨fun k => k.2, fun k => ⟨by
              rcases Nat.lt_or_ge i (gL G) with z | z
              · omega
              · exact absurd k (hG.2.2.1 i z).2, k⟩⟩
          have hi24 : (∃ s, s < d' ∧ c' s = i) → i < 24 := by
            rintro ⟨s, s1, s2⟩; have := eRS_lt hq' s1; omega
          have hg24 : gtu G i → i < 24 := by
            intro k
            rcases Nat.lt_or_ge i (gL G) with z | z
            · omega
            · exact absurd k (hG.2.2.1 i z).2
          show _ ↔ i < 24 ∧ tx G c' d' i
          unfold tx
          by_cases k1 : gtu G i
          · have := ht.mpr k1
            by_cases k2 : ∃ s, s < d' ∧ c' s = i
            · rw [this, hw.mpr k2]; simp [k1, k2]
            · have w2 : (eway G d' c').testBit i = false := by rw [← Bool.not_eq_true, hw]; exact k2
              rw [this, w2]; simp [k1, k2]; exact hg24 k1
          · have w1 : (bs 24 (gtu G)).testBit i = false := by rw [← Bool.not_eq_true, ht]; exact k1
            by_cases k2 : ∃ s, s < d' ∧ c' s = i
            · rw [w1, hw.mpr k2]; simp [k1, k2]; exact hi24 k2
            · have w2 : (eway G d' c').testBit i = false := by rw [← Bool.not_eq_true, hw]; exact k2
              rw [w1, w2]; simp [k1, k2]
        · rw [e2]; exact e3
        · rw [e2]; exact hT
        · rw [e2]; exact hR
        · rw [e2]; exact e4
        · rw [e2]; exact hC
        · rw [e2]; exact hGa
        · rw [e2]; exact hi0
        · rw [e2]; exact hi1
      · exact absurd hq.2.1.1 (hno d)
    · rcases h4 with ⟨d', q', c', hd1', hq', _⟩ | ⟨_, e1, a, e2⟩
      · exact absurd hq'.2.1.1 (hno d')
      · rw [if_pos (by decide : nm 0 = 0)]
        refine ⟨_, _, rfl, rfl, e1.symm, ?_⟩
        rw [e2]; exact ⟨⟨G, hG, hN, hM⟩, hT, hR, hA, hC, hGa, hi0, hi1, hP⟩
  · have hn0 : gn G = 0 := by omega
    unfold fEa_findWay fM_ease
    rw [hN.1, hn0, lt_e, M_points hM1, bds, hn0]
    exact ⟨_, _, rfl, rfl, rfl, keep0⟩
