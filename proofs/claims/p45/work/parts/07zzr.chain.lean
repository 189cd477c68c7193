-- needs: 07zzq.lays
/-! the reference's laysChain -/
def KM (M M' : ZB) : Prop := (∀ j, j ≠ 25 → j ≠ 26 → M'.1 j = M.1 j) ∧ (∀ j, j ≠ 21 → j ≠ 22 → j ≠ 23 → j ≠ 24 → M'.2 j = M.2 j)
def LaysOK (G : GV) (l : Nat) (M : ZB) (res : Int × ZB) : Prop := KM M res.2 ∧
  ((∃ d r c, d < gL G ∧ RS (gE G) (gT G) d l r c ∧ res.1 = ((d + 1 : Nat) : Int) ∧ res.2.1 25 = ((d + 1 : Nat) : Int) ∧ ∀ t, t ≤ d → res.2.2 23 t = (r t : Nat) ∧ res.2.2 24 t = gInto G d r t) ∨
   ((∀ k, ¬ DW (gE G) (gT G) k l) ∧ res.1 = 0 ∧ res.2.1 26 = ((crw G (gL G) (RC (gE G) l) : Nat) : Int)))
def AS (G : GV) (a : Nat → Int) : Prop := ∀ e, e < gL G → (a e = 1000 ∨ ∃ j : Nat, a e = (j : Int) + 1 ∧ DW (gE G) (gT G) j e) ∧ 1 ≤ a e ∧ a e ≤ 1000
def AC (G : GV) (t : Nat) (a : Nat → Int) : Prop := ∀ e, e < gL G → ∀ j : Nat, j ≤ t → DW (gE G) (gT G) j e → a e ≤ (j : Int) + 1
def ms (M : ZB) (g a : Nat → Int) : ZB := (M.1, ua (ua M.2 22 g) 21 a)
section
variable {N M : ZB} {G : GV}
theorem DW_broken {j e : Nat} (h : DW (gE G) (gT G) j e) : e < gL G ∧ ¬ gbr G e := by
  cases j with
  | zero => exact ⟨h.1, h.2.1⟩
  | succ j => obtain ⟨c, y, h1, _⟩ := h; exact ⟨h1.2.1, h1.2.2.1⟩
theorem DE_ltL {d e : Nat} (h : DE (gE G) (gT G) d e) : d < gL G := DE_lt (n := gL G) (fun x h => h.1) (fun x c y h => h.2.1) h
theorem AW_fin (hG : GOK G) {a : Nat → Int} (h1 : AS G a) (h2 : AC G (gL G) a) {e : Nat} (he : e < gL G) : (∀ d, DE (gE G) (gT G) d e → a e = (d : Int) + 1) ∧ ((∀ k, ¬ DW (gE G) (gT G) k e) → a e = 1000) ∧ (a e ≠ 1000 → ∃ d, DE (gE G) (gT G) d e) := by
  have hb := hG.1
  refine ⟨fun d hd => ?_, fun h => ?_, fun h => ?_⟩
  · have a1 := h2 e he d (Nat.le_of_lt (DE_ltL hd)) hd.1
    rcases (h1 e he).1 with k | ⟨j, k1, k2⟩
    · have := DE_ltL hd
      have := h2 e he d (Nat.le_of_lt (DE_ltL hd)) hd.1
      omega
    · rcases Nat.lt_or_ge j d with z | z
      · exact absurd k2 (hd.2 j z)
      · omega
  · rcases (h1 e he).1 with k | ⟨j, k1, k2⟩
    · exact k
    · exact absurd k2 (h j)
  · rcases (h1 e he).1 with k | ⟨j, k1, k2⟩
    · exact absurd k h
    · obtain ⟨d, _, hd⟩ := DE_ex k2
      exact ⟨d, hd⟩
theorem M_laysChain (hR : RW (M.2 12) G) (hG : GOK G) {l : Nat} (hl : l < gL G) (hls : ¬ gbr G l) : ∃ res, fM_laysChain M (l : Int) = some res ∧ LaysOK G l M res := by
  have hb := hG.1
  obtain ⟨g, hg1, hg2⟩ := M_laysRings hR hG
  have hRm : ∀ a, RW ((ms M g a).2 12) G := fun _ => hR
  have hgm : ∀ a, RG G ((ms M g a).2 22) := fun _ => hg2
  have h21 : ∀ a, (ms M g a).2 21 = a := fun a => rfl
  have hup : ∀ a b, (((ms M g a).1, ua (ms M g a).2 21 b) : ZB) = ms M g b := fun a b => by unfold ms; rw [ua_up]
  have hK : ∀ a, KM M (ms M g a) := fun a => ⟨fun _ _ _ => rfl, fun j h1 h2 _ _ => by unfold ms; simp only []; rw [ua_n _ _ h1, ua_n _ _ h2]⟩
  unfold fM_laysChain
  rw [hg1, bds]
  refine lop2_w (Q := LaysOK G l M) (fun v2 C => ∃ (k : Nat) (a : Nat → Int), v2 = (k : Int) ∧ C = ms M g a ∧ k ≤ gL G ∧ ∀ e, e < k → a e = (if dc (gT G e) then 1 else 1000)) (fun v2 _ => gL G - v2.toNat) ?_ FU _ _ ⟨0, M.2 21, rfl, ?_, by omega, fun e h => absurd h (Nat.not_lt_zero e)⟩ (by show gL G - _ < 100000; omega)
  · intro rec v2 C hI hrec
    obtain ⟨k, a, rfl, rfl, hk, ha⟩ := hI
    rw [M_lines (hRm a), bds, nmn (by omega), nmn (by omega)]
    by_cases hkL : k < gL G
    · rw [if_pos (by omega), M_isBroken (hRm a) hG hkL, bds]
      simp only [kf1, kf0]
      have fin : ∀ v : Int, v = (if dc (gT G k) then 1 else 1000) → ∃ r, (ix 24 (k : Int) (lt ((((ms M g a).1, ua (ms M g a).2 21 (up ((ms M g a).2 21) (Int.toNat (k : Int)) v)) : ZB)) fun M_52 => rec ((k : Int) + 1) M_52)) = some r ∧ LaysOK G l M r := by
        intro v hv
        rw [ixn (by omega), lt_e, Int.toNat_natCast, h21, hup]
        refine hrec _ _ ⟨k+1, up a k v, by omega, rfl, by omega, fun e he => ?_⟩ (by omega)
        by_cases q : e = k
        · subst q; rw [up_e]; exact hv
        · rw [up_n _ _ q]; exact ha e (by omega)
      by_cases s : gbr G k
      · rw [i10t s]
        exact fin 1000 (by rw [idf (fun h => h.2.1 s)])
      · have hgf := gfr_r hG k
        rw [i10f s, M_freeForest (hRm a) hG (hgm a) hkL s, bds, nmi (show -2147483648 ≤ gfr G k ∧ gfr G k < 2147483648 by omega)]
        by_cases z : gfr G k = -1
        · rw [if_pos z]
          exact fin 1000 (by rw [idf (fun h => hgf.2.2.mp z h.2.2)])
        · rw [if_neg z]
          refine fin 1 ?_
          have : gTx G k := by
            by_cases w : gTx G k
            · exact w
            · exact absurd (hgf.2.2.mpr w) z
          rw [idt (p := gT G k) ⟨hkL, s, this⟩]
    · rw [if_neg (by omega)]
      have hS0 : AS G a := by
        intro e he
        rw [ha e (by omega)]
        by_cases w : gT G e
        · rw [idt w]; exact ⟨Or.inr ⟨0, rfl, w⟩, by omega, by omega⟩
        · rw [idf w]; exact ⟨Or.inl rfl, by omega, by omega⟩
      have hC0 : AC G 0 a := by
        intro e he j hj hw
        have : j = 0 := by omega
        subst this
        rw [ha e (by omega), idt (show gT G e from hw)]; omega
      refine lop2_w (Q := LaysOK G l M) (fun v2 C => ∃ (t : Nat) (a : Nat → Int), v2 = (t : Int) ∧ C = ms M g a ∧ t ≤ gL G ∧ AS G a ∧ AC G t a) (fun v2 _ => gL G - v2.toNat) ?_ FU _ _ ⟨0, a, rfl, rfl, by omega, hS0, hC0⟩ (by show gL G - _ < 100000; omega)
      intro rec2 v2 C hI2 hrec2
      obtain ⟨t, a, rfl, rfl, ht, hS, hC⟩ := hI2
      rw [M_lines (hRm a), bds, nmn (by omega), nmn (by omega)]
      by_cases htL : t < gL G
      · rw [if_pos (by omega)]
        refine lop2_w (Q := LaysOK G l M) (fun v3 C => ∃ (e : Nat) (a : Nat → Int), v3 = (e : Int) ∧ C = ms M g a ∧ e ≤ gL G ∧ AS G a ∧ AC G t a ∧ ∀ e', e' < e → ∀ j : Nat, j ≤ t + 1 → DW (gE G) (gT G) j e' → a e' ≤ (j : Int) + 1) (fun v3 _ => gL G - v3.toNat) ?_ FU _ _ ⟨0, a, rfl, rfl, by omega, hS, hC, fun e h => absurd h (Nat.not_lt_zero e)⟩ (by show gL G - _ < 100000; omega)
        intro rec3 v3 C hI3 hrec3
        obtain ⟨e, a, rfl, rfl, he, hS, hC, hE⟩ := hI3
        rw [M_lines (hRm a), bds, nmn (by omega), nmn (by omega)]
        by_cases heL : e < gL G
        · rw [if_pos (by omega)]
          refine lop2_w (Q := LaysOK G l M) (fun v4 C => ∃ (x : Nat) (a : Nat → Int), v4 = (x : Int) ∧ C = ms M g a ∧ x ≤ gL G ∧ AS G a ∧ AC G t a ∧ (∀ e', e' < e → ∀ j : Nat, j ≤ t + 1 → DW (gE G) (gT G) j e' → a e' ≤ (j : Int) + 1) ∧ ∀ x', x' < x → ¬ gbr G e → gNx G e x' → ∀ j : Nat, j ≤ t → DW (gE G) (gT G) j x' → a e ≤ (j : Int) + 2) (fun v4 _ => gL G - v4.toNat) ?_ FU _ _ ⟨0, a, rfl, rfl, by omega, hS, hC, hE, fun x h => absurd h (Nat.not_lt_zero x)⟩ (by show gL G - _ < 100000; omega)
          intro rec4 v4 C hI4 hrec4
          obtain ⟨x, a, rfl, rfl, hx, hS, hC, hE, hX⟩ := hI4
          rw [M_lines (hRm a), bds, nmn (by omega), nmn (by omega)]
          by_cases hxL : x < gL G
          · rw [if_pos (by omega), M_isBroken (hRm a) hG heL, bds]
            simp only [kf1]
            have next : ∀ b, AS G b → (∀ i, b i ≤ a i) → (¬ gbr G e → gNx G e x → ∀ j : Nat, j ≤ t → DW (gE G) (gT G) j x → b e ≤ (j : Int) + 2) → ∃ r, rec4 ((x : Int) + 1) (ms M g b) = some r ∧ LaysOK G l M r := by
              intro b hSb hle hnew
              refine hrec4 _ _ ⟨x+1, b, by omega, rfl, by omega, hSb, ?_, ?_, ?_⟩ (by omega)
              · intro e' he' j hj hw; have := hC e' he' j hj hw; have := hle e'; omega
              · intro e' he' j hj hw; have := hE e' he' j hj hw; have := hle e'; omega
              · intro x' hx' hs hn j hj hw
                by_cases q : x' = x
                · subst q; exact hnew hs hn j hj hw
                · have := hX x' (by omega) hs hn j hj hw; have := hle e; omega
            by_cases s : gbr G e
            · rw [i10t s]
              exact next a hS (fun _ => Int.le_refl _) (fun h => absurd s h)
            · rw [i10f s, M_nextTo (hRm a) hG (hgm a) heL, bds, M_has (bs_lt31 (by omega)) (by omega), bds]
              by_cases hn : gNx G e x
              · rw [t10t ((bs_bit _ _ _).mpr ⟨hxL, s, hn⟩), rdn (by omega), rdn (by omega), rdn (by omega)]
                simp only [h21]
                obtain ⟨sx1, sx2, sx3⟩ := hS x hxL
                obtain ⟨se1, se2, se3⟩ := hS e heL
                rw [nmi (show -2147483648 ≤ a x + 1 ∧ a x + 1 < 2147483648 by omega), nmi (show -2147483648 ≤ a e ∧ a e < 2147483648 by omega)]
                by_cases hlt : a x + 1 < a e
                · rw [if_pos hlt, ixn (by omega), lt_e, Int.toNat_natCast, hup]
                  refine next _ ?_ ?_ ?_
                  · intro i hi
                    by_cases q : i = e
                    · subst q
                      rw [up_e]
                      refine ⟨Or.inr ?_, by omega, by omega⟩
                      rcases sx1 with z | ⟨j, z1, z2⟩
                      · omega
                      · exact ⟨j+1, by omega, x, x, ⟨rfl, heL, s, hn⟩, z2⟩
                    · rw [up_n _ _ q]; exact hS i hi
                  · intro i
                    by_cases q : i = e
                    · subst q; rw [up_e]; omega
                    · rw [up_n _ _ q]; exact Int.le_refl _
                  · intro _ _ j hj hw
                    rw [up_e]
                    have := hC x hxL j hj hw; omega
                · rw [if_neg hlt]
                  refine next a hS (fun _ => Int.le_refl _) (fun _ _ j hj hw => ?_)
                  have := hC x hxL j hj hw; omega
              · rw [t10f (fun z => hn ((bs_bit _ _ _).mp z).2.2)]
                exact next a hS (fun _ => Int.le_refl _) (fun _ h => absurd h hn)
          · rw [if_neg (by omega)]
            refine hrec3 _ _ ⟨e+1, a, by omega, rfl, by omega, hS, hC, fun e' he' j hj hw => ?_⟩ (by omega)
            by_cases q : e' = e
            · subst q
              cases j with
              | zero => exact hC e' heL 0 (by omega) hw
              | succ j =>
                obtain ⟨c, y, ⟨rfl, h1, h2, h3⟩, h4⟩ := hw
                have := hX c (by have := gNx_lt h3; omega) h2 h3 j (by omega) h4
                omega
            · exact hE e' (by omega) j hj hw
        · rw [if_neg (by omega)]
          exact hrec2 _ _ ⟨t+1, a, by omega, rfl, by omega, hS, fun e' he' j hj hw => hE e' (by omega) j hj hw⟩ (by omega)
      · rw [if_neg (by omega)]
        have htt : t = gL G := by omega
        rw [htt] at hC
        have hfin := fun {e : Nat} (he : e < gL G) => AW_fin hG hS hC he
        have har : ∀ e, e < gL G → -2147483648 ≤ a e ∧ a e < 2147483648 := fun e he => by have := (hS e he).2; omega
        rw [rdn (by omega), h21, nmi (har l hl)]
        by_cases h1000 : a l = 1000
        · have hno : ∀ k, ¬ DW (gE G) (gT G) k l := by
            intro k hk
            obtain ⟨d, _, hd⟩ := DE_ex hk
            have := (hfin hl).1 d hd
            have := DE_ltL hd
            omega
          rw [if_pos h1000, M_laysCrowd (hRm a) hG (hgm a) hl, bds]
          refine ⟨_, rfl, ⟨fun j h1 h2 => ?_, (hK a).2⟩, Or.inr ⟨hno, rfl, ?_⟩⟩
          · show up (ms M g a).1 26 _ j = _
            rw [up_n _ _ h2]; rfl
          · rfl
        · rw [if_neg h1000]
          obtain ⟨d, hd⟩ := (hfin hl).2.2 h1000
          have hdL := DE_ltL hd
          obtain ⟨r, c, hrs⟩ := RS_ex d l hd
          obtain ⟨r0, _, rs⟩ := id hrs
          have hrt : ∀ t, t ≤ d → DE (gE G) (gT G) (d - t) (r t) := by
            intro t ht
            cases t with
            | zero => rw [r0]; exact hd
            | succ t => have := (rs t (by omega)).2.1; rwa [show d - (t+1) = d - t - 1 by omega]
          have hrL : ∀ t, t ≤ d → r t < gL G ∧ ¬ gbr G (r t) := fun t ht => DW_broken (hrt t ht).1
          have hat : ∀ t, t ≤ d → a (r t) = ((d - t : Nat) : Int) + 1 := fun t ht => (hfin (hrL t ht).1).1 _ (hrt t ht)
          rw [lt_e]
          refine lop2_w (Q := LaysOK G l M) (fun v2 C => ∃ (t : Nat) (ra fa : Nat → Int), v2 = ((r t : Nat) : Int) ∧ C = (up M.1 25 (t : Int), ua (ua (ms M g a).2 23 ra) 24 fa) ∧ t ≤ d ∧ ∀ s, s < t → ra s = (r s : Nat) ∧ fa s = gInto G d r s) (fun _ C => d - (C.1 25).toNat) ?_ FU _ _ ⟨0, (ms M g a).2 23, (ms M g a).2 24, by rw [r0], ?_, by omega, fun s h => absurd h (Nat.not_lt_zero s)⟩ (by show d - _ < 100000; omega)
          · intro rec5 v2 C hI5 hrec5
            obtain ⟨t, ra, fa, rfl, rfl, htd, hrf⟩ := hI5
            have hat' := hat t htd
            have hrL' := (hrL t htd).1
            have j21 : ∀ x y z : Nat → Int, ua (ua (ms M g a).2 23 x) 24 y 21 = a := fun x y z => by
              rw [ua_n _ _ (by decide), ua_n _ _ (by decide)]; exact h21 a
            have hR5 : ∀ (u : Nat → Int) x y, RW (((u, ua (ua (ms M g a).2 23 x) 24 y) : ZB).2 12) G := fun _ _ _ => hR
            have hg5 : ∀ (u : Nat → Int) x y, RG G (((u, ua (ua (ms M g a).2 23 x) 24 y) : ZB).2 22) := fun _ _ _ => hg2
            have e21 : ((up M.1 25 (t : Int), ua (ua (ms M g a).2 23 ra) 24 fa) : ZB).2 21 = a := rfl
            have e25 : ((up M.1 25 (t : Int), ua (ua (ms M g a).2 23 ra) 24 fa) : ZB).1 25 = (t : Int) := rfl
            rw [e21, rdn (by omega), nmi (har _ hrL'), hat']
            have swp : ∀ x y z : Nat → Int, ua (ua (ua (ms M g a).2 23 x) 24 y) 23 z = ua (ua (ms M g a).2 23 z) 24 y := by
              intro x y z; funext j; unfold ua
              by_cases h3 : j = 23
              · rw [if_pos h3, if_neg (by omega), if_pos h3]
              · rw [if_neg h3]
                by_cases h4 : j = 24
                · rw [if_pos h4, if_pos h4]
                · rw [if_neg h4, if_neg h4, if_neg h3, if_neg h3]
            by_cases htd2 : t < d
            · rw [if_pos (by omega)]
              obtain ⟨k1, k2, k3⟩ := rs t htd2
              obtain ⟨k11, k12, k13, k14⟩ := k1
              have hcL : r (t+1) < gL G := gNx_lt k14
              refine lop1_w (Q := LaysOK G l M) (fun v3 => ∃ x : Nat, v3 = (x : Int) ∧ x ≤ r (t+1)) (fun v3 => r (t+1) - v3.toNat) ?_ FU _ ⟨0, rfl, by omega⟩ (by show r (t+1) - _ < 100000; omega)
              intro rec6 v3 hI6 hrec6
              obtain ⟨x, rfl, hx⟩ := hI6
              have hxL : x < gL G := by omega
              simp only [kf0]
              rw [M_nextTo (hR5 _ _ _) hG (hg5 _ _ _) hrL', bds, M_has (bs_lt31 (by omega)) (by omega), bds]
              by_cases hnx : gNx G (r t) x
              · rw [t10t ((bs_bit _ _ _).mpr ⟨hxL, k13, hnx⟩), rdn (by omega), rdn (by omega)]
                have hax := har x hxL
                have := (hS x hxL).2
                rw [nmi (show -2147483648 ≤ a x + 1 ∧ a x + 1 < 2147483648 by omega), nmi (har _ hrL'), hat']
                by_cases hxr : x = r (t+1)
                · subst hxr
                  have := hat (t+1) (by omega)
                  have e23 : ua (ua (ms M g a).2 23 ra) 24 fa 23 = ra := rfl
                  simp only [up_e, e23]
                  rw [if_pos (by omega), ixn (by omega), lt_e]
                  simp only [swp, Int.toNat_natCast]
                  rw [M_lies (hR5 _ _ _) hG hcL, bds]
                  have e25' : ∀ y z, ((up M.1 25 (t : Int), ua (ua (ms M g a).2 23 y) 24 z) : ZB).1 25 = (t : Int) := fun _ _ => rfl
                  simp only [up_e]
                  rw [ixn (by omega), lt_e, lt_e]
                  have e24 : ∀ y z : Nat → Int, ua (ua (ms M g a).2 23 y) 24 z 24 = z := fun _ _ => rfl
                  simp only [e24, ua_up, up_e, up_up, Int.toNat_natCast]
                  refine hrec5 _ _ ⟨t+1, up ra t ((r t : Nat) : Int), up fa t (gh G (r (t+1))), rfl, by rw [show ((t : Int) + 1) = ((t + 1 : Nat) : Int) by omega], by omega, fun s hs => ?_⟩ ?_
                  · by_cases q : s = t
                    · subst q; rw [up_e, up_e]; unfold gInto; rw [if_pos htd2]; exact ⟨rfl, rfl⟩
                    · rw [up_n _ _ q, up_n _ _ q]; exact hrf s (by omega)
                  · show d - (up M.1 25 ((t : Int) + 1) 25).toNat < d - (up M.1 25 (t : Int) 25).toNat
                    rw [up_e, up_e]; omega
                · have : ¬ a x + 1 = ((d - t : Nat) : Int) + 1 := by
                    intro h
                    have hne : a x ≠ 1000 := by omega
                    obtain ⟨d', hd'⟩ := (hfin hxL).2.2 hne
                    have hv := (hfin hxL).1 d' hd'
                    have : d' = d - t - 1 := by omega
                    subst this
                    exact k3 x x (by omega) ⟨rfl, hrL', k13, hnx⟩ hd'
                  rw [if_neg this]
                  exact hrec6 _ ⟨x+1, by omega, by omega⟩ (by omega)
              · rw [t10f (fun z => hnx ((bs_bit _ _ _).mp z).2.2)]
                have hxr : x ≠ r (t+1) := fun e => hnx (e ▸ k14)
                exact hrec6 _ ⟨x+1, by omega, by omega⟩ (by omega)
            · have htd3 : t = d := by omega
              subst htd3
              rw [if_neg (by omega), e25, ixn (by omega), lt_e]
              have e23 : ((up M.1 25 (t : Int), ua (ua (ms M g a).2 23 ra) 24 fa) : ZB).2 23 = ra := rfl
              rw [e23]
              simp only [swp, Int.toNat_natCast]
              rw [M_freeForest (hR5 _ _ _) hG (hg5 _ _ _) hrL' (hrL t (Nat.le_refl t)).2, bds]
              simp only [up_e]
              rw [ixn (by omega), lt_e, lt_e]
              have e24 : ∀ y z : Nat → Int, ua (ua (ms M g a).2 23 y) 24 z 24 = z := fun _ _ => rfl
              simp only [e24, ua_up, up_e, up_up, Int.toNat_natCast]
              refine ⟨_, rfl, ⟨fun j h1 h2 => ?_, fun j h1 h2 h3 h4 => ?_⟩, Or.inl ⟨t, r, c, hdL, hrs, by show ((t : Int) + 1) = _; omega, by show up M.1 25 ((t : Int) + 1) 25 = _; rw [up_e]; omega, fun s hs => ⟨?_, ?_⟩⟩⟩
              · show up M.1 25 _ j = _
                rw [up_n _ _ h1]
              · show ua (ua (ms M g a).2 23 _) 24 _ j = _
                rw [ua_n _ _ h4, ua_n _ _ h3]; exact (hK a).2 j h1 h2 h3 h4
              · show up ra t ((r t : Nat) : Int) s = _
                by_cases q : s = t
                · subst q; rw [up_e]
                · rw [up_n _ _ q]; exact (hrf s (by omega)).1
              · show up fa t (gfr G (r t)) s = _
                by_cases q : s = t
                · subst q; rw [up_e]; unfold gInto; rw [if_neg (by omega)]
                · rw [up_n _ _ q]; exact (hrf s (by omega)).2
          · rw [ua_self]
            have : ua (ms M g a).2 24 ((ms M g a).2 24) = (ms M g a).2 := ua_self _ _
            rw [this]; rfl
  · unfold ms
    have : ua M.2 22 g 21 = M.2 21 := rfl
    rw [← this, ua_self]
end
