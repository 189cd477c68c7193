-- needs: 07zzz53.crowd
/-! a line is placed -/
section
variable {G : GV} {N T La : ZB} {Ac : ZA}
/-- search and what is told of it -/
def Fnd (G : GV) (l : Nat) (C' : ZB) (res : Int × ZB) : Prop :=
  (∃ d r c, d < gL G ∧ RS (gE G) (gT G) d l r c ∧ res.1 = ((d + 1 : Nat) : Int) ∧ C'.1 6 = ((d + 1 : Nat) : Int) ∧ (∀ s, s ≤ d → C'.2 4 s = (r s : Nat) ∧ C'.2 5 s = gInto G d r s) ∧ C'.1 10 = ((d + 1 : Nat) : Int) ∧ ∀ s, s ≤ d → C'.2 8 s = (r s : Nat) ∧ C'.2 9 s = gInto G d r s) ∨
  ((∀ k, ¬ DW (gE G) (gT G) k l) ∧ res.1 = 0 ∧ C'.1 11 = ((crw G (gL G) (RC (gE G) l) : Nat) : Int))
theorem gInto_eq {d : Nat} {r r' : Nat → Nat} (h : ∀ t, t ≤ d → r t = r' t) {s : Nat} (hs : s ≤ d) : gInto G d r s = gInto G d r' s := by
  unfold gInto
  by_cases z : s < d
  · rw [if_pos z, if_pos z, h (s+1) (by omega)]
  · rw [if_neg z, if_neg z, h d (Nat.le_refl _)]
theorem find_rem (hN : RN N G) (hG : GOK G) {l : Nat} (hl : l < gL G) (hls : ¬ gbr G l) (Ch : ZB) : ∃ res C', fCh_find N Ch (l : Int) = some res ∧ fCh_remember N res.2 = some C' ∧ Fnd G l C' res := by
  obtain ⟨res, h1, hF⟩ := Ch_find hN hG hl hls Ch
  obtain ⟨C', g1, g2, g3, g4, g5⟩ := Ch_remember hN hG hF
  refine ⟨res, C', h1, g1, ?_⟩
  obtain ⟨f1, f2, f3, f4, f5, fc⟩ := hF
  rcases g5 with ⟨d, r, cc, hd, hr, e1, e2, e3, e4⟩ | ⟨e1, e2, e3, e4, e5, e6⟩
  · refine Or.inl ⟨d, r, cc, hd, hr, e1, by rw [g2, f5, e1], ?_, e2, e4⟩
    rcases fc with ⟨d2, r2, c2, hd2, hr2, v1, v2⟩ | ⟨v1, _⟩
    · have : d2 = d := DE_uniq hr2.2.1 hr.2.1
      subst this
      have hre := RS_uniq hr hr2
      intro s hs
      obtain ⟨a1, a2⟩ := v2 s hs
      rw [g3, g4, a1, a2, hre s hs]
      exact ⟨rfl, (gInto_eq hre hs).symm⟩
    · exact absurd hr.2.1.1 (v1 d)
  · exact Or.inr ⟨e1, e2, e6⟩
theorem Fnd_same {l : Nat} {C1 C2 : ZB} {r1 r2 : Int × ZB} (h1 : Fnd G l C1 r1) (h2 : Fnd G l C2 r2) : r1.1 = r2.1 := by
  rcases h1 with ⟨d, r, c, hd, hr, e1, _⟩ | ⟨e1, e2, _⟩
  · rcases h2 with ⟨d', r', c', hd', hr', u1, _⟩ | ⟨u1, _⟩
    · rw [e1, u1, DE_uniq hr.2.1 hr'.2.1]
    · exact absurd hr.2.1.1 (u1 d)
  · rcases h2 with ⟨d', r', c', hd', hr', u1, _⟩ | ⟨u1, u2, _⟩
    · exact absurd hr'.2.1.1 (e1 d')
    · rw [e2, u2]
/-- what lies behind an exchange -/
theorem gEx_at {d l : Nat} {r c : Nat → Nat} (h : RS (gE G) (gT G) d l r c) {t : Nat} (ht : t ≤ d) : gh (gEx G d r) (r t) = gInto G d r t := hsx_at h ht (d+1) (by omega) (by omega)
theorem gEx_keep {d : Nat} {r : Nat → Nat} {x : Nat} (h : ∀ t, t ≤ d → r t ≠ x) : gh (gEx G d r) x = gh G x := hsx_keep (d+1) (fun t _ h2 => h t h2) (by omega)
theorem gInto_r (hG : GOK G) {d l : Nat} {r c : Nat → Nat} (h : RS (gE G) (gT G) d l r c) {t : Nat} (ht : t ≤ d) : 0 ≤ gInto G d r t ∧ gInto G d r t < gk G := by
  by_cases e : t = d
  · subst e; have := RS_last hG h; exact ⟨this.1, this.2.1⟩
  · have := RS_ring h (t := t) (by omega); exact ⟨this.1, this.2.1⟩
theorem gEx_lie (hG : GOK G) {d l : Nat} {r c : Nat → Nat} (h : RS (gE G) (gT G) d l r c) (x : Nat) : lieS (gEx G d r) x ↔ lieS G x ∨ x = l := by
  unfold lieS
  by_cases q : ∃ t, t ≤ d ∧ r t = x
  · obtain ⟨t, ht, rfl⟩ := q
    have h1 := gInto_r hG h ht
    rw [gEx_at h ht]
    refine ⟨fun _ => ?_, fun _ => by omega⟩
    cases t with
    | zero => exact Or.inr h.1
    | succ t =>
      have h2 := RS_ring h (t := t) (by omega)
      exact Or.inl (by rw [h2.2.2.2.1]; omega)
  · have hk : ∀ t, t ≤ d → r t ≠ x := fun t ht e => q ⟨t, ht, e⟩
    rw [gEx_keep hk]
    refine ⟨Or.inl, fun k => k.elim id (fun e => ?_)⟩
    exact absurd (h.1.trans e.symm) (hk 0 (Nat.zero_le _))
theorem gEx_sn (d : Nat) (r : Nat → Nat) : SN G (gEx G d r) := ⟨rfl, rfl, rfl, rfl, rfl⟩
theorem toldAt0 {C : ZB} {c i : Nat} (hc : C.1 10 = (c : Int)) (h24 : c ≤ 24) (hi : i < c) : fX_chainAt C (i : Int) 0 = some (C.2 8 i) := by
  unfold fX_chainAt fCh_toldAt
  simp only [kf0, kf1]
  rw [hc, nmn (by omega), nmn (by omega), if_neg (by omega), if_pos (by omega), if_neg (by decide : ¬ nm 0 < 0), if_neg (by decide : ¬ (1 : Int) < nm 0), if_pos (by decide : nm 0 = 0), rdn (by omega), bds]
theorem toldAt1 {C : ZB} {c i : Nat} (hc : C.1 10 = (c : Int)) (h24 : c ≤ 24) (hi : i < c) : fX_chainAt C (i : Int) 1 = some (C.2 9 i) := by
  unfold fX_chainAt fCh_toldAt
  simp only [kf0, kf1]
  rw [hc, nmn (by omega), nmn (by omega), if_neg (by omega), if_pos (by omega), if_neg (by decide : ¬ nm 1 < 0), if_neg (by decide : ¬ (1 : Int) < nm 1), if_neg (by decide : ¬ nm 1 = 0), rdn (by omega), bds]
theorem toldAtN {C : ZB} {c : Nat} (hc : C.1 10 = (c : Int)) (h24 : c ≤ 24) : fX_chainAt C (c : Int) 0 = some (-1) := by
  unfold fX_chainAt fCh_toldAt
  simp only [kf0]
  rw [hc, nmn (by omega), if_neg (by omega), if_neg (by omega), bds]
/-- a line that may not be placed -/
theorem X_chain_no (hN : RN N G) (hG : GOK G) {l : Nat} (hl : l < gL G) (h : ¬ (¬ gbr G l ∧ gh G l = -1)) (Ch : ZB) : fX_chain N Ch (l : Int) = some (-1, Ch) ∧ fX_place N Ac Ch (l : Int) = some (-1, N, Ac, Ch) := by
  have hb := hG.1
  have hc := X_canBePlaced hN hG (x := (l : Int)) (by omega)
  rw [dc_f.mpr (fun z => h z.2.2), if_neg (by decide)] at hc
  unfold fX_chain fX_place
  rw [hc, bds, bds, if_pos (by decide : nm 0 = 0), if_pos (by decide : nm 0 = 0)]
  exact ⟨rfl, rfl⟩
theorem X_can (hN : RN N G) (hG : GOK G) {l : Nat} (hl : l < gL G) (h : ¬ gbr G l ∧ gh G l = -1) : fX_canBePlaced N (l : Int) = some 1 := by
  have hb := hG.1
  have hc := X_canBePlaced hN hG (x := (l : Int)) (by omega)
  rw [dc_t.mpr (show 0 ≤ (l : Int) ∧ (l : Int) < gL G ∧ ¬ gbr G (l : Int).toNat ∧ gh G (l : Int).toNat = -1 from ⟨by omega, by omega, h⟩), if_pos rfl] at hc
  exact hc
theorem X_chain_yes (hN : RN N G) (hG : GOK G) {l : Nat} (hl : l < gL G) (h : ¬ gbr G l ∧ gh G l = -1) (Ch : ZB) : ∃ res C', fX_chain N Ch (l : Int) = some (res.1, C') ∧ Fnd G l C' res := by
  obtain ⟨res, C', h1, h2, h3⟩ := find_rem hN hG hl h.1 Ch
  refine ⟨res, C', ?_, h3⟩
  unfold fX_chain
  rw [X_can hN hG hl h, bds, if_neg (by decide : ¬ nm 1 = 0), h1, bds, h2, bds]
theorem X_place_yes (hN : RN N G) (hG : GOK G) (hA : IAc Ac) {l : Nat} (hl : l < gL G) (h : ¬ gbr G l ∧ gh G l = -1) (Ch : ZB) : ∃ res C' N' A', fX_place N Ac Ch (l : Int) = some (res.1, N', A', C') ∧ IAc A' ∧ Fnd G l C' res ∧ ((∃ d r c, d < gL G ∧ RS (gE G) (gT G) d l r c ∧ res.1 = ((d + 1 : Nat) : Int) ∧ C'.1 10 = ((d + 1 : Nat) : Int) ∧ (∀ s, s ≤ d → C'.2 8 s = (r s : Nat) ∧ C'.2 9 s = gInto G d r s) ∧ RN N' (gEx G d r)) ∨ ((∀ k, ¬ DW (gE G) (gT G) k l) ∧ res.1 = 0 ∧ C'.1 11 = ((crw G (gL G) (RC (gE G) l) : Nat) : Int) ∧ RN N' G)) := by
  have hb := hG.1
  obtain ⟨res, C', h1, h2, h3⟩ := find_rem hN hG hl h.1 Ch
  obtain ⟨B, hB, hBA, E, hE, hEA⟩ := act_c hA hN hG
  unfold fX_place
  simp only [kf2]
  rw [X_can hN hG hl h, bds, if_neg (by decide : ¬ nm 1 = 0), h1, bds, h2, bds]
  rcases h3 with ⟨d, r, c, hd, hr, e1, e2, e3, e4, e5⟩ | ⟨e1, e2, e3⟩
  · obtain ⟨N', n1, n2⟩ := Ch_carryOut hN hG hr hd e2 e3
    rw [e1, nmn (by omega), if_pos (by omega), hB, bds, n1, bds, hE, bds]
    exact ⟨(((d + 1 : Nat) : Int), res.2), C', N', E, rfl, hEA, Or.inl ⟨d, r, c, hd, hr, rfl, e2, e3, e4, e5⟩, Or.inl ⟨d, r, c, hd, hr, rfl, e4, e5, n2⟩⟩
  · rw [e2, if_neg (by decide : ¬ 0 < nm 0)]
    exact ⟨(0, res.2), C', N, Ac, rfl, hA, Or.inr ⟨e1, rfl, e3⟩, Or.inr ⟨e1, rfl, e3, hN⟩⟩
theorem L_placed (hN : RN N G) (hG : GOK G) (hA : IAc Ac) (hv : LV G (La.2 1)) (Ch : ZB) {l : Nat} (hl : l < gL G) : ∃ N' A' C' G', fL_placed N T Ac Ch La (l : Int) = some (1, N', A', C') ∧ RN N' G' ∧ GOK G' ∧ IAc A' ∧ SN G G' := by
  have hb := hG.1
  have hlie := L_lying (T := T) (Ac := Ac) hN hG hv
  have hsnd := L_sound hN hG hv
  unfold fL_placed
  simp only [kf0, kf1, kf2, kf3]
  rw [hlie, bds]
  by_cases h : ¬ gbr G l ∧ gh G l = -1
  · -- it may be placed
    obtain ⟨res, C1, c1, c2⟩ := X_chain_yes hN hG hl h Ch
    obtain ⟨res2, C2, N', A', p1, hA', p2, p3⟩ := X_place_yes hN hG hA hl h C1
    have he : res.1 = res2.1 := Fnd_same c2 p2
    have b1 : (bs (gL G) (snd_ G)).testBit l = true := (bs_bit _ _ _).mpr ⟨hl, h.1⟩
    have b2 : ¬ (bs (gL G) (lieS G)).testBit l = true := fun z => ((bs_bit _ _ _).mp z).2 h.2
    have hpos : ¬ nm res2.1 < 0 := by
      rcases p3 with ⟨d, r, c, hd, hr, e1, _⟩ | ⟨_, e1, _⟩
      · rw [e1, nmn (by omega)]; omega
      · rw [e1]; decide
    rw [c1, bds, hsnd, bds, L_has (bs_lt31 (by omega)) (by omega), bds, t10t b1, L_has (bs_lt31 (by omega)) (by omega), bds, t10f b2, he, if_neg hpos, if_neg (by decide : ¬ nm 1 = 0), if_pos trivial, p1, bds, if_pos rfl]
    rcases p3 with ⟨d, r, c, hd, hr, e1, e2, e3, e4⟩ | ⟨e1, e2, e3, e4⟩
    · -- a chain
      have hG' := gEx_ok hG hr
      have hv' := LV_sn (gEx_sn d r) hv
      have hlie' := L_lying (T := T) (Ac := A') e4 hG' hv'
      have hset : ((bs (gL (gEx G d r)) (lieS (gEx G d r)) : Nat) : Int) = zor ((bs (gL G) (lieS G) : Nat) : Int) (zshl 1 (l : Int)) := lie_in (n := gL G) hl (by omega) (fun i _ => gEx_lie hG hr i)
      have hc0 : fX_chainAt C2 0 0 = some ((l : Nat) : Int) := by
        have := toldAt0 (i := 0) e2 (by omega) (by omega)
        rw [(e3 0 (by omega)).1, hr.1] at this
        exact this
      have hcn : fX_chainAt C2 ((d + 1 : Nat) : Int) 0 = some (-1) := toldAtN e2 (by omega)
      rw [hlie', bds, e1, nmn (show d + 1 < 2147483648 by omega), if_pos (show (0 : Int) < ((d + 1 : Nat) : Int) by omega), nmn (bs_lt31 (by show gL G ≤ 31; omega)), hset, if_pos rfl, hc0, bds, if_pos rfl, hcn, bds, if_pos (by decide : nm (-1) = -1)]
      refine ⟨N', A', C2, gEx G d r, ?_, e4, hG', hA', gEx_sn d r⟩
      refine lop2_s (d+1) (fun i => ((bs (gL G) (fun x => ∃ t, t < i ∧ r t = x) : Nat) : Int)) (fun i => (i : Int)) ?_ ?_ (by omega) ?_ rfl
      · intro rec k hk hrc
        have hs := RS_sound hr (show k ≤ d by omega)
        have q0 := toldAt0 (i := k) e2 (by omega) hk
        have q1 := toldAt1 (i := k) e2 (by omega) hk
        rw [(e3 k (by omega)).1] at q0
        rw [(e3 k (by omega)).2] at q1
        have hits := L_its3 e4 hG' (l := r k) hs.1
        rw [gEx_at hr (show k ≤ d by omega)] at hits
        have hbit : ¬ (bs (gL G) (fun x => ∃ t, t < k ∧ r t = x)).testBit (r k) = true := by
          intro z
          obtain ⟨_, t, t1, t2⟩ := (bs_bit _ _ _).mp z
          have := RS_inj hr (show t ≤ d by omega) (show k ≤ d by omega) t2
          omega
        rw [nmn (show k < 2147483648 by omega), if_pos (show (k : Int) < ((d + 1 : Nat) : Int) by omega), q0, bds, nmn (show r k < 2147483648 by omega), if_neg (show ¬ ((r k : Nat) : Int) < 0 by omega), rv1, hv.2.1, nmn (show gL G < 2147483648 by omega), if_pos (show ((r k : Nat) : Int) < ((gL G : Nat) : Int) by omega), L_has (bs_lt31 (by omega)) (by omega), bds, t10f hbit, hits, bds, q1, bds, if_pos rfl, lt_e, zshln (by omega), zorn (bs_lt31 (by omega)) (p2_lt31 (by omega)), bs_one hs.1, bs_or]
        rw [bs_ext (q := fun x => ∃ t, t < k + 1 ∧ r t = x)]
        · exact hrc
        · intro i _
          constructor
          · rintro (⟨t, t1, t2⟩ | rfl)
            · exact ⟨t, by omega, t2⟩
            · exact ⟨k, by omega, rfl⟩
          · rintro ⟨t, t1, t2⟩
            by_cases e : t = k
            · exact Or.inr (e ▸ t2.symm)
            · exact Or.inl ⟨t, by omega, t2⟩
      · intro rec
        rw [nmn (show d + 1 < 2147483648 by omega), if_neg (by omega)]
      · show ((bs (gL G) (fun x => ∃ t, t < 0 ∧ r t = x) : Nat) : Int) = 0
        rw [bs_zero.mpr (fun i _ ⟨t, h, _⟩ => by omega)]; rfl
    · -- blocked
      have hlie' := L_lying (T := T) (Ac := A') e4 hG hv
      have hsnd' := L_sound e4 hG hv
      have hlt := crw_lt G (gL G) (RC (gE G) l)
      have h24 : crw G (gL G) (RC (gE G) l) < 2 ^ 24 := Nat.lt_trans (p2_10 hG hlt) (by decide)
      have h31 : crw G (gL G) (RC (gE G) l) < 2147483648 := Nat.lt_trans h24 (by decide)
      have hcr : fX_crowd C2 = some ((crw G (gL G) (RC (gE G) l) : Nat) : Int) := by
        unfold fX_crowd fCh_toldCrowd
        rw [bds, e3]
      have hmany := crowd_many hG hl h.1 h.2 e1
      have hin := RC_in hG hl h.1 e1 (RC_self (l := l))
      have hinn : inn G (fun i => (bs (gL G) (snd_ G)).testBit i = true) (crw G (gL G) (RC (gE G) l)) = inn G (snd_ G) (crw G (gL G) (RC (gE G) l)) := cnt_ext (fun i hi => ⟨fun z => ⟨((bs_bit _ _ _).mp z.1).2, z.2⟩, fun z => ⟨(bs_bit _ _ _).mpr ⟨hi, z.1⟩, z.2⟩⟩)
      have hile := inn_le G (snd_ G) (crw G (gL G) (RC (gE G) l))
      have hpp : 1 ≤ ppc (crw G (gL G) (RC (gE G) l)) := by
        rcases Nat.eq_zero_or_pos (crw G (gL G) (RC (gE G) l)) with z | z
        · have := hin.1; rw [z, Nat.zero_testBit] at this; exact absurd this (by decide)
        · exact ppc_pos (n := gn G) (by omega) hlt z
      have hpl := ppc_le (n := gn G) (by omega) hlt
      have hmul : ((gk G : Nat) : Int) * (((ppc (crw G (gL G) (RC (gE G) l)) : Nat) : Int) - 1) = ((gk G * (ppc (crw G (gL G) (RC (gE G) l)) - 1) : Nat) : Int) := by
        rw [Int.natCast_mul, Int.natCast_sub hpp]; rfl
      have hm24 : gk G * (ppc (crw G (gL G) (RC (gE G) l)) - 1) < 2147483648 := by omega
      rw [hlie', bds, e2, if_neg (by decide : ¬ 0 < nm 0), if_pos rfl, if_neg (by decide : ¬ nm 0 < 0), hcr, bds, hsnd', bds, L_inner hG hv h31 (bs_lt31 (by omega)), bds, hinn, X_now2 e4, bds, bds, L_bits h24, bds, hmul, nmn hm24, nmn (show inn G (snd_ G) (crw G (gL G) (RC (gE G) l)) < 2147483648 by omega), if_pos (show ((gk G * (ppc (crw G (gL G) (RC (gE G) l)) - 1) : Nat) : Int) < ((inn G (snd_ G) (crw G (gL G) (RC (gE G) l)) : Nat) : Int) by omega), L_ends hG hv hl, bds, bds, zcompn (gen_lt31 hG hl) h31, ndf_zero.mpr ((gen_sub hG).mpr hin), if_pos (by decide : ((0 : Nat) : Int) = 0)]
      exact ⟨N', A', C2, G, zo1, e4, hG, hA', SN_refl G⟩
  · -- it may not
    obtain ⟨c1, c2⟩ := X_chain_no (Ac := Ac) hN hG hl h Ch
    have hfin : ∃ N' A' C' G', (zo 1 (some ((1 : Int), N, Ac, Ch)) : Option (Int × ZB × ZA × ZB)) = some (1, N', A', C') ∧ RN N' G' ∧ GOK G' ∧ IAc A' ∧ SN G G' := ⟨N, Ac, Ch, G, zo1, hN, hG, hA, SN_refl G⟩
    rw [c1, bds, hsnd, bds, L_has (bs_lt31 (by omega)) (by omega), bds, if_pos (by decide : nm (-1) < 0)]
    by_cases b1 : (bs (gL G) (snd_ G)).testBit l = true
    · have b2 : (bs (gL G) (lieS G)).testBit l = true := (bs_bit _ _ _).mpr ⟨hl, fun z => h ⟨((bs_bit _ _ _).mp b1).2, z⟩⟩
      rw [t10t b1, L_has (bs_lt31 (by omega)) (by omega), bds, t10t b2, if_pos (by decide : nm 0 = 0), if_pos trivial, c2, bds, if_pos rfl, hlie, bds, if_neg (by decide : ¬ 0 < nm (-1)), if_pos rfl]
      exact hfin
    · rw [t10f b1, if_pos (by decide : nm 0 = 0), if_pos trivial, c2, bds, if_pos rfl, hlie, bds, if_neg (by decide : ¬ 0 < nm (-1)), if_pos rfl]
      exact hfin
end
