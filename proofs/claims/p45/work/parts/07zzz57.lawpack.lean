-- needs: 07zzz56b.agree
/-! pack: as many lie then as most tells -/
section
variable {G : GV} {N : ZB} {Ac : ZA}
theorem fo_in (hG : GOK G) {W : Nat → Prop} (hf : Fo (ga G) (gb G) W) {s : Nat} (hs : s < 2 ^ gn G) (hs0 : s ≠ 0) : inn G W s + 1 ≤ ppc s := by
  have hb := hG.1
  have hE : ∀ l, (l < gL G ∧ W l ∧ inE G l s) → l < gL G ∧ ga G l < gn G ∧ gb G l < gn G := fun l h => ⟨h.1, (hG.2.1 l h.1).1, (hG.2.1 l h.1).2.1⟩
  have h1 := Rp_count (gL G) (fun l => l < gL G ∧ W l ∧ inE G l s) hE (Fo_mono (fun l h => h.2.1) hf)
  have h2 : cnt (gL G) (fun l => l < gL G ∧ W l ∧ inE G l s) = inn G W s := cnt_ext (fun l hl => ⟨fun h => h.2, fun h => ⟨hl, h⟩⟩)
  have h3 := cnt_compl (gn G) (fun x => s.testBit x = true)
  have h4 := ppc_cnt (n := gn G) (by omega) hs
  have hex : ∃ x, s.testBit x = true := by
    by_cases z : ∃ x, s.testBit x = true
    · exact z
    · refine absurd (nat_ext (y := 0) (fun i => ⟨fun h => absurd ⟨i, h⟩ z, fun h => ?_⟩)) hs0
      rw [Nat.zero_testBit] at h; exact absurd h (by decide)
  obtain ⟨x1, hx1⟩ := hex
  obtain ⟨x0, -, hx0, hmin⟩ := least_of (fun x => s.testBit x = true) hx1
  have h5 : cnt (gn G) (fun x => ¬ s.testBit x = true) < cnt (gn G) (Rp (ga G) (gb G) (fun l => l < gL G ∧ W l ∧ inE G l s)) := by
    refine cnt_lt (i := x0) (fun x hx hns q hq hc => ?_) (bit_lt hs hx0) (fun q hq hc => ?_) (fun z => z hx0)
    · refine absurd rfl (hc (fun y => y ≠ x) (by omega) (fun l hl => ?_))
      exact ⟨fun _ e => hns (e ▸ hl.2.2.2), fun _ e => hns (e ▸ hl.2.2.1)⟩
    · refine absurd hx0 (hc (fun y => ¬ s.testBit y = true) (hmin q hq) (fun l hl => ?_))
      exact ⟨fun z => absurd hl.2.2.1 z, fun z => absurd hl.2.2.2 z⟩
  omega
theorem lie_sp (hG : GOK G) : Sp G (gk G) (lieS G) := by
  have hb := hG.1
  intro s hs hs0
  have all : ∀ f : Nat, f ≤ gk G → inn G (fun e => 0 ≤ gh G e ∧ gh G e < (f : Int)) s ≤ f * (ppc s - 1) := by
    intro f
    induction f with
    | zero =>
      intro _
      have : inn G (fun e => 0 ≤ gh G e ∧ gh G e < ((0 : Nat) : Int)) s = 0 := cnt_zero (fun e _ h => by have := h.1; omega)
      omega
    | succ f ih =>
      intro hf
      have h1 := ih (by omega)
      have h2 := fo_in hG (hG.2.2.2 (f : Int) (by omega)) hs hs0
      have h3 : inn G (fun e => 0 ≤ gh G e ∧ gh G e < ((f + 1 : Nat) : Int)) s = inn G (fun e => 0 ≤ gh G e ∧ gh G e < (f : Int)) s + inn G (InF G (f : Int)) s := by
        refine cnt_add (fun e he => ?_) (fun e he h k => ?_)
        · constructor
          · rintro ⟨⟨h1, h2⟩, h3⟩
            by_cases z : gh G e = (f : Int)
            · exact Or.inr ⟨⟨he, z⟩, h3⟩
            · exact Or.inl ⟨⟨h1, by omega⟩, h3⟩
          · rintro (⟨⟨h1, h2⟩, h3⟩ | ⟨⟨h1, h2⟩, h3⟩)
            · exact ⟨⟨h1, by omega⟩, h3⟩
            · exact ⟨⟨by omega, by omega⟩, h3⟩
        · have h1 := h.1.2
          have h2 := k.1.2
          omega
      rw [h3, Nat.succ_mul]
      omega
  have h := all (gk G) (Nat.le_refl _)
  refine Nat.le_trans (cnt_mono (fun e he k => ?_)) h
  have hv := hG.2.1 e he
  have h1 : gh G e ≠ -1 := k.1
  exact ⟨⟨by omega, by omega⟩, k.2⟩
/-- each sound line that lies in no forest lies between points that are full -/
def MaxL (G : GV) (k : Nat) : Prop := ∀ l, l < k → snd_ G l → ¬ lieS G l → ∃ s, s < 2 ^ gn G ∧ inE G l s ∧ Ful G (gk G) (lieS G) s
theorem max_most (hG : GOK G) (h : MaxL G (gL G)) : cnt (gL G) (lieS G) = cnt (gL G) (Tk G (gk G) (snd_ G) (gL G)) := by
  have hT := Tk_sp (k := gk G) hG (snd_ G) (gL G) (Nat.le_refl _)
  have h1 := sp_max (A := snd_ G) hG hT (lie_sp hG) (fun l hl z => lie_snd hG hl z) (fun l hl hs hn => Tk_max hG (snd_ G) hl hs hn)
  have h2 := sp_max (A := snd_ G) hG (lie_sp hG) hT (fun l _ z => Tk_s l z) (fun l hl hs hn => h l hl hs hn)
  omega
theorem Sp_sn {G' : GV} (h : SN G G') {k : Nat} {T : Nat → Prop} (hT : Sp G' k T) : Sp G k T := by
  obtain ⟨h1, h2, h3, h4, h5⟩ := h
  intro s hs hs0
  have hT' := hT s (by rw [h1]; exact hs) hs0
  unfold inn inE at hT' ⊢
  rw [h2, h4, h5] at hT'
  exact hT'
theorem X_cannot (hN : RN N G) (hG : GOK G) {l : Nat} (hl : l < gL G) (h : ¬ (¬ gbr G l ∧ gh G l = -1)) : fX_canBePlaced N (l : Int) = some 0 := by
  have hb := hG.1
  have hc := X_canBePlaced hN hG (x := (l : Int)) (by omega)
  rw [dc_f.mpr (fun z => h z.2.2), if_neg (by decide)] at hc
  exact hc
theorem gEx_cnt (hG : GOK G) {d l : Nat} {r c : Nat → Nat} (h : RS (gE G) (gT G) d l r c) (hl : l < gL G) (hn : gh G l = -1) : cnt (gL G) (lieS (gEx G d r)) = cnt (gL G) (lieS G) + 1 := by
  rw [← cnt_del (n := gL G) (r := l) (p := lieS (gEx G d r)) hl ((gEx_lie hG h l).mpr (Or.inr rfl))]
  congr 1
  refine cnt_ext (fun i _ => ⟨fun z => ?_, fun z => ⟨(gEx_lie hG h i).mpr (Or.inl z), fun e => z (e ▸ hn)⟩⟩)
  exact ((gEx_lie hG h i).mp z.1).elim id (fun e => absurd e z.2)
theorem X_pack (hN : RN N G) (hG : GOK G) (hA : IAc Ac) (Ch : ZB) : ∃ (v : Nat) (N' : ZB) (A' : ZA) (C' : ZB) (G' : GV), fX_pack N Ac Ch = some ((v : Int), N', A', C') ∧ RN N' G' ∧ GOK G' ∧ IAc A' ∧ SN G G' ∧ gbr G' = gbr G ∧ (∀ i, lieS G i → lieS G' i) ∧ cnt (gL G) (lieS G') = cnt (gL G) (lieS G) + v ∧ MaxL G' (gL G') := by
  have hb := hG.1
  obtain ⟨B, hB, hBA, E, hE, hEA⟩ := act_c hA hN hG
  have main : wp (fX_pack N Ac Ch) (fun r => ∃ (v : Nat) (G' : GV), r.1 = (v : Int) ∧ RN r.2.1 G' ∧ GOK G' ∧ IAc r.2.2.1 ∧ SN G G' ∧ gbr G' = gbr G ∧ (∀ i, lieS G i → lieS G' i) ∧ cnt (gL G) (lieS G') = cnt (gL G) (lieS G) + v ∧ MaxL G' (gL G')) := by
    unfold fX_pack
    rw [hB, bds]
    refine lop4_w (fun v1 v2 N1 _ => ∃ (v k : Nat) (G1 : GV), v1 = (v : Int) ∧ v2 = (k : Int) ∧ v ≤ k ∧ k ≤ gL G ∧ RN N1 G1 ∧ GOK G1 ∧ SN G G1 ∧ gbr G1 = gbr G ∧ (∀ i, lieS G i → lieS G1 i) ∧ cnt (gL G) (lieS G1) = cnt (gL G) (lieS G) + v ∧ MaxL G1 k) (fun _ v2 _ _ => gL G - v2.toNat) ?_ FU _ _ _ _ ⟨0, 0, G, rfl, rfl, by omega, by omega, hN, hG, SN_refl G, rfl, fun _ h => h, rfl, fun l hl => absurd hl (Nat.not_lt_zero l)⟩ (by show gL G - _ < 100000; omega)
    intro rec v1 v2 N1 C1 hI hrec
    obtain ⟨v, k, G1, rfl, rfl, hvk, hk, hN1, hG1, hSN, hbr, hmo, hcn, hmx⟩ := hI
    have hL1 : gL G1 = gL G := hSN.2.1
    simp only [kf1, kf3]
    rw [hN1.2.1, hL1, nmn (show k < 2147483648 by omega), nmn (show gL G < 2147483648 by omega)]
    by_cases hkL : k < gL G
    · rw [if_pos (show (k : Int) < ((gL G : Nat) : Int) by omega)]
      have hk1 : k < gL G1 := by omega
      by_cases s : ¬ gbr G1 k ∧ gh G1 k = -1
      · obtain ⟨res, h1, f1, f2, f3, f4, f5, fc⟩ := Ch_find hN1 hG1 hk1 s.1 C1
        rw [X_can hN1 hG1 hk1 s, bds, if_neg (by decide : ¬ nm 1 = 0), h1, bds]
        rcases fc with ⟨d, r, cc, hd, hr, e1, e2⟩ | ⟨e1, e2, e3⟩
        · obtain ⟨N2, n1, n2⟩ := Ch_carryOut hN1 hG1 hr hd (by rw [f5, e1]) e2
          have hlie := gEx_lie hG1 hr
          have hc2 := gEx_cnt hG1 hr hk1 s.2
          rw [hL1] at hc2
          rw [e1, nmn (show d + 1 < 2147483648 by omega), if_pos (show (0 : Int) < ((d + 1 : Nat) : Int) by omega), n1, bds]
          refine hrec _ _ _ _ ⟨v + 1, k + 1, gEx G1 d r, by omega, by omega, by omega, by omega, n2, gEx_ok hG1 hr, SN_tr hSN (gEx_sn d r), hbr, fun i hi => (hlie i).mpr (Or.inl (hmo i hi)), by omega, ?_⟩ (by omega)
          intro l hl hs hn
          have hn1 : ¬ lieS G1 l := fun z => hn ((hlie l).mpr (Or.inl z))
          have hne : l ≠ k := fun e => hn ((hlie l).mpr (Or.inr e))
          obtain ⟨t, t1, t2, t3⟩ := hmx l (by omega) hs hn1
          exact ⟨t, t1, t2, Nat.le_trans t3 (inn_mono (G := G1) (fun i z => (hlie i).mpr (Or.inl z)) t)⟩
        · rw [e2, if_neg (by decide : ¬ 0 < nm 0)]
          refine hrec _ _ _ _ ⟨v, k + 1, G1, rfl, by omega, by omega, by omega, hN1, hG1, hSN, hbr, hmo, hcn, ?_⟩ (by omega)
          intro l hl hs hn
          by_cases e : l = k
          · subst e
            exact ⟨_, crw_lt G1 (gL G1) (RC (gE G1) l), RC_in hG1 hk1 s.1 e1 RC_self, crowd_lie hG1 hk1 s.1 e1⟩
          · exact hmx l (by omega) hs hn
      · rw [X_cannot hN1 hG1 hk1 s, bds, if_pos (by decide : nm 0 = 0)]
        refine hrec _ _ _ _ ⟨v, k + 1, G1, rfl, by omega, by omega, by omega, hN1, hG1, hSN, hbr, hmo, hcn, ?_⟩ (by omega)
        intro l hl hs hn
        by_cases e : l = k
        · subst e
          have hn' : gh G1 l = -1 := by unfold lieS at hn; omega
          exact absurd ⟨hs, hn'⟩ s
        · exact hmx l (by omega) hs hn
    · rw [if_neg (show ¬ (k : Int) < ((gL G : Nat) : Int) by omega)]
      have hmx' : MaxL G1 (gL G1) := by rw [hL1, show gL G = k by omega]; exact hmx
      rw [nmn (show v < 2147483648 by omega)]
      by_cases z : 0 < v
      · rw [if_pos (show (0 : Int) < (v : Int) by omega), hE, bds]
        exact ⟨_, rfl, v, G1, rfl, hN1, hG1, hEA, hSN, hbr, hmo, hcn, hmx'⟩
      · rw [if_neg (show ¬ (0 : Int) < (v : Int) by omega)]
        exact ⟨_, rfl, v, G1, rfl, hN1, hG1, hBA, hSN, hbr, hmo, hcn, hmx'⟩
  obtain ⟨⟨r1, r2, r3, r4⟩, h1, v, G', e1, h2⟩ := main
  have e1' : r1 = (v : Int) := e1
  subst e1'
  exact ⟨v, r2, r3, r4, G', h1, h2⟩
/-- a second time nothing is packed -/
theorem X_pack2 (hN : RN N G) (hG : GOK G) (hA : IAc Ac) (hM : MaxL G (gL G)) (Ch : ZB) : ∃ (N' : ZB) (A' : ZA) (C' : ZB) (G' : GV), fX_pack N Ac Ch = some (0, N', A', C') ∧ RN N' G' ∧ GOK G' ∧ IAc A' ∧ SN G G' := by
  obtain ⟨v, N', A', C', G', h1, h2, h3, h4, h5, h6, h7, h8, h9⟩ := X_pack hN hG hA Ch
  have hsp : Sp G (gk G) (lieS G') := by
    have h := lie_sp h3
    rw [h5.2.2.1] at h
    exact Sp_sn h5 h
  have hc := sp_max (A := snd_ G) hG (lie_sp hG) hsp (fun l hl z => by
    have := lie_snd h3 (by rw [h5.2.1]; exact hl) z
    unfold snd_ at this ⊢
    rw [h6] at this
    exact this) (fun l hl hs hn => hM l hl hs hn)
  have hv : v = 0 := by omega
  subst hv
  exact ⟨N', A', C', G', h1, h2, h3, h4, h5⟩
end
