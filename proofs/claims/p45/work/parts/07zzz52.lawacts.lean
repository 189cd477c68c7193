-- needs: 07zzz51.lawlie
/-! lift, put, breaks, mend of the class alone -/
def IAc (Ac : ZA) : Prop := ∃ c n : Nat, c ≤ 8 ∧ n ≤ 8 ∧ Ac.1 3 = (c : Int) ∧ Ac.1 2 = (n : Int)
/-- the same points, lines, number of forests -/
def SN (G G' : GV) : Prop := gn G' = gn G ∧ gL G' = gL G ∧ gk G' = gk G ∧ ga G' = ga G ∧ gb G' = gb G
theorem SN_refl (G : GV) : SN G G := ⟨rfl, rfl, rfl, rfl, rfl⟩
theorem SN_tr {A B C : GV} (h : SN A B) (h' : SN B C) : SN A C := ⟨h'.1.trans h.1, h'.2.1.trans h.2.1, h'.2.2.1.trans h.2.2.1, h'.2.2.2.1.trans h.2.2.2.1, h'.2.2.2.2.trans h.2.2.2.2⟩
theorem LV_sn {G G' : GV} {f : Nat → Int} (h : SN G G') (hv : LV G f) : LV G' f := by
  obtain ⟨h1, h2, h3, h4, h5⟩ := h
  obtain ⟨v0, v1, v2, v3⟩ := hv
  refine ⟨by rw [h1]; exact v0, by rw [h2]; exact v1, by rw [h3]; exact v2, fun l hl => ?_⟩
  rw [h4, h5]; exact v3 l (by rw [← h2]; exact hl)
section
variable {G : GV} {N : ZB} {Ac : ZA}
theorem act_c (hA : IAc Ac) (hN : RN N G) (hG : GOK G) : ∃ B, fAc_before N Ac = some B ∧ IAc B ∧ ∃ E, fAc_done B = some E ∧ IAc E := by
  obtain ⟨c, n, h8, n8, h3, h2⟩ := hA
  obtain ⟨D, hD, -⟩ := Ac_before hN hG h2 n8
  refine ⟨_, hD, ⟨c, n, h8, n8, h3, h2⟩, _, Ac_done (Ac := (Ac.1, ua Ac.2 n D)) h2 h3 n8 h8, (if c < 8 then c + 1 else 8), (if n < 8 then n + 1 else 0), ?_, ?_, ?_, ?_⟩
  · split <;> omega
  · split <;> omega
  · exact up_e (up Ac.1 2 ((if n < 8 then n + 1 else 0 : Nat) : Int)) 3 ((if c < 8 then c + 1 else 8 : Nat) : Int)
  · show up (up Ac.1 2 ((if n < 8 then n + 1 else 0 : Nat) : Int)) 3 ((if c < 8 then c + 1 else 8 : Nat) : Int) 2 = _
    rw [up_n _ _ (by decide), up_e]
theorem X_lift (hN : RN N G) (hG : GOK G) (hA : IAc Ac) {l : Nat} (hl : l < gL G) : ∃ N' A' G', fX_lift N Ac (l : Int) = some (gh G l, N', A') ∧ RN N' G' ∧ GOK G' ∧ IAc A' ∧ SN G G' ∧ gbr G' = gbr G ∧ ∀ i, i < gL G → (lieS G' i ↔ lieS G i ∧ i ≠ l) := by
  have hb := hG.1
  have hv := hG.2.1 l hl
  have q : (0 : Int) ≤ (l : Int) ∧ (l : Int) < (gL G : Nat) := ⟨by omega, by omega⟩
  obtain ⟨B, hB, hBA, E, hE, hEA⟩ := act_c hA hN hG
  unfold fX_lift
  simp only [kf0, lt_e]
  rw [N_hasLine hN hG (by omega), bds, if_pos q, if_neg (by decide : ¬ nm 1 = 0), rdn (by omega), (hN.2.2.2.2.2 l hl).2.2.2, nmi (by omega)]
  by_cases s : gh G l = -1
  · rw [if_pos s]
    refine ⟨N, Ac, G, by rw [s], hN, hG, hA, SN_refl G, rfl, fun i _ => ⟨fun h => ⟨h, fun e => h (e ▸ s)⟩, fun h => h.1⟩⟩
  · rw [if_neg s, hB, bds, rdn (by omega), ixn (by omega), hE, bds, (hN.2.2.2.2.2 l hl).2.2.2]
    refine ⟨_, E, sh_ G (up (gh G) l (-1)), rfl, RN_put hN, ?_, hEA, ⟨rfl, rfl, rfl, rfl, rfl⟩, rfl, fun i _ => ?_⟩
    · refine GOK_less hG (fun i _ => ?_)
      unfold up; split
      · exact Or.inl rfl
      · exact Or.inr rfl
    · show up (gh G) l (-1) i ≠ -1 ↔ gh G i ≠ -1 ∧ i ≠ l
      by_cases e : i = l
      · subst e; rw [up_e]; exact ⟨fun h => absurd rfl h, fun h => absurd rfl h.2⟩
      · rw [up_n _ _ e]; exact ⟨fun h => ⟨h, e⟩, fun h => h.1⟩
theorem X_put (hN : RN N G) (hG : GOK G) (hA : IAc Ac) (Ch : ZB) {l f : Nat} (hl : l < gL G) (hf : f < gk G) : ∃ N' A' w G', fX_put N Ac Ch (l : Int) (f : Int) = some (gwhy G l (f : Int), N', A', (Ch.1, ua Ch.2 1 w)) ∧ RN N' G' ∧ GOK G' ∧ IAc A' ∧ SN G G' ∧ gbr G' = gbr G ∧ ∀ i, i < gL G → (lieS G' i ↔ lieS G i ∨ (i = l ∧ gwhy G l (f : Int) = 0)) := by
  have hb := hG.1
  have q : (0 : Int) ≤ (l : Int) ∧ (l : Int) < (gL G : Nat) := ⟨by omega, by omega⟩
  have qf : (0 : Int) ≤ (f : Int) ∧ (f : Int) < (gk G : Nat) := ⟨by omega, by omega⟩
  obtain ⟨B, hB, hBA, E, hE, hEA⟩ := act_c hA hN hG
  obtain ⟨w, hw⟩ := X_whyNotPut hN hG hl qf.1 (by omega) Ch
  have hwr := gwhy_r G l (f : Int)
  unfold fX_put
  simp only [kf0, kf2, lt_e]
  rw [N_hasLine hN hG (by omega), N_hasForest hN hG (by omega), bds, bds, if_pos q, if_neg (by decide : ¬ nm 1 = 0), if_pos qf, if_neg (by decide : ¬ nm 1 = 0), hw, bds, nmi (show -2147483648 ≤ gwhy G l (f : Int) ∧ gwhy G l (f : Int) < 2147483648 by omega)]
  by_cases s : gwhy G l (f : Int) = 0
  · rw [if_pos s, hB, bds, ixn (by omega), hE, bds, Int.toNat_natCast]
    have h0 := (gwhy_0 hG hl qf.1).mp s
    refine ⟨_, E, w, sh_ G (up (gh G) l (f : Int)), rfl, RN_put hN, put_ok hG hl qf.1 qf.2 h0, hEA, ⟨rfl, rfl, rfl, rfl, rfl⟩, rfl, fun i _ => ?_⟩
    show up (gh G) l (f : Int) i ≠ -1 ↔ gh G i ≠ -1 ∨ (i = l ∧ gwhy G l (f : Int) = 0)
    by_cases e : i = l
    · subst e; rw [up_e]; exact ⟨fun _ => Or.inr ⟨rfl, s⟩, fun _ => by omega⟩
    · rw [up_n _ _ e]; exact ⟨fun h => Or.inl h, fun h => h.elim id (fun z => absurd z.1 e)⟩
  · rw [if_neg s]
    exact ⟨N, Ac, w, G, rfl, hN, hG, hA, SN_refl G, rfl, fun i _ => ⟨fun h => Or.inl h, fun h => h.elim id (fun z => absurd z.2 s)⟩⟩
theorem X_breaks (hN : RN N G) (hG : GOK G) (hA : IAc Ac) {l : Nat} (hl : l < gL G) : ∃ N' A' G', fX_breaks N Ac (l : Int) = some ((if dc (gbr G l) then 1 else 0), N', A') ∧ RN N' G' ∧ GOK G' ∧ IAc A' ∧ SN G G' ∧ gbr G' l ∧ ∀ i, i < gL G → (lieS G' i ↔ lieS G i ∧ i ≠ l) := by
  have hb := hG.1
  have hv := hG.2.1 l hl
  have q : (0 : Int) ≤ (l : Int) ∧ (l : Int) < (gL G : Nat) := ⟨by omega, by omega⟩
  obtain ⟨B, hB, hBA, E, hE, hEA⟩ := act_c hA hN hG
  unfold fX_breaks
  rw [N_hasLine hN hG (by omega), bds, if_pos q, if_neg (by decide : ¬ nm 1 = 0), N_isSound hN (by omega), bds]
  by_cases s : gbr G l
  · rw [dc_t.mpr s, if_pos (by decide)]
    refine ⟨N, Ac, G, rfl, hN, hG, hA, SN_refl G, s, fun i _ => ⟨fun h => ⟨h, fun e => h (e ▸ hv.2.2.2.2.2.2.2 s)⟩, fun h => h.1⟩⟩
  · obtain ⟨N', n1, n2⟩ := RN_break hN hG hl
    rw [dc_f.mpr s, if_neg (by decide), hB, bds, n1, bds, hE, bds]
    refine ⟨N', E, _, rfl, n2, flip_ok hG hl True, hEA, ⟨rfl, rfl, rfl, rfl, rfl⟩, ?_, fun i _ => ?_⟩
    · show upp (gbr G) l True l; rw [upp_e]; trivial
    · show up (gh G) l (-1) i ≠ -1 ↔ gh G i ≠ -1 ∧ i ≠ l
      by_cases e : i = l
      · subst e; rw [up_e]; exact ⟨fun h => absurd rfl h, fun h => absurd rfl h.2⟩
      · rw [up_n _ _ e]; exact ⟨fun h => ⟨h, e⟩, fun h => h.1⟩
theorem X_mend (hN : RN N G) (hG : GOK G) (hA : IAc Ac) {l : Nat} (hl : l < gL G) : ∃ N' A' G', fX_mend N Ac (l : Int) = some ((if dc (gbr G l) then 0 else 1), N', A') ∧ RN N' G' ∧ GOK G' ∧ IAc A' ∧ SN G G' ∧ ¬ gbr G' l ∧ ∀ i, i < gL G → (lieS G' i ↔ lieS G i) := by
  have hb := hG.1
  have hv := hG.2.1 l hl
  have q : (0 : Int) ≤ (l : Int) ∧ (l : Int) < (gL G : Nat) := ⟨by omega, by omega⟩
  obtain ⟨B, hB, hBA, E, hE, hEA⟩ := act_c hA hN hG
  unfold fX_mend
  rw [N_hasLine hN hG (by omega), bds, if_pos q, if_neg (by decide : ¬ nm 1 = 0), N_isSound hN (by omega), bds]
  by_cases s : gbr G l
  · obtain ⟨N', n1, n2⟩ := RN_mend hN hG hl s
    have h1 := hv.2.2.2.2.2.2.2 s
    rw [dc_t.mpr s, if_pos (by decide), hB, bds, n1, bds, hE, bds]
    refine ⟨N', E, _, rfl, n2, flip_ok hG hl False, hEA, ⟨rfl, rfl, rfl, rfl, rfl⟩, ?_, fun i _ => ?_⟩
    · show ¬ upp (gbr G) l False l; rw [upp_e]; exact id
    · show up (gh G) l (-1) i ≠ -1 ↔ gh G i ≠ -1
      by_cases e : i = l
      · subst e; rw [up_e, h1]
      · rw [up_n _ _ e]
  · rw [dc_f.mpr s, if_neg (by decide)]
    exact ⟨N, Ac, G, rfl, hN, hG, hA, SN_refl G, s, fun i _ => Iff.rfl⟩
/-- a set of lines with one taken out, one put in -/
theorem lie_out {n l : Nat} {p p' : Nat → Prop} (hl : l < n) (h31 : n ≤ 30) (h : ∀ i, i < n → (p' i ↔ p i ∧ i ≠ l)) : ((bs n p' : Nat) : Int) = zand ((bs n p : Nat) : Int) (zxor (zshl 1 (l : Int)) (-1)) := by
  rw [zshln (by omega), zcompn (bs_lt31 (by omega)) (p2_lt31 (by omega)), bs_one hl, bs_ndf, bs_ext h]
theorem lie_in {n l : Nat} {p p' : Nat → Prop} (hl : l < n) (h31 : n ≤ 30) (h : ∀ i, i < n → (p' i ↔ p i ∨ i = l)) : ((bs n p' : Nat) : Int) = zor ((bs n p : Nat) : Int) (zshl 1 (l : Int)) := by
  rw [zshln (by omega), zorn (bs_lt31 (by omega)) (p2_lt31 (by omega)), bs_one hl, bs_or, bs_ext h]
end
