-- needs: 07zzz04.inner
/-! fewest, even, crowded, thick -/
def mxs (f : Nat → Nat) : Nat → Nat
  | 0 => 0
  | m + 1 => if mxs f m < f m then f m else mxs f m
theorem mxs_le {f : Nat → Nat} {k : Nat} (m : Nat) : mxs f m ≤ k ↔ ∀ s, s < m → f s ≤ k := by
  induction m with
  | zero => exact ⟨fun _ s h => absurd h (Nat.not_lt_zero s), fun _ => Nat.zero_le k⟩
  | succ m ih =>
    have e : mxs f (m+1) = if mxs f m < f m then f m else mxs f m := rfl
    rw [e]
    constructor
    · intro h s hs
      by_cases z : mxs f m < f m
      · rw [if_pos z] at h
        by_cases w : s = m
        · subst w; exact h
        · exact ih.mp (by omega) s (by omega)
      · rw [if_neg z] at h
        by_cases w : s = m
        · subst w; omega
        · exact ih.mp h s (by omega)
    · intro h
      have h1 := ih.mpr (fun s hs => h s (by omega))
      have h2 := h m (by omega)
      split <;> omega
theorem mxs_t {f : Nat → Nat} {m : Nat} (h : mxs f m < f m) : mxs f (m+1) = f m := by show (if mxs f m < f m then f m else mxs f m) = _; rw [if_pos h]
theorem mxs_f {f : Nat → Nat} {m : Nat} (h : ¬ mxs f m < f m) : mxs f (m+1) = mxs f m := by show (if mxs f m < f m then f m else mxs f m) = _; rw [if_neg h]
noncomputable def shv (G : GV) (less s : Nat) : Nat := if less < ppc s then (inn G (snd_ G) s + (ppc s - less) - 1) / (ppc s - less) else 0
section
variable {N M PS Ly : ZB} {G : GV} {as : Nat → Nat}
theorem inn_small (hG : GOK G) {T : Nat → Prop} {s : Nat} (hs : s < 2 ^ gn G) (h : ppc s < 2) : inn G T s = 0 := by
  have hb := hG.1
  apply cnt_zero
  rintro l hl ⟨_, h1, h2⟩
  have := ppc_two (n := gn G) (by omega) hs h1 h2 (hG.2.1 l hl).2.2.1
  omega
theorem shv_le (G : GV) (hG : GOK G) (less s : Nat) : shv G less s ≤ 24 := by
  have hb := hG.1
  unfold shv
  split
  · rename_i h
    have hi := inn_le G (snd_ G) s
    have : (inn G (snd_ G) s + (ppc s - less) - 1) / (ppc s - less) < 25 := by
      rw [Nat.div_lt_iff_lt_mul (by omega)]
      have : 25 * 1 ≤ 25 * (ppc s - less) := Nat.mul_le_mul_left 25 (by omega)
      omega
    omega
  · omega
theorem mxs_shv (hG : GOK G) (less m : Nat) : mxs (shv G less) m ≤ 24 := (mxs_le m).mpr (fun s _ => shv_le G hG less s)
theorem ppc_012 : ppc 0 = 0 ∧ ppc 1 = 1 ∧ ppc 2 = 1 := by decide
theorem shv_small (hG : GOK G) {less s : Nat} (hs : s < 3) (hn : s < 2 ^ gn G) : shv G less s = 0 := by
  obtain ⟨p0, p1, p2⟩ := ppc_012
  have hp : ppc s < 2 := by
    rcases (show s = 0 ∨ s = 1 ∨ s = 2 by omega) with h | h | h <;> subst h <;> omega
  unfold shv
  rw [inn_small hG hn hp]
  split
  · rw [Nat.zero_add]
    exact Nat.div_eq_of_lt (by omega)
  · rfl
theorem mxs_zero {f : Nat → Nat} {m : Nat} (h : ∀ s, s < m → f s = 0) : mxs f m = 0 := by
  have := (mxs_le (f := f) (k := 0) m).mpr (fun s hs => by rw [h s hs]; omega)
  omega
theorem PS_share (hN : RN N G) (hG : GOK G) (hP : IPS PS) {less : Nat} (hl : less ≤ 1) : ∃ w, fPS_greatestShare N PS (less : Int) = some (((mxs (shv G less) (2 ^ gn G) : Nat) : Int), (PS.1, ua PS.2 1 w)) := by
  have hb := hG.1
  have hp := Nat.two_pow_pos (gn G)
  have h10 : 2 ^ gn G ≤ 1024 := Nat.pow_le_pow_right (n := 2) (by omega) hb.1
  obtain ⟨w, h1, h2⟩ := PS_inner0 hN hG hP
  have main : wp (fPS_greatestShare N PS (less : Int)) (fun r => ∃ w, r = (((mxs (shv G less) (2 ^ gn G) : Nat) : Int), ((PS.1, ua PS.2 1 w) : ZB))) := by
    unfold fPS_greatestShare
    rw [h1, bds]
    refine lop2_w (fun v2 v3 => ∃ s : Nat, 3 ≤ s ∧ v3 = (s : Int) ∧ s ≤ 1030 ∧ v2 = ((mxs (shv G less) (if s < 2 ^ gn G then s else 2 ^ gn G) : Nat) : Int)) (fun _ v3 => 1030 - v3.toNat) ?_ FU _ _ ⟨3, by omega, rfl, by omega, ?_⟩ (by show 1030 - _ < 100000; omega)
    · intro rec v2 v3 hI hrec
      obtain ⟨s, hs3, rfl, hs, rfl⟩ := hI
      rw [N_allPoints hN hG, bds, nmn (by omega), nmn (by omega)]
      by_cases hsn : s < 2 ^ gn G
      · have hs10 := p2_10 hG hsn
        have hpl := ppc_le (n := gn G) (by omega) hsn
        have hi := inn_le G (snd_ G) s
        have hmx := mxs_shv hG less s
        rw [if_neg (by omega), if_pos hsn, bitCount_p hs10, bds, lt_e, nmi (show -2147483648 ≤ ((ppc s : Nat) : Int) - (less : Int) ∧ ((ppc s : Nat) : Int) - (less : Int) < 2147483648 by omega)]
        simp only [kf1]
        have hnx : ∀ x, mxs (shv G less) (if s + 1 < 2 ^ gn G then s + 1 else 2 ^ gn G) = x ↔ mxs (shv G less) (s + 1) = x := by
          intro x
          by_cases z : s + 1 < 2 ^ gn G
          · rw [if_pos z]
          · rw [if_neg z, show s + 1 = 2 ^ gn G by omega]
        by_cases hlp : less < ppc s
        · have e1 : ((ppc s : Nat) : Int) - (less : Int) = ((ppc s - less : Nat) : Int) := by omega
          have e2 : ((inn G (snd_ G) s : Nat) : Int) + ((ppc s - less : Nat) : Int) - 1 = ((inn G (snd_ G) s + (ppc s - less) - 1 : Nat) : Int) := by omega
          have hsv : shv G less s = (inn G (snd_ G) s + (ppc s - less) - 1) / (ppc s - less) := by unfold shv; rw [if_pos hlp]
          have hsl := shv_le G hG less s
          have e5 : ua PS.2 1 w 1 s = ((inn G (snd_ G) s : Nat) : Int) := h2 s hsn
          rw [if_pos (by omega), rdn (by omega), e5, e1, nzi (by rw [nmn (by omega)]; omega), e2, zdivn (by omega) (by omega) (by omega), ← hsv, lt_e]
          refine hrec _ _ ⟨s+1, by omega, by omega, by omega, ?_⟩ (by omega)
          unfold zmax
          rw [nmn (by omega), nmn (by omega)]
          by_cases z : mxs (shv G less) s < shv G less s
          · rw [if_pos (by omega), (hnx _).mpr (mxs_t z)]
          · rw [if_neg (by omega), (hnx _).mpr (mxs_f z)]
        · have hsv : shv G less s = 0 := by unfold shv; rw [if_neg hlp]
          rw [if_neg (by omega)]
          refine hrec _ _ ⟨s+1, by omega, by omega, by omega, ?_⟩ (by omega)
          rw [(hnx _).mpr (mxs_f (by omega))]
      · rw [if_pos (by omega), if_neg hsn]
        exact ⟨_, rfl, w, rfl⟩
    · have : mxs (shv G less) (if 3 < 2 ^ gn G then 3 else 2 ^ gn G) = 0 := by
        apply mxs_zero; intro s hs
        apply shv_small hG
        · split at hs <;> omega
        · split at hs <;> omega
      rw [this]; rfl
  obtain ⟨r, e1, w, e2⟩ := main
  exact ⟨w, by rw [e1, e2]⟩
theorem ceil_le {a b k : Nat} (hb : 0 < b) : (a + b - 1) / b ≤ k ↔ a ≤ k * b := by
  have : (a + b - 1) / b < k + 1 ↔ a + b - 1 < (k + 1) * b := Nat.div_lt_iff_lt_mul hb
  rw [Nat.add_mul, Nat.one_mul] at this
  omega
theorem M_canLie (hM : RW (M.2 12) G) (hG : GOK G) {k : Nat} (hk : k ≤ 100) : fM_canLie M ((bs (gL G) (snd_ G) : Nat) : Int) (k : Int) = some (if dc (mxs (shv G 1) (2 ^ gn G) ≤ k) then 1 else 0) := by
  have hb := hG.1
  have hp := Nat.two_pow_pos (gn G)
  have h10 : 2 ^ gn G ≤ 1024 := Nat.pow_le_pow_right (n := 2) (by omega) hb.1
  have hiff : mxs (shv G 1) (2 ^ gn G) ≤ k ↔ ∀ s, 1 ≤ s → s < 2 ^ gn G → inn G (snd_ G) s ≤ k * (ppc s - 1) := by
    rw [mxs_le]
    constructor
    · intro h s hs1 hs
      by_cases z : 1 < ppc s
      · have := h s hs
        unfold shv at this
        rw [if_pos z] at this
        exact (ceil_le (by omega)).mp this
      · rw [inn_small hG hs (by omega)]; omega
    · intro h s hs
      unfold shv
      split
      · rename_i z
        refine (ceil_le (by omega)).mpr (h s ?_ hs)
        rcases Nat.eq_zero_or_pos s with w | w
        · subst w; have := ppc_012.1; omega
        · exact w
      · omega
  have main : wp (fM_canLie M ((bs (gL G) (snd_ G) : Nat) : Int) (k : Int)) (fun r => r = if dc (mxs (shv G 1) (2 ^ gn G) ≤ k) then 1 else 0) := by
    unfold fM_canLie
    refine lop1_w (fun v3 => ∃ s : Nat, 1 ≤ s ∧ v3 = (s : Int) ∧ s ≤ 2 ^ gn G ∧ ∀ t, 1 ≤ t → t < s → inn G (snd_ G) t ≤ k * (ppc t - 1)) (fun v3 => 2 ^ gn G - v3.toNat) ?_ FU _ ⟨1, by omega, rfl, by omega, fun t h1 h2 => by omega⟩ (by show 2 ^ gn G - _ < 100000; omega)
    intro rec v3 hI hrec
    obtain ⟨s, hs1, rfl, hs, hno⟩ := hI
    rw [M_points hM, bds, zshln (by omega), nmn (by omega)]
    by_cases hsn : s < 2 ^ gn G
    · have hs10 := p2_10 hG hsn
      have hpl := ppc_le (n := gn G) (by omega) hsn
      have hpp := ppc_pos (n := gn G) (by omega) hsn (by omega)
      have hi := inn_le G (snd_ G) s
      have e : (k : Int) * (((ppc s : Nat) : Int) - 1) = ((k * (ppc s - 1) : Nat) : Int) := by
        have hpe : ((ppc s : Nat) : Int) - 1 = ((ppc s - 1 : Nat) : Int) := by omega
        rw [hpe, ← Int.natCast_mul]
      have hm : k * (ppc s - 1) ≤ 100 * 10 := Nat.mul_le_mul hk (by omega)
      rw [if_pos (by omega), M_inner hM hG hsn, bds, bits_p hs10, bds, e, nmn (by omega), nmn (by omega)]
      by_cases z : inn G (snd_ G) s ≤ k * (ppc s - 1)
      · rw [if_neg (by omega)]
        refine hrec _ ⟨s+1, by omega, by omega, by omega, fun t h1 h2 => ?_⟩ (by omega)
        by_cases w : t = s
        · subst w; exact z
        · exact hno t h1 (by omega)
      · rw [if_pos (by omega)]
        exact ⟨_, rfl, by rw [idf (fun h => z (hiff.mp h s hs1 hsn))]⟩
    · rw [if_neg (by omega)]
      exact ⟨_, rfl, by rw [idt (hiff.mpr (fun t h1 h2 => hno t h1 (by omega)))]⟩
  obtain ⟨r, h1, h2⟩ := main
  rw [h1, h2]
end
theorem sim27 : Sim27 INV := by
  intro X N T Rd Fr Ac Ch PS Ly Pa OT Ea Ga c0 c1 M hI
  have keepw : ∀ w, INV X N T Rd Fr Ac Ch (PS.1, ua PS.2 1 w) Ly Pa OT Ea Ga c0 c1 (up M.1 0 0, M.2) := fun _ => hI
  obtain ⟨⟨G, hG, hN, hM⟩, hT, hR, hA, hC, hGa, hi0, hi1, hP⟩ := hI
  have hb := hG.1
  have hM1 : RW (((up M.1 0 0, M.2) : ZB).2 12) G := hM
  obtain ⟨w, h1⟩ := PS_share hN hG hP (less := 1) (by omega)
  have hv := mxs_shv hG 1 (2 ^ gn G)
  have hsn : (bs (gL G) fun l => ¬ gbr G l) = bs (gL G) (snd_ G) := rfl
  unfold fX_fewest fPS_fewestForests fM_fewest
  have h1' : fPS_greatestShare N PS 1 = some (((mxs (shv G 1) (2 ^ gn G) : Nat) : Int), (PS.1, ua PS.2 1 w)) := h1
  rw [h1', bds, bds, lt_e]
  refine ⟨_, (((mxs (shv G 1) (2 ^ gn G) : Nat) : Int), (up M.1 0 0, M.2)), rfl, ?_, rfl, keepw w⟩
  refine lop1_s (mxs (shv G 1) (2 ^ gn G)) (fun k => (k : Int)) ?_ ?_ (by omega) rfl
  · intro rec k hk hr
    rw [M_sound hM1 hG, bds, hsn, M_canLie hM1 hG (by omega), bds, i10f (by omega)]
    exact hr
  · intro rec
    rw [M_sound hM1 hG, bds, hsn, M_canLie hM1 hG (by omega), bds, i10t (by omega)]
theorem sim32 : Sim32 INV := by
  intro X N T Rd Fr Ac Ch PS Ly Pa OT Ea Ga c0 c1 M hI
  have keepw : ∀ w, INV X N T Rd Fr Ac Ch (PS.1, ua PS.2 1 w) Ly Pa OT Ea Ga c0 c1 (up M.1 0 0, M.2) := fun _ => hI
  obtain ⟨⟨G, hG, hN, hM⟩, hT, hR, hA, hC, hGa, hi0, hi1, hP⟩ := hI
  have hb := hG.1
  have hp := Nat.two_pow_pos (gn G)
  have h10 : 2 ^ gn G ≤ 1024 := Nat.pow_le_pow_right (n := 2) (by omega) hb.1
  have hM1 : RW (((up M.1 0 0, M.2) : ZB).2 12) G := hM
  obtain ⟨w, h1⟩ := PS_share hN hG hP (less := 0) (by omega)
  have hsn : (bs (gL G) fun l => ¬ gbr G l) = bs (gL G) (snd_ G) := rfl
  unfold fX_even fPS_leastLoad fM_even
  have h1' : fPS_greatestShare N PS 0 = some (((mxs (shv G 0) (2 ^ gn G) : Nat) : Int), (PS.1, ua PS.2 1 w)) := h1
  rw [h1', bds, bds, lt_e]
  refine ⟨_, (((mxs (shv G 0) (2 ^ gn G) : Nat) : Int), (up M.1 0 0, M.2)), rfl, ?_, rfl, keepw w⟩
  refine lop2_s (2 ^ gn G - 1) (fun k => ((mxs (shv G 0) (k + 1) : Nat) : Int)) (fun k => ((k + 1 : Nat) : Int)) ?_ ?_ (by omega) ?_ rfl
  · intro rec k hk hr
    have hsn2 : k + 1 < 2 ^ gn G := by omega
    have hs10 := p2_10 hG hsn2
    have hpl := ppc_le (n := gn G) (by omega) hsn2
    have hpp := ppc_pos (n := gn G) (by omega) hsn2 (by omega)
    have hi := inn_le G (snd_ G) (k+1)
    have hmx := mxs_shv hG 0 (k+1)
    have hsl := shv_le G hG 0 (k+1)
    have hsv : shv G 0 (k+1) = (inn G (snd_ G) (k+1) + ppc (k+1) - 1) / ppc (k+1) := by unfold shv; rw [if_pos (by omega)]; rfl
    have e2 : ((inn G (snd_ G) (k+1) : Nat) : Int) + ((ppc (k+1) : Nat) : Int) - 1 = ((inn G (snd_ G) (k+1) + ppc (k+1) - 1 : Nat) : Int) := by omega
    simp only [kf1]
    rw [M_points hM1, bds, zshln (by omega), nmn (by omega), if_pos (by omega), M_sound hM1 hG, bds, hsn, M_inner hM1 hG hsn2, bds, bits_p hs10, bds, bds, nzi (by rw [nmn (by omega)]; omega), e2, zdivn (by omega) (by omega) (by omega), ← hsv, lt_e, nmn (by omega), nmn (by omega)]
    by_cases z : mxs (shv G 0) (k+1) < shv G 0 (k+1)
    · rw [if_pos (by omega)]
      rw [mxs_t z] at hr; exact hr
    · rw [if_neg (by omega)]
      rw [mxs_f z] at hr; exact hr
  · intro rec
    rw [M_points hM1, bds, zshln (by omega), nmn (by omega), if_neg (by omega), show 2 ^ gn G - 1 + 1 = 2 ^ gn G by omega]
  · have : mxs (shv G 0) (0 + 1) = 0 := mxs_zero (fun s hs => shv_small hG (by omega) (by omega))
    rw [this]; rfl
/-! crowded -/
noncomputable def crD (G : GV) (k s : Nat) : Int := ((inn G (snd_ G) s : Nat) : Int) - (k : Int) * (((ppc s : Nat) : Int) - 1)
noncomputable def crf (G : GV) (k : Nat) : Nat → Nat × Int
  | 0 => (0, 0)
  | m + 1 => if dc (2 ≤ ppc m ∧ ((crf G k m).2 < crD G k m ∨ (crD G k m = (crf G k m).2 ∧ (crf G k m).1 ≠ 0 ∧ ppc m < ppc (crf G k m).1))) then (m, crD G k m) else crf G k m
theorem crf_t {G : GV} {k m : Nat} (h : 2 ≤ ppc m ∧ ((crf G k m).2 < crD G k m ∨ (crD G k m = (crf G k m).2 ∧ (crf G k m).1 ≠ 0 ∧ ppc m < ppc (crf G k m).1))) : crf G k (m+1) = (m, crD G k m) := by
  show (if dc _ then _ else _) = _
  rw [dc_t.mpr h, if_pos rfl]
theorem crf_f {G : GV} {k m : Nat} (h : ¬ (2 ≤ ppc m ∧ ((crf G k m).2 < crD G k m ∨ (crD G k m = (crf G k m).2 ∧ (crf G k m).1 ≠ 0 ∧ ppc m < ppc (crf G k m).1)))) : crf G k (m+1) = crf G k m := by
  show (if dc _ then _ else _) = _
  rw [dc_f.mpr h, if_neg (by decide)]
section
variable {N M PS Ly : ZB} {G : GV} {as : Nat → Nat}
theorem crD_r (hG : GOK G) {k s : Nat} (hk : k ≤ 24) (hs : s < 2 ^ gn G) (h1 : 1 ≤ ppc s) : -1000 ≤ crD G k s ∧ crD G k s ≤ 1000 := by
  have hb := hG.1
  have hi := inn_le G (snd_ G) s
  have hpl := ppc_le (n := gn G) (by omega) hs
  have e : (k : Int) * (((ppc s : Nat) : Int) - 1) = ((k * (ppc s - 1) : Nat) : Int) := by
    have hpe : ((ppc s : Nat) : Int) - 1 = ((ppc s - 1 : Nat) : Int) := by omega
    rw [hpe, ← Int.natCast_mul]
  have hm : k * (ppc s - 1) ≤ 24 * 9 := Nat.mul_le_mul hk (by omega)
  unfold crD
  omega
theorem crf_r (hG : GOK G) {k : Nat} (hk : k ≤ 24) (m : Nat) : m ≤ 2 ^ gn G → ((crf G k m).1 = 0 ∧ (crf G k m).2 = 0) ∨ ((crf G k m).1 ≠ 0 ∧ (crf G k m).1 < m ∧ 2 ≤ ppc (crf G k m).1 ∧ -1000 ≤ (crf G k m).2 ∧ (crf G k m).2 ≤ 1000) := by
  induction m with
  | zero => intro _; exact Or.inl ⟨rfl, rfl⟩
  | succ m ih =>
    intro hm
    by_cases h : 2 ≤ ppc m ∧ ((crf G k m).2 < crD G k m ∨ (crD G k m = (crf G k m).2 ∧ (crf G k m).1 ≠ 0 ∧ ppc m < ppc (crf G k m).1))
    · rw [crf_t h]
      have := crD_r hG hk (show m < 2 ^ gn G by omega) (by omega)
      refine Or.inr ⟨?_, by show m < m + 1; omega, h.1, this.1, this.2⟩
      intro e
      have e' : m = 0 := e
      have h0 := ppc_012.1
      rw [e'] at h; omega
    · rw [crf_f h]
      rcases ih (by omega) with z | z
      · exact Or.inl z
      · exact Or.inr ⟨z.1, by omega, z.2.2⟩
theorem crf_small {k s : Nat} (hs : s ≤ 3) : crf G k s = (0, 0) := by
  obtain ⟨p0, p1, p2⟩ := ppc_012
  have h0 : crf G k 0 = (0, 0) := rfl
  have h1 : crf G k 1 = (0, 0) := by rw [crf_f (fun h => by omega)]; exact h0
  have h2 : crf G k 2 = (0, 0) := by rw [crf_f (fun h => by omega)]; exact h1
  have h3 : crf G k 3 = (0, 0) := by rw [crf_f (fun h => by omega)]; exact h2
  rcases (show s = 0 ∨ s = 1 ∨ s = 2 ∨ s = 3 by omega) with h | h | h | h <;> subst h <;> assumption
theorem PS_crowded (hN : RN N G) (hG : GOK G) (hP : IPS PS) {k : Nat} (hk : k ≤ 24) : ∃ w, fPS_findCrowded N PS (k : Int) = some ((((crf G k (2 ^ gn G)).1 : Nat) : Int), (PS.1, ua PS.2 1 w)) := by
  have hb := hG.1
  have hp := Nat.two_pow_pos (gn G)
  have h10 : 2 ^ gn G ≤ 1024 := Nat.pow_le_pow_right (n := 2) (by omega) hb.1
  obtain ⟨w, h1, h2⟩ := PS_inner0 hN hG hP
  have main : wp (fPS_findCrowded N PS (k : Int)) (fun r => ∃ w, r = ((((crf G k (2 ^ gn G)).1 : Nat) : Int), ((PS.1, ua PS.2 1 w) : ZB))) := by
    unfold fPS_findCrowded
    rw [h1, bds]
    refine lop4_w (fun v2 v3 v4 v5 => ∃ s : Nat, 3 ≤ s ∧ v5 = (s : Int) ∧ s ≤ 1030 ∧ v2 = (((crf G k (if s < 2 ^ gn G then s else 2 ^ gn G)).1 : Nat) : Int) ∧ v3 = (crf G k (if s < 2 ^ gn G then s else 2 ^ gn G)).2 ∧ v4 = (if (crf G k (if s < 2 ^ gn G then s else 2 ^ gn G)).1 = 0 then 0 else ((ppc (crf G k (if s < 2 ^ gn G then s else 2 ^ gn G)).1 : Nat) : Int))) (fun _ _ _ v5 => 1030 - v5.toNat) ?_ FU _ _ _ _ ⟨3, by omega, rfl, by omega, ?_⟩ (by show 1030 - _ < 100000; omega)
    · intro rec v2 v3 v4 v5 hI hrec
      obtain ⟨s, hs3, rfl, hs, rfl, rfl, rfl⟩ := hI
      rw [N_allPoints hN hG, bds, nmn (by omega), nmn (by omega)]
      by_cases hsn : s < 2 ^ gn G
      · have hs10 := p2_10 hG hsn
        have hpl := ppc_le (n := gn G) (by omega) hsn
        have hpp := ppc_pos (n := gn G) (by omega) hsn (by omega)
        have hD := crD_r hG hk hsn hpp
        have hr := crf_r hG hk s (by omega)
        rw [if_neg (by omega), if_pos hsn, bitCount_p hs10, bds, nmn (by omega)]
        simp only [kf0, kf3]
        have goOn : ∀ c : Nat × Int, crf G k (s+1) = c → ∃ r, rec ((c.1 : Nat) : Int) c.2 (if c.1 = 0 then 0 else ((ppc c.1 : Nat) : Int)) ((s : Int) + 1) = some r ∧ ∃ w, r = ((((crf G k (2 ^ gn G)).1 : Nat) : Int), ((PS.1, ua PS.2 1 w) : ZB)) := by
          intro c hc
          have hnx : crf G k (if s + 1 < 2 ^ gn G then s + 1 else 2 ^ gn G) = c := by
            by_cases z : s + 1 < 2 ^ gn G
            · rw [if_pos z]; exact hc
            · rw [if_neg z, show 2 ^ gn G = s + 1 by omega]; exact hc
          exact hrec _ _ _ _ ⟨s+1, by omega, by omega, by omega, by rw [hnx], by rw [hnx], by rw [hnx]⟩ (by omega)
        have e5 : ua PS.2 1 w 1 s = ((inn G (snd_ G) s : Nat) : Int) := h2 s hsn
        have eD : ((inn G (snd_ G) s : Nat) : Int) - (k : Int) * (((ppc s : Nat) : Int) - 1) = crD G k s := rfl
        by_cases hp2 : ppc s < 2
        · rw [if_pos (by omega)]
          exact goOn _ (crf_f (fun h => by omega))
        · rw [if_neg (by omega), rdn (by omega), e5, eD, lt_e, nmi (show -2147483648 ≤ crD G k s ∧ crD G k s < 2147483648 by omega), nmi (show -2147483648 ≤ (crf G k s).2 ∧ (crf G k s).2 < 2147483648 by rcases hr with z | z <;> omega)]
          have hnew : ∀ (h : (crf G k s).2 < crD G k s ∨ (crD G k s = (crf G k s).2 ∧ (crf G k s).1 ≠ 0 ∧ ppc s < ppc (crf G k s).1)), ∃ r, rec (s : Int) (crD G k s) ((ppc s : Nat) : Int) ((s : Int) + 1) = some r ∧ ∃ w, r = ((((crf G k (2 ^ gn G)).1 : Nat) : Int), ((PS.1, ua PS.2 1 w) : ZB)) := by
            intro h
            have := goOn _ (crf_t ⟨by omega, h⟩)
            have e : (if (s, crD G k s).1 = 0 then (0 : Int) else ((ppc (s, crD G k s).1 : Nat) : Int)) = ((ppc s : Nat) : Int) := if_neg (by show ¬ s = 0; omega)
            rw [e] at this; exact this
          by_cases z1 : (crf G k s).2 < crD G k s
          · rw [if_pos z1]; exact hnew (Or.inl z1)
          · rw [if_neg z1]
            by_cases z2 : crD G k s = (crf G k s).2
            · rw [if_pos z2]
              by_cases z3 : (crf G k s).1 = 0
              · rw [if_pos z3, nmi (show -2147483648 ≤ (0 : Int) ∧ (0 : Int) < 2147483648 by decide), if_neg (by omega)]
                have := goOn _ (crf_f (k := k) (m := s) (G := G) (fun h => by
                  rcases h.2 with w | w
                  · exact z1 w
                  · exact w.2.1 z3))
                rw [if_pos z3] at this; exact this
              · have hb1 : (crf G k s).1 < 2 ^ gn G := by rcases hr with z | z; exact absurd z.1 z3; omega
                have hpb := ppc_le (n := gn G) (by omega) hb1
                rw [if_neg z3, nmn (by omega)]
                by_cases z4 : ppc s < ppc (crf G k s).1
                · rw [if_pos (by omega)]; exact hnew (Or.inr ⟨z2, z3, z4⟩)
                · rw [if_neg (by omega)]
                  have := goOn _ (crf_f (k := k) (m := s) (G := G) (fun h => by
                    rcases h.2 with w | w
                    · exact z1 w
                    · exact z4 w.2.2))
                  rw [if_neg z3] at this; exact this
            · rw [if_neg z2]
              exact goOn _ (crf_f (fun h => by
                rcases h.2 with w | w
                · exact z1 w
                · exact z2 w.1))
      · rw [if_pos (by omega), if_neg hsn]
        exact ⟨_, rfl, w, rfl⟩
    · have : crf G k (if 3 < 2 ^ gn G then 3 else 2 ^ gn G) = (0, 0) := crf_small (by split <;> omega)
      rw [this]; exact ⟨rfl, rfl, rfl⟩
  obtain ⟨r, e1, w, e2⟩ := main
  exact ⟨w, by rw [e1, e2]⟩
end
theorem sim30 : Sim30 INV := by
  intro X N T Rd Fr Ac Ch PS Ly Pa OT Ea Ga c0 c1 M a1 hI hr1
  have keepw : ∀ w, INV X N T Rd Fr Ac Ch (PS.1, ua PS.2 1 w) Ly Pa OT Ea Ga c0 c1 (up M.1 0 0, M.2) := fun _ => hI
  have keep0 : INV X N T Rd Fr Ac Ch PS Ly Pa OT Ea Ga c0 c1 (up M.1 0 0, M.2) := hI
  obtain ⟨⟨G, hG, hN, hM⟩, hT, hR, hA, hC, hGa, hi0, hi1, hP⟩ := hI
  have hb := hG.1
  have hp := Nat.two_pow_pos (gn G)
  have h10 : 2 ^ gn G ≤ 1024 := Nat.pow_le_pow_right (n := 2) (by omega) hb.1
  have hM1 : RW (((up M.1 0 0, M.2) : ZB).2 12) G := hM
  have hsn : (bs (gL G) fun l => ¬ gbr G l) = bs (gL G) (snd_ G) := rfl
  unfold fX_crowded fM_crowded fM_isCount
  rw [lt_e, M_isIn hr1 (by omega) (by omega), bds, zob, bds]
  simp only [kf0, kf2]
  rw [nmi hr1]
  by_cases q : 0 ≤ a1 ∧ a1 ≤ 24
  · obtain ⟨k, rfl⟩ : ∃ k : Nat, a1 = k := ⟨a1.toNat, by omega⟩
    obtain ⟨w, h1⟩ := PS_crowded hN hG hP (k := k) (by omega)
    rw [if_neg (by omega : ¬ (k : Int) < 0), if_neg (by omega : ¬ 24 < (k : Int)), q10t q, h1, bds]
    refine ⟨_, ((((crf G k (2 ^ gn G)).1 : Nat) : Int), (up M.1 0 0, M.2)), rfl, ?_, rfl, keepw w⟩
    refine lop3_s (2 ^ gn G - 1) (fun j => (((crf G k (j + 1)).1 : Nat) : Int)) (fun j => (crf G k (j + 1)).2) (fun j => ((j + 1 : Nat) : Int)) ?_ ?_ (by omega) ?_ ?_ rfl
    · intro rec j hj hr
      have hs : j + 1 < 2 ^ gn G := by omega
      have hs10 := p2_10 hG hs
      have hpl := ppc_le (n := gn G) (by omega) hs
      have hpp := ppc_pos (n := gn G) (by omega) hs (by omega)
      have hD := crD_r hG (k := k) (by omega) hs hpp
      have hrr := crf_r hG (k := k) (by omega) (j+1) (by omega)
      have eD : ((inn G (snd_ G) (j+1) : Nat) : Int) - (k : Int) * (((ppc (j+1) : Nat) : Int) - 1) = crD G k (j+1) := rfl
      rw [M_points hM1, bds, zshln (by omega), nmn (by omega), if_pos (by omega), bits_p hs10, bds]
      rw [nmn (by omega)]
      by_cases hp2 : ppc (j+1) < 2
      · rw [if_pos (by omega)]
        rw [crf_f (fun h => by omega)] at hr
        exact hr
      · rw [if_neg (by omega), M_sound hM1 hG, bds, hsn, M_inner hM1 hG hs, bds, bds, eD, lt_e, nmi (show -2147483648 ≤ crD G k (j+1) ∧ crD G k (j+1) < 2147483648 by omega), nmi (show -2147483648 ≤ (crf G k (j+1)).2 ∧ (crf G k (j+1)).2 < 2147483648 by rcases hrr with z | z <;> omega)]
        by_cases z0 : crD G k (j+1) < (crf G k (j+1)).2
        · rw [if_pos z0]
          rw [crf_f (fun h => by rcases h.2 with w | w <;> omega)] at hr
          exact hr
        · rw [if_neg z0]
          by_cases z2 : crD G k (j+1) = (crf G k (j+1)).2
          · have hb1 : (crf G k (j+1)).1 < 2 ^ gn G := by rcases hrr with z | z <;> omega
            have hpb := ppc_le (n := gn G) (by omega) hb1
            rw [if_pos z2, nmn (by omega)]
            by_cases z3 : (crf G k (j+1)).1 = 0
            · rw [if_pos (by omega)]
              rw [crf_f (fun h => by rcases h.2 with w | w; omega; exact w.2.1 z3)] at hr
              exact hr
            · rw [if_neg (by omega), bds, bits_p (p2_10 hG hb1), bds, nmn (by omega), nmn (by omega)]
              by_cases z4 : ppc (j+1) < ppc (crf G k (j+1)).1
              · rw [if_pos (by omega)]
                rw [crf_t ⟨by omega, Or.inr ⟨z2, z3, z4⟩⟩] at hr
                exact hr
              · rw [if_neg (by omega)]
                rw [crf_f (fun h => by rcases h.2 with w | w; omega; exact z4 w.2.2)] at hr
                exact hr
          · rw [if_neg z2]
            rw [crf_t ⟨by omega, Or.inl (by omega)⟩] at hr
            exact hr
    · intro rec
      rw [M_points hM1, bds, zshln (by omega), nmn (by omega), if_neg (by omega), show 2 ^ gn G - 1 + 1 = 2 ^ gn G by omega]
    · rw [crf_small (by omega)]; rfl
    · rw [crf_small (by omega)]
  · rw [q10f q]
    refine ⟨(-1, PS), _, ?_, rfl, rfl, keep0⟩
    by_cases z : a1 < 0
    · rw [if_pos z]
    · rw [if_neg z, if_pos (by omega)]
