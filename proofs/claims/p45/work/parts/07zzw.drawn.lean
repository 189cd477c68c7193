-- needs: 07zzv.pack
/-! drawn -/
theorem zushr8 (x : Int) : ∃ u : Nat, u < 16777216 ∧ zushr x 8 = (u : Int) := by
  unfold zushr
  have e1 : ((zI 8).toUInt32 &&& Int32.toUInt32 31).toBitVec = BitVec.ofNat 32 8 := zI_and31 (y := 8) (by omega)
  have h1 : ((zI x).toUInt32 >>> ((zI 8).toUInt32 &&& Int32.toUInt32 31)).toBitVec = (zI x).toUInt32.toBitVec >>> 8 := by
    rw [UInt32.toBitVec_shiftRight, e1]
    have : (BitVec.ofNat 32 8) % 32 = BitVec.ofNat 32 8 := by decide +kernel
    rw [this, BitVec.ushiftRight_eq', BitVec.toNat_ofNat]
  have h2 : ((zI x).toUInt32.toBitVec >>> 8).toNat < 16777216 := by
    rw [BitVec.toNat_ushiftRight, Nat.shiftRight_eq_div_pow]
    have := (zI x).toUInt32.toBitVec.isLt
    omega
  refine ⟨_, h2, ?_⟩
  show ((zI x).toUInt32 >>> ((zI 8).toUInt32 &&& Int32.toUInt32 31)).toBitVec.toInt = _
  rw [h1, bv_toInt _ (by omega)]
theorem zdivn {a b : Nat} (ha : a < 2147483648) (hb : b < 2147483648) (h0 : 0 < b) : zdiv (a : Int) (b : Int) = ((a / b : Nat) : Int) := by
  unfold zdiv
  have ea : (zI (a : Int)).toInt = (a : Int) := nmn ha
  have eb : (zI (b : Int)).toInt = (b : Int) := nmn hb
  rw [Int32.toInt_div, ea, eb]
  have : (a : Int).tdiv (b : Int) = ((a / b : Nat) : Int) := by
    rw [Int.tdiv_eq_ediv_of_nonneg (by omega)]; exact (Int.natCast_ediv a b).symm
  rw [this]
  have hle : a / b ≤ a := Nat.div_le_self _ _
  have := nm_bmod ((a / b : Nat) : Int)
  rw [show (4294967296 : Nat) = 2 ^ 32 from rfl] at this
  rw [← this]
  exact nmn (by omega)
theorem zremn {a b : Nat} (ha : a < 2147483648) (hb : b < 2147483648) (h0 : 0 < b) : zrem (a : Int) (b : Int) = ((a % b : Nat) : Int) := by
  unfold zrem
  have hd : zI (a : Int) / zI (b : Int) = zI ((a / b : Nat) : Int) := by
    apply Int32.toInt_inj.mp
    have := zdivn ha hb h0
    unfold zdiv at this
    rw [this]
    have hle : a / b ≤ a := Nat.div_le_self _ _
    exact (nmn (k := a / b) (by omega)).symm
  rw [hd, ← zI_mul, ← zI_sub]
  have hmod : (a : Int) - ((a / b : Nat) : Int) * (b : Int) = ((a % b : Nat) : Int) := by
    have h := Nat.div_add_mod a b
    have h2 : (a : Int) = ((b * (a / b) + a % b : Nat) : Int) := by rw [h]
    rw [Int.natCast_add, Int.natCast_mul] at h2
    rw [Int.mul_comm]; omega
  rw [hmod]
  have : a % b < b := Nat.mod_lt _ h0
  exact nmn (by omega)
section
variable {N M X : ZB} {G : GV}
theorem draw_both (hs : X.1 12 = M.1 41) {n : Nat} (h1 : 1 ≤ n) (h2 : n ≤ 24) : ∃ (v : Nat) (s : Int), v < n ∧ fX_draw X (n : Int) = some ((v : Int), (up X.1 12 s, X.2)) ∧ fM_draw M (n : Int) = some ((v : Int), (up M.1 41 s, M.2)) := by
  obtain ⟨u, hu, hu2⟩ := zushr8 (M.1 41 * 1103515245 + 12345)
  refine ⟨u % n, M.1 41 * 1103515245 + 12345, Nat.mod_lt _ (by omega), ?_, ?_⟩
  · unfold fX_draw
    simp only [lt_e, kf1, hs, up_e]
    rw [nmn (by omega), if_neg (by omega), nzi (by rw [nmn (by omega)]; omega), hu2, zremn (by omega) (by omega) (by omega)]
  · unfold fM_draw
    simp only [lt_e, up_e]
    rw [nzi (by rw [nmn (by omega)]; omega), hu2, zremn (by omega) (by omega) (by omega)]
def DOK (G : GV) (X N Ch M : ZB) (a : Int) (b : Int × ZB × ZB × ZB) (c : Int × ZB) : Prop := b.1 = a ∧ c.1 = a ∧ (a = 0 ∨ a = 1) ∧ b.2.1.1 12 = c.2.1 41 ∧ KC Ch b.2.2.2 ∧ KD M c.2 ∧ ∃ G', GOK G' ∧ RN b.2.2.1 G' ∧ RW (c.2.2 12) G' ∧ KG G G'
theorem deed_place (hN : RN N G) (hM : RW (M.2 12) G) (hG : GOK G) {l : Nat} (hl : l < gL G) (hx : X.1 12 = M.1 41) (Ch : ZB) : ∃ a b c, fX_deedPlace N Ch (l : Int) = some b ∧ fM_places M (l : Int) = some c ∧ DOK G X N Ch M a (b.1, X, b.2.1, b.2.2) c := by
  have hb := hG.1
  unfold fX_deedPlace fM_places
  simp only [kf1]
  rw [X_canBePlaced hN hG (by omega), bds, M_isLoose hM hG hl, bds, Int.toNat_natCast]
  by_cases s : ¬ gbr G l ∧ gh G l = -1
  · obtain ⟨res, u, h1, h2, h3, h4, h5, h6, h7, h8⟩ := place_both hN hM hG hl s.1 Ch
    have hKM : KD M u.2 := ⟨fun j a b _ => h4.1 j a b, fun j a b c d e => h4.2 j b c d e⟩
    rw [i10t (show 0 ≤ (l : Int) ∧ (l : Int) < gL G ∧ ¬ gbr G l ∧ gh G l = -1 from ⟨by omega, by omega, s⟩), i10t s, h1, bds, h2, bds, h5, nmi (show -2147483648 ≤ u.1 ∧ u.1 < 2147483648 by omega)]
    by_cases z : u.1 = 0
    · rw [if_pos z, if_pos z]
      refine ⟨0, _, _, rfl, rfl, rfl, rfl, Or.inl rfl, ?_, h3, hKM, G, hG, hN, ?_, rfl, rfl⟩
      · show X.1 12 = u.2.1 41; rw [h4.1 41 (by decide) (by decide)]; exact hx
      · show RW (u.2.2 12) G; rw [h4.2 12 (by decide) (by decide) (by decide) (by decide)]; exact hM
    · obtain ⟨N2, g, d, r, n1, n2, m1, m2, g2⟩ := h8 z
      rw [if_neg z, if_neg z, n1, bds, m1, bds]
      refine ⟨1, _, _, rfl, rfl, rfl, rfl, Or.inr rfl, ?_, h3, KD_trans hKM ⟨fun _ _ _ _ => rfl, fun j a _ _ _ _ => ua_n _ _ a⟩, gEx G d r, g2, n2, m2, rfl, rfl⟩
      show X.1 12 = u.2.1 41; rw [h4.1 41 (by decide) (by decide)]; exact hx
  · rw [i10f (fun k => s k.2.2), i10f s]
    exact ⟨0, _, _, rfl, rfl, rfl, rfl, Or.inl rfl, hx, ⟨rfl, rfl, rfl, rfl⟩, KD_refl _, G, hG, hN, hM, rfl, rfl⟩
theorem deed_both (hN : RN N G) (hM : RW (M.2 12) G) (hG : GOK G) (hL : 1 ≤ gL G) (hx : X.1 12 = M.1 41) (Ch : ZB) : ∃ a b c, fX_drawDeed X N Ch = some b ∧ fM_drawsOne M = some c ∧ DOK G X N Ch M a b c := by
  have hb := hG.1
  obtain ⟨v, s, hv, d1, d2⟩ := draw_both hx (n := 6) (by omega) (by omega)
  have hx1 : ((up X.1 12 s, X.2) : ZB).1 12 = ((up M.1 41 s, M.2) : ZB).1 41 := rfl
  obtain ⟨l, s2, hl, e1, e2⟩ := draw_both hx1 (n := gL G) hL (by omega)
  have hx2 : ((up (up X.1 12 s) 12 s2, X.2) : ZB).1 12 = ((up (up M.1 41 s) 41 s2, M.2) : ZB).1 41 := rfl
  have hM1 : RW (((up M.1 41 s, M.2) : ZB).2 12) G := hM
  have hM2 : RW (((up (up M.1 41 s) 41 s2, M.2) : ZB).2 12) G := hM
  have hKx : ∀ t t2, KD M ((up (up M.1 41 t) 41 t2, M.2) : ZB) := fun t t2 => ⟨fun j a b c => by show up (up M.1 41 t) 41 t2 j = _; rw [up_n _ _ c, up_n _ _ c], fun _ _ _ _ _ _ => rfl⟩
  have hKx3 : ∀ t t2 t3, KD M ((up (up (up M.1 41 t) 41 t2) 41 t3, M.2) : ZB) := fun t t2 t3 => ⟨fun j a b c => by show up (up (up M.1 41 t) 41 t2) 41 t3 j = _; rw [up_n _ _ c, up_n _ _ c, up_n _ _ c], fun _ _ _ _ _ _ => rfl⟩
  unfold fX_drawDeed fM_drawsOne
  rw [show (6 : Int) = ((6 : Nat) : Int) from rfl, d1, bds, d2, bds, M_lines hM1, bds, hN.2.1, e1, bds, e2, bds, nmn (by omega)]
  have zz : ∀ {β : Type} {a : Int} (k : Option β), (a = 0 ∨ a = 1) → zo a k = k := by
    rintro β a k (rfl | rfl)
    · exact zo0
    · exact zo1
  by_cases v01 : v = 0 ∨ v = 1
  · obtain ⟨a, b, c, b1, c1, k1, k2, k3, k4, k5, k6, k7⟩ := deed_place hN hM2 hG hl hx2 Ch
    have hres : ∃ a b c, (bd (fX_deedPlace N Ch (l : Int)) fun u_4 => zo u_4.1 <| some (u_4.1, ((up (up X.1 12 s) 12 s2, X.2) : ZB), u_4.2.1, u_4.2.2)) = some b ∧ (bd (fM_places (up (up M.1 41 s) 41 s2, M.2) (l : Int)) fun u_5 => zo u_5.1 <| some (u_5.1, u_5.2)) = some c ∧ DOK G X N Ch M a b c := by
      rw [b1, bds, c1, bds]
      have kb : b.1 = a := k1
      rw [zz _ (by rw [kb]; exact k3), zz _ (by rw [k2]; exact k3)]
      exact ⟨a, _, _, rfl, rfl, k1, k2, k3, k4, k5, KD_trans (hKx s s2) k6, k7⟩
    rcases v01 with h | h
    · rw [if_pos (by omega), if_pos (by omega)]; exact hres
    · rw [if_neg (by omega : ¬ (v : Int) = 0), if_neg (by omega : ¬ (v : Int) = 0), if_pos (by omega : (v : Int) = 1), if_pos (by omega : (v : Int) = 1)]; exact hres
  · rw [if_neg (by omega : ¬ (v : Int) = 0), if_neg (by omega : ¬ (v : Int) = 0), if_neg (by omega : ¬ (v : Int) = 1), if_neg (by omega : ¬ (v : Int) = 1)]
    by_cases v2 : v = 2
    · rw [if_pos (by omega : (v : Int) = 2), if_pos (by omega : (v : Int) = 2)]
      unfold fX_deedLift
      simp only [kf1]
      rw [rdn (by omega), (hN.2.2.2.2.2 l hl).2.2.2, nmh hG hl, M_lies hM2 hG hl, bds, nmh hG hl, tn75]
      have hless : GOK (sh_ G (up (gh G) l (-1))) := GOK_less hG (fun i _ => by
        unfold up; split
        · exact Or.inl rfl
        · exact Or.inr rfl)
      by_cases z : gh G l = -1
      · have hself : sh_ G (up (gh G) l (-1)) = G := by
          rw [← z, up_self]; rfl
        have hW := RW_put (f := -1) hG hM hl
        rw [hself] at hW
        rw [if_pos z, if_pos z, bds, zo0, ix75 (by omega), lt_e, zo0]
        exact ⟨0, _, _, rfl, rfl, rfl, rfl, Or.inl rfl, rfl, ⟨rfl, rfl, rfl, rfl⟩, KD_trans (hKx s s2) ⟨fun _ _ _ _ => rfl, fun j a _ _ _ _ => ua_n _ _ a⟩, G, hG, hN, hW, rfl, rfl⟩
      · rw [if_neg z, if_neg z, ixn (by omega), lt_e, bds, zo1, ix75 (by omega), lt_e, zo1, Int.toNat_natCast]
        exact ⟨1, _, _, rfl, rfl, rfl, rfl, Or.inr rfl, rfl, ⟨rfl, rfl, rfl, rfl⟩, KD_trans (hKx s s2) ⟨fun _ _ _ _ => rfl, fun j a _ _ _ _ => ua_n _ _ a⟩, _, hless, RN_put hN, RW_put hG hM hl, rfl, rfl⟩
    rw [if_neg (by omega : ¬ (v : Int) = 2), if_neg (by omega : ¬ (v : Int) = 2)]
    by_cases v3 : v = 3
    · rw [if_pos (by omega : (v : Int) = 3), if_pos (by omega : (v : Int) = 3)]
      obtain ⟨g, m1, m2⟩ := M_flips hM2 hG hl
      unfold fX_deedBreakOrMend
      simp only [kf1]
      rw [N_isSound hN (by omega), bds, m1, bds]
      by_cases z : gbr G l
      · obtain ⟨N', n1, n2⟩ := RN_mend hN hG hl z
        rw [upp_eq (show (¬ gbr G l) ↔ False from ⟨fun k => k z, fun k => k.elim⟩)] at m2
        rw [i01t z, n1, bds, bds, zo1]
        exact ⟨1, _, _, rfl, rfl, rfl, rfl, Or.inr rfl, rfl, ⟨rfl, rfl, rfl, rfl⟩, KD_trans (hKx s s2) ⟨fun _ _ _ _ => rfl, fun j a _ _ _ _ => ua_n _ _ a⟩, _, flip_ok hG hl False, n2, m2, rfl, rfl⟩
      · obtain ⟨N', n1, n2⟩ := RN_break hN hG hl
        rw [upp_eq (show (¬ gbr G l) ↔ True from ⟨fun _ => trivial, fun _ => z⟩)] at m2
        rw [i01f z, n1, bds, bds, zo1]
        exact ⟨1, _, _, rfl, rfl, rfl, rfl, Or.inr rfl, rfl, ⟨rfl, rfl, rfl, rfl⟩, KD_trans (hKx s s2) ⟨fun _ _ _ _ => rfl, fun j a _ _ _ _ => ua_n _ _ a⟩, _, flip_ok hG hl True, n2, m2, rfl, rfl⟩
    rw [if_neg (by omega : ¬ (v : Int) = 3), if_neg (by omega : ¬ (v : Int) = 3)]
    obtain ⟨f, s3, hf, g1, g2⟩ := draw_both hx2 (n := gk G) (by omega) (by omega)
    have hM3 : RW (((up (up (up M.1 41 s) 41 s2) 41 s3, M.2) : ZB).2 12) G := hM
    by_cases v4 : v = 4
    · rw [if_pos (by omega : (v : Int) = 4), if_pos (by omega : (v : Int) = 4), M_many hM2, bds, hN.2.2.1, g1, bds, g2, bds, M_whyNotPut hM3 hG hl (by omega), bds]
      obtain ⟨w, hw⟩ := X_whyNotPut hN hG hl (f := (f : Int)) (by omega) (by omega) Ch
      have hwr := gwhy_r G l f
      unfold fX_deedPut
      rw [hw, bds, nmi (show -2147483648 ≤ gwhy G l f ∧ gwhy G l f < 2147483648 by omega)]
      by_cases z : gwhy G l f = 0
      · rw [if_pos z, if_pos z, ixn (by omega), ix75 (by omega), tn75, lt_e, lt_e, bds, zo1, Int.toNat_natCast]
        exact ⟨1, _, _, rfl, rfl, rfl, rfl, Or.inr rfl, rfl, ⟨rfl, rfl, rfl, rfl⟩, KD_trans (hKx3 s s2 s3) ⟨fun _ _ _ _ => rfl, fun j a _ _ _ _ => ua_n _ _ a⟩, _, put_ok hG hl (by omega) (by omega) ((gwhy_0 hG hl (by omega)).mp z), RN_put hN, RW_put hG hM hl, rfl, rfl⟩
      · rw [if_neg z, if_neg z, bds, zo0]
        exact ⟨0, _, _, rfl, rfl, rfl, rfl, Or.inl rfl, rfl, ⟨rfl, rfl, rfl, rfl⟩, hKx3 s s2 s3, G, hG, hN, hM, rfl, rfl⟩
    · rw [if_neg (by omega : ¬ (v : Int) = 4), if_neg (by omega : ¬ (v : Int) = 4), M_many hM2, bds, hN.2.2.1, g1, bds, g2, bds, M_tradeOf hM3 hG hl (by omega) (by omega), bds]
      obtain ⟨w, hw⟩ := Ch_traded hN hG hl (f := (f : Int)) (by omega) (by omega) Ch
      unfold fX_deedTrade
      rw [hw, bds]
      by_cases z : gtr G l f = -1
      · rw [z, if_pos (by decide : nm (-1) = -1), if_pos (by decide : nm (-1) = -1), bds, zo0]
        exact ⟨0, _, _, rfl, rfl, rfl, rfl, Or.inl rfl, rfl, ⟨rfl, rfl, rfl, rfl⟩, hKx3 s s2 s3, G, hG, hN, hM, rfl, rfl⟩
      · obtain ⟨m, e, hm, hc, ht⟩ := gtr_sp z
        obtain ⟨N', n1, n2⟩ := Ch_swap hN hG hl hm
        obtain ⟨g, m1, m2⟩ := M_trades hM3 hG hl hm
        rw [e, nmn (by omega), if_neg (by omega : ¬ (m : Int) = -1), if_neg (by omega : ¬ (m : Int) = -1), n1, bds, m1, bds, bds, zo1]
        exact ⟨1, _, _, rfl, rfl, rfl, rfl, Or.inr rfl, rfl, ⟨rfl, rfl, rfl, rfl⟩, KD_trans (hKx3 s s2 s3) ⟨fun _ _ _ _ => rfl, fun j a _ _ _ _ => ua_n _ _ a⟩, _, gSw_ok hG hl hm (by omega) (by omega) hc ht, n2, m2, rfl, rfl⟩
end
theorem sim39 : Sim39 INV := by
  intro X N T Rd Fr Ac Ch PS Ly Pa OT Ea Ga c0 c1 M a1 a2 hI hr1 hr2
  have keep0 : INV X N T Rd Fr Ac Ch PS Ly Pa OT Ea Ga c0 c1 (up M.1 0 0, M.2) := hI
  obtain ⟨⟨G, hG, hN, hM⟩, hT, hR, hA, hC, hGa, hi0, hi1, hP⟩ := hI
  have hb := hG.1
  have hM' : RW (((up M.1 0 0, M.2) : ZB).2 12) G := hM
  obtain ⟨B, hB, hBA, E, hE, hS⟩ := act hA hN hG
  unfold fX_drawn fM_drawn
  have hcp := M_copy_now_before ((up M.1 0 0, M.2) : ZB) (s := 0) (d := 0) (by omega) (by omega)
  rw [show ((0 : Nat) : Int) = 0 from rfl] at hcp
  rw [kf0_e, lt_e (up M.1 0 0, M.2), M_isIn hr1 (by omega) (by omega), bds, nmi hr1]
  by_cases q : 1 ≤ a1 ∧ a1 ≤ 60
  · obtain ⟨n, rfl⟩ : ∃ n : Nat, a1 = n := ⟨a1.toNat, by omega⟩
    rw [q10t q, if_neg (by omega : ¬ (n : Int) < 1), if_neg (by omega : ¬ 60 < (n : Int)), hcp, bds, hN.2.1, nmn (by omega)]
    by_cases hL0 : gL G = 0
    · rw [if_pos (by omega)]
      refine ⟨_, ((0 : Int), ((up (up M.1 0 0) 41 a2, ua M.2 16 (cpy (M.2 16) (M.2 12) 0 0 147)) : ZB)), rfl, ?_, rfl, ⟨G, hG, hN, hM⟩, hT, hR, hA, hC, hGa, hi0, hi1, hP⟩
      rw [lt_e]
      refine lop3_s 0 (fun _ => (0 : Int)) (fun _ => (0 : Int)) (fun _ => ((up (up M.1 0 0) 41 a2, ua M.2 16 (cpy (M.2 16) (M.2 12) 0 0 147)) : ZB)) (fun _ k hk => absurd hk (Nat.not_lt_zero k)) ?_ (by omega) rfl rfl rfl
      intro rec
      have hMx : RW (((up (up M.1 0 0) 41 a2, ua M.2 16 (cpy (M.2 16) (M.2 12) 0 0 147)) : ZB).2 12) G := hM
      simp only [kf0, kf1]
      rw [M_lines hMx, bds, hL0, nmi (show -2147483648 ≤ (0 : Int) ∧ (0 : Int) < 2147483648 by decide), if_pos (by omega), if_neg (by decide), if_neg (by decide)]
    · rw [if_neg (by omega), lt_e, hB, bds, lt_e]
      refine lopJ53 n (fun k v1 v2 X' N' C' w1 w2 M' => ∃ (v : Nat) (G' : GV), v ≤ k ∧ v1 = (v : Int) ∧ v2 = (k : Int) ∧ w1 = (v : Int) ∧ w2 = (k : Int) ∧ GOK G' ∧ RN N' G' ∧ RW (M'.2 12) G' ∧ gL G' = gL G ∧ KC Ch C' ∧ KD ((up (up M.1 0 0) 41 a2, ua M.2 16 (cpy (M.2 16) (M.2 12) 0 0 147)) : ZB) M' ∧ X'.1 12 = M'.1 41) (fun (r : Int × ZB × ZB × ZA × ZB) (t : Int × ZB) => r.1 = t.1 ∧ INV r.2.1 r.2.2.1 T Rd Fr r.2.2.2.1 r.2.2.2.2 PS Ly Pa OT Ea Ga c0 c1 t.2) ?_ ?_ (by omega) 0 0 (up X.1 12 a2, X.2) N Ch 0 0 _ ⟨0, G, by omega, rfl, rfl, rfl, rfl, hG, hN, hM, rfl, ⟨rfl, rfl, rfl, rfl⟩, KD_refl _, rfl⟩
      · intro k hk x0 x1 X' N' C' y0 y1 M' hRk
        obtain ⟨v, G', hvk, rfl, rfl, rfl, rfl, hG', hN', hM', hL, hKC, hKD, hX⟩ := hRk
        have hb' := hG'.1
        obtain ⟨a, b, c, h1, h2, k1, k2, k3, k4, k5, k6, G2, g1, g2, g3, g4, g5⟩ := deed_both hN' hM' hG' (by omega) hX C'
        rcases k3 with z | z
        · refine ⟨(v : Int), ((k + 1 : Nat) : Int), b.2.1, b.2.2.1, b.2.2.2, (v : Int), ((k + 1 : Nat) : Int), c.2, ⟨v, G2, by omega, rfl, rfl, rfl, rfl, g1, g2, g3, by rw [g4, hL], KC_trans hKC k5, KD_trans hKD k6, k4⟩, fun rec => ?_, fun rec => ?_⟩
          · simp only [kf1]
            rw [nmn (by omega), if_pos (by omega), h1, bds, k1, z, if_pos (by decide)]; rfl
          · simp only [kf0, kf1]
            rw [nmn (by omega), if_pos (by omega), M_lines hM', bds, nmn (by omega), if_pos (by omega), h2, bds, k2, z, if_pos (by decide)]; rfl
        · refine ⟨((v + 1 : Nat) : Int), ((k + 1 : Nat) : Int), b.2.1, b.2.2.1, b.2.2.2, ((v + 1 : Nat) : Int), ((k + 1 : Nat) : Int), c.2, ⟨v + 1, G2, by omega, rfl, rfl, rfl, rfl, g1, g2, g3, by rw [g4, hL], KC_trans hKC k5, KD_trans hKD k6, k4⟩, fun rec => ?_, fun rec => ?_⟩
          · simp only [kf1]
            rw [nmn (by omega), if_pos (by omega), h1, bds, k1, z, if_neg (by decide)]; rfl
          · simp only [kf0, kf1]
            rw [nmn (by omega), if_pos (by omega), M_lines hM', bds, nmn (by omega), if_pos (by omega), h2, bds, k2, z, if_neg (by decide)]; rfl
      · intro x0 x1 X' N' C' y0 y1 M' hRk
        obtain ⟨v, G', hvk, rfl, rfl, rfl, rfl, hG', hN', hM', hL, hKC, hKD, hX⟩ := hRk
        have hb' := hG'.1
        have k1 : ∀ j, j ≠ 25 → j ≠ 26 → j ≠ 41 → j ≠ 0 → M'.1 j = M.1 j := fun j a b c d => (hKD.1 j a b c).trans (by show up (up M.1 0 0) 41 a2 j = _; rw [up_n _ _ c, up_n _ _ d])
        have k2 : ∀ j, j ≠ 12 → j ≠ 21 → j ≠ 22 → j ≠ 23 → j ≠ 24 → j ≠ 16 → M'.2 j = M.2 j := fun j a b c d e f => (hKD.2 j a b c d e).trans (ua_n _ _ f)
        have kT : ITape T (M'.1 2) (M'.2 1) := by
          rw [k1 2 (by decide) (by decide) (by decide) (by decide), k2 1 (by decide) (by decide) (by decide) (by decide) (by decide) (by decide)]; exact hT
        have kR : IRd Rd (M'.1 8) := by rw [k1 8 (by decide) (by decide) (by decide) (by decide)]; exact hR
        have kC : IChain C' (M'.1 28) (M'.2 27) (M'.1 29) := by
          rw [k1 28 (by decide) (by decide) (by decide) (by decide), k1 29 (by decide) (by decide) (by decide) (by decide), k2 27 (by decide) (by decide) (by decide) (by decide) (by decide) (by decide)]
          unfold IChain
          rw [hKC.1, hKC.2.1, hKC.2.2.1, hKC.2.2.2]; exact hC
        have kG : IGame Ga (M'.1 32) (M'.2 31) := by
          rw [k1 32 (by decide) (by decide) (by decide) (by decide), k2 31 (by decide) (by decide) (by decide) (by decide) (by decide) (by decide)]; exact hGa
        have k0 : IImg c0 (M'.2 19 0) (M'.2 14) := by
          rw [k2 19 (by decide) (by decide) (by decide) (by decide) (by decide) (by decide), k2 14 (by decide) (by decide) (by decide) (by decide) (by decide) (by decide)]; exact hi0
        have k11 : IImg c1 (M'.2 19 1) (fun j => M'.2 14 (147 + j)) := by
          rw [k2 19 (by decide) (by decide) (by decide) (by decide) (by decide) (by decide), k2 14 (by decide) (by decide) (by decide) (by decide) (by decide) (by decide)]; exact hi1
        by_cases z : v = 0
        · subst z
          refine ⟨(((0 : Nat) : Int), X', N', B, C'), (((0 : Nat) : Int), M'), fun rec => ?_, fun rec => ?_, rfl, ⟨G', hG', hN', hM'⟩, kT, kR, ?_, kC, kG, k0, k11, hP⟩
          · simp only [kf1]
            rw [nmn (by omega), if_neg (by omega), nmn (by omega), if_neg (by omega)]
          · simp only [kf0, kf1]
            rw [nmn (by omega), if_neg (by omega), nmn (by omega), if_neg (by omega)]
          · show IActs B (M'.1 20) (M'.2 15)
            rw [k1 20 (by decide) (by decide) (by decide) (by decide), k2 15 (by decide) (by decide) (by decide) (by decide) (by decide) (by decide)]; exact hBA
        · have h16 : RW (M'.2 16) G := by
            rw [hKD.2 16 (by decide) (by decide) (by decide) (by decide) (by decide)]
            exact RW_eq hG (RW_cpy (g := M.2 16) (d := 0) (s := 0) hG (RW_eq hG hM (fun j _ => by rw [Nat.zero_add]))) (fun j _ => by rw [Nat.zero_add]; rfl)
          obtain ⟨x, t, g, A, hs, hxA, a12, a12', a15, aj⟩ := M_stay hM' hG' hG h16 hS (k1 20 (by decide) (by decide) (by decide) (by decide)) (k2 15 (by decide) (by decide) (by decide) (by decide) (by decide) (by decide))
          refine ⟨((v : Int), X', N', E, C'), ((v : Int), (up M'.1 20 x, A)), fun rec => ?_, fun rec => ?_, rfl, ⟨G', hG', hN', ?_⟩, ?_, kR, ?_, ?_, ?_, ?_, ?_, hP⟩
          · simp only [kf1]
            rw [nmn (by omega), if_neg (by omega), nmn (by omega), if_pos (by omega), hE, bds]
          · simp only [kf0, kf1]
            rw [nmn (by omega), if_neg (by omega), nmn (by omega), if_pos (by omega), hs, bds]
          · show RW (A 12) G'; rw [a12]; exact a12'
          · show ITape T (up M'.1 20 x 2) (A 1); rw [aj 1 (by decide) (by decide) (by decide)]; exact kT
          · show IActs E (up M'.1 20 x 20) (A 15); rw [a15, up_e]; exact hxA
          · show IChain C' (up M'.1 20 x 28) (A 27) (up M'.1 20 x 29); rw [aj 27 (by decide) (by decide) (by decide)]; exact kC
          · show IGame Ga (up M'.1 20 x 32) (A 31); rw [aj 31 (by decide) (by decide) (by decide)]; exact kG
          · show IImg c0 (A 19 0) (A 14); rw [aj 19 (by decide) (by decide) (by decide), aj 14 (by decide) (by decide) (by decide)]; exact k0
          · show IImg c1 (A 19 1) (fun j => A 14 (147 + j)); rw [aj 19 (by decide) (by decide) (by decide), aj 14 (by decide) (by decide) (by decide)]; exact k11
  · rw [q10f q]
    refine ⟨(-1, X, N, Ac, Ch), _, ?_, rfl, rfl, keep0⟩
    by_cases r : a1 < 1
    · rw [if_pos r]
    · rw [if_neg r, if_pos (by omega)]
