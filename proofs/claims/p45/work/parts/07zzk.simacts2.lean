-- needs: 07zzj.simacts
/-! turn, forests, undo, image, restore, now, ring, put -/
section
variable {N M : ZB} {G : GV} {Ac : ZA}
theorem turn_ok (hG : GOK G) {l : Nat} (hl : l < gL G) (t : Nat → Prop) (ht : ∀ i, i ≠ l → t i → gtu G i) : GOK (st_ G t) := by
  refine ⟨hG.1, hG.2.1, fun i hi => ?_, hG.2.2.2⟩
  have hi' : gL G ≤ i := hi
  exact ⟨(hG.2.2.1 i hi').1, fun k => (hG.2.2.1 i hi').2 (ht i (by omega) k)⟩
theorem RN_turn (hR : RN N G) (hG : GOK G) {l : Nat} (hl : l < gL G) : ∃ N', fN_turnLine N (l : Int) = some N' ∧ RN N' (st_ G (upp (gtu G) l (¬ gtu G l))) := by
  have hb := hG.1
  unfold fN_turnLine
  simp only [lt_e]
  refine ⟨_, rfl, hR.1, hR.2.1, hR.2.2.1, hR.2.2.2.1, ?_, hR.2.2.2.2.2⟩
  show zxor (N.1 8) (zshl 1 (l : Int)) = ((bs 24 (upp (gtu G) l (¬ gtu G l)) : Nat) : Int)
  rw [hR.2.2.2.2.1, zshln (by omega), zxorn (bs_lt31 (by omega)) (p2_lt31 (by omega))]
  congr 1
  apply nat_ext; intro i
  rw [Nat.testBit_xor, bs_bit, Nat.testBit_two_pow]
  have hbit := bs_bit 24 (gtu G) i
  by_cases e : i = l
  · subst e
    rw [upp_e]
    by_cases k : gtu G i
    · rw [hbit.mpr ⟨by omega, k⟩]; simp [k]
    · have : (bs 24 (gtu G)).testBit i = false := by rw [← Bool.not_eq_true, hbit]; exact fun z => k z.2
      rw [this]; simp [k]; omega
  · rw [upp_n _ _ e, ← hbit]
    have : decide (l = i) = false := by simp; omega
    rw [this]; simp
theorem RW_turn {g : Nat → Int} (hG : GOK G) (hR : RW g G) {l : Nat} (hl : l < gL G) : RW (up g (123 + l) (1 - g (123 + l))) (st_ G (upp (gtu G) l (¬ gtu G l))) := by
  have hb := hG.1
  obtain ⟨h1, h2, h3, h4⟩ := hR
  refine ⟨?_, ?_, ?_, fun i hi => ?_⟩
  · rw [up_n _ _ (by omega)]; exact h1
  · rw [up_n _ _ (by omega)]; exact h2
  · rw [up_n _ _ (by omega)]; exact h3
  · have hi' : i < gL G := hi
    obtain ⟨q1, q2, q3, q4, q5, q6⟩ := h4 i hi
    refine ⟨by rw [up_n _ _ (by omega)]; exact q1, by rw [up_n _ _ (by omega)]; exact q2, by rw [up_n _ _ (by omega)]; exact q3, by rw [up_n _ _ (by omega)]; exact q4, by rw [up_n _ _ (by omega)]; exact q5, ?_⟩
    show _ = (if dc (upp (gtu G) l (¬ gtu G l) i) then (1 : Int) else 0)
    by_cases e : i = l
    · subst e; rw [up_e, upp_e, q6]; exact dcn Iff.rfl
    · rw [up_n _ _ (by omega), upp_n _ _ e]; exact q6
end
theorem sim20 : Sim20 INV := by
  intro X N T Rd Fr Ac Ch PS Ly Pa OT Ea Ga c0 c1 M a1 hI hr1
  have keep : INV X N T Rd Fr Ac Ch PS Ly Pa OT Ea Ga c0 c1 (up M.1 0 0, M.2) := hI
  obtain ⟨⟨G, hG, hN, hM⟩, hT, hR, hA, hC, hGa, hi0, hi1, hP⟩ := hI
  have hb := hG.1
  have hM' : RW (((up M.1 0 0, M.2) : ZB).2 12) G := hM
  obtain ⟨B, hB, hBA, E, hE, hS⟩ := act hA hN hG
  unfold fX_turn fM_turn
  simp only [lt_e]
  rw [N_hasLine hN hG hr1, M_isLine hM' hG hr1, bds, bds]
  by_cases q : 0 ≤ a1 ∧ a1 < gL G
  · obtain ⟨l, rfl⟩ : ∃ l : Nat, a1 = l := ⟨a1.toNat, by omega⟩
    have hl : l < gL G := by omega
    obtain ⟨x, t, hx, hxA⟩ := hS (up M.1 0 0, M.2) rfl rfl hM'
    obtain ⟨N', n1, n2⟩ := RN_turn hN hG hl
    have hG' : GOK (st_ G (upp (gtu G) l (¬ gtu G l))) := turn_ok hG hl _ (fun i hi k => by rwa [upp_n _ _ hi] at k)
    have hW' := RW_turn (g := M.2 12) hG hM hl
    rw [if_pos q, if_neg (by decide : ¬ nm 1 = 0), if_neg (by decide : ¬ nm 1 = 0), hB, bds, n1, bds, hE, bds, N_tail n2 hG' hl, bds, hx, bds]
    rw [rd123 (by omega), ixi (by omega), tn123]
    have hM2 : RW (((up (up M.1 0 0) 20 x, ua (ua M.2 15 t) 12 (up (M.2 12) (123 + l) (1 - M.2 12 (123 + l)))) : ZB).2 12) (st_ G (upp (gtu G) l (¬ gtu G l))) := hW'
    have ho := M_outOf hM2 hG' hl
    refine ⟨_, (((gtl (st_ G (upp (gtu G) l (¬ gtu G l))) l : Nat) : Int), (up (up M.1 0 0) 20 x, ua (ua M.2 15 t) 12 (up (M.2 12) (123 + l) (1 - M.2 12 (123 + l))))), rfl, ?_, rfl, ⟨_, hG', n2, hW'⟩, hT, hR, hxA, hC, hGa, hi0, hi1, hP⟩
    exact bde ho
  · rw [if_neg q, if_pos (by decide), if_pos (by decide)]
    exact ⟨_, _, rfl, rfl, rfl, keep⟩
theorem Ac_takeBack {N D : ZB} {Ac : ZA} {n c : Nat} (h2 : Ac.1 2 = (n : Int)) (h3 : Ac.1 3 = (c : Int)) (h8 : n ≤ 8) (hc8 : c ≤ 8) (hc0 : c ≠ 0) (hD : fN_become N (Ac.2 (if 0 < n then n - 1 else 8)) = some D) : fAc_takeBack N Ac = some (1, D, (up (up Ac.1 2 ((if 0 < n then n - 1 else 8 : Nat) : Int)) 3 ((c : Int) - 1), Ac.2)) := by
  unfold fAc_takeBack
  simp only [lt_e, kf1]
  have e3 : ∀ x, up Ac.1 2 x 3 = (c : Int) := fun x => h3
  have e2 : ∀ x y, up (up Ac.1 2 x) 3 y 2 = x := fun x y => rfl
  simp only [e3, e2]
  rw [h3, h2, nmn (by omega), nmn (by omega), if_neg (by omega : ¬ (c : Int) = 0)]
  by_cases q : 0 < n
  · rw [if_pos q] at hD ⊢
    rw [if_pos (by omega : 0 < (n : Int)), show (n : Int) - 1 = ((n - 1 : Nat) : Int) by omega, ixn (by omega), Int.toNat_natCast, hD, bds]
  · rw [if_neg q] at hD ⊢
    rw [if_neg (by omega : ¬ 0 < (n : Int)), show (8 : Int) = ((8 : Nat) : Int) from rfl, ixn (by omega), Int.toNat_natCast, hD, bds]
theorem sim25 : Sim25 INV := by
  intro X N T Rd Fr Ac Ch PS Ly Pa OT Ea Ga c0 c1 M hI
  have keep : INV X N T Rd Fr Ac Ch PS Ly Pa OT Ea Ga c0 c1 (up M.1 0 0, M.2) := hI
  obtain ⟨⟨G, hG, hN, hM⟩, hT, hR, ⟨c, n, hc, hn8, h3, h2, hm, hk⟩, hC, hGa, hi0, hi1, hP⟩ := hI
  have e0 : (up M.1 0 0 20) = (c : Int) := hm
  have e20 : ∀ x, up (up M.1 0 0) 20 x 20 = x := fun x => rfl
  unfold fX_undo fM_undo
  simp only [lt_e, kf1, e0, e20]
  rw [nmn (by omega)]
  by_cases z : c = 0
  · subst z
    rw [if_pos (by decide : ((0 : Nat) : Int) = 0)]
    refine ⟨(-1, N, Ac), _, ?_, rfl, rfl, keep⟩
    unfold fAc_takeBack
    rw [h3, if_pos (by decide), bds, if_pos (by decide : nm 0 = 0)]
  · rw [if_neg (by omega : ¬ (c : Int) = 0)]
    obtain ⟨G', g1, g2, g3⟩ := hk (c - 1) (by omega)
    have hs : (n + 9 - c + (c - 1)) % 9 = if 0 < n then n - 1 else 8 := by split <;> omega
    rw [hs] at g2
    obtain ⟨D, d1, d2⟩ := N_become (D := N) g2 g1
    have ec : (147 : Int) * ((c : Int) - 1) = ((147 * (c - 1) : Nat) : Int) := by omega
    have hcp := M_copy_snaps_now ((up (up M.1 0 0) 20 ((c : Int) - 1), M.2) : ZB) (s := 147 * (c - 1)) (d := 0) (by omega) (by omega)
    rw [show ((0 : Nat) : Int) = 0 from rfl] at hcp
    rw [Ac_takeBack h2 h3 hn8 hc z d1, bds, if_neg (by decide : ¬ nm 1 = 0), ec, hcp, bds]
    unfold fAc_count
    rw [bds]
    refine ⟨_, _, rfl, rfl, rfl, ⟨G', g1, d2, ?_⟩, hT, hR, ?_, hC, hGa, hi0, hi1, hP⟩
    · exact RW_eq g1 (RW_cpy (g := M.2 12) (f := M.2 15) (d := 0) g1 g3) (fun j _ => by rw [Nat.zero_add]; rfl)
    · refine ⟨c - 1, (if 0 < n then n - 1 else 8), by omega, by split <;> omega, ?_, rfl, ?_, fun i hi => ?_⟩
      · show (c : Int) - 1 = _; omega
      · show (c : Int) - 1 = _; omega
      · obtain ⟨G2, k1, k2, k3⟩ := hk i (by omega)
        refine ⟨G2, k1, ?_, k3⟩
        have : ((if 0 < n then n - 1 else 8) + 9 - (c - 1) + i) % 9 = (n + 9 - c + i) % 9 := by split <;> omega
        rw [this]; exact k2
theorem sim8 : Sim8 INV := by
  intro X N T Rd Fr Ac Ch PS Ly Pa OT Ea Ga c0 c1 M a1 hI hr1
  have keep : INV X N T Rd Fr Ac Ch PS Ly Pa OT Ea Ga c0 c1 (up M.1 0 0, M.2) := hI
  obtain ⟨⟨G, hG, hN, hM⟩, hT, hR, hA, hC, hGa, hi0, hi1, hP⟩ := hI
  have hb := hG.1
  have hM' : RW (((up M.1 0 0, M.2) : ZB).2 12) G := hM
  unfold fX_now fM_now fN_packed fAc_count fT_size
  simp only [lt_e]
  rw [nmi hr1, N_soundSet hN hG, bds, bds, bitCount_bs (by omega), bds, N_pieces hN hG (bs_lt31 (by omega)), bds, N_forestSet hN hG (by omega), bds, bitCount_bs (by omega), bds, bds, N_forestSet hN hG (by omega), bds, N_pieces hN hG (bs_lt31 (by omega)), bds, bds, bds]
  rw [M_points hM' , M_lines hM', M_many hM', M_sound hM' hG, bds, bds, bds, bds, bds, bits_bs (by omega), bds, M_pieces hM' hG (bs_lt31 (by omega)), bds, M_inForest hM' hG (by omega), bds, M_pieces hM' hG (bs_lt31 (by omega)), bds]
  have good : ∀ v w : Int, v = w → ∃ r t, some v = some r ∧ some (w, ((up M.1 0 0, M.2) : ZB)) = some t ∧ r = t.1 ∧ INV X N T Rd Fr Ac Ch PS Ly Pa OT Ea Ga c0 c1 t.2 := fun v w h => ⟨_, _, rfl, rfl, h, keep⟩
  by_cases z0 : a1 = 0
  · simp only [if_pos z0]; exact good _ _ hN.1
  simp only [if_neg z0]
  by_cases z1 : a1 = 1
  · simp only [if_pos z1]; exact good _ _ hN.2.1
  simp only [if_neg z1]
  by_cases z2 : a1 = 2
  · simp only [if_pos z2]; exact good _ _ hN.2.2.1
  simp only [if_neg z2]
  by_cases z3 : a1 = 3
  · simp only [if_pos z3]; exact good _ _ rfl
  simp only [if_neg z3]
  by_cases z4 : a1 = 4
  · simp only [if_pos z4]
    have hcnt : ∀ L, cnt L (fun l => gh G l = -1) + cnt L (fun l => ¬ gh G l = -1) = L := by
      intro L
      induction L with
      | zero => rfl
      | succ L ih =>
        by_cases k : gh G L = -1
        · rw [cnt_succ_t (p := fun l => gh G l = -1) k, cnt_succ_f (p := fun l => ¬ gh G l = -1) (fun z => z k)]; omega
        · rw [cnt_succ_f (p := fun l => gh G l = -1) k, cnt_succ_t (p := fun l => ¬ gh G l = -1) k]; omega
    have hl4 : (lop2 FU (fun (rec_14 : Int → Int → Option (Int × ZB)) (v2_12 v3_13 : Int) => bd (some ((gL G : Nat) : Int)) fun u_15 => if (nm v3_13) < (nm u_15) then (bd (fM_lies (up M.1 0 0, M.2) v3_13) fun u_16 => kf1 (fun (v2_17 : Int) => rec_14 v2_17 (v3_13 + 1)) fun k_18 => if (nm u_16) = (-1) then (k_18 v2_12) else (k_18 (v2_12 + 1))) else (some (v2_12, ((up M.1 0 0, M.2) : ZB)))) 0 0) = some (((cnt (gL G) (fun l => ¬ gh G l = -1) : Nat) : Int), (up M.1 0 0, M.2)) := by
      refine lop2_s (gL G) (fun i => ((cnt i (fun l => ¬ gh G l = -1) : Nat) : Int)) (fun i => (i : Int)) ?_ ?_ (by omega) rfl rfl
      · intro rec k hk hr
        have hv := hG.2.1 k hk
        simp only [kf1]
        rw [bds, nmn (by omega), nmn (by omega), if_pos (by omega), M_lies hM' hG hk, bds, nmi (by omega)]
        by_cases q : gh G k = -1
        · rw [if_pos q]
          rw [cnt_succ_f (p := fun l => ¬ gh G l = -1) (fun z => z q)] at hr
          exact hr
        · rw [if_neg q]
          rw [cnt_succ_t (p := fun l => ¬ gh G l = -1) q, Int.natCast_add] at hr
          exact hr
      · intro rec
        rw [bds, nmn (by omega), if_neg (by omega)]
    rw [hl4]
    refine good _ _ ?_
    rw [hN.2.1]
    have := hcnt (gL G)
    omega
  simp only [if_neg z4]
  by_cases z5 : a1 = 5
  · simp only [if_pos z5]; exact good _ _ rfl
  simp only [if_neg z5]
  by_cases z6 : a1 = 6
  · simp only [if_pos z6]; exact good _ _ rfl
  simp only [if_neg z6]
  by_cases z7 : a1 = 7
  · simp only [if_pos z7]
    obtain ⟨c, n, hc, hn8, h3, h2, hm, hk⟩ := hA
    refine good _ _ ?_
    rw [h3, ← hm]; rfl
  simp only [if_neg z7]
  by_cases z8 : a1 = 8
  · simp only [if_pos z8]
    obtain ⟨u, hu, h1, h2, h3⟩ := hT
    refine good _ _ ?_
    rw [h1, ← h2]; rfl
  simp only [if_neg z8]
  exact good _ _ rfl
