-- needs: 07zzg.ringof
/-! what holds between calls -/
def ITape (T : ZB) (m : Int) (g : Nat → Int) : Prop := ∃ u : Nat, u ≤ 640 ∧ T.1 1 = (u : Int) ∧ m = (u : Int) ∧ ∀ i, i < u → T.2 0 i = g i ∧ 0 ≤ T.2 0 i ∧ T.2 0 i ≤ 255
def IRd (Rd : ZB) (m : Int) : Prop := Rd.1 11 = m ∧ Rd.1 3 = 8805260 ∧ Rd.1 4 = 243140 ∧ Rd.1 5 = 2549435302
def IActs (Ac : ZA) (m : Int) (s : Nat → Int) : Prop := ∃ c n : Nat, c ≤ 8 ∧ n ≤ 8 ∧ Ac.1 3 = (c : Int) ∧ Ac.1 2 = (n : Int) ∧ m = (c : Int) ∧ ∀ i, i < c → ∃ G, GOK G ∧ RN (Ac.2 ((n + 9 - c + i) % 9)) G ∧ RW (fun j => s (147 * i + j)) G
def IChain (Ch : ZB) (m : Int) (r : Nat → Int) (w : Int) : Prop := (∃ c : Nat, c ≤ 24 ∧ Ch.1 10 = (c : Int) ∧ m = (c : Int) ∧ ∀ i, i < c → Ch.2 8 i = r (2 * i) ∧ Ch.2 9 i = r (2 * i + 1)) ∧ Ch.1 11 = w
def IGame (Ga : ZB) (m : Int) (r : Nat → Int) : Prop := ∃ c : Nat, c ≤ 24 ∧ Ga.1 4 = (c : Int) ∧ m = (c : Int) ∧ ∀ i, i < c → Ga.2 3 i = r i
def IImg (c : Option ZB) (m : Int) (s : Nat → Int) : Prop := (c = none ∧ m = 0) ∨ ∃ Z G, c = some Z ∧ m = 1 ∧ GOK G ∧ RN Z G ∧ RW s G
def IPS (PS : ZB) : Prop := ∀ p, p < 10 → PS.2 3 p = (p : Int)
def INV (X N T Rd Fr : ZB) (Ac : ZA) (Ch PS Ly : ZB) (Pa : ZQ) (OT Ea Ga : ZB) (c0 c1 : Option ZB) (M : ZB) : Prop := (∃ G, GOK G ∧ RN N G ∧ RW (M.2 12) G) ∧ ITape T (M.1 2) (M.2 1) ∧ IRd Rd (M.1 8) ∧ IActs Ac (M.1 20) (M.2 15) ∧ IChain Ch (M.1 28) (M.2 27) (M.1 29) ∧ IGame Ga (M.1 32) (M.2 31) ∧ IImg c0 (M.2 19 0) (M.2 14) ∧ IImg c1 (M.2 19 1) (fun j => M.2 14 (147 + j)) ∧ IPS PS
theorem initB : SimInit INV := by
  intro p1 p2
  refine ⟨⟨((0, 0, 2), fun _ => 0, fun _ => 0, fun _ => 0, fun _ => -1, fun _ => False, fun _ => False), ?_, ?_, ?_⟩, ?_, ?_, ?_, ?_, ?_, ?_, ?_, ?_⟩
  · refine ⟨by decide, fun l hl => absurd hl (Nat.not_lt_zero l), fun l _ => ⟨id, id⟩, fun f _ e he => absurd he.1 (Nat.not_lt_zero e)⟩
  · refine ⟨rfl, rfl, rfl, ?_, ?_, fun l hl => absurd hl (Nat.not_lt_zero l)⟩
    · show (0 : Int) = ((bs 24 (fun _ => False) : Nat) : Int); rw [bs_none]; rfl
    · show (0 : Int) = ((bs 24 (fun _ => False) : Nat) : Int); rw [bs_none]; rfl
  · exact ⟨rfl, rfl, rfl, fun l hl => absurd hl (Nat.not_lt_zero l)⟩
  · exact ⟨0, by decide, rfl, rfl, fun i hi => absurd hi (Nat.not_lt_zero i)⟩
  · exact ⟨rfl, rfl, rfl, rfl⟩
  · exact ⟨0, 0, by decide, by decide, rfl, rfl, rfl, fun i hi => absurd hi (Nat.not_lt_zero i)⟩
  · exact ⟨⟨0, by decide, rfl, rfl, fun i hi => absurd hi (Nat.not_lt_zero i)⟩, rfl⟩
  · exact ⟨0, by decide, rfl, rfl, fun i hi => absurd hi (Nat.not_lt_zero i)⟩
  · exact Or.inl ⟨rfl, rfl⟩
  · exact Or.inl ⟨rfl, rfl⟩
  · intro p hp
    have H : ∀ p : Fin 10, iPS.2 3 p.val = ((p.val : Nat) : Int) := by decide
    exact H ⟨p, hp⟩
theorem up_self (f : Nat → Int) (k : Nat) : up f k (f k) = f := by
  funext j; unfold up; split
  · rename_i h; rw [h]
  · rfl
theorem zand255 (x : Int) : 0 ≤ zand x 255 ∧ zand x 255 ≤ 255 := by
  unfold zand
  have h : (zI x &&& zI 255).toBitVec = BitVec.ofNat 32 ((zI x).toBitVec.toNat &&& 255) := by
    rw [Int32.toBitVec_and]
    apply BitVec.eq_of_toNat_eq
    rw [BitVec.toNat_and]
    have : (zI 255).toBitVec.toNat = 255 := by decide +kernel
    rw [this, BitVec.toNat_ofNat, Nat.mod_eq_of_lt]
    exact Nat.lt_of_le_of_lt Nat.and_le_right (by decide)
  have h3 : ((zI x).toBitVec.toNat &&& 255) ≤ 255 := Nat.and_le_right
  show 0 ≤ (zI x &&& zI 255).toBitVec.toInt ∧ (zI x &&& zI 255).toBitVec.toInt ≤ 255
  rw [h, bv_toInt _ (by rw [BitVec.toNat_ofNat]; omega), BitVec.toNat_ofNat]
  omega
def tapp (f : Nat → Int) (u : Nat) (a : Int) : Nat → (Nat → Int)
  | 0 => f
  | k + 1 => up (tapp f u a k) (u + k) (zand (zushr a (24 - 8 * (k : Int))) 255)
theorem T_add {T : ZB} {u : Nat} (hu : T.1 1 = (u : Int)) (hu2 : u ≤ 636) (a : Int) : fT_add T a = some (up T.1 1 ((u + 4 : Nat) : Int), ua T.2 0 (tapp (T.2 0) u a 4)) := by
  unfold fT_add
  refine lop2_s 4 (fun k => 24 - 8 * (k : Int)) (fun k => (up T.1 1 ((u + k : Nat) : Int), ua T.2 0 (tapp (T.2 0) u a k))) ?_ ?_ (by decide) rfl ?_
  · intro rec k hk hr
    simp only [kf0, lt_e, up_e, ua_e, ua_up, up_up]
    rw [nmi (by omega), if_neg (by omega), nmn (by omega), if_pos (by omega), ixn (by omega)]
    simp only [Int.toNat_natCast]
    have e1 : (24 - 8 * (k : Int)) + (-8) = 24 - 8 * ((k + 1 : Nat) : Int) := by omega
    have e2 : ((u + k : Nat) : Int) + 1 = ((u + (k + 1) : Nat) : Int) := by omega
    rw [e1, e2]
    exact hr
  · intro rec
    simp only [kf0]
    have e1 : (24 - 8 * ((4 : Nat) : Int)) = -8 := by decide
    rw [e1, nmi (by omega), if_pos (by omega)]
  · show (up T.1 1 ((u + 0 : Nat) : Int), ua T.2 0 (T.2 0)) = T
    rw [Nat.add_zero, ← hu, up_self, ua_self]
theorem M_come {M : ZB} {u : Nat} (hu : M.1 2 = (u : Int)) (hu2 : u ≤ 636) (a : Int) : fM_come M a = some (up M.1 2 ((u + 4 : Nat) : Int), ua M.2 1 (tapp (M.2 1) u a 4)) := by
  unfold fM_come
  refine lop2_s 4 (fun k => 24 - 8 * (k : Int)) (fun k => (up M.1 2 ((u + k : Nat) : Int), ua M.2 1 (tapp (M.2 1) u a k))) ?_ ?_ (by decide) rfl ?_
  · intro rec k hk hr
    simp only [lt_e, up_e, ua_e, ua_up, up_up]
    rw [nmi (by omega), if_neg (by omega), ixn (by omega)]
    simp only [Int.toNat_natCast]
    have e1 : (24 - 8 * (k : Int)) + (-8) = 24 - 8 * ((k + 1 : Nat) : Int) := by omega
    have e2 : ((u + k : Nat) : Int) + 1 = ((u + (k + 1) : Nat) : Int) := by omega
    rw [e1, e2]
    exact hr
  · intro rec
    have e1 : (24 - 8 * ((4 : Nat) : Int)) = -8 := by decide
    simp only [e1]
    rw [nmi (by omega), if_pos (by omega)]
  · show (up M.1 2 ((u + 0 : Nat) : Int), ua M.2 1 (M.2 1)) = M
    rw [Nat.add_zero, ← hu, up_self, ua_self]
def TAg (u : Nat) (f g : Nat → Int) : Prop := ∀ i, i < u → f i = g i ∧ 0 ≤ f i ∧ f i ≤ 255
theorem TAg_app {u : Nat} {f g : Nat → Int} (h : TAg u f g) (a : Int) : ∀ k, TAg (u + k) (tapp f u a k) (tapp g u a k) := by
  intro k
  induction k with
  | zero => exact h
  | succ k ih =>
    intro i hi
    unfold tapp up
    by_cases e : i = u + k
    · rw [if_pos e, if_pos e]; exact ⟨rfl, zand255 _⟩
    · rw [if_neg e, if_neg e]; exact ih i (by omega)
theorem sim0 : Sim0 INV := by
  intro X N T Rd Fr Ac Ch PS Ly Pa OT Ea Ga c0 c1 M a1 a2 a3 a4 a5 hI _ _ _ _ _
  obtain ⟨hG, ⟨u, hu, h1, h2, h3⟩, hR, hA, hC, hGa, hi0, hi1, hP⟩ := hI
  unfold fX_feed fM_feed fT_hasRoom
  simp only [kf1]
  rw [h1, lt_e]
  have e0 : (up M.1 0 0 2) = (u : Int) := h2
  by_cases q : 640 < u + 20
  · refine ⟨(-1, T), (-1, (up M.1 0 0, M.2)), ?_, ?_, rfl, hG, ⟨u, hu, h1, h2, h3⟩, hR, hA, hC, hGa, hi0, hi1, hP⟩
    · rw [show (u : Int) + 20 = ((u + 20 : Nat) : Int) by omega, nmn (by omega), if_pos (by omega), zo0, bds, nmi (by omega), if_pos rfl]
    · show (if 640 < nm (up M.1 0 0 2 + 20) then _ else _) = _
      rw [e0, show (u : Int) + 20 = ((u + 20 : Nat) : Int) by omega, nmn (by omega), if_pos (by omega)]
  · have hM : (up M.1 0 0, M.2).1 2 = (u : Int) := h2
    have hx := TAg_app (TAg_app (TAg_app (TAg_app (TAg_app h3 a1 4) a2 4) a3 4) a4 4) a5 4
    refine ⟨(((u+4+4+4+4+4 : Nat) : Int), (up T.1 1 ((u+4+4+4+4+4 : Nat) : Int), ua T.2 0 (tapp (tapp (tapp (tapp (tapp (T.2 0) u a1 4) (u + 4) a2 4) (u + 4 + 4) a3 4) (u + 4 + 4 + 4) a4 4) (u + 4 + 4 + 4 + 4) a5 4))), (((u+4+4+4+4+4 : Nat) : Int), (up (up M.1 0 0) 2 ((u+4+4+4+4+4 : Nat) : Int), ua M.2 1 (tapp (tapp (tapp (tapp (tapp (M.2 1) u a1 4) (u + 4) a2 4) (u + 4 + 4) a3 4) (u + 4 + 4 + 4) a4 4) (u + 4 + 4 + 4 + 4) a5 4))), ?_, ?_, rfl, ?_⟩
    · rw [show (u : Int) + 20 = ((u + 20 : Nat) : Int) by omega, nmn (by omega), if_neg (by omega), zo1, bds, nmi (by omega), if_neg (by decide)]
      rw [T_add h1 (by omega), bds, T_add (u := u+4) rfl (by omega), bds, T_add (u := u+4+4) rfl (by omega), bds, T_add (u := u+4+4+4) rfl (by omega), bds, T_add (u := u+4+4+4+4) rfl (by omega), bds]
      unfold fT_size
      simp only [bds, up_up, ua_up, ua_e, up_e]
    · show (if 640 < nm (up M.1 0 0 2 + 20) then _ else _) = _
      rw [e0, show (u : Int) + 20 = ((u + 20 : Nat) : Int) by omega, nmn (by omega), if_neg (by omega)]
      rw [M_come hM (by omega), bds, M_come (u := u+4) rfl (by omega), bds, M_come (u := u+4+4) rfl (by omega), bds, M_come (u := u+4+4+4) rfl (by omega), bds, M_come (u := u+4+4+4+4) rfl (by omega), bds]
      simp only [up_up, ua_up, ua_e, up_e]
    · exact ⟨hG, ⟨u+4+4+4+4+4, by omega, rfl, rfl, hx⟩, hR, hA, hC, hGa, hi0, hi1, hP⟩
theorem sim1 : Sim1 INV := by
  intro X N T Rd Fr Ac Ch PS Ly Pa OT Ea Ga c0 c1 M a1 hI hr1
  obtain ⟨hG, ⟨u, hu, h1, h2, h3⟩, hR, hA, hC, hGa, hi0, hi1, hP⟩ := hI
  unfold fX_end fM_end fT_size fT_cut
  simp only [kf0, lt_e, bds]
  have e0 : (up M.1 0 0 2) = (u : Int) := h2
  rw [h1, e0, nmi hr1, nmn (by omega)]
  by_cases q : a1 < 0
  · rw [if_pos q, if_pos q]
    exact ⟨_, _, rfl, rfl, rfl, hG, ⟨u, hu, h1, h2, h3⟩, hR, hA, hC, hGa, hi0, hi1, hP⟩
  · rw [if_neg q, if_neg q]
    by_cases r : (u : Int) < a1
    · rw [if_pos r, if_pos r]
      exact ⟨_, _, rfl, rfl, rfl, hG, ⟨u, hu, h1, h2, h3⟩, hR, hA, hC, hGa, hi0, hi1, hP⟩
    · rw [if_neg r, if_neg r]
      refine ⟨_, _, rfl, rfl, rfl, hG, ⟨a1.toNat, by omega, ?_, ?_, fun i hi => h3 i (by omega)⟩, hR, hA, hC, hGa, hi0, hi1, hP⟩
      · show a1 = _; omega
      · show a1 = _; omega
theorem sim3 : Sim3 INV := by
  intro X N T Rd Fr Ac Ch PS Ly Pa OT Ea Ga c0 c1 M hI
  obtain ⟨hG, hT, hR, hA, hC, hGa, hi0, hi1, hP⟩ := hI
  unfold fX_fault fM_fault fRd_faultKind
  exact ⟨_, _, rfl, rfl, hR.1, hG, hT, hR, hA, hC, hGa, hi0, hi1, hP⟩
theorem sim14 : Sim14 INV := by
  intro X N T Rd Fr Ac Ch PS Ly Pa OT Ea Ga c0 c1 M hI
  obtain ⟨hG, hT, hR, hA, hC, hGa, hi0, hi1, hP⟩ := hI
  unfold fX_crowd fM_crowd fCh_toldCrowd
  exact ⟨_, _, rfl, rfl, hC.2, hG, hT, hR, hA, hC, hGa, hi0, hi1, hP⟩
theorem sim24 : Sim24 INV := by
  intro X N T Rd Fr Ac Ch PS Ly Pa OT Ea Ga c0 c1 M a1 hI hr1
  obtain ⟨hG, hT, hR, hA, hC, ⟨c, hc1, hc2, hc3, hc4⟩, hi0, hi1, hP⟩ := hI
  have e0 : (up M.1 0 0 32) = (c : Int) := hc3
  unfold fX_keptAt fM_keptAt fGa_toldAt
  simp only [kf1, kf0, lt_e]
  rw [hc2, e0, M_isIn hr1 (by omega) (by omega), bds, nmi hr1, nmn (by omega)]
  have keep : INV X N T Rd Fr Ac Ch PS Ly Pa OT Ea Ga c0 c1 (up M.1 0 0, M.2) := ⟨hG, hT, hR, hA, hC, ⟨c, hc1, hc2, hc3, hc4⟩, hi0, hi1, hP⟩
  by_cases q : 0 ≤ a1 ∧ a1 < c
  · simp (disch := omega) only [if_pos, if_neg, rdi, bds, nmi, if_true, if_false]
    refine ⟨_, _, rfl, rfl, ?_, keep⟩
    exact hc4 _ (by omega)
  · rw [if_neg (by omega : ¬ (0 ≤ a1 ∧ a1 ≤ (c : Int) - 1)), if_pos (by decide : nm 0 = 0)]
    refine ⟨-1, _, ?_, rfl, rfl, keep⟩
    by_cases r : a1 < 0
    · rw [if_pos r, bds]
    · rw [if_neg r, if_neg (by omega), bds]
theorem sim13 : Sim13 INV := by
  intro X N T Rd Fr Ac Ch PS Ly Pa OT Ea Ga c0 c1 M a1 a2 hI hr1 hr2
  obtain ⟨hG, hT, hR, hA, ⟨⟨c, hc1, hc2, hc3, hc4⟩, hcw⟩, hGa, hi0, hi1, hP⟩ := hI
  have e0 : (up M.1 0 0 28) = (c : Int) := hc3
  have keep : INV X N T Rd Fr Ac Ch PS Ly Pa OT Ea Ga c0 c1 (up M.1 0 0, M.2) := ⟨hG, hT, hR, hA, ⟨⟨c, hc1, hc2, hc3, hc4⟩, hcw⟩, hGa, hi0, hi1, hP⟩
  unfold fX_chainAt fM_chainAt fCh_toldAt
  simp only [kf1, kf0, lt_e]
  rw [hc2, e0, M_isIn hr1 (by omega) (by omega), bds, nmi hr1, nmi hr2, nmn (by omega), M_isIn hr2 (by omega) (by omega)]
  by_cases q : 0 ≤ a1 ∧ a1 < c
  · by_cases r : 0 ≤ a2 ∧ a2 ≤ 1
    · have h := hc4 a1.toNat (by omega)
      by_cases z : a2 = 0
      · simp (disch := omega) only [if_pos, if_neg, rdi, bds, nmi, if_true, if_false]
        refine ⟨_, _, rfl, rfl, ?_, keep⟩
        rw [h.1, show (2 * a1 + a2).toNat = 2 * a1.toNat by omega]
      · simp (disch := omega) only [if_pos, if_neg, rdi, bds, nmi, if_true, if_false]
        refine ⟨_, _, rfl, rfl, ?_, keep⟩
        rw [h.2, show (2 * a1 + a2).toNat = 2 * a1.toNat + 1 by omega]
    · refine ⟨-1, (-1, (up M.1 0 0, M.2)), ?_, ?_, rfl, keep⟩
      · by_cases s : a2 < 0
        · simp (disch := omega) only [if_pos, if_neg, rdi, bds, nmi, if_true, if_false]
        · simp (disch := omega) only [if_pos, if_neg, rdi, bds, nmi, if_true, if_false]
      · simp (disch := omega) only [if_pos, if_neg, rdi, bds, nmi, if_true, if_false]
  · rw [if_neg (by omega : ¬ (0 ≤ a1 ∧ a1 ≤ (c : Int) - 1)), if_pos (by decide : nm 0 = 0)]
    refine ⟨-1, _, ?_, rfl, rfl, keep⟩
    by_cases r : a1 < 0
    · rw [if_pos r, bds]
    · rw [if_neg r, if_neg (by omega), bds]
