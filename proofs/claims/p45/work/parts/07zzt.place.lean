-- needs: 07zzs.exch
/-! place, chain, pack -/
def KT (M M' : ZB) : Prop := (∀ j, j ≠ 25 → j ≠ 26 → j ≠ 28 → j ≠ 29 → M'.1 j = M.1 j) ∧ (∀ j, j ≠ 21 → j ≠ 22 → j ≠ 23 → j ≠ 24 → j ≠ 27 → M'.2 j = M.2 j)
def tw (f : Nat → Int) (a b : Nat → Int) : Nat → (Nat → Int)
  | 0 => f
  | k + 1 => up (up (tw f a b k) (2 * k) (a k)) (2 * k + 1) (b k)
theorem tw_at {f a b : Nat → Int} (n : Nat) : ∀ k, k < n → tw f a b n (2 * k) = a k ∧ tw f a b n (2 * k + 1) = b k := by
  induction n with
  | zero => intro k hk; omega
  | succ n ih =>
    intro k hk
    unfold tw
    by_cases e : k = n
    · subst e; rw [up_n _ _ (by omega), up_e, up_e]; exact ⟨rfl, rfl⟩
    · rw [up_n _ _ (by omega), up_n _ _ (by omega), up_n _ _ (by omega), up_n _ _ (by omega)]
      exact ih k (by omega)
section
variable {N M : ZB} {G : GV}
theorem X_canBePlaced (hN : RN N G) (hG : GOK G) {x : Int} (hx : -2147483648 ≤ x ∧ x < 2147483648) : fX_canBePlaced N x = some (if dc (0 ≤ x ∧ x < gL G ∧ ¬ gbr G x.toNat ∧ gh G x.toNat = -1) then 1 else 0) := by
  have hb := hG.1
  unfold fX_canBePlaced
  simp only [kf1, kf0]
  rw [N_hasLine hN hG hx, bds]
  by_cases q : 0 ≤ x ∧ x < gL G
  · obtain ⟨l, rfl⟩ : ∃ l : Nat, x = l := ⟨x.toNat, by omega⟩
    have hl : l < gL G := by omega
    rw [q10t q, N_isSound hN (by omega), bds, rdn (by omega), (hN.2.2.2.2.2 l hl).2.2.2, nmh hG hl, Int.toNat_natCast]
    by_cases s : gbr G l
    · rw [i01t s, idf (fun k => k.2.2.1 s)]; exact zo0
    · rw [i01f s]
      by_cases h : gh G l = -1
      · rw [if_pos h, idt (show 0 ≤ (l : Int) ∧ (l : Int) < gL G ∧ ¬ gbr G l ∧ gh G l = -1 from ⟨q.1, q.2, s, h⟩)]; exact zo1
      · rw [if_neg h, idf (fun k => h k.2.2.2)]; exact zo0
  · rw [q10f q, idf (fun k => q ⟨k.1, k.2.1⟩)]; exact zo0
theorem M_isLoose (hM : RW (M.2 12) G) (hG : GOK G) {l : Nat} (hl : l < gL G) : fM_isLoose M (l : Int) = some (if dc (¬ gbr G l ∧ gh G l = -1) then 1 else 0) := by
  unfold fM_isLoose
  simp only [kf1, kf0]
  rw [M_isBroken hM hG hl, bds]
  by_cases s : gbr G l
  · rw [i10t s, idf (fun k => k.1 s)]; exact zo0
  · rw [i10f s, M_lies hM hG hl, bds, nmh hG hl]
    by_cases h : gh G l = -1
    · rw [if_pos h, idt (show ¬ gbr G l ∧ gh G l = -1 from ⟨s, h⟩)]; exact zo1
    · rw [if_neg h, idf (fun k => h k.2)]; exact zo0
def TellOK (G : GV) (l : Nat) (M : ZB) (t : Int × ZB) : Prop := KT M t.2 ∧
  ((∃ d r c, d < gL G ∧ RS (gE G) (gT G) d l r c ∧ t.1 = ((d + 1 : Nat) : Int) ∧ t.2.1 25 = ((d + 1 : Nat) : Int) ∧ t.2.1 28 = ((d + 1 : Nat) : Int) ∧ t.2.1 29 = M.1 29 ∧ (∀ s, s ≤ d → t.2.2 23 s = (r s : Nat) ∧ t.2.2 24 s = gInto G d r s) ∧ ∀ s, s ≤ d → t.2.2 27 (2 * s) = (r s : Nat) ∧ t.2.2 27 (2 * s + 1) = gInto G d r s) ∨
   ((∀ k, ¬ DW (gE G) (gT G) k l) ∧ t.1 = 0 ∧ t.2.1 28 = M.1 28 ∧ t.2.2 27 = M.2 27 ∧ t.2.1 29 = ((crw G (gL G) (RC (gE G) l) : Nat) : Int)))
theorem M_tells (hM : RW (M.2 12) G) (hG : GOK G) {l : Nat} (hl : l < gL G) (hls : ¬ gbr G l) : ∃ t, fM_tells M (l : Int) = some t ∧ TellOK G l M t := by
  have hb := hG.1
  obtain ⟨res, h1, hK, hc⟩ := M_laysChain hM hG hl hls
  unfold fM_tells
  rw [h1, bds]
  simp only [kf1]
  rcases hc with ⟨d, r, c, hd, hr, k1, k2, k3⟩ | ⟨k1, k2, k3⟩
  · rw [k1, nmn (by omega), if_neg (by omega), if_pos (by omega), lt_e]
    refine ⟨(((d + 1 : Nat) : Int), (up res.2.1 28 ((d + 1 : Nat) : Int), ua res.2.2 27 (tw (res.2.2 27) (fun s => (r s : Nat)) (gInto G d r) (d+1)))), ?_, ?_, Or.inl ⟨d, r, c, hd, hr, rfl, ?_, rfl, ?_, k3, ?_⟩⟩
    · refine lop2_s (d+1) (fun k => (k : Int)) (fun k => (up res.2.1 28 ((d + 1 : Nat) : Int), ua res.2.2 27 (tw (res.2.2 27) (fun s => (r s : Nat)) (gInto G d r) k))) ?_ ?_ (by omega) rfl ?_
      · intro rec k hk hrc
        obtain ⟨q1, q2⟩ := k3 k (by omega)
        have f23 : ∀ g, ua res.2.2 27 g 23 = res.2.2 23 := fun _ => rfl
        have f24 : ∀ g, ua res.2.2 27 g 24 = res.2.2 24 := fun _ => rfl
        rw [nmn (by omega), if_pos (by omega)]
        simp only [f23, lt_e, ua_e, ua_up, f24]
        rw [rdn (by omega), ixi (by omega), rdn (by omega), ixi (by omega), q1, q2, show (2 * (k : Int)).toNat = 2 * k by omega, show (2 * (k : Int) + 1).toNat = 2 * k + 1 by omega]
        exact hrc
      · intro rec
        rw [nmn (by omega), if_neg (by omega)]
      · show (up res.2.1 28 ((d + 1 : Nat) : Int), ua res.2.2 27 (res.2.2 27)) = _
        rw [ua_self]
    · refine ⟨fun j h1 h2 h3 h4 => ?_, fun j h1 h2 h3 h4 h5 => ?_⟩
      · show up res.2.1 28 _ j = _; rw [up_n _ _ h3]; exact hK.1 j h1 h2
      · show ua res.2.2 27 _ j = _; rw [ua_n _ _ h5]; exact hK.2 j h1 h2 h3 h4
    · exact k2
    · exact hK.1 29 (by decide) (by decide)
    · intro s hs
      exact tw_at (d+1) s (by omega)
  · rw [k2, if_pos (by decide : nm 0 = 0), lt_e, if_neg (by decide : ¬ 0 < nm 0)]
    refine ⟨(0, (up res.2.1 29 (res.2.1 26), res.2.2)), ?_, ?_, Or.inr ⟨k1, rfl, ?_, ?_, k3⟩⟩
    · refine lop2_s 0 (fun k => (k : Int)) (fun _ => (up res.2.1 29 (res.2.1 26), res.2.2)) (fun _ k hk => absurd hk (Nat.not_lt_zero k)) ?_ (by omega) rfl rfl
      intro rec
      rw [if_neg (by decide)]
    · refine ⟨fun j h1 h2 h3 h4 => ?_, fun j h1 h2 h3 h4 h5 => hK.2 j h1 h2 h3 h4⟩
      show up res.2.1 29 _ j = _; rw [up_n _ _ h4]; exact hK.1 j h1 h2
    · exact hK.1 28 (by decide) (by decide)
    · exact hK.2 27 (by decide) (by decide) (by decide) (by decide)
/-- both searches told together -/
theorem chain_both (hN : RN N G) (hM : RW (M.2 12) G) (hG : GOK G) {l : Nat} (hl : l < gL G) (hls : ¬ gbr G l) {Ch : ZB} (hC : IChain Ch (M.1 28) (M.2 27) (M.1 29)) : ∃ res C' t, fCh_find N Ch (l : Int) = some res ∧ fCh_remember N res.2 = some C' ∧ fM_tells M (l : Int) = some t ∧ KT M t.2 ∧ res.1 = t.1 ∧ IChain C' (t.2.1 28) (t.2.2 27) (t.2.1 29) ∧
    ((∃ d r c, d < gL G ∧ RS (gE G) (gT G) d l r c ∧ t.1 = ((d + 1 : Nat) : Int) ∧ C'.1 6 = ((d + 1 : Nat) : Int) ∧ t.2.1 25 = ((d + 1 : Nat) : Int) ∧ (∀ s, s ≤ d → C'.2 4 s = (r s : Nat) ∧ C'.2 5 s = gInto G d r s) ∧ ∀ s, s ≤ d → t.2.2 23 s = (r s : Nat) ∧ t.2.2 24 s = gInto G d r s) ∨ t.1 = 0) := by
  have hb := hG.1
  obtain ⟨res, h1, hF⟩ := Ch_find hN hG hl hls Ch
  obtain ⟨C', g1, g2, g3, g4, g5⟩ := Ch_remember hN hG hF
  obtain ⟨t, t1, tK, t2⟩ := M_tells hM hG hl hls
  refine ⟨res, C', t, h1, g1, t1, tK, ?_⟩
  obtain ⟨f1, f2, f3, f4, f5, fc⟩ := hF
  obtain ⟨⟨c, hc1, hc2, hc3, hc4⟩, hcw⟩ := hC
  rcases g5 with ⟨d, r, cc, hd, hr, e1, e2, e3, e4⟩ | ⟨e1, e2, e3, e4, e5, e6⟩
  · rcases t2 with ⟨d', r', c', hd', hr', u1, u2, u3, u4, u5, u6⟩ | ⟨u1, _⟩
    · have hdd : d' = d := DE_uniq hr'.2.1 hr.2.1
      subst hdd
      have hre := RS_uniq hr hr'
      have hin : ∀ s, s ≤ d' → gInto G d' r s = gInto G d' r' s := by
        intro s hs
        unfold gInto
        by_cases z : s < d'
        · rw [if_pos z, if_pos z, hre (s+1) (by omega)]
        · rw [if_neg z, if_neg z, hre d' (Nat.le_refl _)]
      refine ⟨by rw [e1, u1], ⟨⟨d'+1, by omega, e2, u3, fun i hi => ?_⟩, by rw [e3, u4]; exact hcw⟩, Or.inl ⟨d', r, cc, hd, hr, u1, ?_, u2, ?_, fun s hs => ?_⟩⟩
      · obtain ⟨a1, a2⟩ := e4 i (by omega)
        obtain ⟨b1, b2⟩ := u6 i (by omega)
        rw [a1, a2, b1, b2, hre i (by omega), hin i (by omega)]; exact ⟨rfl, rfl⟩
      · rw [g2, f5, e1]
      · rcases fc with ⟨d2, r2, c2, hd2, hr2, v1, v2⟩ | ⟨v1, _⟩
        · have : d2 = d' := DE_uniq hr2.2.1 hr.2.1
          subst this
          intro s hs
          have hre2 := RS_uniq hr hr2
          obtain ⟨a1, a2⟩ := v2 s hs
          rw [g3, g4, a1, a2, hre2 s hs]
          refine ⟨rfl, ?_⟩
          unfold gInto
          by_cases z : s < d2
          · rw [if_pos z, if_pos z, hre2 (s+1) (by omega)]
          · rw [if_neg z, if_neg z, hre2 d2 (Nat.le_refl _)]
        · exact absurd hr.2.1.1 (v1 d')
      · obtain ⟨b1, b2⟩ := u5 s hs
        rw [b1, b2, hre s hs, hin s hs]; exact ⟨rfl, rfl⟩
    · exact absurd hr.2.1.1 (u1 d)
  · rcases t2 with ⟨d', r', c', hd', hr', _⟩ | ⟨u1, u2, u3, u4, u5⟩
    · exact absurd hr'.2.1.1 (e1 d')
    · refine ⟨by rw [e2, u2], ⟨⟨c, hc1, by rw [e3, hc2], by rw [u3, hc3], fun i hi => ?_⟩, by rw [e6, u5]⟩, Or.inr u2⟩
      rw [e4, e5, u4]; exact hc4 i hi
end
theorem sim12 : Sim12 INV := by
  intro X N T Rd Fr Ac Ch PS Ly Pa OT Ea Ga c0 c1 M a1 hI hr1
  have keep : INV X N T Rd Fr Ac Ch PS Ly Pa OT Ea Ga c0 c1 (up M.1 0 0, M.2) := hI
  obtain ⟨⟨G, hG, hN, hM⟩, hT, hR, hA, hC, hGa, hi0, hi1, hP⟩ := hI
  have hb := hG.1
  have hM' : RW (((up M.1 0 0, M.2) : ZB).2 12) G := hM
  unfold fX_chain fM_chain
  simp only [kf0, kf2, lt_e]
  rw [X_canBePlaced hN hG hr1, bds, M_isLine hM' hG hr1, bds]
  by_cases q : 0 ≤ a1 ∧ a1 < gL G
  · obtain ⟨l, rfl⟩ : ∃ l : Nat, a1 = l := ⟨a1.toNat, by omega⟩
    have hl : l < gL G := by omega
    rw [q10t q, M_isLoose hM' hG hl, bds, Int.toNat_natCast]
    by_cases s : ¬ gbr G l ∧ gh G l = -1
    · obtain ⟨res, C', t, h1, h2, h3, hK, h4, h5, h6⟩ := chain_both (M := (up M.1 0 0, M.2)) hN hM' hG hl s.1 hC
      rw [i10t (show 0 ≤ (l : Int) ∧ (l : Int) < gL G ∧ ¬ gbr G l ∧ gh G l = -1 from ⟨q.1, q.2, s⟩), i10t s, h1, bds, h2, bds, h3, bds]
      refine ⟨_, _, rfl, rfl, h4, ⟨G, hG, hN, ?_⟩, ?_, ?_, ?_, h5, ?_, ?_, ?_, hP⟩
      · show RW (t.2.2 12) G; rw [hK.2 12 (by decide) (by decide) (by decide) (by decide) (by decide)]; exact hM
      · show ITape T (t.2.1 2) (t.2.2 1)
        rw [hK.1 2 (by decide) (by decide) (by decide) (by decide), hK.2 1 (by decide) (by decide) (by decide) (by decide) (by decide)]; exact hT
      · show IRd Rd (t.2.1 8)
        rw [hK.1 8 (by decide) (by decide) (by decide) (by decide)]; exact hR
      · show IActs Ac (t.2.1 20) (t.2.2 15)
        rw [hK.1 20 (by decide) (by decide) (by decide) (by decide), hK.2 15 (by decide) (by decide) (by decide) (by decide) (by decide)]; exact hA
      · show IGame Ga (t.2.1 32) (t.2.2 31)
        rw [hK.1 32 (by decide) (by decide) (by decide) (by decide), hK.2 31 (by decide) (by decide) (by decide) (by decide) (by decide)]; exact hGa
      · show IImg c0 (t.2.2 19 0) (t.2.2 14)
        rw [hK.2 19 (by decide) (by decide) (by decide) (by decide) (by decide), hK.2 14 (by decide) (by decide) (by decide) (by decide) (by decide)]; exact hi0
      · show IImg c1 (t.2.2 19 1) (fun j => t.2.2 14 (147 + j))
        rw [hK.2 19 (by decide) (by decide) (by decide) (by decide) (by decide), hK.2 14 (by decide) (by decide) (by decide) (by decide) (by decide)]; exact hi1
    · rw [i10f (fun k => s k.2.2), i10f s]
      exact ⟨_, _, rfl, rfl, rfl, keep⟩
  · rw [i10f (fun k => q ⟨k.1, k.2.1⟩), q10f q]
    exact ⟨_, _, rfl, rfl, rfl, keep⟩
theorem sim11 : Sim11 INV := by
  intro X N T Rd Fr Ac Ch PS Ly Pa OT Ea Ga c0 c1 M a1 hI hr1
  have keep : INV X N T Rd Fr Ac Ch PS Ly Pa OT Ea Ga c0 c1 (up M.1 0 0, M.2) := hI
  obtain ⟨⟨G, hG, hN, hM⟩, hT, hR, hA, hC, hGa, hi0, hi1, hP⟩ := hI
  have hb := hG.1
  have hM' : RW (((up M.1 0 0, M.2) : ZB).2 12) G := hM
  obtain ⟨B, hB, hBA, E, hE, hS⟩ := act hA hN hG
  unfold fX_place fM_place
  simp only [kf0, kf2, lt_e]
  rw [X_canBePlaced hN hG hr1, bds, M_isLine hM' hG hr1, bds]
  by_cases q : 0 ≤ a1 ∧ a1 < gL G
  · obtain ⟨l, rfl⟩ : ∃ l : Nat, a1 = l := ⟨a1.toNat, by omega⟩
    have hl : l < gL G := by omega
    rw [q10t q, M_isLoose hM' hG hl, bds, Int.toNat_natCast]
    by_cases s : ¬ gbr G l ∧ gh G l = -1
    · obtain ⟨res, C', t, h1, h2, h3, hK, h4, h5, h6⟩ := chain_both (M := (up M.1 0 0, M.2)) hN hM' hG hl s.1 hC
      rw [i10t (show 0 ≤ (l : Int) ∧ (l : Int) < gL G ∧ ¬ gbr G l ∧ gh G l = -1 from ⟨q.1, q.2, s⟩), i10t s, h1, bds, h2, bds, h3, bds, h4]
      have hW : RW (t.2.2 12) G := by rw [hK.2 12 (by decide) (by decide) (by decide) (by decide) (by decide)]; exact hM
      have kT : ITape T (t.2.1 2) (t.2.2 1) := by
        rw [hK.1 2 (by decide) (by decide) (by decide) (by decide), hK.2 1 (by decide) (by decide) (by decide) (by decide) (by decide)]; exact hT
      have kR : IRd Rd (t.2.1 8) := by
        rw [hK.1 8 (by decide) (by decide) (by decide) (by decide)]; exact hR
      have kG : IGame Ga (t.2.1 32) (t.2.2 31) := by
        rw [hK.1 32 (by decide) (by decide) (by decide) (by decide), hK.2 31 (by decide) (by decide) (by decide) (by decide) (by decide)]; exact hGa
      have k0 : IImg c0 (t.2.2 19 0) (t.2.2 14) := by
        rw [hK.2 19 (by decide) (by decide) (by decide) (by decide) (by decide), hK.2 14 (by decide) (by decide) (by decide) (by decide) (by decide)]; exact hi0
      have k1 : IImg c1 (t.2.2 19 1) (fun j => t.2.2 14 (147 + j)) := by
        rw [hK.2 19 (by decide) (by decide) (by decide) (by decide) (by decide), hK.2 14 (by decide) (by decide) (by decide) (by decide) (by decide)]; exact hi1
      rcases h6 with ⟨d, r, c, hd, hr, e1, e2, e3, e4, e5⟩ | e1
      · obtain ⟨x, y, hx, hxA⟩ := hS t.2 (hK.1 20 (by decide) (by decide) (by decide) (by decide)) (hK.2 15 (by decide) (by decide) (by decide) (by decide) (by decide)) hW
        obtain ⟨N', n1, n2⟩ := Ch_carryOut hN hG hr hd e2 e4
        obtain ⟨g, m1, m2⟩ := M_exchange (M := (up t.2.1 20 x, ua t.2.2 15 y)) hW hG hr hd e3 e5
        rw [e1, nmn (by omega), if_pos (by omega), if_neg (by omega), hB, bds, n1, bds, hE, bds, hx, bds, m1, bds]
        exact ⟨_, _, rfl, rfl, rfl, ⟨_, gEx_ok hG hr, n2, m2⟩, kT, kR, hxA, h5, kG, k0, k1, hP⟩
      · rw [e1, if_neg (by decide), if_pos (by decide)]
        refine ⟨_, _, rfl, rfl, rfl, ⟨G, hG, hN, hW⟩, kT, kR, ?_, h5, kG, k0, k1, hP⟩
        show IActs Ac (t.2.1 20) (t.2.2 15)
        rw [hK.1 20 (by decide) (by decide) (by decide) (by decide), hK.2 15 (by decide) (by decide) (by decide) (by decide) (by decide)]; exact hA
    · rw [i10f (fun k => s k.2.2), i10f s]
      exact ⟨_, _, rfl, rfl, rfl, keep⟩
  · rw [i10f (fun k => q ⟨k.1, k.2.1⟩), q10f q]
    exact ⟨_, _, rfl, rfl, rfl, keep⟩
