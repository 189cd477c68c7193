-- needs: 07zzu.trade
/-! pack, drawn -/
theorem lopJ43 {α0 α1 α2 α3 γ0 γ1 γ2 β δ : Type} {b1 : (α0 → α1 → α2 → α3 → Option β) → α0 → α1 → α2 → α3 → Option β} {b2 : (γ0 → γ1 → γ2 → Option δ) → γ0 → γ1 → γ2 → Option δ} (m : Nat) (R : Nat → α0 → α1 → α2 → α3 → γ0 → γ1 → γ2 → Prop) (Q : β → δ → Prop)
    (hs : ∀ k, k < m → ∀ x0 x1 x2 x3 y0 y1 y2, R k x0 x1 x2 x3 y0 y1 y2 → ∃ u0 u1 u2 u3 v0 v1 v2, R (k+1) u0 u1 u2 u3 v0 v1 v2 ∧ (∀ rec, b1 rec x0 x1 x2 x3 = rec u0 u1 u2 u3) ∧ (∀ rec, b2 rec y0 y1 y2 = rec v0 v1 v2))
    (he : ∀ x0 x1 x2 x3 y0 y1 y2, R m x0 x1 x2 x3 y0 y1 y2 → ∃ r t, (∀ rec, b1 rec x0 x1 x2 x3 = some r) ∧ (∀ rec, b2 rec y0 y1 y2 = some t) ∧ Q r t) (hm : m < 100000) :
    ∀ x0 x1 x2 x3 y0 y1 y2, R 0 x0 x1 x2 x3 y0 y1 y2 → ∃ r t, lop4 FU b1 x0 x1 x2 x3 = some r ∧ lop3 FU b2 y0 y1 y2 = some t ∧ Q r t := by
  have key : ∀ j, ∀ n, j ≤ m → j < n → ∀ x0 x1 x2 x3 y0 y1 y2, R (m - j) x0 x1 x2 x3 y0 y1 y2 → ∃ r t, lop4 n b1 x0 x1 x2 x3 = some r ∧ lop3 n b2 y0 y1 y2 = some t ∧ Q r t := by
    intro j
    induction j with
    | zero =>
      intro n _ hn x0 x1 x2 x3 y0 y1 y2 hR
      cases n with
      | zero => omega
      | succ n =>
        obtain ⟨r, t, h1, h2, h3⟩ := he _ _ _ _ _ _ _ hR
        exact ⟨r, t, h1 _, h2 _, h3⟩
    | succ j ih =>
      intro n hj hn x0 x1 x2 x3 y0 y1 y2 hR
      cases n with
      | zero => omega
      | succ n =>
        obtain ⟨u0, u1, u2, u3, v0, v1, v2, h1, h2, h3⟩ := hs (m - (j+1)) (by omega) _ _ _ _ _ _ _ hR
        rw [show m - (j+1) + 1 = m - j by omega] at h1
        obtain ⟨r, t, e1, e2, e3⟩ := ih n (by omega) (by omega) _ _ _ _ _ _ _ h1
        exact ⟨r, t, (h2 _).trans e1, (h3 _).trans e2, e3⟩
  intro x0 x1 x2 x3 y0 y1 y2 hR
  exact key m FU (Nat.le_refl m) hm x0 x1 x2 x3 y0 y1 y2 (by rw [Nat.sub_self]; exact hR)
theorem lopJ53 {α0 α1 α2 α3 α4 γ0 γ1 γ2 β δ : Type} {b1 : (α0 → α1 → α2 → α3 → α4 → Option β) → α0 → α1 → α2 → α3 → α4 → Option β} {b2 : (γ0 → γ1 → γ2 → Option δ) → γ0 → γ1 → γ2 → Option δ} (m : Nat) (R : Nat → α0 → α1 → α2 → α3 → α4 → γ0 → γ1 → γ2 → Prop) (Q : β → δ → Prop)
    (hs : ∀ k, k < m → ∀ x0 x1 x2 x3 x4 y0 y1 y2, R k x0 x1 x2 x3 x4 y0 y1 y2 → ∃ u0 u1 u2 u3 u4 v0 v1 v2, R (k+1) u0 u1 u2 u3 u4 v0 v1 v2 ∧ (∀ rec, b1 rec x0 x1 x2 x3 x4 = rec u0 u1 u2 u3 u4) ∧ (∀ rec, b2 rec y0 y1 y2 = rec v0 v1 v2))
    (he : ∀ x0 x1 x2 x3 x4 y0 y1 y2, R m x0 x1 x2 x3 x4 y0 y1 y2 → ∃ r t, (∀ rec, b1 rec x0 x1 x2 x3 x4 = some r) ∧ (∀ rec, b2 rec y0 y1 y2 = some t) ∧ Q r t) (hm : m < 100000) :
    ∀ x0 x1 x2 x3 x4 y0 y1 y2, R 0 x0 x1 x2 x3 x4 y0 y1 y2 → ∃ r t, lop5 FU b1 x0 x1 x2 x3 x4 = some r ∧ lop3 FU b2 y0 y1 y2 = some t ∧ Q r t := by
  have key : ∀ j, ∀ n, j ≤ m → j < n → ∀ x0 x1 x2 x3 x4 y0 y1 y2, R (m - j) x0 x1 x2 x3 x4 y0 y1 y2 → ∃ r t, lop5 n b1 x0 x1 x2 x3 x4 = some r ∧ lop3 n b2 y0 y1 y2 = some t ∧ Q r t := by
    intro j
    induction j with
    | zero =>
      intro n _ hn x0 x1 x2 x3 x4 y0 y1 y2 hR
      cases n with
      | zero => omega
      | succ n =>
        obtain ⟨r, t, h1, h2, h3⟩ := he _ _ _ _ _ _ _ _ hR
        exact ⟨r, t, h1 _, h2 _, h3⟩
    | succ j ih =>
      intro n hj hn x0 x1 x2 x3 x4 y0 y1 y2 hR
      cases n with
      | zero => omega
      | succ n =>
        obtain ⟨u0, u1, u2, u3, u4, v0, v1, v2, h1, h2, h3⟩ := hs (m - (j+1)) (by omega) _ _ _ _ _ _ _ _ hR
        rw [show m - (j+1) + 1 = m - j by omega] at h1
        obtain ⟨r, t, e1, e2, e3⟩ := ih n (by omega) (by omega) _ _ _ _ _ _ _ _ h1
        exact ⟨r, t, (h2 _).trans e1, (h3 _).trans e2, e3⟩
  intro x0 x1 x2 x3 x4 y0 y1 y2 hR
  exact key m FU (Nat.le_refl m) hm x0 x1 x2 x3 x4 y0 y1 y2 (by rw [Nat.sub_self]; exact hR)
/-- what a deed may change of the reference -/
def KD (M M' : ZB) : Prop := (∀ j, j ≠ 25 → j ≠ 26 → j ≠ 41 → M'.1 j = M.1 j) ∧ (∀ j, j ≠ 12 → j ≠ 21 → j ≠ 22 → j ≠ 23 → j ≠ 24 → M'.2 j = M.2 j)
/-- what a deed may change of the chains -/
def KC (C C' : ZB) : Prop := C'.1 10 = C.1 10 ∧ C'.1 11 = C.1 11 ∧ C'.2 8 = C.2 8 ∧ C'.2 9 = C.2 9
theorem KD_refl (M : ZB) : KD M M := ⟨fun _ _ _ _ => rfl, fun _ _ _ _ _ _ => rfl⟩
theorem KD_trans {A B C : ZB} (h1 : KD A B) (h2 : KD B C) : KD A C := ⟨fun j a b c => (h2.1 j a b c).trans (h1.1 j a b c), fun j a b c d e => (h2.2 j a b c d e).trans (h1.2 j a b c d e)⟩
theorem KC_trans {A B C : ZB} (h1 : KC A B) (h2 : KC B C) : KC A C := ⟨h2.1.trans h1.1, h2.2.1.trans h1.2.1, h2.2.2.1.trans h1.2.2.1, h2.2.2.2.trans h1.2.2.2⟩
theorem KC_w (C : ZB) (w : Nat → Int) : KC C (C.1, ua C.2 1 w) := ⟨rfl, rfl, rfl, rfl⟩
/-- one and the same net, a deed on: points, lines, forests stay -/
def KG (G G' : GV) : Prop := gL G' = gL G ∧ gk G' = gk G
section
variable {N M : ZB} {G : GV}
theorem M_stay (hM : RW (M.2 12) G) (hG : GOK G) {G0 : GV} (hG0 : GOK G0) (h16 : RW (M.2 16) G0) {E : ZA} {m : Int} {s : Nat → Int} (hS : ∀ M : ZB, M.1 20 = m → M.2 15 = s → RW (M.2 12) G0 → ∃ x t, fM_snap M = some (up M.1 20 x, ua M.2 15 t) ∧ IActs E x t) (hm : M.1 20 = m) (hs : M.2 15 = s) : ∃ x t g A, fM_stay M = some (up M.1 20 x, A) ∧ IActs E x t ∧ A 12 = g ∧ RW g G ∧ A 15 = t ∧ ∀ j, j ≠ 12 → j ≠ 15 → j ≠ 17 → A j = M.2 j := by
  unfold fM_stay
  have c1 := M_copy_now_live M (s := 0) (d := 0) (by omega) (by omega)
  have c2 := M_copy_before_now ((M.1, ua M.2 17 (cpy (M.2 17) (M.2 12) 0 0 147)) : ZB) (s := 0) (d := 0) (by omega) (by omega)
  rw [show ((0 : Nat) : Int) = 0 from rfl] at c1 c2
  rw [c1, bds, c2, bds]
  obtain ⟨x, t, hx, hxA⟩ := hS ((M.1, ua (ua M.2 17 (cpy (M.2 17) (M.2 12) 0 0 147)) 12 (cpy (M.2 12) (M.2 16) 0 0 147)) : ZB) hm hs (RW_eq hG0 (RW_cpy (g := M.2 12) (d := 0) (s := 0) hG0 (RW_eq hG0 h16 (fun j _ => by rw [Nat.zero_add]))) (fun j _ => by rw [Nat.zero_add]; rfl))
  have hx' : fM_snap (((M.1, ua M.2 17 (cpy (M.2 17) (M.2 12) 0 0 147)) : ZB).1, ua ((M.1, ua M.2 17 (cpy (M.2 17) (M.2 12) 0 0 147)) : ZB).2 12 (cpy (((M.1, ua M.2 17 (cpy (M.2 17) (M.2 12) 0 0 147)) : ZB).2 12) (((M.1, ua M.2 17 (cpy (M.2 17) (M.2 12) 0 0 147)) : ZB).2 16) 0 0 147)) = some (up M.1 20 x, ua (ua (ua M.2 17 (cpy (M.2 17) (M.2 12) 0 0 147)) 12 (cpy (M.2 12) (M.2 16) 0 0 147)) 15 t) := hx
  rw [hx', bds]
  have c4 := M_copy_live_now ((up M.1 20 x, ua (ua (ua M.2 17 (cpy (M.2 17) (M.2 12) 0 0 147)) 12 (cpy (M.2 12) (M.2 16) 0 0 147)) 15 t) : ZB) (s := 0) (d := 0) (by omega) (by omega)
  rw [show ((0 : Nat) : Int) = 0 from rfl] at c4
  rw [c4, bds]
  refine ⟨x, t, _, _, rfl, hxA, ua_e _ _ _, ?_, rfl, fun j h1 h2 h3 => ?_⟩
  · show RW (cpy _ (cpy (M.2 17) (M.2 12) 0 0 147) 0 0 147) G
    have k1 : RW (cpy (M.2 17) (M.2 12) 0 0 147) G := RW_eq hG (RW_cpy (g := M.2 17) (d := 0) (s := 0) hG (RW_eq hG hM (fun j _ => by rw [Nat.zero_add]))) (fun j _ => by rw [Nat.zero_add])
    exact RW_eq hG (RW_cpy (g := _) (d := 0) (s := 0) hG (RW_eq hG k1 (fun j _ => by rw [Nat.zero_add]))) (fun j _ => by rw [Nat.zero_add])
  · rw [ua_n _ _ h1]
    show ua (ua (ua M.2 17 _) 12 _) 15 t j = _
    rw [ua_n _ _ h2, ua_n _ _ h1, ua_n _ _ h3]
/-- a line placed by both, nothing told -/
theorem place_both (hN : RN N G) (hM : RW (M.2 12) G) (hG : GOK G) {l : Nat} (hl : l < gL G) (hls : ¬ gbr G l) (Ch : ZB) : ∃ res u, fCh_find N Ch (l : Int) = some res ∧ fM_laysChain M (l : Int) = some u ∧ KC Ch res.2 ∧ KM M u.2 ∧ res.1 = u.1 ∧ 0 ≤ u.1 ∧ u.1 ≤ 24 ∧ (u.1 ≠ 0 → ∃ N' g d r, fCh_carryOut N res.2 = some N' ∧ RN N' (gEx G d r) ∧ fM_exchange u.2 = some (u.2.1, ua u.2.2 12 g) ∧ RW g (gEx G d r) ∧ GOK (gEx G d r)) := by
  have hb := hG.1
  obtain ⟨res, h1, f1, f2, f3, f4, f5, fc⟩ := Ch_find hN hG hl hls Ch
  obtain ⟨u, u1, uK, uc⟩ := M_laysChain hM hG hl hls
  refine ⟨res, u, h1, u1, ⟨f1, f2, f3, f4⟩, uK, ?_⟩
  rcases fc with ⟨d, r, c, hd, hr, e1, e2⟩ | ⟨e1, e2, e3⟩
  · rcases uc with ⟨d', r', c', hd', hr', v1, v2, v3⟩ | ⟨v1, _⟩
    · have hdd : d' = d := DE_uniq hr'.2.1 hr.2.1
      subst hdd
      have hre := RS_uniq hr' hr
      refine ⟨by rw [e1, v1], by rw [v1]; omega, by rw [v1]; omega, fun _ => ?_⟩
      obtain ⟨N', n1, n2⟩ := Ch_carryOut hN hG hr hd (by rw [f5, e1]) e2
      have hW : RW (u.2.2 12) G := by rw [uK.2 12 (by decide) (by decide) (by decide) (by decide)]; exact hM
      obtain ⟨g, m1, m2⟩ := M_exchange hW hG hr hd v2 (fun t ht => by
        obtain ⟨a1, a2⟩ := v3 t ht
        rw [a1, a2, hre t ht]
        refine ⟨rfl, ?_⟩
        unfold gInto
        by_cases z : t < d'
        · rw [if_pos z, if_pos z, hre (t+1) (by omega)]
        · rw [if_neg z, if_neg z, hre d' (Nat.le_refl _)])
      exact ⟨N', g, d', r, n1, n2, m1, m2, gEx_ok hG hr⟩
    · exact absurd hr.2.1.1 (v1 d)
  · rcases uc with ⟨d', r', c', hd', hr', _⟩ | ⟨v1, v2, _⟩
    · exact absurd hr'.2.1.1 (e1 d')
    · exact ⟨by rw [e2, v2], by rw [v2]; omega, by rw [v2]; omega, fun h => absurd v2 h⟩
end
theorem sim15 : Sim15 INV := by
  intro X N T Rd Fr Ac Ch PS Ly Pa OT Ea Ga c0 c1 M hI
  obtain ⟨⟨G, hG, hN, hM⟩, hT, hR, hA, hC, hGa, hi0, hi1, hP⟩ := hI
  have hb := hG.1
  obtain ⟨B, hB, hBA, E, hE, hS⟩ := act hA hN hG
  unfold fX_pack fM_pack
  have hcp := M_copy_now_before ((up M.1 0 0, M.2) : ZB) (s := 0) (d := 0) (by omega) (by omega)
  rw [show ((0 : Nat) : Int) = 0 from rfl] at hcp
  rw [hB, bds, lt_e, hcp, bds]
  refine lopJ43 (gL G) (fun k v1 v2 N' C' w1 w2 M' => ∃ (v : Nat) (G' : GV), v ≤ k ∧ v1 = (v : Int) ∧ v2 = (k : Int) ∧ w1 = (v : Int) ∧ w2 = (k : Int) ∧ GOK G' ∧ RN N' G' ∧ RW (M'.2 12) G' ∧ gL G' = gL G ∧ KC Ch C' ∧ KD ((up M.1 0 0, ua M.2 16 (cpy (M.2 16) (M.2 12) 0 0 147)) : ZB) M') (fun (r : Int × ZB × ZA × ZB) (t : Int × ZB) => r.1 = t.1 ∧ INV X r.2.1 T Rd Fr r.2.2.1 r.2.2.2 PS Ly Pa OT Ea Ga c0 c1 t.2) ?_ ?_ (by omega) 0 0 N Ch 0 0 _ ⟨0, G, by omega, rfl, rfl, rfl, rfl, hG, hN, hM, rfl, ⟨rfl, rfl, rfl, rfl⟩, KD_refl _⟩
  · intro k hk x0 x1 N' C' y0 y1 M' hRk
    obtain ⟨v, G', hvk, rfl, rfl, rfl, rfl, hG', hN', hM', hL, hKC, hKD⟩ := hRk
    have hb' := hG'.1
    have hkL : k < gL G' := by omega
    have hnotk : ∀ (p : Prop), (0 ≤ (k : Int) ∧ (k : Int) < gL G' ∧ p) ↔ p := fun p => ⟨fun h => h.2.2, fun h => ⟨by omega, by omega, h⟩⟩
    by_cases s : ¬ gbr G' k ∧ gh G' k = -1
    · obtain ⟨res, u, h1, h2, h3, h4, h5, h6, h7, h8⟩ := place_both hN' hM' hG' hkL s.1 C'
      have hKM : KD M' u.2 := ⟨fun j a b _ => h4.1 j a b, fun j a b c d e => h4.2 j b c d e⟩
      by_cases z : u.1 = 0
      · refine ⟨(v : Int), ((k + 1 : Nat) : Int), N', res.2, (v : Int), ((k + 1 : Nat) : Int), u.2, ⟨v, G', by omega, rfl, rfl, rfl, rfl, hG', hN', ?_, hL, KC_trans hKC h3, KD_trans hKD hKM⟩, fun rec => ?_, fun rec => ?_⟩
        · rw [h4.2 12 (by decide) (by decide) (by decide) (by decide)]; exact hM'
        · simp only [kf3]
          rw [hN'.2.1, nmn (by omega), nmn (by omega), if_pos (by omega), X_canBePlaced hN' hG' (by omega), bds, Int.toNat_natCast, i10t ((hnotk _).mpr s), h1, bds, h5, z, if_neg (by decide)]
          rfl
        · unfold fM_places
          simp only [kf1]
          rw [M_lines hM', bds, nmn (by omega), nmn (by omega), if_pos (by omega), M_isLoose hM' hG' hkL, bds, i10t s, h2, bds, z, if_pos (by decide : nm 0 = 0), bds, if_pos (by decide : nm 0 = 0)]
          rfl
      · obtain ⟨N2, g, d, r, n1, n2, m1, m2, g2⟩ := h8 z
        refine ⟨((v + 1 : Nat) : Int), ((k + 1 : Nat) : Int), N2, res.2, ((v + 1 : Nat) : Int), ((k + 1 : Nat) : Int), (u.2.1, ua u.2.2 12 g), ⟨v + 1, gEx G' d r, by omega, rfl, rfl, rfl, rfl, g2, n2, m2, hL, KC_trans hKC h3, KD_trans hKD (KD_trans hKM ⟨fun _ _ _ _ => rfl, fun j a _ _ _ _ => ua_n _ _ a⟩)⟩, fun rec => ?_, fun rec => ?_⟩
        · simp only [kf3]
          rw [hN'.2.1, nmn (by omega), nmn (by omega), if_pos (by omega), X_canBePlaced hN' hG' (by omega), bds, Int.toNat_natCast, i10t ((hnotk _).mpr s), h1, bds, h5, nmi (by omega), if_pos (by omega), n1, bds]
          rfl
        · unfold fM_places
          simp only [kf1]
          rw [M_lines hM', bds, nmn (by omega), nmn (by omega), if_pos (by omega), M_isLoose hM' hG' hkL, bds, i10t s, h2, bds, nmi (show -2147483648 ≤ u.1 ∧ u.1 < 2147483648 by omega), if_neg z, m1, bds, bds, if_neg (by decide : ¬ nm 1 = 0)]
          rfl
    · refine ⟨(v : Int), ((k + 1 : Nat) : Int), N', C', (v : Int), ((k + 1 : Nat) : Int), M', ⟨v, G', by omega, rfl, rfl, rfl, rfl, hG', hN', hM', hL, hKC, hKD⟩, fun rec => ?_, fun rec => ?_⟩
      · simp only [kf3]
        rw [hN'.2.1, nmn (by omega), nmn (by omega), if_pos (by omega), X_canBePlaced hN' hG' (by omega), bds, Int.toNat_natCast, i10f (fun h => s ((hnotk _).mp h))]
        rfl
      · unfold fM_places
        simp only [kf1]
        rw [M_lines hM', bds, nmn (by omega), nmn (by omega), if_pos (by omega), M_isLoose hM' hG' hkL, bds, i10f s, bds, if_pos (by decide : nm 0 = 0)]
        rfl
  · intro x0 x1 N' C' y0 y1 M' hRk
    obtain ⟨v, G', hvk, rfl, rfl, rfl, rfl, hG', hN', hM', hL, hKC, hKD⟩ := hRk
    have hb' := hG'.1
    have k1 : ∀ j, j ≠ 25 → j ≠ 26 → j ≠ 41 → j ≠ 0 → M'.1 j = M.1 j := fun j a b c d => (hKD.1 j a b c).trans (up_n _ _ d)
    have k2 : ∀ j, j ≠ 12 → j ≠ 21 → j ≠ 22 → j ≠ 23 → j ≠ 24 → j ≠ 16 → M'.2 j = M.2 j := fun j a b c d e f => (hKD.2 j a b c d e).trans (ua_n _ _ f)
    have kT : ITape T (M'.1 2) (M'.2 1) := by
      rw [k1 2 (by decide) (by decide) (by decide) (by decide), k2 1 (by decide) (by decide) (by decide) (by decide) (by decide) (by decide)]; exact hT
    have kR : IRd Rd (M'.1 8) := by rw [k1 8 (by decide) (by decide) (by decide) (by decide)]; exact hR
    have kC : IChain C' (M'.1 28) (M'.2 27) (M'.1 29) := by
      rw [k1 28 (by decide) (by decide) (by decide) (by decide), k1 29 (by decide) (by decide) (by decide) (by decide), k2 27 (by decide) (by decide) (by decide) (by decide) (by decide) (by decide)]
      unfold IChain
      rw [hKC.1, hKC.2.1, hKC.2.2.1, hKC.2.2.2]; exact hC
    have kG : IGame Ga (M'.1 32) (M'.2 31) := by
      rw [k1 32 (by decide) (by decide) (by decide) (by decide), k2 31 (by decide) (by decide) (by decide) (by decide) (by decide) (by decide)]; exact hGa
    have k0 : IImg c0 (M'.2 19 0) (M'.2 14) := by
      rw [k2 19 (by decide) (by decide) (by decide) (by decide) (by decide) (by decide), k2 14 (by decide) (by decide) (by decide) (by decide) (by decide) (by decide)]; exact hi0
    have k11 : IImg c1 (M'.2 19 1) (fun j => M'.2 14 (147 + j)) := by
      rw [k2 19 (by decide) (by decide) (by decide) (by decide) (by decide) (by decide), k2 14 (by decide) (by decide) (by decide) (by decide) (by decide) (by decide)]; exact hi1
    by_cases z : v = 0
    · subst z
      refine ⟨(((0 : Nat) : Int), N', B, C'), (((0 : Nat) : Int), M'), fun rec => ?_, fun rec => ?_, rfl, ⟨G', hG', hN', hM'⟩, kT, kR, ?_, kC, kG, k0, k11, hP⟩
      · simp only [kf1]
        rw [hN'.2.1, nmn (by omega), nmn (by omega), if_neg (by omega), nmn (by omega), if_neg (by omega)]
      · simp only [kf1]
        rw [M_lines hM', bds, nmn (by omega), nmn (by omega), if_neg (by omega), nmn (by omega), if_neg (by omega)]
      · show IActs B (M'.1 20) (M'.2 15)
        rw [k1 20 (by decide) (by decide) (by decide) (by decide), k2 15 (by decide) (by decide) (by decide) (by decide) (by decide) (by decide)]; exact hBA
    · have h16 : RW (M'.2 16) G := by
        rw [hKD.2 16 (by decide) (by decide) (by decide) (by decide) (by decide)]
        exact RW_eq hG (RW_cpy (g := M.2 16) (d := 0) (s := 0) hG (RW_eq hG hM (fun j _ => by rw [Nat.zero_add]))) (fun j _ => by rw [Nat.zero_add]; rfl)
      obtain ⟨x, t, g, A, hs, hxA, a12, a12', a15, aj⟩ := M_stay hM' hG' hG h16 hS (k1 20 (by decide) (by decide) (by decide) (by decide)) (k2 15 (by decide) (by decide) (by decide) (by decide) (by decide) (by decide))
      refine ⟨((v : Int), N', E, C'), ((v : Int), (up M'.1 20 x, A)), fun rec => ?_, fun rec => ?_, rfl, ⟨G', hG', hN', ?_⟩, ?_, kR, ?_, ?_, ?_, ?_, ?_, hP⟩
      · simp only [kf1]
        rw [hN'.2.1, nmn (by omega), nmn (by omega), if_neg (by omega), nmn (by omega), if_pos (by omega), hE, bds]
      · simp only [kf1]
        rw [M_lines hM', bds, nmn (by omega), nmn (by omega), if_neg (by omega), nmn (by omega), if_pos (by omega), hs, bds]
      · show RW (A 12) G'; rw [a12]; exact a12'
      · show ITape T (up M'.1 20 x 2) (A 1); rw [aj 1 (by decide) (by decide) (by decide)]; exact kT
      · show IActs E (up M'.1 20 x 20) (A 15); rw [a15, up_e]; exact hxA
      · show IChain C' (up M'.1 20 x 28) (A 27) (up M'.1 20 x 29); rw [aj 27 (by decide) (by decide) (by decide)]; exact kC
      · show IGame Ga (up M'.1 20 x 32) (A 31); rw [aj 31 (by decide) (by decide) (by decide)]; exact kG
      · show IImg c0 (A 19 0) (A 14); rw [aj 19 (by decide) (by decide) (by decide), aj 14 (by decide) (by decide) (by decide)]; exact k0
      · show IImg c1 (A 19 1) (fun j => A 14 (147 + j)); rw [aj 19 (by decide) (by decide) (by decide), aj 14 (by decide) (by decide) (by decide)]; exact k11
