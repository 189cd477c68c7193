-- needs: 07zzz36.netloop
/-! net: the loop -/
def NetQ (M0 : ZB) (q : Int × ZB × ZB) (t : Int × ZB) : Prop :=
  (∃ r : Nat, r ≤ 320 ∧ q.1 = (r : Int) ∧ CsR q.2.1 ∧ q.2.1.1 11 = 0 ∧ ∃ M1, NR q.2.1 q.2.2 M1 ∧ FM3 M0 M1 ∧ M1.1 8 = 0 ∧ RefEnd (r : Int) M1 = some t) ∨
  (∃ pl : Nat, pl ≤ 600 ∧ q.1 = -1 - (pl : Int) ∧ t.1 = -1 - (pl : Int) ∧ CsR q.2.1 ∧ q.2.1.1 11 = t.2.1 8 ∧ FM3 M0 t.2)
def b1n (T : ZB) (rec_9 : Int → Int → ZB → ZB → Option (Int × ZB × ZB)) (v1 v2 : Int) (R F : ZB) : Option (Int × ZB × ZB) :=
    if 600 < (nm v2) then ClsEnd T v1 R F
    else (
      bd (fRd_nextToken T R) fun u_19 =>
      if (nm (u_19.1 8)) = 0 then ClsEnd T v1 u_19 F
      else (
        bd (fRd_readRow T u_19 F) fun u_20 =>
        if (nm u_20.1) = 0 then ClsEnd T v1 u_20.2.1 u_20.2.2
        else (
          rec_9 (v1 + 1) (v2 + 1) u_20.2.1 u_20.2.2)))
def K2n (rec_12 : Int → ZB → Option (Int × ZB)) (v1 : Int) (w0_20 : Int) (M_21 : ZB) : Option (Int × ZB) :=
            if (nm w0_20) = 0 then some (((-1) - (M_21.1 9)), M_21)
            else (
              bd (fM_readEnd M_21) fun u_25 =>
              if (nm u_25.1) = 0 then some (((-1) - (u_25.2.1 9)), u_25.2)
              else (
                rec_12 (v1 + 1) u_25.2))
def b2n (rec_12 : Int → ZB → Option (Int × ZB)) (v1 : Int) (M : ZB) : Option (Int × ZB) :=
        if (nm (M.1 6)) = 0 then RefEnd v1 M
        else bd (RefRow M) fun u => K2n rec_12 v1 u.1 u.2
theorem net_loop {T M0 R F M : ZB} {u : Nat} (h : LpH T u M0 0 0 0 0 R F 0 M) : ∃ q t, lop4 FU (b1n T) 0 0 R F = some q ∧ lop2 FU b2n 0 M = some t ∧ NetQ M0 q t := by
  refine lopJ42 (fun v1 v2 R F w1 M => ∃ r p, LpH T u M0 r p v1 v2 R F w1 M) (fun _ v2 _ _ _ _ => 1000 - v2.toNat) (NetQ M0) ?_ FU 0 0 R F 0 M ⟨0, 0, h⟩ (by show 1000 - _ < 100000; omega)
  intro v1 v2 R F w1 M ⟨r, p, h⟩
  obtain ⟨R1, n1, n2, n3, n4, n5, n6⟩ := turn h
  obtain ⟨rfl, rfl, rfl, hrp, hpu, hp, hl, hN, hC, hFM, h11, h8⟩ := h
  have hu := hp.1
  have hT := hp.2.1
  have e600 : ¬ 600 < nm (r : Int) := by rw [nmn (by omega)]; omega
  have stop1 : R1.1 8 = 0 → M.1 6 = 0 → u ≤ 600 → (∃ q t, (∀ rec, b1n T rec (r : Int) (r : Int) R F = some q) ∧ (∀ rec, b2n rec (r : Int) M = some t) ∧ NetQ M0 q t) := by
    intro a b c
    obtain ⟨k, g, f, _, e2, _⟩ := ref_end n3 (r : Int)
    refine ⟨((r : Int), R1, F), _, fun rec => ?_, fun rec => ?_, Or.inl ⟨r, by omega, rfl, n4, n5, M, n3, hFM, h8, e2⟩⟩
    · unfold b1n
      rw [if_neg e600, n1, bds, a, if_pos (by decide)]
      exact cls_ok hT c n5
    · unfold b2n
      rw [b, if_pos (by decide)]
      exact e2
  have stop2 : R1.1 8 = 0 → M.1 6 = 1 → 600 < u → (∃ q t, (∀ rec, b1n T rec (r : Int) (r : Int) R F = some q) ∧ (∀ rec, b2n rec (r : Int) M = some t) ∧ NetQ M0 q t) := by
    intro a b c
    obtain ⟨R', M', f1, f2, ⟨f, pl, g1, g2, g3, g4, g5, g6, g7⟩, f4, f5⟩ := fail_both n2 (a := 1) (by omega) (fun _ => rfl)
    have f1' : fRd_fail R1 1 = some (0, R') := f1
    have f2' : fM_bad M 1 = some (0, M') := f2
    have e1 : R'.1 11 = 1 := by
      unfold fRd_fail at f1'
      rw [lt_e, lt_e] at f1'
      have := (Prod.mk.inj (Option.some.inj f1')).2
      rw [← this]; rfl
    obtain ⟨w1, w2, w3⟩ := M_nowords (M := M) (by omega) (by rw [b]; decide)
    refine ⟨(-1 - (pl : Int), R', F), (-1 - (pl : Int), M'), fun rec => ?_, fun rec => ?_, Or.inr ⟨pl, g3, rfl, rfl, CsR_of n4 f4, by show R'.1 11 = M'.1 8; rw [g4, g5], FM3_tr hFM (FM3_of f5)⟩⟩
    · unfold b1n
      rw [if_neg e600, n1, bds, a, if_pos (by decide)]
      exact cls_long hT c hu n5 f1' e1 g6
    · unfold b2n RefRow
      rw [b, if_neg (by decide), w1, bds, if_pos (by decide : nm 0 = 0), w2, bds, if_pos (by decide : nm 0 = 0), w3, bds, if_pos (by decide : nm 0 = 0), f2', bds]
      unfold K2n
      rw [if_pos (by decide : nm 0 = 0), g7]
  have goes : R1.1 8 ≠ 0 → nm (R1.1 8) = R1.1 8 → M.1 6 ≠ 0 → nm (M.1 6) = M.1 6 → (∃ u0 u1 u2 u3 x0 x1, (∃ r p, LpH T u M0 r p u0 u1 u2 u3 x0 x1) ∧ 1000 - u1.toNat < 1000 - ((r : Int)).toNat ∧ (∀ rec, b1n T rec (r : Int) (r : Int) R F = rec u0 u1 u2 u3) ∧ (∀ rec, b2n rec (r : Int) M = rec x0 x1)) ∨ (∃ q t, (∀ rec, b1n T rec (r : Int) (r : Int) R F = some q) ∧ (∀ rec, b2n rec (r : Int) M = some t) ∧ NetQ M0 q t) := by
    intro a a' b b'
    rcases n6 a with ⟨p', R', F', M1, M', c1, c2, c3, c4, c5, c6, c7, c8, c9, c10⟩ | ⟨R', F', M', c1, c2, ⟨f, pl, g1, g2, g3, g4, g5, g6, g7⟩, c7, c8⟩
    · refine Or.inl ⟨(r : Int) + 1, (r : Int) + 1, R', F', (r : Int) + 1, M', ⟨r + 1, p', by omega, by omega, by omega, by omega, c5.1, FM3_tp hp c8, c5, c6, c7, FM3_tr hFM c8, c9, c10⟩, by omega, fun rec => ?_, fun rec => ?_⟩
      · unfold b1n
        rw [if_neg e600, n1, bds, a', if_neg a, c1, bds, if_neg (by decide : ¬ nm 1 = 0)]
      · unfold b2n
        rw [b', if_neg b, c2, bds]
        unfold K2n
        rw [if_neg (by decide : ¬ nm 1 = 0), c3, bds, if_neg (by decide : ¬ nm 1 = 0)]
    · refine Or.inr ⟨(-1 - (pl : Int), R', F'), (-1 - (pl : Int), M'), fun rec => ?_, fun rec => ?_, Or.inr ⟨pl, g3, rfl, rfl, c7, by show R'.1 11 = M'.1 8; rw [g4, g5], FM3_tr hFM c8⟩⟩
      · unfold b1n
        rw [if_neg e600, n1, bds, a', if_neg a, c1, bds, if_pos (by decide : nm 0 = 0)]
        exact cls_bad ⟨g1, g2⟩ g4 g6
      · unfold b2n
        rw [b', if_neg b]
        rcases c2 with z | ⟨M1, z1, z2⟩
        · rw [z, bds]
          unfold K2n
          rw [if_pos (by decide : nm 0 = 0), g7]
        · rw [z1, bds]
          unfold K2n
          rw [if_neg (by decide : ¬ nm 1 = 0), z2, bds, if_pos (by decide : nm 0 = 0), g7]
  rcases n2.2 with ⟨_, _, h, h', _⟩ | ⟨_, _, h, h', _⟩ | ⟨_, h, h', _⟩ | ⟨h, h', h''⟩ | ⟨h, h', h''⟩ | ⟨h, h'⟩
  · exact goes (by omega) (by rw [h]; decide) (by omega) (by rw [h']; decide)
  · exact goes (by omega) (by rw [h]; decide) (by omega) (by rw [h']; decide)
  · exact goes (by omega) (by rw [h]; decide) (by omega) (by rw [h']; decide)
  · exact Or.inr (stop1 h h' h'')
  · exact Or.inr (stop2 h h' h'')
  · exact goes (by omega) (by rw [h]; decide) (by omega) (by rw [h']; decide)
