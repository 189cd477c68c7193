-- needs: 07zzz27.rowpoint
/-! net: the row of the forests -/
theorem row_forests {T R F M : ZB} {u p p1 : Nat} (hp : Tp T u M) (hTR : TR u p R M) (hC : CsR R) (h6 : M.1 6 = 2) (h7 : R.1 7 = (p1 : Int)) (h4 : M.1 4 = (p1 : Int)) (hp1 : p1 ≤ u) (hN : NR R F M) (h11 : R.1 11 = 0) (h8 : M.1 8 = 0) : RowO T u p1 M (fRd_readForests T R F) (fM_readForests M) := by
  obtain ⟨n, L, k, b1, b2, b3, b4, f4, f5, f6, f7, f8, m0, m1, m2, hnm, hln, hz⟩ := hN
  unfold fRd_readForests fM_readForests
  rw [rdi (by omega), show Int.toNat 2 = 2 from rfl]
  rcases m2 with ⟨s1, s2, s3⟩ | ⟨s1, s2⟩
  · obtain ⟨M2, l1, l2, l3⟩ := look_of hp hp1 h7 h4
    have hp2 := Tp_fr hp l3
    have fm2 := FM3_of (FrM_2 l3)
    have x13 : M2.2 13 = M.2 13 := by rw [l3.2]
    have x18 : M2.2 18 = M.2 18 := by rw [l3.2]
    have e8 : M2.1 8 = 0 := by rw [l3.1 8 (by decide) (by decide) (by decide) (by decide) (by decide)]; exact h8
    rw [s1, s3, if_pos (by decide : nm 0 = 0), if_pos (by decide : nm 0 = 0), l1, bds]
    rcases read_number (b := 5) (by omega) hp2 l2 with ⟨v, p2, R2, M3, r1, r2, r3, r4, r5, r6, r7, r8, r9, r10, r11⟩ | ⟨R', M', r1, r2, r3, r4, r5⟩
    · have r1' : fRd_readNumber T R 5 = some (1, R2) := r1
      have r2' : fM_readNumber M2 1 5 = some (1, M3) := r2
      have hp3 : Tp T u M3 := by
        obtain ⟨a1, a2, a3, a4, a5⟩ := hp2
        exact ⟨a1, a2, by rw [r10.1 3 (by decide) (by decide) (by decide) (by decide) (by decide) (by decide) (by decide) (by decide)]; exact a3, a4, by rw [r10.2]; exact a5⟩
      rw [r1', r2', bds, bds, if_neg (by decide : ¬ nm 1 = 0), if_neg (by decide : ¬ nm 1 = 0), lt_e, lt_e, ixi (by omega), lt_e]
      have hp8 : Tp T u (M3.1, ua M3.2 13 (up (M3.2 13) 2 (M3.1 11))) := hp3
      have hlook : Look T u p2 (up R2.1 6 1, R2.2) (M3.1, ua M3.2 13 (up (M3.2 13) 2 (M3.1 11))) := ⟨r8.1, r8.2.1, fun R0 h0 => r8.2.2 R0 h0⟩
      have hC2 := CsR_of hC (FrR_2 r9)
      have hC3 : CsR (up R2.1 6 1, R2.2) := hC2
      have fm8 : FM3 M (M3.1, ua M3.2 13 (up (M3.2 13) 2 (M3.1 11))) := ⟨(FM3_tr fm2 (FM3_of r10)).1, fun i a b => by
        show ua M3.2 13 _ i = _
        rw [ua_n _ _ a]; exact (FM3_tr fm2 (FM3_of r10)).2 i a b⟩
      have e11 : R2.1 11 = 0 := by rw [r9.1 11 (by decide) (by decide) (by decide) (by decide)]; exact h11
      have e8' : M3.1 8 = 0 := by rw [r11]; exact e8
      rcases read_sign hp8 hlook with ⟨p3, R', M', t1, t2, t3, t4, t5, t6⟩ | ⟨R', M', t1, t2, t3, t4, t5⟩
      · have t1' : fRd_readSign T ((up R2.1 6 1, R2.2) : ZB) = some (1, R') := t1
        refine Or.inl ⟨p3, R', (up F.1 6 (v : Int), F.2), (M3.1, ua M3.2 13 (up (M3.2 13) 2 (M3.1 11))), M', ?_, rfl, t2, by omega, t4, ?_, CsR_of hC3 (FrR_2 t5), FM3_tr fm8 (FM3_of (FrM_2 t6)), ?_, ?_⟩
        · show bd (fRd_readSign T ((up R2.1 6 1, R2.2) : ZB)) _ = _
          rw [t1', bds, r5]; exact zo1
        · have y13 : M'.2 13 = up (M.2 13) 2 (v : Int) := by rw [t6.2, ← x13, ← r6, ← r10.2]; rfl
          have y18 : M'.2 18 = M.2 18 := by rw [t6.2, ← x18, ← r10.2]; rfl
          have yR : R'.2 2 = R.2 2 := by rw [t5.2, ← r9.2]
          have y6 : R'.1 6 = 1 := by rw [t5.1 6 (by decide) (by decide) (by decide) (by decide)]; exact up_e R2.1 6 1
          refine ⟨n, L, v, b1, b2, r3, r4, f4, f5, up_e F.1 6 (v : Int), f7, f8, ?_, ?_, Or.inr ⟨y6, ?_⟩, ?_, fun l hl => ?_, fun j j1 j2 => ?_⟩
          · rw [y13, up_n _ _ (by decide)]; exact m0
          · rw [y13, up_n _ _ (by decide)]; exact m1
          · rw [y13, up_e]
          · rw [yR, y18]; exact hnm
          · obtain ⟨a, b, w, g1, g2, g3, g4, g5, g6, g7, g8, g9, z1, z2, z3, z4⟩ := hln l hl
            refine ⟨a, b, w, g1, g2, g3, g4, g5, g6, g7, g8, g9, ?_, ?_, ?_, ?_⟩
            · rw [y13, up_n _ _ (by omega)]; exact z1
            · rw [y13, up_n _ _ (by omega)]; exact z2
            · rw [y13, up_n _ _ (by omega)]; exact z3
            · rw [y13, up_n _ _ (by omega)]; exact z4
          · rw [y13, up_n _ _ (by omega)]; exact hz j j1 j2
        · rw [t5.1 11 (by decide) (by decide) (by decide) (by decide)]; exact e11
        · rw [t6.1 8 (by decide) (by decide) (by decide) (by decide) (by decide)]; exact e8'
      · have t1' : fRd_readSign T ((up R2.1 6 1, R2.2) : ZB) = some (0, R') := t1
        refine Or.inr ⟨R', (up F.1 6 (v : Int), F.2), M', ?_, Or.inr ⟨_, rfl, t2⟩, t3, CsR_of hC3 t4, FM3_tr fm8 (FM3_of t5)⟩
        show bd (fRd_readSign T ((up R2.1 6 1, R2.2) : ZB)) _ = _
        rw [t1', bds, r5]; exact zo0
    · have r1' : fRd_readNumber T R 5 = some (0, R') := r1
      have r2' : fM_readNumber M2 1 5 = some (0, M') := r2
      rw [r1', r2', bds, bds, if_pos (by decide : nm 0 = 0), if_pos (by decide : nm 0 = 0)]
      exact Or.inr ⟨R', F, M', rfl, Or.inl rfl, r3, CsR_of hC r4, FM3_tr fm2 (FM3_of r5)⟩
  · obtain ⟨R', M', g1, g2, g3, g4, g5⟩ := fail_both hTR (a := 3) (by omega) (fun z => absurd z (TR_fr hTR h6))
    have g1' : fRd_fail R 3 = some (0, R') := g1
    have g2' : fM_bad M 3 = some (0, M') := g2
    rw [s1, s2, if_neg (by decide : ¬ nm 1 = 0), nmn (by omega), if_neg (by omega), g1', g2', bds, bds]
    exact Or.inr ⟨R', F, M', zo0, Or.inl zo0, g3, CsR_of hC g4, FM3_of g5⟩
