-- needs: 07zzz26.point
/-! net: the row of a point -/
def FM3 (M M' : ZB) : Prop := (∀ i, i ≠ 4 → i ≠ 5 → i ≠ 6 → i ≠ 7 → i ≠ 8 → i ≠ 9 → i ≠ 10 → i ≠ 11 → M'.1 i = M.1 i) ∧ ∀ i, i ≠ 13 → i ≠ 18 → M'.2 i = M.2 i
theorem FM3_of {M M' : ZB} (h : FrM2 M M') : FM3 M M' := ⟨h.1, fun i _ _ => by rw [h.2]⟩
theorem FM3_tr {A B C : ZB} (h : FM3 A B) (h' : FM3 B C) : FM3 A C := ⟨fun i a b c d e f g k => by rw [h'.1 i a b c d e f g k]; exact h.1 i a b c d e f g k, fun i a b => by rw [h'.2 i a b]; exact h.2 i a b⟩
theorem CsR_of {R R' : ZB} (h : CsR R) (hF : FrR2 R R') : CsR R' := by
  obtain ⟨a, b, c⟩ := h
  exact ⟨by rw [hF.1 3 (by decide) (by decide) (by decide) (by decide) (by decide) (by decide)]; exact a, by rw [hF.1 4 (by decide) (by decide) (by decide) (by decide) (by decide) (by decide)]; exact b, by rw [hF.1 5 (by decide) (by decide) (by decide) (by decide) (by decide) (by decide)]; exact c⟩
theorem TR_fr {u p : Nat} {R M : ZB} (h : TR u p R M) (h6 : M.1 6 = 2) : M.1 6 ≠ 1 := by rw [h6]; decide
/-- a row's outcome -/
def RowO (T : ZB) (u p1 : Nat) (M : ZB) (c : Option (Int × ZB × ZB)) (r : Option (Int × ZB)) : Prop :=
  (∃ (p' : Nat) (R' F' M1 M' : ZB), c = some (1, R', F') ∧ r = some (1, M1) ∧ fM_readEnd M1 = some (1, M') ∧ p1 < p' ∧ Look T u p' R' M' ∧ NR R' F' M' ∧ CsR R' ∧ FM3 M M' ∧ R'.1 11 = 0 ∧ M'.1 8 = 0) ∨
  (∃ R' F' M' : ZB, c = some (0, R', F') ∧ (r = some (0, M') ∨ ∃ M1, r = some (1, M1) ∧ fM_readEnd M1 = some (0, M')) ∧ Fail R' M' ∧ CsR R' ∧ FM3 M M')
theorem row_point {T R F M : ZB} {u p p1 : Nat} (hp : Tp T u M) (hTR : TR u p R M) (hC : CsR R) (h6 : M.1 6 = 2) (h7 : R.1 7 = (p1 : Int)) (h4 : M.1 4 = (p1 : Int)) (hp1 : p1 ≤ u) (hN : NR R F M) (h11 : R.1 11 = 0) (h8 : M.1 8 = 0) : RowO T u p1 M (fRd_readPoint T R F) (fM_readPoint M) := by
  obtain ⟨n, L, k, b1, b2, b3, b4, f4, f5, f6, f7, f8, m0, m1, m2, hnm, hln, hz⟩ := hN
  unfold fRd_readPoint fM_readPoint
  rw [f4, rdi (by omega), show Int.toNat 0 = 0 from rfl, m0, nmn (by omega)]
  by_cases hn : n = 10
  · obtain ⟨R', M', g1, g2, g3, g4, g5⟩ := fail_both hTR (a := 4) (by omega) (fun z => absurd z (TR_fr hTR h6))
    have g1' : fRd_fail R 4 = some (0, R') := g1
    have g2' : fM_bad M 4 = some (0, M') := g2
    rw [if_neg (by omega), if_pos (by omega), g1', g2', bds, bds]
    exact Or.inr ⟨R', F, M', zo0, Or.inl zo0, g3, CsR_of hC g4, FM3_of g5⟩
  · rw [if_pos (by omega), if_neg (by omega)]
    obtain ⟨M2, l1, l2, l3⟩ := look_of hp hp1 h7 h4
    rw [l1, bds]
    have hp2 := Tp_fr hp l3
    have fm2 := FM3_of (FrM_2 l3)
    have x13 : M2.2 13 = M.2 13 := by rw [l3.2]
    have x18 : M2.2 18 = M.2 18 := by rw [l3.2]
    rcases read_name hC l2 with ⟨v, p2, R2, r1, r1b, r2, r3, r4, r5, r6, r7, r8, r9, r10, r11, r12⟩ | ⟨R1, R', M', r1, r1b, r1c, r2, r3, r4, r5, r6⟩
    · have hC2 := CsR_of hC (FrR_2 r12)
      have hnm2 : ∀ i, i < n → R2.2 2 i = M2.2 18 i ∧ ∃ v : Nat, R2.2 2 i = (v : Int) ∧ v < 10460353203 := by rw [r12.2, x18]; exact hnm
      obtain ⟨q, q1, q2, q3⟩ := point_of (R := R2) (F := F) (M := M2) (n := n) (v := v) b1 f4 (by rw [x13]; exact m0) hnm2 r5 r4
      have e11 : R2.1 11 = 0 := by rw [r12.1 11 (by decide) (by decide) (by decide) (by decide)]; exact h11
      have e8 : M2.1 8 = 0 := by rw [l3.1 8 (by decide) (by decide) (by decide) (by decide) (by decide)]; exact h8
      have e6 : R2.1 6 = R.1 6 := r12.1 6 (by decide) (by decide) (by decide) (by decide)
      rw [r1, bds, r1b, bds, if_neg (by decide : ¬ nm 1 = 0), r3, q1, bds, r2, bds, if_neg (by decide : ¬ nm 1 = 0), q2, bds]
      rcases q3 with rfl | ⟨i, i1, rfl⟩
      · rw [if_pos (by decide), if_pos (by decide), ixn (by omega), lt_e, lt_e, x13, rdi (by omega), show Int.toNat 0 = 0 from rfl, m0, ixn (by omega), lt_e, Int.toNat_natCast]
        have x13' : ((M2.1, ua M2.2 18 (up (M2.2 18) n (M2.1 10))) : ZB).2 13 = M.2 13 := x13
        rw [x13', rdi (by omega), show Int.toNat 0 = 0 from rfl, m0, ixi (by omega), lt_e]
        have hp8 : Tp T u (M2.1, ua (ua M2.2 18 (up (M2.2 18) n (M2.1 10))) 13 (up (M.2 13) 0 ((n : Int) + 1))) := hp2
        have r7' : ((R2.1, ua R2.2 2 (up (R2.2 2) n (v : Int))) : ZB).1 7 = (p2 : Int) := r7
        have r8' : ((M2.1, ua (ua M2.2 18 (up (M2.2 18) n (M2.1 10))) 13 (up (M.2 13) 0 ((n : Int) + 1))) : ZB).1 4 = (p2 : Int) := r8
        obtain ⟨M9, k1, k2, k3⟩ := look_of hp8 r10 r7' r8'
        have hp9 := Tp_fr hp8 k3
        have fm8 : FM3 M (M2.1, ua (ua M2.2 18 (up (M2.2 18) n (M2.1 10))) 13 (up (M.2 13) 0 ((n : Int) + 1))) := ⟨fm2.1, fun i a b => by
          show ua (ua M2.2 18 _) 13 _ i = _
          rw [ua_n _ _ a, ua_n _ _ b]; exact fm2.2 i a b⟩
        have fm9 := FM3_tr fm8 (FM3_of (FrM_2 k3))
        have e8' : M9.1 8 = 0 := by rw [k3.1 8 (by decide) (by decide) (by decide) (by decide) (by decide)]; exact e8
        have hC3 : CsR (R2.1, ua R2.2 2 (up (R2.2 2) n (v : Int))) := hC2
        have go9 : (bd (fM_go (M2.1, ua (ua M2.2 18 (up (M2.2 18) n (M2.1 10))) 13 (up (M.2 13) 0 ((n : Int) + 1)))) fun u_9 => some ((1 : Int), u_9)) = some (1, M9) := by rw [k1, bds]
        have hr : ∀ c, RowO T u p1 M c (some (1, M9)) → RowO T u p1 M c (bd (fM_go (M2.1, ua (ua M2.2 18 (up (M2.2 18) n (M2.1 10))) 13 (up (M.2 13) 0 ((n : Int) + 1)))) fun u_9 => some ((1 : Int), u_9)) := fun c h => by rw [go9]; exact h
        refine hr _ ?_
        rcases read_sign hp9 k2 with ⟨p3, R', M', s1, s2, s3, s4, s5, s6⟩ | ⟨R', M', s1, s2, s3, s4, s5⟩
        · have s1' : fRd_readSign T ((R2.1, ua R2.2 2 (up (R2.2 2) n (v : Int))) : ZB) = some (1, R') := s1
          refine Or.inl ⟨p3, R', (up F.1 4 ((n : Int) + 1), F.2), M9, M', ?_, rfl, s2, by omega, s4, ?_, CsR_of hC3 (FrR_2 s5), FM3_tr fm9 (FM3_of (FrM_2 s6)), ?_, ?_⟩
          · show bd (fRd_readSign T ((R2.1, ua R2.2 2 (up (R2.2 2) n (v : Int))) : ZB)) _ = _
            rw [s1', bds]; exact zo1
          · have y13 : M'.2 13 = up (M.2 13) 0 ((n : Int) + 1) := by rw [s6.2, k3.2]; rfl
            have y18 : M'.2 18 = up (M.2 18) n (v : Int) := by rw [s6.2, k3.2, ← r4, ← x18]; rfl
            have yR : R'.2 2 = up (R.2 2) n (v : Int) := by rw [s5.2, ← r12.2]; rfl
            have y6 : R'.1 6 = R.1 6 := by rw [s5.1 6 (by decide) (by decide) (by decide) (by decide)]; exact e6
            refine ⟨n + 1, L, k, by omega, b2, b3, b4, ?_, f5, f6, f7, f8, ?_, ?_, ?_, fun i hi => ?_, fun l hl => ?_, fun j j1 j2 => ?_⟩
            · show up F.1 4 ((n : Int) + 1) 4 = _
              rw [up_e]; omega
            · rw [y13, up_e]; omega
            · rw [y13, up_n _ _ (by decide)]; exact m1
            · rw [y13, up_n _ _ (by decide), y6]; exact m2
            · rw [yR, y18]
              by_cases e : i = n
              · subst e
                rw [up_e, up_e]
                exact ⟨rfl, v, rfl, r5⟩
              · rw [up_n _ _ e, up_n _ _ e]; exact hnm i (by omega)
            · obtain ⟨a, b, w, g1, g2, g3, g4, g5, g6, g7, g8, g9, t1, t2, t3, t4⟩ := hln l hl
              refine ⟨a, b, w, by omega, by omega, g3, g4, g5, g6, g7, g8, g9, ?_, ?_, ?_, ?_⟩
              · rw [y13, up_n _ _ (by omega)]; exact t1
              · rw [y13, up_n _ _ (by omega)]; exact t2
              · rw [y13, up_n _ _ (by omega)]; exact t3
              · rw [y13, up_n _ _ (by omega)]; exact t4
            · rw [y13, up_n _ _ (by omega)]; exact hz j j1 j2
          · rw [s5.1 11 (by decide) (by decide) (by decide) (by decide)]; exact e11
          · rw [s6.1 8 (by decide) (by decide) (by decide) (by decide) (by decide)]; exact e8'
        · have s1' : fRd_readSign T ((R2.1, ua R2.2 2 (up (R2.2 2) n (v : Int))) : ZB) = some (0, R') := s1
          refine Or.inr ⟨R', (up F.1 4 ((n : Int) + 1), F.2), M', ?_, Or.inr ⟨M9, rfl, s2⟩, s3, CsR_of hC3 s4, FM3_tr fm9 (FM3_of s5)⟩
          show bd (fRd_readSign T ((R2.1, ua R2.2 2 (up (R2.2 2) n (v : Int))) : ZB)) _ = _
          rw [s1', bds]; exact zo0
      · obtain ⟨R', M', g1, g2, g3, g4, g5⟩ := fail_both r11 (a := 3) (by omega) (fun z => absurd z (TR_fr r11 r6))
        have g1' : fRd_fail R2 3 = some (0, R') := g1
        have g2' : fM_bad M2 3 = some (0, M') := g2
        rw [nmn (by omega), if_neg (by omega), if_neg (by omega), g1', g2', bds, bds]
        exact Or.inr ⟨R', F, M', zo0, Or.inl zo0, g3, CsR_of hC2 g4, FM3_tr fm2 (FM3_of g5)⟩
    · rw [r1, bds, r1b, bds, if_pos (by decide : nm 0 = 0), r1c, bds, r2, bds, if_pos (by decide : nm 0 = 0), r3, bds]
      exact Or.inr ⟨R', F, M', zo0, Or.inl zo0, r4, CsR_of hC r5, FM3_tr fm2 (FM3_of r6)⟩
