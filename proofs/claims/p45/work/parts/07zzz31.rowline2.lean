-- needs: 07zzz30.line
/-! net: the row of a line, the whole -/
theorem row_line {T R F M : ZB} {u p p1 : Nat} (hp : Tp T u M) (hTR : TR u p R M) (hC : CsR R) (h6 : M.1 6 = 2) (h7 : R.1 7 = (p1 : Int)) (h4 : M.1 4 = (p1 : Int)) (hp1 : p1 ≤ u) (hN : NR R F M) (h11 : R.1 11 = 0) (h8 : M.1 8 = 0) : RowO T u p1 M (fRd_readLine T R F) (fM_readLine M) := by
  obtain ⟨n, L, k, b1, b2, b3, b4, f4, f5, f6, f7, f8, m0, m1, m2, hnm, hln, hz⟩ := hN
  unfold fRd_readLine fM_readLine
  rw [f5, rdi (by omega), show Int.toNat 1 = 1 from rfl, m1, nmn (by omega)]
  by_cases hL : L = 24
  · obtain ⟨R', M', g1, g2, g3, g4, g5⟩ := fail_both hTR (a := 4) (by omega) (fun z => absurd z (TR_fr hTR h6))
    have g1' : fRd_fail R 4 = some (0, R') := g1
    have g2' : fM_bad M 4 = some (0, M') := g2
    rw [if_neg (by omega), if_pos (by omega), g1', g2', bds, bds]
    exact Or.inr ⟨R', F, M', zo0, Or.inl zo0, g3, CsR_of hC g4, FM3_of g5⟩
  · obtain ⟨M2, l1, l2, l3⟩ := look_of hp hp1 h7 h4
    have hp2 := Tp_fr hp l3
    have fm2 := FM3_of (FrM_2 l3)
    have x13 : M2.2 13 = M.2 13 := by rw [l3.2]
    have e8 : M2.1 8 = 0 := by rw [l3.1 8 (by decide) (by decide) (by decide) (by decide) (by decide)]; exact h8
    rw [if_pos (by omega), if_neg (by omega), l1, bds]
    rcases read_end (o := -1) (Or.inl rfl) hC l2 b1 f4 (by rw [x13]; exact m0) (NR_names rfl l3.2 hnm) with ⟨i, p2, R2, i1, i2, a1, a2, a3, a4, a5, a6, a7, a8, a9, a10⟩ | ⟨R', M', a1, a2, a3, a4, a5⟩
    · have hC2 := CsR_of hC (FrR_2 a9)
      obtain ⟨M3, c1, c2, c3⟩ := look_of hp2 a7 a4 a5
      have hp3 := Tp_fr hp2 c3
      have fm3 := FM3_tr fm2 (FM3_of (FrM_2 c3))
      have y13 : M3.2 13 = M.2 13 := by rw [c3.2, l3.2]
      have e8' : M3.1 8 = 0 := by rw [c3.1 8 (by decide) (by decide) (by decide) (by decide) (by decide)]; exact e8
      rw [a1, bds, a2, bds, if_neg (by decide : ¬ nm 1 = 0), a3, bds, nmn (show i < 2147483648 by omega), if_neg (by omega), if_neg (by omega), c1, bds]
      rcases read_end (o := (i : Int)) (Or.inr ⟨i, i1, rfl⟩) hC2 c2 b1 f4 (by rw [y13]; exact m0) (NR_names a9.2 (by rw [c3.2, l3.2]) hnm) with ⟨j, p3, R3, j1, j2, d1, d2, d3, d4, d5, d6, d7, d8, d9, d10⟩ | ⟨R', M', d1, d2, d3, d4, d5⟩
      · have hC3 := CsR_of hC2 (FrR_2 d9)
        obtain ⟨M4, g1, g2, g3⟩ := look_of hp3 d7 d4 d5
        have hp4 := Tp_fr hp3 g3
        have fm4 := FM3_tr fm3 (FM3_of (FrM_2 g3))
        have e8'' : M4.1 8 = 0 := by rw [g3.1 8 (by decide) (by decide) (by decide) (by decide) (by decide)]; exact e8'
        rw [d1, bds, d2, bds, if_neg (by decide : ¬ nm 1 = 0), d3, bds, kf0_e, kf1_e, nmn (show j < 2147483648 by omega), if_neg (by omega), if_neg (by omega), if_neg (by omega), g1, bds]
        rcases read_number (b := 99) (by omega) hp4 g2 with ⟨v, p4, R4, M5, r1, r2, r3, r4, r5, r6, r7, r8, r9, r10, r11⟩ | ⟨R', M', r1, r2, r3, r4, r5⟩
        · have r1' : fRd_readNumber T R3 99 = some (1, R4) := r1
          have r2' : fM_readNumber M4 1 99 = some (1, M5) := r2
          have z13 : M5.2 13 = M.2 13 := by rw [r10.2, g3.2]; exact y13
          have hp5 : Tp T u M5 := by
            obtain ⟨w1, w2, w3, w4, w5⟩ := hp4
            exact ⟨w1, w2, by rw [r10.1 3 (by decide) (by decide) (by decide) (by decide) (by decide) (by decide) (by decide) (by decide)]; exact w3, w4, by rw [r10.2]; exact w5⟩
          have fm5 := FM3_tr fm4 (FM3_of r10)
          have hset := set_line (M3 := M5) (L := L) (by omega) (by rw [z13]; exact m1) (i : Int) (j : Int) (v : Int) r6
          have hadd := add_line (F := F) (L := L) f5 (by omega) (i : Int) (j : Int) (v : Int)
          rw [r1', r2', bds, bds, if_neg (by decide : ¬ nm 1 = 0), if_neg (by decide : ¬ nm 1 = 0), r5, hadd, bds]
          have hr : ∀ c X, X = some ((1 : Int), ((M5.1, ua M5.2 13 (up (up (up (up (up (M5.2 13) (3+L) (i : Int)) (27+L) (j : Int)) (51+L) (v : Int)) (75+L) (-1)) 1 ((L : Int) + 1))) : ZB)) → RowO T u p1 M c (some ((1 : Int), ((M5.1, ua M5.2 13 (up (up (up (up (up (M5.2 13) (3+L) (i : Int)) (27+L) (j : Int)) (51+L) (v : Int)) (75+L) (-1)) 1 ((L : Int) + 1))) : ZB))) → RowO T u p1 M c X := fun c X h h' => by rw [h]; exact h'
          refine hr _ _ hset ?_
          have hC4 := CsR_of hC3 (FrR_2 r9)
          have e11 : R4.1 11 = 0 := by
            rw [r9.1 11 (by decide) (by decide) (by decide) (by decide), d9.1 11 (by decide) (by decide) (by decide) (by decide), a9.1 11 (by decide) (by decide) (by decide) (by decide)]; exact h11
          have e5 : M5.1 8 = 0 := by rw [r11]; exact e8''
          have hp6 : Tp T u (M5.1, ua M5.2 13 (up (up (up (up (up (M5.2 13) (3+L) (i : Int)) (27+L) (j : Int)) (51+L) (v : Int)) (75+L) (-1)) 1 ((L : Int) + 1))) := hp5
          have hl6 : Look T u p4 R4 (M5.1, ua M5.2 13 (up (up (up (up (up (M5.2 13) (3+L) (i : Int)) (27+L) (j : Int)) (51+L) (v : Int)) (75+L) (-1)) 1 ((L : Int) + 1))) := r8
          have fm6 : FM3 M (M5.1, ua M5.2 13 (up (up (up (up (up (M5.2 13) (3+L) (i : Int)) (27+L) (j : Int)) (51+L) (v : Int)) (75+L) (-1)) 1 ((L : Int) + 1))) := ⟨fm5.1, fun x a b => by
            show ua M5.2 13 _ x = _
            rw [ua_n _ _ a]; exact fm5.2 x a b⟩
          rcases read_sign hp6 hl6 with ⟨p5, R', M', t1, t2, t3, t4, t5, t6⟩ | ⟨R', M', t1, t2, t3, t4, t5⟩
          · rw [t1, bds]
            refine Or.inl ⟨p5, R', _, _, M', zo1, rfl, t2, by omega, t4, ?_, CsR_of hC4 (FrR_2 t5), FM3_tr fm6 (FM3_of (FrM_2 t6)), ?_, ?_⟩
            · have y13' : M'.2 13 = up (up (up (up (up (M.2 13) (3+L) (i : Int)) (27+L) (j : Int)) (51+L) (v : Int)) (75+L) (-1)) 1 ((L : Int) + 1) := by rw [t6.2, ← z13]; rfl
              have y18 : M'.2 18 = M.2 18 := by
                have q : M5.2 18 = M.2 18 := by rw [r10.2, g3.2, c3.2, l3.2]
                rw [t6.2, ← q]; rfl
              have yR : R'.2 2 = R.2 2 := by rw [t5.2, r9.2, d9.2, a9.2]
              have y6 : R'.1 6 = R.1 6 := by
                rw [t5.1 6 (by decide) (by decide) (by decide) (by decide), r9.1 6 (by decide) (by decide) (by decide) (by decide), d9.1 6 (by decide) (by decide) (by decide) (by decide), a9.1 6 (by decide) (by decide) (by decide) (by decide)]
              refine ⟨n, L + 1, k, b1, by omega, b3, b4, f4, ?_, f6, f7, f8, ?_, ?_, ?_, by rw [yR, y18]; exact hnm, fun l hl => ?_, fun x j1 j2 => ?_⟩
              · show up F.1 5 ((L : Int) + 1) 5 = _
                rw [up_e]; omega
              · rw [y13', up_n _ _ (by omega), up_n _ _ (by omega), up_n _ _ (by omega), up_n _ _ (by omega), up_n _ _ (by omega)]; exact m0
              · rw [y13', up_e]; omega
              · rw [y13', up_n _ _ (by omega), up_n _ _ (by omega), up_n _ _ (by omega), up_n _ _ (by omega), up_n _ _ (by omega), y6]; exact m2
              · by_cases e : l = L
                · subst e
                  refine ⟨i, j, v, i1, j1, by omega, r3, r4, up_e (F.2 0) l (i : Int), up_e (F.2 1) l (j : Int), up_e (F.2 2) l (v : Int), up_e (F.2 3) l (-1), ?_, ?_, ?_, ?_⟩
                  · rw [y13', up_n _ _ (by omega), up_n _ _ (by omega), up_n _ _ (by omega), up_n _ _ (by omega), up_e]
                  · rw [y13', up_n _ _ (by omega), up_n _ _ (by omega), up_n _ _ (by omega), up_e]
                  · rw [y13', up_n _ _ (by omega), up_n _ _ (by omega), up_e]
                  · rw [y13', up_n _ _ (by omega), up_e]
                · obtain ⟨a, b, w, g1, g2, g3, g4, g5, g6, g7, g8, g9, z1, z2, z3, z4⟩ := hln l (by omega)
                  refine ⟨a, b, w, g1, g2, g3, g4, g5, (up_n (F.2 0) _ e).trans g6, (up_n (F.2 1) _ e).trans g7, (up_n (F.2 2) _ e).trans g8, (up_n (F.2 3) _ e).trans g9, ?_, ?_, ?_, ?_⟩
                  · rw [y13', up_n _ _ (by omega), up_n _ _ (by omega), up_n _ _ (by omega), up_n _ _ (by omega), up_n _ _ (by omega)]; exact z1
                  · rw [y13', up_n _ _ (by omega), up_n _ _ (by omega), up_n _ _ (by omega), up_n _ _ (by omega), up_n _ _ (by omega)]; exact z2
                  · rw [y13', up_n _ _ (by omega), up_n _ _ (by omega), up_n _ _ (by omega), up_n _ _ (by omega), up_n _ _ (by omega)]; exact z3
                  · rw [y13', up_n _ _ (by omega), up_n _ _ (by omega), up_n _ _ (by omega), up_n _ _ (by omega), up_n _ _ (by omega)]; exact z4
              · rw [y13', up_n _ _ (by omega), up_n _ _ (by omega), up_n _ _ (by omega), up_n _ _ (by omega), up_n _ _ (by omega)]; exact hz x j1 j2
            · rw [t5.1 11 (by decide) (by decide) (by decide) (by decide)]; exact e11
            · rw [t6.1 8 (by decide) (by decide) (by decide) (by decide) (by decide)]; exact e5
          · rw [t1, bds]
            exact Or.inr ⟨R', _, M', zo0, Or.inr ⟨_, rfl, t2⟩, t3, CsR_of hC4 t4, FM3_tr fm6 (FM3_of t5)⟩
        · have r1' : fRd_readNumber T R3 99 = some (0, R') := r1
          have r2' : fM_readNumber M4 1 99 = some (0, M') := r2
          rw [r1', r2', bds, bds, if_pos (by decide : nm 0 = 0), if_pos (by decide : nm 0 = 0)]
          exact Or.inr ⟨R', F, M', rfl, Or.inl rfl, r3, CsR_of hC3 r4, FM3_tr fm4 (FM3_of r5)⟩
      · rw [d1, bds, kf1_e, if_pos (by decide : nm (-1) = -1)]
        refine Or.inr ⟨R', F, M', rfl, Or.inl ?_, d3, CsR_of hC2 d4, FM3_tr fm3 (FM3_of d5)⟩
        rcases d2 with ⟨q1, q2⟩ | ⟨q, q1, q2, q3, q4⟩
        · rw [q1, bds, if_pos (by decide : nm 0 = 0), q2, bds]; exact zo0
        · rw [q1, bds, if_neg (by decide : ¬ nm 1 = 0), q2, bds, kf0_e, q4, bds]
          rcases q3 with rfl | ⟨rfl, _⟩
          · rw [if_pos (by decide : nm (-1) = -1)]; exact zo0
          · rw [nmn (show i < 2147483648 by omega), if_neg (by omega), if_pos rfl]; exact zo0
    · rw [a1, bds, if_pos (by decide : nm (-1) = -1)]
      refine Or.inr ⟨R', F, M', rfl, Or.inl ?_, a3, CsR_of hC a4, FM3_tr fm2 (FM3_of a5)⟩
      rcases a2 with ⟨q1, q2⟩ | ⟨q, q1, q2, q3, q4⟩
      · rw [q1, bds, if_pos (by decide : nm 0 = 0), q2, bds]; exact zo0
      · have hq : q = -1 := by rcases q3 with z | ⟨z, _⟩ <;> exact z
        rw [q1, bds, if_neg (by decide : ¬ nm 1 = 0), q2, bds, hq, if_pos (by decide : nm (-1) = -1), q4, bds]; exact zo0
