-- needs: 07zzz31.rowline2
/-! net: any row -/
def RefRow (M : ZB) : Option (Int × ZB) := bd (fM_isPointWord M) fun u_19 => if nm u_19 = 0 then (bd (fM_isLineWord M) fun u_26 => if nm u_26 = 0 then (bd (fM_isForestsWord M) fun u_27 => if nm u_27 = 0 then fM_bad M 1 else fM_readForests M) else fM_readLine M) else fM_readPoint M
theorem RowO_le {T M : ZB} {u p p1 : Nat} {c : Option (Int × ZB × ZB)} {r : Option (Int × ZB)} (h : RowO T u p1 M c r) (hp : p < p1) : RowO T u (p+1) M c r := by
  rcases h with ⟨p', R', F', M1, M', a, b, c', d, e⟩ | h
  · exact Or.inl ⟨p', R', F', M1, M', a, b, c', by omega, e⟩
  · exact Or.inr h
theorem RowO_zo {T M : ZB} {u p : Nat} {c : Option (Int × ZB × ZB)} {r : Option (Int × ZB)} (h : RowO T u p M c r) : (bd c fun u_7 => zo u_7.1 <| some (u_7.1, u_7.2.1, u_7.2.2)) = c := by
  rcases h with ⟨_, R', F', _, _, a, _⟩ | ⟨R', F', _, a, _⟩
  · rw [a, bds]; exact zo1
  · rw [a, bds]; exact zo0
theorem row_any {T R F M : ZB} {u p : Nat} (hp : Tp T u M) (hTR : TR u p R M) (hC : CsR R) (hk : R.1 8 ≠ 0) (hN : NR R F M) (h11 : R.1 11 = 0) (h8 : M.1 8 = 0) : RowO T u (p+1) M (fRd_readRow T R F) (RefRow M) := by
  obtain ⟨R', M', f1, f2, f3, f4, f5⟩ := fail_both hTR (a := 1) (by omega) (fun _ => rfl)
  have f1' : fRd_fail R 1 = some (0, R') := f1
  have f2' : fM_bad M 1 = some (0, M') := f2
  have badO : RowO T u (p+1) M (some (0, R', F)) (some (0, M')) := Or.inr ⟨R', F, M', rfl, Or.inl rfl, f3, CsR_of hC f4, FM3_of f5⟩
  have wrong : R.1 8 ≠ 1 → M.1 6 ≠ 2 → nm (R.1 8) = R.1 8 → nm (M.1 6) = M.1 6 → RowO T u (p+1) M (fRd_readRow T R F) (RefRow M) := by
    intro h1 h2 h3 h4
    obtain ⟨w1, w2, w3⟩ := M_nowords h2 h4
    unfold fRd_readRow RefRow
    rw [kf0_e, kf0_e, kf0_e, h3, if_neg h1, if_neg h1, if_neg h1, f1', bds, w1, bds, if_pos (by decide : nm 0 = 0), w2, bds, if_pos (by decide : nm 0 = 0), w3, bds, if_pos (by decide : nm 0 = 0), f2']
    have : zo 0 (some ((0 : Int), R', F)) = some (0, R', F) := zo0
    exact this.symm ▸ badO
  have htr := hTR
  rcases hTR.2 with ⟨v, p1, h, h', c10, d10, cv, c1, c2, c3, c4⟩ | ⟨_, _, h, h', _⟩ | ⟨_, h, h', _⟩ | ⟨h, h', _⟩ | ⟨h, h', _⟩ | ⟨h, h'⟩
  · obtain ⟨w1, w2, w3⟩ := M_words h' d10 (by omega)
    have zc : ∀ w : Nat, w < 2 ^ 62 → (zlcmp (v : Int) (w : Int) = 0 ↔ v = w) := by
      intro w hw
      rw [zlc (by omega) hw]
      by_cases y : w < v
      · rw [if_pos y]; exact ⟨fun z => absurd z (by decide), fun z => by omega⟩
      · rw [if_neg y]
        by_cases y2 : v = w
        · rw [if_pos y2]; exact ⟨fun _ => y2, fun _ => rfl⟩
        · rw [if_neg y2]; exact ⟨fun z => absurd z (by decide), fun z => absurd z y2⟩
    have hP : wPoint < 2 ^ 62 := by decide
    have hLi : wLine < 2 ^ 62 := by decide
    have hF : wForests < 2 ^ 62 := by decide
    have k3 : R.1 3 = ((wPoint : Nat) : Int) := hC.1
    have k4 : R.1 4 = ((wLine : Nat) : Int) := hC.2.1
    have k5 : R.1 5 = ((wForests : Nat) : Int) := hC.2.2
    have o1 := row_point hp htr hC h' c1 c2 c4 hN h11 h8
    have o2 := row_line hp htr hC h' c1 c2 c4 hN h11 h8
    have o3 := row_forests hp htr hC h' c1 c2 c4 hN h11 h8
    unfold fRd_readRow RefRow
    rw [kf0_e, kf0_e, kf0_e, h, if_pos (by decide : nm 1 = 1), if_pos (by decide : nm 1 = 1), if_pos (by decide : nm 1 = 1), c10, k3, k4, k5, w1, bds]
    by_cases y1 : v = wPoint
    · rw [if_pos ((zc _ hP).mpr y1), i10t y1, RowO_zo o1]; exact RowO_le o1 c3
    · rw [if_neg (fun z => y1 ((zc _ hP).mp z)), i10f y1, w2, bds]
      by_cases y2 : v = wLine
      · rw [if_pos ((zc _ hLi).mpr y2), i10t y2, RowO_zo o2]; exact RowO_le o2 c3
      · rw [if_neg (fun z => y2 ((zc _ hLi).mp z)), i10f y2, w3, bds]
        by_cases y3 : v = wForests
        · rw [if_pos ((zc _ hF).mpr y3), i10t y3, RowO_zo o3]; exact RowO_le o3 c3
        · rw [if_neg (fun z => y3 ((zc _ hF).mp z)), i10f y3, f1', bds, f2']
          have : zo 0 (some ((0 : Int), R', F)) = some (0, R', F) := zo0
          exact this.symm ▸ badO
  · exact wrong (by omega) (by omega) (by rw [h]; decide) (by rw [h']; decide)
  · exact wrong (by omega) (by omega) (by rw [h]; decide) (by rw [h']; decide)
  · exact absurd h hk
  · exact absurd h hk
  · exact wrong (by omega) (by omega) (by rw [h]; decide) (by rw [h']; decide)
