-- needs: 07zzz38.netg
/-! net -/
def MS (M : ZB) (u : Int) : ZB := (up (up (up (up (up M.1 0 0) 3 u) 2 0) 8 0) 4 0, M.2)
theorem net_both {T Rd Fr M : ZB} (hT : ITape T (M.1 2) (M.2 1)) (hC : CsR Rd) : ∃ q t, fRd_read T Rd Fr = some q ∧ fM_net M = some t ∧ NetQ (MS M (M.1 2)) q t := by
  obtain ⟨u, hu, t1, t2, t3⟩ := hT
  have hcl : fFr_clear Fr = some (up (up (up (up (up Fr.1 4 0) 5 0) 6 2) 7 0) 8 0, Fr.2) := rfl
  have main : wp (fM_net M) (fun t => ∃ q, fRd_read T Rd Fr = some q ∧ NetQ (MS M (M.1 2)) q t) := by
    unfold fM_net
    rw [lt_e, lt_e, lt_e, lt_e, lt_e]
    refine lop2_w (fun v1 (R : ZB) => ∃ (k : Nat) (w : Nat → Int), v1 = (k : Int) ∧ k ≤ 147 ∧ R = ((MS M (M.1 2)).1, ua M.2 13 w) ∧ ∀ j, j < k → w j = 0) (fun v1 _ => 147 - v1.toNat) ?_ FU _ _ ⟨0, M.2 13, rfl, by omega, by rw [ua_self]; rfl, fun j h => absurd h (Nat.not_lt_zero j)⟩ (by show 147 - _ < 100000; omega)
    intro rec v1 R hI hrec
    obtain ⟨k, w, rfl, hk, rfl, hw⟩ := hI
    rw [nmn (by omega)]
    by_cases h : k < 147
    · rw [if_pos (by omega), ixn (by omega), lt_e, Int.toNat_natCast]
      refine hrec _ _ ⟨k+1, up w k 0, by omega, by omega, ?_, fun j hj => ?_⟩ (by omega)
      · show ((MS M (M.1 2)).1, ua (ua M.2 13 w) 13 (up ((ua M.2 13 w) 13) k 0)) = _
        rw [ua_up, ua_e]
      · by_cases e : j = k
        · subst e; rw [up_e]
        · rw [up_n _ _ e]; exact hw j (by omega)
    · rw [if_neg (by omega)]
      have hTp : Tp T u ((MS M (M.1 2)).1, ua M.2 13 w) := ⟨hu, t1, t2, fun i hi => (t3 i hi).2, fun i hi => (t3 i hi).1⟩
      have h7 : ((up (up (up Rd.1 6 0) 7 0) 11 0, Rd.2) : ZB).1 7 = ((0 : Nat) : Int) := rfl
      obtain ⟨M2, g1, g2, g3⟩ := look_of (R := (up (up (up Rd.1 6 0) 7 0) 11 0, Rd.2)) hTp (Nat.zero_le u) h7 (show ((MS M (M.1 2)).1) 4 = ((0 : Nat) : Int) from rfl)
      have hNR : NR (up (up (up Rd.1 6 0) 7 0) 11 0, Rd.2) (up (up (up (up (up Fr.1 4 0) 5 0) 6 2) 7 0) 8 0, Fr.2) M2 := by
        have y13 : M2.2 13 = w := by rw [g3.2]; rfl
        refine ⟨0, 0, 2, by decide, by decide, by decide, by decide, rfl, rfl, rfl, rfl, rfl, ?_, ?_, Or.inl ⟨rfl, rfl, ?_⟩, fun i hi => absurd hi (Nat.not_lt_zero i), fun i hi => absurd hi (Nat.not_lt_zero i), fun j j1 j2 => ?_⟩
        · rw [y13]; exact hw 0 (by omega)
        · rw [y13]; exact hw 1 (by omega)
        · rw [y13]; exact hw 2 (by omega)
        · rw [y13]; exact hw j (by omega)
      have hfm : FM3 (MS M (M.1 2)) M2 := ⟨(FrM_2 g3).1, fun i a b => by
        rw [g3.2]
        show ua M.2 13 w i = M.2 i
        rw [ua_n _ _ a]⟩
      have h8 : M2.1 8 = 0 := by rw [g3.1 8 (by decide) (by decide) (by decide) (by decide) (by decide)]; rfl
      have hL : LpH T u (MS M (M.1 2)) 0 0 0 0 (up (up (up Rd.1 6 0) 7 0) 11 0, Rd.2) (up (up (up (up (up Fr.1 4 0) 5 0) 6 2) 7 0) 8 0, Fr.2) 0 M2 := ⟨rfl, rfl, rfl, by omega, by omega, Tp_fr hTp g3, g2, hNR, hC, hfm, rfl, h8⟩
      obtain ⟨q, t, e1, e2, e3⟩ := net_loop hL
      have eb : (b2n : (Int → ZB → Option (Int × ZB)) → Int → ZB → Option (Int × ZB)) = fun rec_12 v1_10 M_11 => if nm (M_11.1 6) = 0 then RefEnd v1_10 M_11 else bd (fM_isPointWord M_11) fun u_19 => kf2 (K2n rec_12 v1_10) fun k_22 =>
          if (nm u_19) = 0 then (
            bd (fM_isLineWord M_11) fun u_26 =>
            if (nm u_26) = 0 then (
              bd (fM_isForestsWord M_11) fun u_27 =>
              if (nm u_27) = 0 then (
                bd (fM_bad M_11 1) fun u_28 =>
                k_22 u_28.1 u_28.2)
              else (
                bd (fM_readForests M_11) fun u_29 =>
                k_22 u_29.1 u_29.2))
            else (
              bd (fM_readLine M_11) fun u_30 =>
              k_22 u_30.1 u_30.2))
          else (
            bd (fM_readPoint M_11) fun u_31 =>
            k_22 u_31.1 u_31.2) := by
        funext a b c
        unfold b2n
        rw [ref_row]
      rw [eb] at e2
      rw [g1, bds]
      refine ⟨t, e2, q, ?_, e3⟩
      unfold fRd_read
      rw [hcl, bds, lt_e, lt_e, lt_e]
      exact e1
  obtain ⟨t, m1, q, m2, m3⟩ := main
  exact ⟨q, t, m2, m1, m3⟩
