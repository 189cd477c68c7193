-- needs: 07zzz39.simnet
/-! net: the call -/
theorem sim2 : Sim2 INV := by
  intro X N T Rd Fr Ac Ch PS Ly Pa OT Ea Ga c0 c1 M hI
  obtain ⟨⟨G, hG, hN, hM⟩, hT, hR, hA, hC, hGa, hi0, hi1, hP⟩ := hI
  obtain ⟨q, t, e1, e2, e3⟩ := net_both (Fr := Fr) hT hR.2
  have hcut : fT_cut T 0 = some (up T.1 1 0, T.2) := rfl
  have hforget : fAc_forget Ac = some (up Ac.1 3 0, Ac.2) := rfl
  have hT0 : ∀ g : Nat → Int, ITape (up T.1 1 0, T.2) 0 g := fun g => ⟨0, by decide, rfl, rfl, fun i hi => absurd hi (Nat.not_lt_zero i)⟩
  unfold fX_net
  rw [e1, bds, hcut, bds, kf2_e]
  have fr : ∀ M1 : ZB, FM3 (MS M (M.1 2)) M1 → M1.1 2 = 0 ∧ M1.1 20 = M.1 20 ∧ M1.1 28 = M.1 28 ∧ M1.1 29 = M.1 29 ∧ M1.1 32 = M.1 32 ∧ M1.2 1 = M.2 1 ∧ M1.2 12 = M.2 12 ∧ M1.2 14 = M.2 14 ∧ M1.2 15 = M.2 15 ∧ M1.2 19 = M.2 19 ∧ M1.2 27 = M.2 27 ∧ M1.2 31 = M.2 31 := by
    intro M1 h
    refine ⟨?_, ?_, ?_, ?_, ?_, ?_, ?_, ?_, ?_, ?_, ?_, ?_⟩
    · rw [h.1 2 (by decide) (by decide) (by decide) (by decide) (by decide) (by decide) (by decide) (by decide)]; rfl
    · rw [h.1 20 (by decide) (by decide) (by decide) (by decide) (by decide) (by decide) (by decide) (by decide)]; rfl
    · rw [h.1 28 (by decide) (by decide) (by decide) (by decide) (by decide) (by decide) (by decide) (by decide)]; rfl
    · rw [h.1 29 (by decide) (by decide) (by decide) (by decide) (by decide) (by decide) (by decide) (by decide)]; rfl
    · rw [h.1 32 (by decide) (by decide) (by decide) (by decide) (by decide) (by decide) (by decide) (by decide)]; rfl
    · rw [h.2 1 (by decide) (by decide)]; rfl
    · rw [h.2 12 (by decide) (by decide)]; rfl
    · rw [h.2 14 (by decide) (by decide)]; rfl
    · rw [h.2 15 (by decide) (by decide)]; rfl
    · rw [h.2 19 (by decide) (by decide)]; rfl
    · rw [h.2 27 (by decide) (by decide)]; rfl
    · rw [h.2 31 (by decide) (by decide)]; rfl
  rcases e3 with ⟨r, r1, r2, r3, r4, M1, r5, r6, r7, r8⟩ | ⟨pl, r1, r2, r3, r4, r5, r6⟩
  · obtain ⟨a2, a20, a28, a29, a32, b1, b12, b14, b15, b19, b27, b31⟩ := fr M1 r6
    obtain ⟨k, g, f, k1, k2, k3, k4⟩ := ref_end r5 (r : Int)
    obtain ⟨G', g1, g2, g3⟩ := NR_G r5
    obtain ⟨N', n1, n2⟩ := N_become (D := N) g2 g1
    have hRW := g3 g (by rw [k3, k1]) k4
    have ht : t = ((r : Int), (up M1.1 20 0, ua (ua M1.2 13 f) 12 g)) := by rw [k2] at r8; exact (Option.some.inj r8).symm
    rw [r2, nmn (by omega), if_neg (by omega), n1, bds, hforget, bds]
    refine ⟨_, t, rfl, e2, by rw [ht], ?_⟩
    rw [ht]
    refine ⟨⟨G', g1, n2, hRW⟩, ?_, ⟨?_, r3⟩, ?_, ?_, ?_, ?_, ?_, hP⟩
    · show ITape (up T.1 1 0, T.2) (M1.1 2) (M1.2 1)
      rw [a2]; exact hT0 _
    · show q.2.1.1 11 = M1.1 8
      rw [r4, r7]
    · obtain ⟨c, n, i1, i2, i3, i4, i5, i6⟩ := hA
      exact ⟨0, n, by omega, i2, rfl, i4, rfl, fun i hi => absurd hi (Nat.not_lt_zero i)⟩
    · show IChain Ch (M1.1 28) (M1.2 27) (M1.1 29)
      rw [a28, a29, b27]; exact hC
    · show IGame Ga (M1.1 32) (M1.2 31)
      rw [a32, b31]; exact hGa
    · show IImg c0 (M1.2 19 0) (M1.2 14)
      rw [b19, b14]; exact hi0
    · show IImg c1 (M1.2 19 1) (fun j => M1.2 14 (147 + j))
      rw [b19, b14]; exact hi1
  · obtain ⟨a2, a20, a28, a29, a32, b1, b12, b14, b15, b19, b27, b31⟩ := fr t.2 r6
    rw [r2, nmi (by omega), if_pos (by omega)]
    refine ⟨_, t, rfl, e2, by rw [r3], ⟨G, hG, hN, by rw [b12]; exact hM⟩, ?_, ⟨r5, r4⟩, ?_, ?_, ?_, ?_, ?_, hP⟩
    · rw [a2]; exact hT0 _
    · rw [a20, b15]; exact hA
    · rw [a28, a29, b27]; exact hC
    · rw [a32, b31]; exact hGa
    · rw [b19, b14]; exact hi0
    · rw [b19, b14]; exact hi1
