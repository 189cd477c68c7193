-- needs: 07zzz33.loop
/-! net: the reference's end -/
def RefEnd (v : Int) (M : ZB) : Option (Int × ZB) := rd (M.2 13) 147 2 fun x_13 =>
          kf1 (fun (M_14 : ZB) =>
            bd (fM_copy_read_now M_14 0 0) fun u_16 =>
            lt (up u_16.1 20 (0), u_16.2) fun M_17 =>
            some (v, M_17)) fun k_15 =>
          if (nm x_13) = 0 then (
            ix 147 2 <| lt (M.1, ua M.2 13 (up (M.2 13) (Int.toNat 2) 2)) fun M_18 =>
            k_15 M_18)
          else (
            k_15 M)
theorem cpy_all {g f : Nat → Int} {j : Nat} (h : j < 147) : cpy g f 0 0 147 j = f j := by
  unfold cpy
  rw [if_pos (by omega)]
  congr 1
  omega
theorem ref_end {R F M : ZB} (hN : NR R F M) (v : Int) : ∃ (k : Nat) (g : Nat → Int) (f : Nat → Int), F.1 6 = (k : Int) ∧ RefEnd v M = some (v, (up M.1 20 0, ua (ua M.2 13 f) 12 g)) ∧ g 2 = (k : Int) ∧ ∀ j, j < 147 → j ≠ 2 → g j = M.2 13 j := by
  obtain ⟨n, L, k, b1, b2, b3, b4, f4, f5, f6, f7, f8, m0, m1, m2, hnm, hln, hz⟩ := hN
  have cp := fun M1 : ZB => M_copy_read_now M1 (s := 0) (d := 0) (by omega) (by omega)
  have cp' : ∀ M1 : ZB, fM_copy_read_now M1 0 0 = some (M1.1, ua M1.2 12 (cpy (M1.2 12) (M1.2 13) 0 0 147)) := cp
  unfold RefEnd
  rw [rdi (by omega), show Int.toNat 2 = 2 from rfl, kf1_e]
  rcases m2 with ⟨_, e2, e3⟩ | ⟨_, e3⟩
  · refine ⟨k, cpy (M.2 12) (up (M.2 13) 2 2) 0 0 147, up (M.2 13) 2 2, f6, ?_, ?_, fun j hj hj2 => ?_⟩
    · rw [e3, if_pos (by decide), ixi (by omega), lt_e]
      show bd (fM_copy_read_now (M.1, ua M.2 13 (up (M.2 13) 2 2)) 0 0) _ = _
      rw [cp', bds]
      rfl
    · rw [cpy_all (by decide), up_e, e2]; rfl
    · rw [cpy_all hj, up_n _ _ hj2]
  · refine ⟨k, cpy (M.2 12) (M.2 13) 0 0 147, M.2 13, f6, ?_, ?_, fun j hj hj2 => cpy_all hj⟩
    · rw [e3, nmn (by omega), if_neg (by omega)]
      show bd (fM_copy_read_now M 0 0) _ = _
      rw [cp', bds, ua_self]
      rfl
    · rw [cpy_all (by decide), e3]
