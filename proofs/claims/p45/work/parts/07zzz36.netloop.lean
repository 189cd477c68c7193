-- needs: 07zzz35.ends
/-! net: the class's end, the loop -/
def ClsEnd (T : ZB) (v : Int) (Rd_10 Fr_11 : ZB) : Option (Int × ZB × ZB) :=
      kf1 (fun (Rd_13 : ZB) =>
        kf1 (fun (w0_15 : Int) =>
          some (w0_15, Rd_13, Fr_11)) fun k_16 =>
        if (nm (Rd_13.1 11)) = 0 then (
          k_16 v)
        else (
          k_16 ((-1) - (Rd_13.1 12)))) fun k_14 =>
      if (nm (Rd_10.1 11)) = 0 then (
        bd (fT_size T) fun u_17 =>
        if 600 < (nm u_17) then (
          bd (fRd_fail Rd_10 1) fun u_18 =>
          k_14 u_18.2)
        else (
          k_14 Rd_10))
      else (
        k_14 Rd_10)
theorem cls_ok {T R F : ZB} {u : Nat} {v : Int} (hT : T.1 1 = (u : Int)) (hu : u ≤ 600) (h11 : R.1 11 = 0) : ClsEnd T v R F = some (v, R, F) := by
  unfold ClsEnd fT_size
  rw [kf1_e, h11, if_pos (by decide), hT, bds, nmn (by omega), if_neg (by omega)]
  show (if nm (R.1 11) = 0 then some (v, R, F) else some (-1 - R.1 12, R, F)) = _
  rw [h11, if_pos (by decide)]
theorem cls_bad {T R F : ZB} {f pl : Nat} {v : Int} (hf : 1 ≤ f ∧ f ≤ 4) (h11 : R.1 11 = (f : Int)) (h12 : R.1 12 = (pl : Int)) : ClsEnd T v R F = some (-1 - (pl : Int), R, F) := by
  unfold ClsEnd
  rw [kf1_e, h11, nmn (by omega), if_neg (by omega)]
  show (if nm (R.1 11) = 0 then some (v, R, F) else some (-1 - R.1 12, R, F)) = _
  rw [h11, nmn (by omega), if_neg (by omega), h12]
theorem cls_long {T R R' F : ZB} {u pl : Nat} {v : Int} (hT : T.1 1 = (u : Int)) (hu : 600 < u) (hu2 : u ≤ 640) (h11 : R.1 11 = 0) (hf : fRd_fail R 1 = some (0, R')) (h1 : R'.1 11 = 1) (h12 : R'.1 12 = (pl : Int)) : ClsEnd T v R F = some (-1 - (pl : Int), R', F) := by
  unfold ClsEnd fT_size
  rw [kf1_e, h11, if_pos (by decide), hT, bds, nmn (by omega), if_pos (by omega), hf, bds]
  show (if nm (R'.1 11) = 0 then some (v, R', F) else some (-1 - R'.1 12, R', F)) = _
  rw [h1, if_neg (by decide), h12]
