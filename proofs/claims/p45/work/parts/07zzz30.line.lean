-- needs: 07zzz29.rowline
/-! net: the row of a line -/
theorem add_line {F : ZB} {L : Nat} (h : F.1 5 = (L : Int)) (hL : L < 24) (a b w : Int) : fFr_addLine F a b w = some (up F.1 5 ((L : Int) + 1), ua (ua (ua (ua F.2 0 (up (F.2 0) L a)) 1 (up (F.2 1) L b)) 2 (up (F.2 2) L w)) 3 (up (F.2 3) L (-1))) := by
  have b0 : ∀ k : Option ZB, ix 24 (L : Int) k = k := fun k => ixn hL
  unfold fFr_addLine
  simp only [h, lt_e, b0, Int.toNat_natCast]
  rw [nmn (by omega), if_pos (by omega)]
  rfl
theorem set_line {M3 : ZB} {L : Nat} (hL : L < 24) (hM : M3.2 13 1 = (L : Int)) (a b w : Int) (hw : M3.1 11 = w) :
    (ix 147 (3 + (L : Int)) <| lt (M3.1, ua M3.2 13 (up (M3.2 13) (Int.toNat (3 + (L : Int))) a)) fun M_12 =>
                ix 147 (27 + (L : Int)) <| lt (M_12.1, ua M_12.2 13 (up (M_12.2 13) (Int.toNat (27 + (L : Int))) b)) fun M_13 =>
                ix 147 (51 + (L : Int)) <| lt (M_13.1, ua M_13.2 13 (up (M_13.2 13) (Int.toNat (51 + (L : Int))) (M_13.1 11))) fun M_14 =>
                ix 147 (75 + (L : Int)) <| lt (M_14.1, ua M_14.2 13 (up (M_14.2 13) (Int.toNat (75 + (L : Int))) (-1))) fun M_15 =>
                rd (M_15.2 13) 147 1 fun x_16 =>
                ix 147 1 <| lt (M_15.1, ua M_15.2 13 (up (M_15.2 13) (Int.toNat 1) (x_16 + 1))) fun M_17 =>
                some ((1 : Int), M_17)) = some (1, (M3.1, ua M3.2 13 (up (up (up (up (up (M3.2 13) (3+L) a) (27+L) b) (51+L) w) (75+L) (-1)) 1 ((L : Int) + 1)))) := by
  have t3 : Int.toNat (3 + (L : Int)) = 3 + L := by omega
  have t27 : Int.toNat (27 + (L : Int)) = 27 + L := by omega
  have t51 : Int.toNat (51 + (L : Int)) = 51 + L := by omega
  have t75 : Int.toNat (75 + (L : Int)) = 75 + L := by omega
  have i3 : ∀ k : Option (Int × ZB), ix 147 (3 + (L : Int)) k = k := fun k => ixi (by omega)
  have i27 : ∀ k : Option (Int × ZB), ix 147 (27 + (L : Int)) k = k := fun k => ixi (by omega)
  have i51 : ∀ k : Option (Int × ZB), ix 147 (51 + (L : Int)) k = k := fun k => ixi (by omega)
  have i75 : ∀ k : Option (Int × ZB), ix 147 (75 + (L : Int)) k = k := fun k => ixi (by omega)
  have i1 : ∀ k : Option (Int × ZB), ix 147 1 k = k := fun k => ixi (by omega)
  have r1 : ∀ (f : Nat → Int) (k : Int → Option (Int × ZB)), rd f 147 1 k = k (f 1) := fun f k => rdi (by omega)
  have e : up (up (up (up (M3.2 13) (3+L) a) (27+L) b) (51+L) w) (75+L) (-1) 1 = (L : Int) := by
    rw [up_n _ _ (by omega), up_n _ _ (by omega), up_n _ _ (by omega), up_n _ _ (by omega)]; exact hM
  simp only [lt_e, t3, t27, t51, t75, i3, i27, i51, i75, i1, r1, ua_e, ua_up, hw, e, show Int.toNat 1 = 1 from rfl]
