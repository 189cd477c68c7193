-- needs: 04.base
/-! the programs over whole numbers, one a method: written by program out of the bytecode -/
def fN_become (D S : ZB) : Option ZB :=
  cpk 24 24 0 0 24 <| lt (D.1, ua D.2 0 (zcpy (S.2 0) (D.2 0) 0 0 24)) fun D_1 =>
  cpk 24 24 0 0 24 <| lt (D_1.1, ua D_1.2 1 (zcpy (S.2 1) (D_1.2 1) 0 0 24)) fun D_2 =>
  cpk 24 24 0 0 24 <| lt (D_2.1, ua D_2.2 2 (zcpy (S.2 2) (D_2.2 2) 0 0 24)) fun D_3 =>
  cpk 24 24 0 0 24 <| lt (D_3.1, ua D_3.2 3 (zcpy (S.2 3) (D_3.2 3) 0 0 24)) fun D_4 =>
  lt (up D_4.1 4 ((S.1 4)), D_4.2) fun D_5 =>
  lt (up D_5.1 5 ((S.1 5)), D_5.2) fun D_6 =>
  lt (up D_6.1 6 ((S.1 6)), D_6.2) fun D_7 =>
  lt (up D_7.1 7 ((S.1 7)), D_7.2) fun D_8 =>
  lt (up D_8.1 8 ((S.1 8)), D_8.2) fun D_9 =>
  some D_9
def fT_hasRoom (T : ZB) : Option (Int) :=
  kf1 (fun (w0_1 : Int) =>
    zo w0_1 <| some w0_1) fun k_2 =>
  if 640 < (nm ((T.1 1) + 20)) then (
    k_2 0)
  else (
    k_2 1)
def fT_add (T : ZB) (a1 : Int) : Option (ZB) :=
  lop2 FU (fun rec_3 (v2_1 : Int) (T_2 : ZB) =>
    kf0 (some T_2) fun k_4 =>
    if (nm v2_1) < 0 then (
      k_4)
    else (
      if (nm (T_2.1 1)) < 640 then (
        ix 640 (T_2.1 1) <| lt (T_2.1, ua T_2.2 0 (up (T_2.2 0) (Int.toNat (T_2.1 1)) (zand (zushr a1 v2_1) 255))) fun T_5 =>
        lt (up T_5.1 1 (((T_5.1 1) + 1)), T_5.2) fun T_6 =>
        rec_3 (v2_1 + (-8)) T_6)
      else (
        k_4))) 24 T
def fT_size (T : ZB) : Option (Int) :=
  some (T.1 1)
def fX_feed (T : ZB) (a1 : Int) (a2 : Int) (a3 : Int) (a4 : Int) (a5 : Int) : Option (Int × ZB) :=
  bd (fT_hasRoom T) fun u_1 =>
  if (nm u_1) = 0 then (
    some ((-1), T))
  else (
    bd (fT_add T a1) fun u_2 =>
    bd (fT_add u_2 a2) fun u_3 =>
    bd (fT_add u_3 a3) fun u_4 =>
    bd (fT_add u_4 a4) fun u_5 =>
    bd (fT_add u_5 a5) fun u_6 =>
    bd (fT_size u_6) fun u_7 =>
    some (u_7, u_6))
def fT_cut (T : ZB) (a1 : Int) : Option (ZB) :=
  lt (up T.1 1 (a1), T.2) fun T_1 =>
  some T_1
def fX_end (T : ZB) (a1 : Int) : Option (Int × ZB) :=
  kf0 (some (0, T)) fun k_1 =>
  if (nm a1) < 0 then (
    k_1)
  else (
    bd (fT_size T) fun u_2 =>
    if (nm u_2) < (nm a1) then (
      k_1)
    else (
      bd (fT_cut T a1) fun u_3 =>
      some (1, u_3)))
def fFr_clear (Fr : ZB) : Option (ZB) :=
  lt (up Fr.1 4 (0), Fr.2) fun Fr_1 =>
  lt (up Fr_1.1 5 (0), Fr_1.2) fun Fr_2 =>
  lt (up Fr_2.1 6 (2), Fr_2.2) fun Fr_3 =>
  lt (up Fr_3.1 7 (0), Fr_3.2) fun Fr_4 =>
  lt (up Fr_4.1 8 (0), Fr_4.2) fun Fr_5 =>
  some Fr_5
def fT_byteAt (T : ZB) (a1 : Int) : Option (Int) :=
  kf1 (fun (w0_1 : Int) =>
    some w0_1) fun k_2 =>
  kf0 (k_2 (-1)) fun k_3 =>
  if (nm a1) < 0 then (
    k_3)
  else (
    if (nm a1) < (nm (T.1 1)) then (
      rd (T.2 0) 640 a1 fun x_4 =>
      k_2 x_4)
    else (
      k_3))
def fRd_isBlank (a1 : Int) : Option (Int) :=
  kf1 (fun (w0_1 : Int) =>
    zo w0_1 <| some w0_1) fun k_2 =>
  kf0 (k_2 1) fun k_3 =>
  if (nm a1) = 32 then (
    k_3)
  else (
    if (nm a1) = 10 then (
      k_3)
    else (
      k_2 0))
def fRd_isLetter (a1 : Int) : Option (Int) :=
  kf1 (fun (w0_1 : Int) =>
    zo w0_1 <| some w0_1) fun k_2 =>
  kf0 (k_2 0) fun k_3 =>
  if (nm a1) < 97 then (
    k_3)
  else (
    if 122 < (nm a1) then (
      k_3)
    else (
      k_2 1))
def fRd_isDigit (a1 : Int) : Option (Int) :=
  kf1 (fun (w0_1 : Int) =>
    zo w0_1 <| some w0_1) fun k_2 =>
  kf0 (k_2 0) fun k_3 =>
  if (nm a1) < 48 then (
    k_3)
  else (
    if 57 < (nm a1) then (
      k_3)
    else (
      k_2 1))
def fRd_letterCode (a1 : Int) : Option (Int) :=
  some ((a1 - 97) + 1)
def fRd_readRun (T : ZB) (Rd : ZB) : Option (ZB) :=
  lt (up Rd.1 10 (0), Rd.2) fun Rd_1 =>
  lop3 FU (fun rec_5 (v1_2 : Int) (v2_3 : Int) (Rd_4 : ZB) =>
    bd (fT_size T) fun u_6 =>
    kf0 (lt (up Rd_4.1 8 (4), Rd_4.2) fun Rd_8 =>
    kf1 (fun (Rd_9 : ZB) =>
      some Rd_9) fun k_10 =>
    kf0 (if (nm v1_2) = 0 then (
      if (nm v2_3) < 1 then (
        k_10 Rd_8)
      else (
        if 2 < (nm v2_3) then (
          k_10 Rd_8)
        else (
          lt (up Rd_8.1 8 (2), Rd_8.2) fun Rd_12 =>
          k_10 Rd_12)))
    else (
      k_10 Rd_8)) fun k_11 =>
    if (nm v2_3) = 0 then (
      if (nm v1_2) < 1 then (
        k_11)
      else (
        if 7 < (nm v1_2) then (
          k_11)
        else (
          lt (up Rd_8.1 8 (1), Rd_8.2) fun Rd_13 =>
          k_10 Rd_13)))
    else (
      k_11)) fun k_7 =>
    if (nm (Rd_4.1 7)) < (nm u_6) then (
      bd (fT_byteAt T (Rd_4.1 7)) fun u_14 =>
      bd (fRd_isLetter u_14) fun u_15 =>
      kf3 (fun (v1_16 : Int) (v2_17 : Int) (Rd_18 : ZB) =>
        lt (up Rd_18.1 7 (((Rd_18.1 7) + 1)), Rd_18.2) fun Rd_20 =>
        rec_5 v1_16 v2_17 Rd_20) fun k_19 =>
      if (nm u_15) = 0 then (
        bd (fRd_isDigit u_14) fun u_21 =>
        if (nm u_21) = 0 then (
          k_7)
        else (
          lt (up Rd_4.1 10 (((((Rd_4.1 10) * 10) + (nm u_14)) - 48)), Rd_4.2) fun Rd_22 =>
          k_19 v1_2 (v2_3 + 1) Rd_22))
      else (
        bd (fRd_letterCode u_14) fun u_23 =>
        lt (up Rd_4.1 10 ((((Rd_4.1 10) * 27) + (nm u_23))), Rd_4.2) fun Rd_24 =>
        k_19 (v1_2 + 1) v2_3 Rd_24))
    else (
      k_7)) 0 0 Rd_1
def fRd_nextToken (T : ZB) (Rd : ZB) : Option (ZB) :=
  bd (fT_size T) fun u_1 =>
  lt (zmin u_1 600) fun v1_2 =>
  lop1 FU (fun rec_4 (Rd_3 : ZB) =>
    kf0 (lt (up Rd_3.1 9 ((zmin (Rd_3.1 7) v1_2)), Rd_3.2) fun Rd_6 =>
    kf1 (fun (Rd_7 : ZB) =>
      some Rd_7) fun k_8 =>
    if (nm (Rd_6.1 7)) < (nm v1_2) then (
      bd (fT_byteAt T (Rd_6.1 7)) fun u_9 =>
      if (nm u_9) = 59 then (
        lt (up Rd_6.1 8 (3), Rd_6.2) fun Rd_11 =>
        lt (up Rd_11.1 7 (((Rd_11.1 7) + 1)), Rd_11.2) fun Rd_12 =>
        k_8 Rd_12)
      else (
        bd (fRd_readRun T Rd_6) fun u_10 =>
        k_8 u_10))
    else (
      lt (up Rd_6.1 8 (0), Rd_6.2) fun Rd_13 =>
      k_8 Rd_13)) fun k_5 =>
    if (nm (Rd_3.1 7)) < (nm v1_2) then (
      bd (fT_byteAt T (Rd_3.1 7)) fun u_14 =>
      bd (fRd_isBlank u_14) fun u_15 =>
      if (nm u_15) = 0 then (
        k_5)
      else (
        lt (up Rd_3.1 7 (((Rd_3.1 7) + 1)), Rd_3.2) fun Rd_16 =>
        rec_4 Rd_16))
    else (
      k_5)) Rd
def fRd_fail (Rd : ZB) (a1 : Int) : Option (Int × ZB) :=
  lt (up Rd.1 11 (a1), Rd.2) fun Rd_1 =>
  lt (up Rd_1.1 12 ((Rd_1.1 9)), Rd_1.2) fun Rd_2 =>
  some (0, Rd_2)
def fRd_readNumber (T : ZB) (Rd : ZB) (a1 : Int) : Option (Int × ZB) :=
  bd (fRd_nextToken T Rd) fun u_1 =>
  if (nm (u_1.1 8)) = 2 then (
    kf2 (fun (w0_2 : Int) (Rd_3 : ZB) =>
      zo w0_2 <| some (w0_2, Rd_3)) fun k_4 =>
    kf0 (bd (fRd_fail u_1 2) fun u_6 =>
    k_4 u_6.1 u_6.2) fun k_5 =>
    if (zlcmp (u_1.1 10) 1) < 0 then (
      k_5)
    else (
      if 0 < (zlcmp (u_1.1 10) (nm a1)) then (
        k_5)
      else (
        k_4 1 u_1)))
  else (
    bd (fRd_fail u_1 1) fun u_7 =>
    zo u_7.1 <| some (u_7.1, u_7.2))
def fRd_readSign (T : ZB) (Rd : ZB) : Option (Int × ZB) :=
  bd (fRd_nextToken T Rd) fun u_1 =>
  kf2 (fun (w0_2 : Int) (Rd_3 : ZB) =>
    zo w0_2 <| some (w0_2, Rd_3)) fun k_4 =>
  if (nm (u_1.1 8)) = 3 then (
    k_4 1 u_1)
  else (
    bd (fRd_fail u_1 1) fun u_5 =>
    k_4 u_5.1 u_5.2)
def fRd_readForests (T : ZB) (Rd : ZB) (Fr : ZB) : Option (Int × ZB × ZB) :=
  if (nm (Rd.1 6)) = 0 then (
    bd (fRd_readNumber T Rd 5) fun u_1 =>
    if (nm u_1.1) = 0 then (
      some (0, u_1.2, Fr))
    else (
      lt (up Fr.1 6 ((u_1.2.1 10)), Fr.2) fun Fr_2 =>
      lt (up u_1.2.1 6 (1), u_1.2.2) fun Rd_3 =>
      bd (fRd_readSign T Rd_3) fun u_4 =>
      zo u_4.1 <| some (u_4.1, u_4.2, Fr_2)))
  else (
    bd (fRd_fail Rd 3) fun u_5 =>
    zo u_5.1 <| some (u_5.1, u_5.2, Fr))
def fRd_isName (Rd : ZB) : Option (Int) :=
  kf1 (fun (w0_1 : Int) =>
    zo w0_1 <| some w0_1) fun k_2 =>
  kf0 (k_2 0) fun k_3 =>
  if (nm (Rd.1 8)) = 1 then (
    if (zlcmp (Rd.1 10) (Rd.1 3)) = 0 then (
      k_3)
    else (
      if (zlcmp (Rd.1 10) (Rd.1 4)) = 0 then (
        k_3)
      else (
        if (zlcmp (Rd.1 10) (Rd.1 5)) = 0 then (
          k_3)
        else (
          k_2 1))))
  else (
    k_3)
def fRd_pointOf (Rd : ZB) (Fr : ZB) (a1 : Int) : Option (Int) :=
  lop1 FU (fun rec_2 (v3_1 : Int) =>
    if (nm v3_1) < (nm (Fr.1 4)) then (
      rd (Rd.2 2) 10 v3_1 fun x_3 =>
      if (zlcmp x_3 a1) = 0 then (
        some v3_1)
      else (
        rec_2 (v3_1 + 1)))
    else (
      some (-1))) 0
def fRd_readEnd (T : ZB) (Rd : ZB) (Fr : ZB) (a1 : Int) : Option (Int × ZB) :=
  bd (fRd_nextToken T Rd) fun u_1 =>
  bd (fRd_isName u_1) fun u_2 =>
  if (nm u_2) = 0 then (
    bd (fRd_fail u_1 1) fun u_6 =>
    some ((-1), u_6.2))
  else (
    bd (fRd_pointOf u_1 Fr (u_1.1 10)) fun u_3 =>
    kf0 (bd (fRd_fail u_1 3) fun u_5 =>
    some ((-1), u_5.2)) fun k_4 =>
    if (nm u_3) = (-1) then (
      k_4)
    else (
      if (nm u_3) = (nm a1) then (
        k_4)
      else (
        some (u_3, u_1))))
def fFr_addLine (Fr : ZB) (a1 : Int) (a2 : Int) (a3 : Int) : Option (ZB) :=
  if (nm (Fr.1 5)) < 24 then (
    ix 24 (Fr.1 5) <| lt (Fr.1, ua Fr.2 0 (up (Fr.2 0) (Int.toNat (Fr.1 5)) a1)) fun Fr_1 =>
    ix 24 (Fr_1.1 5) <| lt (Fr_1.1, ua Fr_1.2 1 (up (Fr_1.2 1) (Int.toNat (Fr_1.1 5)) a2)) fun Fr_2 =>
    ix 24 (Fr_2.1 5) <| lt (Fr_2.1, ua Fr_2.2 2 (up (Fr_2.2 2) (Int.toNat (Fr_2.1 5)) a3)) fun Fr_3 =>
    ix 24 (Fr_3.1 5) <| lt (Fr_3.1, ua Fr_3.2 3 (up (Fr_3.2 3) (Int.toNat (Fr_3.1 5)) (-1))) fun Fr_4 =>
    lt (up Fr_4.1 5 (((Fr_4.1 5) + 1)), Fr_4.2) fun Fr_5 =>
    some Fr_5)
  else (
    some Fr)
def fRd_readLine (T : ZB) (Rd : ZB) (Fr : ZB) : Option (Int × ZB × ZB) :=
  if (nm (Fr.1 5)) < 24 then (
    bd (fRd_readEnd T Rd Fr (-1)) fun u_1 =>
    if (nm u_1.1) = (-1) then (
      some (0, u_1.2, Fr))
    else (
      bd (fRd_readEnd T u_1.2 Fr u_1.1) fun u_2 =>
      kf1 (fun (Rd_3 : ZB) =>
        some (0, Rd_3, Fr)) fun k_4 =>
      if (nm u_2.1) = (-1) then (
        k_4 u_2.2)
      else (
        bd (fRd_readNumber T u_2.2 99) fun u_5 =>
        if (nm u_5.1) = 0 then (
          k_4 u_5.2)
        else (
          bd (fFr_addLine Fr u_1.1 u_2.1 (u_5.2.1 10)) fun u_6 =>
          bd (fRd_readSign T u_5.2) fun u_7 =>
          zo u_7.1 <| some (u_7.1, u_7.2, u_6)))))
  else (
    bd (fRd_fail Rd 4) fun u_8 =>
    zo u_8.1 <| some (u_8.1, u_8.2, Fr))
def fRd_readPoint (T : ZB) (Rd : ZB) (Fr : ZB) : Option (Int × ZB × ZB) :=
  if (nm (Fr.1 4)) < 10 then (
    bd (fRd_nextToken T Rd) fun u_1 =>
    bd (fRd_isName u_1) fun u_2 =>
    if (nm u_2) = 0 then (
      bd (fRd_fail u_1 1) fun u_8 =>
      zo u_8.1 <| some (u_8.1, u_8.2, Fr))
    else (
      bd (fRd_pointOf u_1 Fr (u_1.1 10)) fun u_3 =>
      if (nm u_3) = (-1) then (
        ix 10 (Fr.1 4) <| lt (u_1.1, ua u_1.2 2 (up (u_1.2 2) (Int.toNat (Fr.1 4)) (u_1.1 10))) fun Rd_4 =>
        lt (up Fr.1 4 (((Fr.1 4) + 1)), Fr.2) fun Fr_5 =>
        bd (fRd_readSign T Rd_4) fun u_6 =>
        zo u_6.1 <| some (u_6.1, u_6.2, Fr_5))
      else (
        bd (fRd_fail u_1 3) fun u_7 =>
        zo u_7.1 <| some (u_7.1, u_7.2, Fr))))
  else (
    bd (fRd_fail Rd 4) fun u_9 =>
    zo u_9.1 <| some (u_9.1, u_9.2, Fr))
def fRd_readRow (T : ZB) (Rd : ZB) (Fr : ZB) : Option (Int × ZB × ZB) :=
  kf0 (kf0 (kf0 (bd (fRd_fail Rd 1) fun u_4 =>
  zo u_4.1 <| some (u_4.1, u_4.2, Fr)) fun k_3 =>
  if (nm (Rd.1 8)) = 1 then (
    if (zlcmp (Rd.1 10) (Rd.1 5)) = 0 then (
      bd (fRd_readForests T Rd Fr) fun u_5 =>
      zo u_5.1 <| some (u_5.1, u_5.2.1, u_5.2.2))
    else (
      k_3))
  else (
    k_3)) fun k_2 =>
  if (nm (Rd.1 8)) = 1 then (
    if (zlcmp (Rd.1 10) (Rd.1 4)) = 0 then (
      bd (fRd_readLine T Rd Fr) fun u_6 =>
      zo u_6.1 <| some (u_6.1, u_6.2.1, u_6.2.2))
    else (
      k_2))
  else (
    k_2)) fun k_1 =>
  if (nm (Rd.1 8)) = 1 then (
    if (zlcmp (Rd.1 10) (Rd.1 3)) = 0 then (
      bd (fRd_readPoint T Rd Fr) fun u_7 =>
      zo u_7.1 <| some (u_7.1, u_7.2.1, u_7.2.2))
    else (
      k_1))
  else (
    k_1)
def fRd_read (T : ZB) (Rd : ZB) (Fr : ZB) : Option (Int × ZB × ZB) :=
  bd (fFr_clear Fr) fun u_1 =>
  lt (up Rd.1 6 (0), Rd.2) fun Rd_2 =>
  lt (up Rd_2.1 7 (0), Rd_2.2) fun Rd_3 =>
  lt (up Rd_3.1 11 (0), Rd_3.2) fun Rd_4 =>
  lop4 FU (fun rec_9 (v1_5 : Int) (v2_6 : Int) (Rd_7 : ZB) (Fr_8 : ZB) =>
    kf2 (fun (Rd_10 : ZB) (Fr_11 : ZB) =>
      kf1 (fun (Rd_13 : ZB) =>
        kf1 (fun (w0_15 : Int) =>
          some (w0_15, Rd_13, Fr_11)) fun k_16 =>
        if (nm (Rd_13.1 11)) = 0 then (
          k_16 v1_5)
        else (
          k_16 ((-1) - (Rd_13.1 12)))) fun k_14 =>
      if (nm (Rd_10.1 11)) = 0 then (
        bd (fT_size T) fun u_17 =>
        if 600 < (nm u_17) then (
          bd (fRd_fail Rd_10 1) fun u_18 =>
          k_14 u_18.2)
        else (
          k_14 Rd_10))
      else (
        k_14 Rd_10)) fun k_12 =>
    if 600 < (nm v2_6) then (
      k_12 Rd_7 Fr_8)
    else (
      bd (fRd_nextToken T Rd_7) fun u_19 =>
      if (nm (u_19.1 8)) = 0 then (
        k_12 u_19 Fr_8)
      else (
        bd (fRd_readRow T u_19 Fr_8) fun u_20 =>
        if (nm u_20.1) = 0 then (
          k_12 u_20.2.1 u_20.2.2)
        else (
          rec_9 (v1_5 + 1) (v2_6 + 1) u_20.2.1 u_20.2.2)))) 0 0 Rd_4 u_1
def fAc_forget (Ac : ZA) : Option (ZA) :=
  lt (up Ac.1 3 (0), Ac.2) fun Ac_1 =>
  some Ac_1
def fX_net (N : ZB) (T : ZB) (Rd : ZB) (Fr : ZB) (Ac : ZA) : Option (Int × ZB × ZB × ZB × ZB × ZA) :=
  bd (fRd_read T Rd Fr) fun u_1 =>
  bd (fT_cut T 0) fun u_2 =>
  kf2 (fun (N_3 : ZB) (Ac_4 : ZA) =>
    some (u_1.1, N_3, u_2, u_1.2.1, u_1.2.2, Ac_4)) fun k_5 =>
  if (nm u_1.1) < 0 then (
    k_5 N Ac)
  else (
    bd (fN_become N u_1.2.2) fun u_6 =>
    bd (fAc_forget Ac) fun u_7 =>
    k_5 u_6 u_7)
def fRd_faultKind (Rd : ZB) : Option (Int) :=
  some (Rd.1 11)
def fX_fault (Rd : ZB) : Option (Int) :=
  bd (fRd_faultKind Rd) fun u_1 =>
  some u_1
def fAc_before (N : ZB) (Ac : ZA) : Option (ZA) :=
  ix 9 (Ac.1 2) <|
  bd (fN_become (Ac.2 (Int.toNat (Ac.1 2))) N) fun u_2 =>
  some (Ac.1, ua Ac.2 (Int.toNat (Ac.1 2)) u_2)
def fAc_done (Ac : ZA) : Option (ZA) :=
  kf1 (fun (w1_1 : Int) =>
    lt (up Ac.1 2 (w1_1), Ac.2) fun Ac_3 =>
    kf1 (fun (Ac_4 : ZA) =>
      some Ac_4) fun k_5 =>
    if (nm (Ac_3.1 3)) < 8 then (
      lt (up Ac_3.1 3 (((Ac_3.1 3) + 1)), Ac_3.2) fun Ac_6 =>
      k_5 Ac_6)
    else (
      k_5 Ac_3)) fun k_2 =>
  if (nm (Ac.1 2)) < 8 then (
    k_2 ((Ac.1 2) + 1))
  else (
    k_2 0)
def fX_forests (N : ZB) (Ac : ZA) (a1 : Int) : Option (Int × ZB × ZA) :=
  kf0 (some ((-1), N, Ac)) fun k_1 =>
  if (nm a1) < 1 then (
    k_1)
  else (
    if 5 < (nm a1) then (
      k_1)
    else (
      if (nm a1) = (nm (N.1 6)) then (
        k_1)
      else (
        bd (fAc_before N Ac) fun u_2 =>
        lop3 FU (fun rec_6 (v2_3 : Int) (v3_4 : Int) (N_5 : ZB) =>
          if (nm v3_4) < (nm (N_5.1 5)) then (
            rd (N_5.2 3) 24 v3_4 fun x_9 =>
            kf2 (fun (v2_10 : Int) (N_11 : ZB) =>
              rec_6 v2_10 (v3_4 + 1) N_11) fun k_12 =>
            if (nm x_9) < (nm a1) then (
              k_12 v2_3 N_5)
            else (
              ix 24 v3_4 <| lt (N_5.1, ua N_5.2 3 (up (N_5.2 3) (Int.toNat v3_4) (-1))) fun N_13 =>
              k_12 (v2_3 + 1) N_13))
          else (
            lt (up N_5.1 6 (a1), N_5.2) fun N_7 =>
            bd (fAc_done u_2) fun u_8 =>
            some (v2_3, N_7, u_8))) 0 0 N)))
def fN_hasLine (N : ZB) (a1 : Int) : Option (Int) :=
  kf1 (fun (w0_1 : Int) =>
    zo w0_1 <| some w0_1) fun k_2 =>
  kf0 (k_2 0) fun k_3 =>
  if (nm a1) < 0 then (
    k_3)
  else (
    if (nm a1) < (nm (N.1 5)) then (
      k_2 1)
    else (
      k_3))
def fN_isSound (N : ZB) (a1 : Int) : Option (Int) :=
  kf1 (fun (w0_1 : Int) =>
    zo w0_1 <| some w0_1) fun k_2 =>
  if (zand (zshr (N.1 7) a1) 1) = 0 then (
    k_2 1)
  else (
    k_2 0)
def fX_line (N : ZB) (a1 : Int) (a2 : Int) : Option (Int × Int) :=
  bd (fN_hasLine N a1) fun u_1 =>
  kf0 (some (1, 0)) fun k_2 =>
  if (nm u_1) = 0 then (
    k_2)
  else (
    if (nm a2) < 0 then (
      k_2)
    else (
      if 4 < (nm a2) then (
        k_2)
      else (
        if (nm a2) = 0 then (
          rd (N.2 0) 24 a1 fun x_4 =>
          some (0, x_4))
        else (
          if (nm a2) = 1 then (
            rd (N.2 1) 24 a1 fun x_6 =>
            some (0, x_6))
          else (
            if (nm a2) = 2 then (
              rd (N.2 2) 24 a1 fun x_8 =>
              some (0, x_8))
            else (
              if (nm a2) = 3 then (
                rd (N.2 3) 24 a1 fun x_10 =>
                some (0, x_10))
              else (
                bd (fN_isSound N a1) fun u_11 =>
                kf1 (fun (w0_12 : Int) =>
                  some (0, w0_12)) fun k_13 =>
                if (nm u_11) = 0 then (
                  k_13 1)
                else (
                  k_13 0))))))))
def fN_hasForest (N : ZB) (a1 : Int) : Option (Int) :=
  kf1 (fun (w0_1 : Int) =>
    zo w0_1 <| some w0_1) fun k_2 =>
  kf0 (k_2 0) fun k_3 =>
  if (nm a1) < 0 then (
    k_3)
  else (
    if (nm a1) < (nm (N.1 6)) then (
      k_2 1)
    else (
      k_3))
def fCh_goAlong (N : ZB) (Ch : ZB) (a1 : Int) (a2 : Int) : Option (Int × ZB) :=
  rd (N.2 0) 24 a1 fun x_1 =>
  rd (N.2 1) 24 a1 fun x_2 =>
  lt (zand (zshr a2 x_1) 1) fun v5_3 =>
  if (nm v5_3) = (zand (zshr a2 x_2) 1) then (
    some (0, Ch))
  else (
    kf1 (fun (w0_4 : Int) =>
      kf1 (fun (w0_6 : Int) =>
        rd (Ch.2 1) 10 w0_4 fun x_8 =>
        ix 10 w0_6 <| lt (Ch.1, ua Ch.2 1 (up (Ch.2 1) (Int.toNat w0_6) (zor x_8 (zshl 1 a1)))) fun Ch_9 =>
        some ((zshl 1 w0_6), Ch_9)) fun k_7 =>
      if (nm v5_3) = 1 then (
        k_7 x_2)
      else (
        k_7 x_1)) fun k_5 =>
    if (nm v5_3) = 1 then (
      k_5 x_1)
    else (
      k_5 x_2))
def fCh_ringOf (N : ZB) (Ch : ZB) (a1 : Int) (a2 : Int) : Option (Int × ZB) :=
  rd (N.2 1) 24 a1 fun x_1 =>
  rd (N.2 0) 24 a1 fun x_2 =>
  lt (zshl 1 x_2) fun v4_3 =>
  rd (N.2 0) 24 a1 fun x_4 =>
  ix 10 x_4 <| lt (Ch.1, ua Ch.2 1 (up (Ch.2 1) (Int.toNat x_4) 0)) fun Ch_5 =>
  lop3 FU (fun rec_9 (v4_6 : Int) (v5_7 : Int) (Ch_8 : ZB) =>
    kf2 (fun (v4_10 : Int) (Ch_11 : ZB) =>
      kf1 (fun (w0_13 : Int) =>
        some (w0_13, Ch_11)) fun k_14 =>
      if (zand (zshr v4_10 x_1) 1) = 0 then (
        k_14 0)
      else (
        rd (Ch_11.2 1) 10 x_1 fun x_15 =>
        k_14 x_15)) fun k_12 =>
    if (nm v5_7) < (nm (N.1 4)) then (
      lop3 FU (fun rec_19 (v4_16 : Int) (v7_17 : Int) (Ch_18 : ZB) =>
        if (nm v7_17) < (nm (N.1 5)) then (
          rd (N.2 3) 24 v7_17 fun x_20 =>
          kf2 (fun (v4_21 : Int) (Ch_22 : ZB) =>
            rec_19 v4_21 (v7_17 + 1) Ch_22) fun k_23 =>
          if (nm x_20) = (nm a2) then (
            bd (fCh_goAlong N Ch_18 v7_17 v4_16) fun u_24 =>
            lt (zor v4_16 u_24.1) fun v4_25 =>
            k_23 v4_25 u_24.2)
          else (
            k_23 v4_16 Ch_18))
        else (
          if (nm v4_16) = (nm v4_6) then (
            k_12 v4_16 Ch_18)
          else (
            if (zand (zshr v4_16 x_1) 1) = 0 then (
              rec_9 v4_16 (v5_7 + 1) Ch_18)
            else (
              k_12 v4_16 Ch_18)))) v4_6 0 Ch_8)
    else (
      k_12 v4_6 Ch_8)) v4_3 0 Ch_5
def fX_ring (N : ZB) (Ch : ZB) (a1 : Int) (a2 : Int) : Option (Int × Int × ZB) :=
  bd (fN_hasLine N a1) fun u_1 =>
  kf0 (some (1, 0, Ch)) fun k_2 =>
  if (nm u_1) = 0 then (
    k_2)
  else (
    bd (fN_hasForest N a2) fun u_3 =>
    if (nm u_3) = 0 then (
      k_2)
    else (
      bd (fN_isSound N a1) fun u_4 =>
      kf0 (some (1, 0, Ch)) fun k_5 =>
      if (nm u_4) = 0 then (
        k_5)
      else (
        rd (N.2 3) 24 a1 fun x_6 =>
        if (nm x_6) = (nm a2) then (
          k_5)
        else (
          bd (fCh_ringOf N Ch a1 a2) fun u_7 =>
          some (0, u_7.1, u_7.2)))))
def fN_forestSet (N : ZB) (a1 : Int) : Option (Int) :=
  lop2 FU (fun rec_3 (v2_1 : Int) (v3_2 : Int) =>
    if (nm v3_2) < (nm (N.1 5)) then (
      rd (N.2 3) 24 v3_2 fun x_4 =>
      kf1 (fun (v2_5 : Int) =>
        rec_3 v2_5 (v3_2 + 1)) fun k_6 =>
      if (nm x_4) = (nm a1) then (
        lt (zor v2_1 (zshl 1 v3_2)) fun v2_7 =>
        k_6 v2_7)
      else (
        k_6 v2_1))
    else (
      some v2_1)) 0 0
def fX_forest (N : ZB) (a1 : Int) : Option (Int) :=
  bd (fN_hasForest N a1) fun u_1 =>
  kf1 (fun (w0_2 : Int) =>
    some w0_2) fun k_3 =>
  if (nm u_1) = 0 then (
    k_3 (-1))
  else (
    bd (fN_forestSet N a1) fun u_4 =>
    k_3 u_4)
def fAc_count (Ac : ZA) : Option (Int) :=
  some (Ac.1 3)
def fN_ends (N : ZB) (a1 : Int) : Option (Int) :=
  rd (N.2 0) 24 a1 fun x_1 =>
  rd (N.2 1) 24 a1 fun x_2 =>
  some (zor (zshl 1 x_1) (zshl 1 x_2))
def fN_reach (N : ZB) (a1 : Int) (a2 : Int) : Option (Int) :=
  lt (zshl 1 a1) fun v3_1 =>
  lop2 FU (fun rec_4 (v3_2 : Int) (v4_3 : Int) =>
    kf1 (fun (v3_5 : Int) =>
      some v3_5) fun k_6 =>
    if (nm v4_3) < (nm (N.1 4)) then (
      lop2 FU (fun rec_9 (v3_7 : Int) (v6_8 : Int) =>
        if (nm v6_8) < (nm (N.1 5)) then (
          kf1 (fun (v3_10 : Int) =>
            rec_9 v3_10 (v6_8 + 1)) fun k_11 =>
          if (zand (zshr a2 v6_8) 1) = 0 then (
            k_11 v3_7)
          else (
            bd (fN_ends N v6_8) fun u_12 =>
            if (zand u_12 v3_7) = 0 then (
              k_11 v3_7)
            else (
              bd (fN_ends N v6_8) fun u_13 =>
              lt (zor v3_7 u_13) fun v3_14 =>
              k_11 v3_14)))
        else (
          if (nm v3_7) = (nm v3_2) then (
            k_6 v3_7)
          else (
            rec_4 v3_7 (v4_3 + 1)))) v3_2 0)
    else (
      k_6 v3_2)) v3_1 0
def fN_pieces (N : ZB) (a1 : Int) : Option (Int) :=
  lop3 FU (fun rec_4 (v2_1 : Int) (v3_2 : Int) (v4_3 : Int) =>
    if (nm v4_3) < (nm (N.1 4)) then (
      kf2 (fun (v2_5 : Int) (v3_6 : Int) =>
        rec_4 v2_5 v3_6 (v4_3 + 1)) fun k_7 =>
      if (zand (zshr v3_2 v4_3) 1) = 0 then (
        bd (fN_reach N v4_3 a1) fun u_8 =>
        lt (zor v3_2 u_8) fun v3_9 =>
        k_7 (v2_1 + 1) v3_9)
      else (
        k_7 v2_1 v3_2))
    else (
      some v2_1)) 0 0 0
def fN_soundSet (N : ZB) : Option (Int) :=
  some (zand ((zshl 1 (N.1 5)) - 1) (zxor (N.1 7) (-1)))
def fJI_bitCount (a1 : Int) : Option (Int) :=
  lt (a1 - (zand (zushr a1 1) 1431655765)) fun v0_1 =>
  lt ((zand v0_1 858993459) + (zand (zushr v0_1 2) 858993459)) fun v0_2 =>
  lt (zand (v0_2 + (zushr v0_2 4)) 252645135) fun v0_3 =>
  lt (v0_3 + (zushr v0_3 8)) fun v0_4 =>
  lt (v0_4 + (zushr v0_4 16)) fun v0_5 =>
  some (zand v0_5 63)
def fN_packed (N : ZB) : Option (Int) :=
  bd (fN_forestSet N (-1)) fun u_1 =>
  bd (fJI_bitCount u_1) fun u_2 =>
  some ((N.1 5) - u_2)
def fX_now (N : ZB) (T : ZB) (Ac : ZA) (a1 : Int) : Option (Int) :=
  if (nm a1) = 0 then (
    some (N.1 4))
  else (
    if (nm a1) = 1 then (
      some (N.1 5))
    else (
      if (nm a1) = 2 then (
        some (N.1 6))
      else (
        if (nm a1) = 3 then (
          bd (fN_soundSet N) fun u_5 =>
          bd (fJI_bitCount u_5) fun u_6 =>
          some u_6)
        else (
          if (nm a1) = 4 then (
            bd (fN_packed N) fun u_8 =>
            some u_8)
          else (
            if (nm a1) = 5 then (
              bd (fN_soundSet N) fun u_10 =>
              bd (fN_pieces N u_10) fun u_11 =>
              some u_11)
            else (
              if (nm a1) = 6 then (
                bd (fN_forestSet N 0) fun u_13 =>
                bd (fN_pieces N u_13) fun u_14 =>
                some u_14)
              else (
                if (nm a1) = 7 then (
                  bd (fAc_count Ac) fun u_16 =>
                  some u_16)
                else (
                  if (nm a1) = 8 then (
                    bd (fT_size T) fun u_18 =>
                    some u_18)
                  else (
                    some (-1))))))))))
def fX_whyNotPut (N : ZB) (Ch : ZB) (a1 : Int) (a2 : Int) : Option (Int × ZB) :=
  bd (fN_isSound N a1) fun u_1 =>
  if (nm u_1) = 0 then (
    some (1, Ch))
  else (
    rd (N.2 3) 24 a1 fun x_2 =>
    if (nm x_2) = (-1) then (
      bd (fCh_ringOf N Ch a1 a2) fun u_3 =>
      kf1 (fun (w0_4 : Int) =>
        some (w0_4, u_3.2)) fun k_5 =>
      if (nm u_3.1) = 0 then (
        k_5 0)
      else (
        k_5 3))
    else (
      some (2, Ch)))
def fX_put (N : ZB) (Ac : ZA) (Ch : ZB) (a1 : Int) (a2 : Int) : Option (Int × ZB × ZA × ZB) :=
  bd (fN_hasLine N a1) fun u_1 =>
  kf0 (some ((-1), N, Ac, Ch)) fun k_2 =>
  if (nm u_1) = 0 then (
    k_2)
  else (
    bd (fN_hasForest N a2) fun u_3 =>
    if (nm u_3) = 0 then (
      k_2)
    else (
      bd (fX_whyNotPut N Ch a1 a2) fun u_4 =>
      kf2 (fun (N_5 : ZB) (Ac_6 : ZA) =>
        some (u_4.1, N_5, Ac_6, u_4.2)) fun k_7 =>
      if (nm u_4.1) = 0 then (
        bd (fAc_before N Ac) fun u_8 =>
        ix 24 a1 <| lt (N.1, ua N.2 3 (up (N.2 3) (Int.toNat a1) a2)) fun N_9 =>
        bd (fAc_done u_8) fun u_10 =>
        k_7 N_9 u_10)
      else (
        k_7 N Ac)))
def fX_lift (N : ZB) (Ac : ZA) (a1 : Int) : Option (Int × ZB × ZA) :=
  bd (fN_hasLine N a1) fun u_1 =>
  kf0 (some ((-1), N, Ac)) fun k_2 =>
  if (nm u_1) = 0 then (
    k_2)
  else (
    rd (N.2 3) 24 a1 fun x_3 =>
    if (nm x_3) = (-1) then (
      k_2)
    else (
      bd (fAc_before N Ac) fun u_4 =>
      rd (N.2 3) 24 a1 fun x_5 =>
      ix 24 a1 <| lt (N.1, ua N.2 3 (up (N.2 3) (Int.toNat a1) (-1))) fun N_6 =>
      bd (fAc_done u_4) fun u_7 =>
      some (x_5, N_6, u_7)))
def fX_canBePlaced (N : ZB) (a1 : Int) : Option (Int) :=
  bd (fN_hasLine N a1) fun u_1 =>
  kf1 (fun (w0_2 : Int) =>
    zo w0_2 <| some w0_2) fun k_3 =>
  kf0 (k_3 0) fun k_4 =>
  if (nm u_1) = 0 then (
    k_4)
  else (
    bd (fN_isSound N a1) fun u_5 =>
    if (nm u_5) = 0 then (
      k_4)
    else (
      rd (N.2 3) 24 a1 fun x_6 =>
      if (nm x_6) = (-1) then (
        k_3 1)
      else (
        k_4)))
def fCh_freeForest (N : ZB) (Ch : ZB) (a1 : Int) : Option (Int × ZB) :=
  lop2 FU (fun rec_3 (v2_1 : Int) (Ch_2 : ZB) =>
    if (nm v2_1) < (nm (N.1 6)) then (
      rd (N.2 3) 24 a1 fun x_4 =>
      kf1 (fun (Ch_5 : ZB) =>
        rec_3 (v2_1 + 1) Ch_5) fun k_6 =>
      if (nm x_4) = (nm v2_1) then (
        k_6 Ch_2)
      else (
        bd (fCh_ringOf N Ch_2 a1 v2_1) fun u_7 =>
        if (nm u_7.1) = 0 then (
          some (v2_1, u_7.2))
        else (
          k_6 u_7.2)))
    else (
      some ((-1), Ch_2))) 0 Ch
def fCh_allRings (N : ZB) (Ch : ZB) (a1 : Int) : Option (Int × ZB) :=
  lop3 FU (fun rec_4 (v2_1 : Int) (v3_2 : Int) (Ch_3 : ZB) =>
    if (nm v3_2) < (nm (N.1 6)) then (
      rd (N.2 3) 24 a1 fun x_5 =>
      kf2 (fun (v2_6 : Int) (Ch_7 : ZB) =>
        rec_4 v2_6 (v3_2 + 1) Ch_7) fun k_8 =>
      if (nm x_5) = (nm v3_2) then (
        k_8 v2_1 Ch_3)
      else (
        bd (fCh_ringOf N Ch_3 a1 v3_2) fun u_9 =>
        lt (zor v2_1 u_9.1) fun v2_10 =>
        k_8 v2_10 u_9.2))
    else (
      some (v2_1, Ch_3))) 0 0 Ch
def fCh_writeDown (N : ZB) (Ch : ZB) (a1 : Int) (a2 : Int) : Option (ZB) :=
  lop2 FU (fun rec_3 (v3_1 : Int) (Ch_2 : ZB) =>
    kf0 (lt ((Ch_2.1 6) - 1) fun v5_5 =>
    lop4 FU (fun rec_10 (v3_6 : Int) (v4_7 : Int) (v5_8 : Int) (Ch_9 : ZB) =>
      kf0 (some Ch_9) fun k_11 =>
      if (nm v5_8) < 0 then (
        k_11)
      else (
        if (nm v3_6) < 0 then (
          k_11)
        else (
          rd (Ch_9.2 2) 24 v3_6 fun x_12 =>
          ix 24 v5_8 <| lt (Ch_9.1, ua Ch_9.2 4 (up (Ch_9.2 4) (Int.toNat v5_8) x_12)) fun Ch_13 =>
          ix 24 v5_8 <| lt (Ch_13.1, ua Ch_13.2 5 (up (Ch_13.2 5) (Int.toNat v5_8) v4_7)) fun Ch_14 =>
          rd (Ch_14.2 2) 24 v3_6 fun x_15 =>
          rd (N.2 3) 24 x_15 fun x_16 =>
          rd (Ch_14.2 3) 24 v3_6 fun x_17 =>
          rec_10 x_17 x_16 (v5_8 + (-1)) Ch_14))) a1 a2 v5_5 Ch_2) fun k_4 =>
    if (nm v3_1) < 0 then (
      k_4)
    else (
      if (nm (Ch_2.1 6)) < 24 then (
        lt (up Ch_2.1 6 (((Ch_2.1 6) + 1)), Ch_2.2) fun Ch_18 =>
        rd (Ch_18.2 3) 24 v3_1 fun x_19 =>
        rec_3 x_19 Ch_18)
      else (
        k_4))) a1 Ch
def fCh_find (N : ZB) (Ch : ZB) (a1 : Int) : Option (Int × ZB) :=
  lt (up Ch.1 6 (0), Ch.2) fun Ch_1 =>
  lt (up Ch_1.1 7 ((zshl 1 a1)), Ch_1.2) fun Ch_2 =>
  ix 24 0 <| lt (Ch_2.1, ua Ch_2.2 2 (up (Ch_2.2 2) (Int.toNat 0) a1)) fun Ch_3 =>
  ix 24 0 <| lt (Ch_3.1, ua Ch_3.2 3 (up (Ch_3.2 3) (Int.toNat 0) (-1))) fun Ch_4 =>
  lop3 FU (fun rec_8 (v2_5 : Int) (v3_6 : Int) (Ch_7 : ZB) =>
    kf0 (some (0, Ch_7)) fun k_9 =>
    if (nm v3_6) < (nm v2_5) then (
      if (nm v3_6) < 24 then (
        rd (Ch_7.2 2) 24 v3_6 fun x_10 =>
        bd (fCh_freeForest N Ch_7 x_10) fun u_11 =>
        if (nm u_11.1) = (-1) then (
          bd (fCh_allRings N u_11.2 x_10) fun u_12 =>
          lt (zand u_12.1 (zxor (u_12.2.1 7) (-1))) fun v6_13 =>
          lt (up u_12.2.1 7 ((zor (u_12.2.1 7) v6_13)), u_12.2.2) fun Ch_14 =>
          lop3 FU (fun rec_18 (v2_15 : Int) (v7_16 : Int) (Ch_17 : ZB) =>
            kf0 (rec_8 v2_15 (v3_6 + 1) Ch_17) fun k_19 =>
            if (nm v7_16) < (nm (N.1 5)) then (
              if (nm v2_15) < 24 then (
                kf2 (fun (v2_20 : Int) (Ch_21 : ZB) =>
                  rec_18 v2_20 (v7_16 + 1) Ch_21) fun k_22 =>
                if (zand (zshr v6_13 v7_16) 1) = 0 then (
                  k_22 v2_15 Ch_17)
                else (
                  ix 24 v2_15 <| lt (Ch_17.1, ua Ch_17.2 2 (up (Ch_17.2 2) (Int.toNat v2_15) v7_16)) fun Ch_23 =>
                  ix 24 v2_15 <| lt (Ch_23.1, ua Ch_23.2 3 (up (Ch_23.2 3) (Int.toNat v2_15) v3_6)) fun Ch_24 =>
                  k_22 (v2_15 + 1) Ch_24))
              else (
                k_19))
            else (
              k_19)) v2_5 0 Ch_14)
        else (
          bd (fCh_writeDown N u_11.2 v3_6 u_11.1) fun u_25 =>
          some ((u_25.1 6), u_25)))
      else (
        k_9))
    else (
      k_9)) 1 0 Ch_4
def fCh_remember (N : ZB) (Ch : ZB) : Option (ZB) :=
  if 0 < (nm (Ch.1 6)) then (
    cpk 24 24 0 0 (Ch.1 6) <| lt (Ch.1, ua Ch.2 8 (zcpy (Ch.2 4) (Ch.2 8) 0 0 (Ch.1 6))) fun Ch_9 =>
    cpk 24 24 0 0 (Ch_9.1 6) <| lt (Ch_9.1, ua Ch_9.2 9 (zcpy (Ch_9.2 5) (Ch_9.2 9) 0 0 (Ch_9.1 6))) fun Ch_10 =>
    lt (up Ch_10.1 10 ((Ch_10.1 6)), Ch_10.2) fun Ch_11 =>
    some Ch_11)
  else (
    lt (up Ch.1 11 (0), Ch.2) fun Ch_1 =>
    lop2 FU (fun rec_4 (v1_2 : Int) (Ch_3 : ZB) =>
      if (nm v1_2) < (nm (N.1 5)) then (
        kf1 (fun (Ch_5 : ZB) =>
          rec_4 (v1_2 + 1) Ch_5) fun k_6 =>
        if (zand (zshr (Ch_3.1 7) v1_2) 1) = 0 then (
          k_6 Ch_3)
        else (
          bd (fN_ends N v1_2) fun u_7 =>
          lt (up Ch_3.1 11 ((zor (Ch_3.1 11) u_7)), Ch_3.2) fun Ch_8 =>
          k_6 Ch_8))
      else (
        some Ch_3)) 0 Ch_1)
def fCh_carryOut (N : ZB) (Ch : ZB) : Option (ZB) :=
  lop2 FU (fun rec_3 (v1_1 : Int) (N_2 : ZB) =>
    if (nm v1_1) < (nm (Ch.1 6)) then (
      rd (Ch.2 4) 24 v1_1 fun x_4 =>
      rd (Ch.2 5) 24 v1_1 fun x_5 =>
      ix 24 x_4 <| lt (N_2.1, ua N_2.2 3 (up (N_2.2 3) (Int.toNat x_4) x_5)) fun N_6 =>
      rec_3 (v1_1 + 1) N_6)
    else (
      some N_2)) 0 N
def fX_place (N : ZB) (Ac : ZA) (Ch : ZB) (a1 : Int) : Option (Int × ZB × ZA × ZB) :=
  bd (fX_canBePlaced N a1) fun u_1 =>
  if (nm u_1) = 0 then (
    some ((-1), N, Ac, Ch))
  else (
    bd (fCh_find N Ch a1) fun u_2 =>
    bd (fCh_remember N u_2.2) fun u_3 =>
    kf2 (fun (N_4 : ZB) (Ac_5 : ZA) =>
      some (u_2.1, N_4, Ac_5, u_3)) fun k_6 =>
    if 0 < (nm u_2.1) then (
      bd (fAc_before N Ac) fun u_7 =>
      bd (fCh_carryOut N u_3) fun u_8 =>
      bd (fAc_done u_7) fun u_9 =>
      k_6 u_8 u_9)
    else (
      k_6 N Ac))
def fX_chain (N : ZB) (Ch : ZB) (a1 : Int) : Option (Int × ZB) :=
  bd (fX_canBePlaced N a1) fun u_1 =>
  if (nm u_1) = 0 then (
    some ((-1), Ch))
  else (
    bd (fCh_find N Ch a1) fun u_2 =>
    bd (fCh_remember N u_2.2) fun u_3 =>
    some (u_2.1, u_3))
def fCh_toldAt (Ch : ZB) (a1 : Int) (a2 : Int) : Option (Int) :=
  kf0 (some (-1)) fun k_1 =>
  if (nm a1) < 0 then (
    k_1)
  else (
    if (nm a1) < (nm (Ch.1 10)) then (
      if (nm a2) < 0 then (
        k_1)
      else (
        if 1 < (nm a2) then (
          k_1)
        else (
          kf1 (fun (w0_2 : Int) =>
            some w0_2) fun k_3 =>
          if (nm a2) = 0 then (
            rd (Ch.2 8) 24 a1 fun x_5 =>
            k_3 x_5)
          else (
            rd (Ch.2 9) 24 a1 fun x_4 =>
            k_3 x_4))))
    else (
      k_1))
def fX_chainAt (Ch : ZB) (a1 : Int) (a2 : Int) : Option (Int) :=
  bd (fCh_toldAt Ch a1 a2) fun u_1 =>
  some u_1
def fCh_toldCrowd (Ch : ZB) : Option (Int) :=
  some (Ch.1 11)
def fX_crowd (Ch : ZB) : Option (Int) :=
  bd (fCh_toldCrowd Ch) fun u_1 =>
  some u_1
def fX_pack (N : ZB) (Ac : ZA) (Ch : ZB) : Option (Int × ZB × ZA × ZB) :=
  bd (fAc_before N Ac) fun u_1 =>
  lop4 FU (fun rec_6 (v1_2 : Int) (v2_3 : Int) (N_4 : ZB) (Ch_5 : ZB) =>
    if (nm v2_3) < (nm (N_4.1 5)) then (
      bd (fX_canBePlaced N_4 v2_3) fun u_10 =>
      kf3 (fun (v1_11 : Int) (N_12 : ZB) (Ch_13 : ZB) =>
        rec_6 v1_11 (v2_3 + 1) N_12 Ch_13) fun k_14 =>
      if (nm u_10) = 0 then (
        k_14 v1_2 N_4 Ch_5)
      else (
        bd (fCh_find N_4 Ch_5 v2_3) fun u_15 =>
        if 0 < (nm u_15.1) then (
          bd (fCh_carryOut N_4 u_15.2) fun u_16 =>
          k_14 (v1_2 + 1) u_16 u_15.2)
        else (
          k_14 v1_2 N_4 u_15.2)))
    else (
      kf1 (fun (Ac_7 : ZA) =>
        some (v1_2, N_4, Ac_7, Ch_5)) fun k_8 =>
      if 0 < (nm v1_2) then (
        bd (fAc_done u_1) fun u_9 =>
        k_8 u_9)
      else (
        k_8 u_1))) 0 0 N Ch
def fCh_isTree (N : ZB) (a1 : Int) : Option (Int) :=
  bd (fN_forestSet N a1) fun u_1 =>
  bd (fJI_bitCount u_1) fun u_2 =>
  kf1 (fun (w0_3 : Int) =>
    zo w0_3 <| some w0_3) fun k_4 =>
  if (nm u_2) = (nm ((N.1 4) - 1)) then (
    k_4 1)
  else (
    k_4 0)
def fCh_traded (N : ZB) (Ch : ZB) (a1 : Int) (a2 : Int) : Option (Int × ZB) :=
  rd (N.2 3) 24 a1 fun x_1 =>
  kf0 (some ((-1), Ch)) fun k_2 =>
  if (nm x_1) = (-1) then (
    k_2)
  else (
    if (nm x_1) = (nm a2) then (
      k_2)
    else (
      bd (fCh_isTree N x_1) fun u_3 =>
      if (nm u_3) = 0 then (
        k_2)
      else (
        bd (fCh_isTree N a2) fun u_4 =>
        if (nm u_4) = 0 then (
          k_2)
        else (
          bd (fCh_ringOf N Ch a1 a2) fun u_5 =>
          lop2 FU (fun rec_8 (v5_6 : Int) (Ch_7 : ZB) =>
            if (nm v5_6) < (nm (N.1 5)) then (
              kf1 (fun (Ch_9 : ZB) =>
                rec_8 (v5_6 + 1) Ch_9) fun k_10 =>
              if (zand (zshr u_5.1 v5_6) 1) = 0 then (
                k_10 Ch_7)
              else (
                bd (fCh_ringOf N Ch_7 v5_6 x_1) fun u_11 =>
                if (zand (zshr u_11.1 a1) 1) = 0 then (
                  k_10 u_11.2)
                else (
                  some (v5_6, u_11.2))))
            else (
              some ((-1), Ch_7))) 0 u_5.2))))
def fCh_swap (N : ZB) (a1 : Int) (a2 : Int) : Option (ZB) :=
  rd (N.2 3) 24 a1 fun x_1 =>
  rd (N.2 3) 24 a2 fun x_2 =>
  ix 24 a1 <| lt (N.1, ua N.2 3 (up (N.2 3) (Int.toNat a1) x_2)) fun N_3 =>
  ix 24 a2 <| lt (N_3.1, ua N_3.2 3 (up (N_3.2 3) (Int.toNat a2) x_1)) fun N_4 =>
  some N_4
def fX_trade (N : ZB) (Ac : ZA) (Ch : ZB) (a1 : Int) (a2 : Int) : Option (Int × ZB × ZA × ZB) :=
  bd (fN_hasLine N a1) fun u_1 =>
  kf0 (some ((-1), N, Ac, Ch)) fun k_2 =>
  if (nm u_1) = 0 then (
    k_2)
  else (
    bd (fN_hasForest N a2) fun u_3 =>
    if (nm u_3) = 0 then (
      k_2)
    else (
      bd (fCh_traded N Ch a1 a2) fun u_4 =>
      kf2 (fun (N_5 : ZB) (Ac_6 : ZA) =>
        some (u_4.1, N_5, Ac_6, u_4.2)) fun k_7 =>
      if (nm u_4.1) = (-1) then (
        k_7 N Ac)
      else (
        bd (fAc_before N Ac) fun u_8 =>
        bd (fCh_swap N a1 u_4.1) fun u_9 =>
        bd (fAc_done u_8) fun u_10 =>
        k_7 u_9 u_10)))
def fN_breakLine (N : ZB) (a1 : Int) : Option (ZB) :=
  ix 24 a1 <| lt (N.1, ua N.2 3 (up (N.2 3) (Int.toNat a1) (-1))) fun N_1 =>
  lt (up N_1.1 7 ((zor (N_1.1 7) (zshl 1 a1))), N_1.2) fun N_2 =>
  some N_2
def fX_breaks (N : ZB) (Ac : ZA) (a1 : Int) : Option (Int × ZB × ZA) :=
  bd (fN_hasLine N a1) fun u_1 =>
  if (nm u_1) = 0 then (
    some ((-1), N, Ac))
  else (
    bd (fN_isSound N a1) fun u_2 =>
    if (nm u_2) = 0 then (
      some (1, N, Ac))
    else (
      bd (fAc_before N Ac) fun u_3 =>
      bd (fN_breakLine N a1) fun u_4 =>
      bd (fAc_done u_3) fun u_5 =>
      some (0, u_4, u_5)))
def fN_mendLine (N : ZB) (a1 : Int) : Option (ZB) :=
  lt (up N.1 7 ((zand (N.1 7) (zxor (zshl 1 a1) (-1)))), N.2) fun N_1 =>
  some N_1
def fX_mend (N : ZB) (Ac : ZA) (a1 : Int) : Option (Int × ZB × ZA) :=
  bd (fN_hasLine N a1) fun u_1 =>
  if (nm u_1) = 0 then (
    some ((-1), N, Ac))
  else (
    bd (fN_isSound N a1) fun u_2 =>
    if (nm u_2) = 0 then (
      bd (fAc_before N Ac) fun u_3 =>
      bd (fN_mendLine N a1) fun u_4 =>
      bd (fAc_done u_3) fun u_5 =>
      some (0, u_4, u_5))
    else (
      some (1, N, Ac)))
def fX_weigh (N : ZB) (Ac : ZA) (a1 : Int) (a2 : Int) : Option (Int × ZB × ZA) :=
  bd (fN_hasLine N a1) fun u_1 =>
  kf0 (some ((-1), N, Ac)) fun k_2 =>
  if (nm u_1) = 0 then (
    k_2)
  else (
    if (nm a2) < 1 then (
      k_2)
    else (
      if 99 < (nm a2) then (
        k_2)
      else (
        rd (N.2 2) 24 a1 fun x_3 =>
        if (nm x_3) = (nm a2) then (
          some (1, N, Ac))
        else (
          bd (fAc_before N Ac) fun u_4 =>
          ix 24 a1 <| lt (N.1, ua N.2 2 (up (N.2 2) (Int.toNat a1) a2)) fun N_5 =>
          bd (fAc_done u_4) fun u_6 =>
          some (0, N_5, u_6)))))
def fN_turnLine (N : ZB) (a1 : Int) : Option (ZB) :=
  lt (up N.1 8 ((zxor (N.1 8) (zshl 1 a1))), N.2) fun N_1 =>
  some N_1
def fN_tail (N : ZB) (a1 : Int) : Option (Int) :=
  kf1 (fun (w0_1 : Int) =>
    some w0_1) fun k_2 =>
  if (zand (zshr (N.1 8) a1) 1) = 0 then (
    rd (N.2 0) 24 a1 fun x_4 =>
    k_2 x_4)
  else (
    rd (N.2 1) 24 a1 fun x_3 =>
    k_2 x_3)
def fX_turn (N : ZB) (Ac : ZA) (a1 : Int) : Option (Int × ZB × ZA) :=
  bd (fN_hasLine N a1) fun u_1 =>
  if (nm u_1) = 0 then (
    some ((-1), N, Ac))
  else (
    bd (fAc_before N Ac) fun u_2 =>
    bd (fN_turnLine N a1) fun u_3 =>
    bd (fAc_done u_2) fun u_4 =>
    bd (fN_tail u_3 a1) fun u_5 =>
    some (u_5, u_3, u_4))
def fN_loadOf (N : ZB) (a1 : Int) : Option (Int) :=
  lop2 FU (fun rec_3 (v2_1 : Int) (v3_2 : Int) =>
    if (nm v3_2) < (nm (N.1 5)) then (
      bd (fN_isSound N v3_2) fun u_4 =>
      kf1 (fun (v2_5 : Int) =>
        rec_3 v2_5 (v3_2 + 1)) fun k_6 =>
      if (nm u_4) = 0 then (
        k_6 v2_1)
      else (
        bd (fN_tail N v3_2) fun u_7 =>
        if (nm u_7) = (nm a1) then (
          k_6 (v2_1 + 1))
        else (
          k_6 v2_1)))
    else (
      some v2_1)) 0 0
def fX_load (N : ZB) (a1 : Int) : Option (Int) :=
  kf1 (fun (w0_1 : Int) =>
    some w0_1) fun k_2 =>
  kf0 (k_2 (-1)) fun k_3 =>
  if (nm a1) < 0 then (
    k_3)
  else (
    if (nm a1) < (nm (N.1 4)) then (
      bd (fN_loadOf N a1) fun u_4 =>
      k_2 u_4)
    else (
      k_3))
def fEa_mostLoaded (N : ZB) : Option (Int) :=
  lop2 FU (fun rec_3 (v1_1 : Int) (v2_2 : Int) =>
    if (nm v2_2) < (nm (N.1 4)) then (
      bd (fN_loadOf N v2_2) fun u_4 =>
      bd (fN_loadOf N v1_1) fun u_5 =>
      kf1 (fun (v1_6 : Int) =>
        rec_3 v1_6 (v2_2 + 1)) fun k_7 =>
      if (nm u_5) < (nm u_4) then (
        k_7 v2_2)
      else (
        k_7 v1_1))
    else (
      some v1_1)) 0 1
def fN_head (N : ZB) (a1 : Int) : Option (Int) :=
  kf1 (fun (w0_1 : Int) =>
    some w0_1) fun k_2 =>
  if (zand (zshr (N.1 8) a1) 1) = 0 then (
    rd (N.2 1) 24 a1 fun x_4 =>
    k_2 x_4)
  else (
    rd (N.2 0) 24 a1 fun x_3 =>
    k_2 x_3)
def fEa_findWay (N : ZB) (Ea : ZB) : Option (Int × ZB) :=
  if (nm (N.1 4)) = 0 then (
    some (0, Ea))
  else (
    bd (fEa_mostLoaded N) fun u_1 =>
    bd (fN_loadOf N u_1) fun u_2 =>
    lt (u_2 - 2) fun v2_3 =>
    lt (zshl 1 u_1) fun v3_4 =>
    ix 10 0 <| lt (Ea.1, ua Ea.2 1 (up (Ea.2 1) (Int.toNat 0) u_1)) fun Ea_5 =>
    ix 10 u_1 <| lt (Ea_5.1, ua Ea_5.2 2 (up (Ea_5.2 2) (Int.toNat u_1) 0)) fun Ea_6 =>
    lop4 FU (fun rec_11 (v3_7 : Int) (v4_8 : Int) (v5_9 : Int) (Ea_10 : ZB) =>
      kf0 (some (0, Ea_10)) fun k_12 =>
      if (nm v5_9) < (nm v4_8) then (
        if (nm v5_9) < 10 then (
          rd (Ea_10.2 1) 10 v5_9 fun x_13 =>
          bd (fN_loadOf N x_13) fun u_14 =>
          if (nm v2_3) < (nm u_14) then (
            lop4 FU (fun rec_19 (v3_15 : Int) (v4_16 : Int) (v7_17 : Int) (Ea_18 : ZB) =>
              kf0 (rec_11 v3_15 v4_16 (v5_9 + 1) Ea_18) fun k_20 =>
              if (nm v7_17) < (nm (N.1 5)) then (
                if (nm v4_16) < 10 then (
                  bd (fN_head N v7_17) fun u_21 =>
                  bd (fN_isSound N v7_17) fun u_22 =>
                  kf3 (fun (v3_23 : Int) (v4_24 : Int) (Ea_25 : ZB) =>
                    rec_19 v3_23 v4_24 (v7_17 + 1) Ea_25) fun k_26 =>
                  if (nm u_22) = 0 then (
                    k_26 v3_15 v4_16 Ea_18)
                  else (
                    bd (fN_tail N v7_17) fun u_27 =>
                    if (nm u_27) = (nm x_13) then (
                      if (zand (zshr v3_15 u_21) 1) = 0 then (
                        lt (zor v3_15 (zshl 1 u_21)) fun v3_28 =>
                        rd (Ea_18.2 2) 10 x_13 fun x_29 =>
                        ix 10 u_21 <| lt (Ea_18.1, ua Ea_18.2 2 (up (Ea_18.2 2) (Int.toNat u_21) (zor x_29 (zshl 1 v7_17)))) fun Ea_30 =>
                        ix 10 v4_16 <| lt (Ea_30.1, ua Ea_30.2 1 (up (Ea_30.2 1) (Int.toNat v4_16) u_21)) fun Ea_31 =>
                        k_26 v3_28 (v4_16 + 1) Ea_31)
                      else (
                        k_26 v3_15 v4_16 Ea_18))
                    else (
                      k_26 v3_15 v4_16 Ea_18)))
                else (
                  k_20))
              else (
                k_20)) v3_7 v4_8 0 Ea_10)
          else (
            rd (Ea_10.2 2) 10 x_13 fun x_32 =>
            some (x_32, Ea_10)))
        else (
          k_12))
      else (
        k_12)) v3_4 1 0 Ea_6)
def fX_ease (N : ZB) (Ac : ZA) (Ea : ZB) : Option (Int × ZB × ZA × ZB) :=
  bd (fEa_findWay N Ea) fun u_1 =>
  if (nm u_1.1) = 0 then (
    some (0, N, Ac, u_1.2))
  else (
    bd (fAc_before N Ac) fun u_2 =>
    lt (up N.1 8 ((zxor (N.1 8) u_1.1)), N.2) fun N_3 =>
    bd (fAc_done u_2) fun u_4 =>
    bd (fJI_bitCount u_1.1) fun u_5 =>
    some (u_5, N_3, u_4, u_1.2))
def fGa_firstAcross (N : ZB) (a1 : Int) (a2 : Int) : Option (Int) :=
  lop1 FU (fun rec_2 (v3_1 : Int) =>
    if (nm v3_1) < (nm (N.1 5)) then (
      rd (N.2 0) 24 v3_1 fun x_3 =>
      rd (N.2 1) 24 v3_1 fun x_4 =>
      kf1 (fun (w0_5 : Int) =>
        kf0 (rec_2 (v3_1 + 1)) fun k_7 =>
        if (zand (zshr a1 v3_1) 1) = 0 then (
          k_7)
        else (
          if (nm w0_5) = 0 then (
            k_7)
          else (
            some v3_1))) fun k_6 =>
      if (zand (zshr a2 x_3) 1) = (zand (zshr a2 x_4) 1) then (
        k_6 0)
      else (
        k_6 1))
    else (
      some (-1))) 0
def fGa_cutLine (N : ZB) (Ga : ZB) (a1 : Int) : Option (Int × ZB) :=
  bd (fN_hasLine N a1) fun u_1 =>
  kf0 (some (0, Ga)) fun k_2 =>
  if (nm u_1) = 0 then (
    k_2)
  else (
    rd (N.2 3) 24 a1 fun x_3 =>
    if (nm x_3) < 0 then (
      k_2)
    else (
      rd (N.2 3) 24 a1 fun x_4 =>
      if 1 < (nm x_4) then (
        k_2)
      else (
        if (zand (zshr (zor (Ga.1 5) (Ga.1 6)) a1) 1) = 0 then (
          rd (N.2 3) 24 a1 fun x_5 =>
          lt (up Ga.1 5 ((zor (Ga.1 5) (zshl 1 a1))), Ga.2) fun Ga_6 =>
          rd (N.2 0) 24 a1 fun x_7 =>
          rd (Ga_6.2 2) 2 x_5 fun x_8 =>
          bd (fN_reach N x_7 (zor (zand x_8 (zxor (Ga_6.1 5) (-1))) (Ga_6.1 6))) fun u_9 =>
          rd (Ga_6.2 2) 2 (1 - x_5) fun x_10 =>
          bd (fGa_firstAcross N (zand (zand x_10 (zxor (Ga_6.1 5) (-1))) (zxor (Ga_6.1 6) (-1))) u_9) fun u_11 =>
          ix 24 (Ga_6.1 4) <| lt (Ga_6.1, ua Ga_6.2 3 (up (Ga_6.2 3) (Int.toNat (Ga_6.1 4)) u_11)) fun Ga_12 =>
          lt (up Ga_12.1 4 (((Ga_12.1 4) + 1)), Ga_12.2) fun Ga_13 =>
          kf1 (fun (Ga_14 : ZB) =>
            some (1, Ga_14)) fun k_15 =>
          if (nm u_11) = (-1) then (
            k_15 Ga_13)
          else (
            lt (up Ga_13.1 6 ((zor (Ga_13.1 6) (zshl 1 u_11))), Ga_13.2) fun Ga_16 =>
            k_15 Ga_16))
        else (
          some (0, Ga)))))
def fGa_run (N : ZB) (T : ZB) (Ga : ZB) : Option (Int × ZB) :=
  kf0 (some ((-1), Ga)) fun k_1 =>
  if (nm (N.1 4)) < 2 then (
    k_1)
  else (
    if (nm (N.1 6)) < 2 then (
      k_1)
    else (
      bd (fN_forestSet N 0) fun u_2 =>
      ix 2 0 <| lt (Ga.1, ua Ga.2 2 (up (Ga.2 2) (Int.toNat 0) u_2)) fun Ga_3 =>
      bd (fN_forestSet N 1) fun u_4 =>
      ix 2 1 <| lt (Ga_3.1, ua Ga_3.2 2 (up (Ga_3.2 2) (Int.toNat 1) u_4)) fun Ga_5 =>
      rd (Ga_5.2 2) 2 0 fun x_6 =>
      bd (fN_pieces N x_6) fun u_7 =>
      kf0 (some ((-1), Ga_5)) fun k_8 =>
      if (nm u_7) = 1 then (
        rd (Ga_5.2 2) 2 1 fun x_9 =>
        bd (fN_pieces N x_9) fun u_10 =>
        if (nm u_10) = 1 then (
          lt (up Ga_5.1 5 (0), Ga_5.2) fun Ga_11 =>
          lt (up Ga_11.1 6 (0), Ga_11.2) fun Ga_12 =>
          lt (up Ga_12.1 4 (0), Ga_12.2) fun Ga_13 =>
          lop2 FU (fun rec_16 (v1_14 : Int) (Ga_15 : ZB) =>
            bd (fT_size T) fun u_17 =>
            kf1 (fun (Ga_18 : ZB) =>
              some ((Ga_18.1 4), Ga_18)) fun k_19 =>
            if (nm v1_14) < (nm u_17) then (
              if (nm (Ga_15.1 4)) < 24 then (
                bd (fT_byteAt T v1_14) fun u_20 =>
                bd (fGa_cutLine N Ga_15 u_20) fun u_21 =>
                if (nm u_21.1) = 0 then (
                  k_19 u_21.2)
                else (
                  rec_16 (v1_14 + 1) u_21.2))
              else (
                k_19 Ga_15))
            else (
              k_19 Ga_15)) 0 Ga_13)
        else (
          k_8))
      else (
        k_8)))
def fX_game (N : ZB) (T : ZB) (Ga : ZB) : Option (Int × ZB × ZB) :=
  bd (fGa_run N T Ga) fun u_1 =>
  bd (fT_cut T 0) fun u_2 =>
  some (u_1.1, u_2, u_1.2)
def fGa_toldAt (Ga : ZB) (a1 : Int) : Option (Int) :=
  kf1 (fun (w0_1 : Int) =>
    some w0_1) fun k_2 =>
  kf0 (k_2 (-1)) fun k_3 =>
  if (nm a1) < 0 then (
    k_3)
  else (
    if (nm a1) < (nm (Ga.1 4)) then (
      rd (Ga.2 3) 24 a1 fun x_4 =>
      k_2 x_4)
    else (
      k_3))
def fX_keptAt (Ga : ZB) (a1 : Int) : Option (Int) :=
  bd (fGa_toldAt Ga a1) fun u_1 =>
  some u_1
def fAc_takeBack (N : ZB) (Ac : ZA) : Option (Int × ZB × ZA) :=
  if (nm (Ac.1 3)) = 0 then (
    some (0, N, Ac))
  else (
    kf1 (fun (w1_1 : Int) =>
      lt (up Ac.1 2 (w1_1), Ac.2) fun Ac_3 =>
      lt (up Ac_3.1 3 (((Ac_3.1 3) - 1)), Ac_3.2) fun Ac_4 =>
      ix 9 (Ac_4.1 2) <|
      bd (fN_become N (Ac_4.2 (Int.toNat (Ac_4.1 2)))) fun u_6 =>
      some (1, u_6, Ac_4)) fun k_2 =>
    if 0 < (nm (Ac.1 2)) then (
      k_2 ((Ac.1 2) - 1))
    else (
      k_2 8))
def fX_undo (N : ZB) (Ac : ZA) : Option (Int × ZB × ZA) :=
  bd (fAc_takeBack N Ac) fun u_1 =>
  kf1 (fun (w0_2 : Int) =>
    some (w0_2, u_1.2.1, u_1.2.2)) fun k_3 =>
  if (nm u_1.1) = 0 then (
    k_3 (-1))
  else (
    bd (fAc_count u_1.2.2) fun u_4 =>
    k_3 u_4)
def fN_allPoints (N : ZB) : Option (Int) :=
  some ((zshl 1 (N.1 4)) - 1)
def fPS_takeNone (N : ZB) (PS : ZB) : Option (ZB) :=
  lop2 FU (fun rec_3 (v1_1 : Int) (PS_2 : ZB) =>
    bd (fN_allPoints N) fun u_4 =>
    if (nm u_4) < (nm v1_1) then (
      some PS_2)
    else (
      ix 1024 v1_1 <| lt (PS_2.1, ua PS_2.2 2 (up (PS_2.2 2) (Int.toNat v1_1) 0)) fun PS_5 =>
      rec_3 (v1_1 + 1) PS_5)) 0 PS
def fPS_isFull (PS : ZB) (a1 : Int) (a2 : Int) : Option (Int) :=
  rd (PS.2 2) 1024 a1 fun x_1 =>
  bd (fJI_bitCount a1) fun u_2 =>
  kf1 (fun (w0_3 : Int) =>
    zo w0_3 <| some w0_3) fun k_4 =>
  if (nm x_1) < (nm (a2 * (u_2 - 1))) then (
    k_4 0)
  else (
    k_4 1)
def fPS_take (N : ZB) (PS : ZB) (a1 : Int) (a2 : Int) : Option (Int × ZB) :=
  bd (fN_ends N a1) fun u_1 =>
  lt (zshl 1 (N.1 4)) fun v4_2 =>
  lop1 FU (fun rec_4 (v5_3 : Int) =>
    if (nm v5_3) < (nm v4_2) then (
      bd (fPS_isFull PS v5_3 a2) fun u_11 =>
      if (nm u_11) = 0 then (
        lt (zor (v5_3 + 1) u_1) fun v5_12 =>
        rec_4 v5_12)
      else (
        some (0, PS)))
    else (
      lop2 FU (fun rec_7 (v5_5 : Int) (PS_6 : ZB) =>
        if (nm v5_5) < (nm v4_2) then (
          rd (PS_6.2 2) 1024 v5_5 fun x_8 =>
          ix 1024 v5_5 <| lt (PS_6.1, ua PS_6.2 2 (up (PS_6.2 2) (Int.toNat v5_5) (x_8 + 1))) fun PS_9 =>
          lt (zor (v5_5 + 1) u_1) fun v5_10 =>
          rec_7 v5_10 PS_9)
        else (
          some (1, PS_6))) u_1 PS)) u_1
def fPS_takeByNumber (N : ZB) (PS : ZB) (a1 : Int) : Option (Int × ZB) :=
  bd (fPS_takeNone N PS) fun u_1 =>
  lop3 FU (fun rec_5 (v2_2 : Int) (v3_3 : Int) (PS_4 : ZB) =>
    if (nm v3_3) < (nm (N.1 5)) then (
      bd (fN_isSound N v3_3) fun u_6 =>
      kf2 (fun (v2_7 : Int) (PS_8 : ZB) =>
        rec_5 v2_7 (v3_3 + 1) PS_8) fun k_9 =>
      if (nm u_6) = 0 then (
        k_9 v2_2 PS_4)
      else (
        bd (fPS_take N PS_4 v3_3 a1) fun u_10 =>
        if (nm u_10.1) = 0 then (
          k_9 v2_2 u_10.2)
        else (
          lt (zor v2_2 (zshl 1 v3_3)) fun v2_11 =>
          k_9 v2_11 u_10.2)))
    else (
      some (v2_2, PS_4))) 0 0 u_1
def fX_most (N : ZB) (PS : ZB) (a1 : Int) : Option (Int × ZB) :=
  kf2 (fun (w0_1 : Int) (PS_2 : ZB) =>
    some (w0_1, PS_2)) fun k_3 =>
  kf0 (k_3 (-1) PS) fun k_4 =>
  if (nm a1) < 0 then (
    k_4)
  else (
    if 24 < (nm a1) then (
      k_4)
    else (
      bd (fPS_takeByNumber N PS a1) fun u_5 =>
      bd (fJI_bitCount u_5.1) fun u_6 =>
      k_3 u_6 u_5.2))
def fPS_countInner_itself (N : ZB) (PS : ZB) : Option (ZB) :=
  lt (zshl 1 (N.1 4)) fun v2_1 =>
  lop2 FU (fun rec_4 (v3_2 : Int) (PS_3 : ZB) =>
    if (nm v3_2) < (nm v2_1) then (
      ix 1024 v3_2 <| lt (PS_3.1, ua PS_3.2 1 (up (PS_3.2 1) (Int.toNat v3_2) 0)) fun PS_28 =>
      rec_4 (v3_2 + 1) PS_28)
    else (
      lop2 FU (fun rec_7 (v3_5 : Int) (PS_6 : ZB) =>
        if (nm v3_5) < (nm (N.1 5)) then (
          rd (N.2 0) 24 v3_5 fun x_19 =>
          rd (PS_6.2 3) 10 x_19 fun x_20 =>
          rd (N.2 1) 24 v3_5 fun x_21 =>
          rd (PS_6.2 3) 10 x_21 fun x_22 =>
          bd (fN_isSound N v3_5) fun u_23 =>
          kf1 (fun (PS_24 : ZB) =>
            rec_7 (v3_5 + 1) PS_24) fun k_25 =>
          if (nm u_23) = 0 then (
            k_25 PS_6)
          else (
            if (nm x_20) = (nm x_22) then (
              k_25 PS_6)
            else (
              rd (PS_6.2 1) 1024 (zor (zshl 1 x_20) (zshl 1 x_22)) fun x_26 =>
              ix 1024 (zor (zshl 1 x_20) (zshl 1 x_22)) <| lt (PS_6.1, ua PS_6.2 1 (up (PS_6.2 1) (Int.toNat (zor (zshl 1 x_20) (zshl 1 x_22))) (x_26 + 1))) fun PS_27 =>
              k_25 PS_27)))
        else (
          lop2 FU (fun rec_10 (v3_8 : Int) (PS_9 : ZB) =>
            if (nm v3_8) < (nm (N.1 4)) then (
              lop2 FU (fun rec_13 (v4_11 : Int) (PS_12 : ZB) =>
                if (nm v4_11) < (nm v2_1) then (
                  kf1 (fun (PS_14 : ZB) =>
                    rec_13 (v4_11 + 1) PS_14) fun k_15 =>
                  if (zand (zshr v4_11 v3_8) 1) = 0 then (
                    k_15 PS_12)
                  else (
                    rd (PS_12.2 1) 1024 v4_11 fun x_16 =>
                    rd (PS_12.2 1) 1024 (zxor v4_11 (zshl 1 v3_8)) fun x_17 =>
                    ix 1024 v4_11 <| lt (PS_12.1, ua PS_12.2 1 (up (PS_12.2 1) (Int.toNat v4_11) (x_16 + x_17))) fun PS_18 =>
                    k_15 PS_18))
                else (
                  rec_10 (v3_8 + 1) PS_12)) 0 PS_9)
            else (
              some PS_9)) 0 PS_6)) 0 PS_3)) 0 PS
def fPS_countInner0 (N : ZB) (PS : ZB) : Option (ZB) :=
  bd (fPS_countInner_itself N PS) fun u_1 =>
  some u_1
def fPS_greatestShare (N : ZB) (PS : ZB) (a1 : Int) : Option (Int × ZB) :=
  bd (fPS_countInner0 N PS) fun u_1 =>
  lop2 FU (fun rec_4 (v2_2 : Int) (v3_3 : Int) =>
    bd (fN_allPoints N) fun u_5 =>
    if (nm u_5) < (nm v3_3) then (
      some (v2_2, u_1))
    else (
      bd (fJI_bitCount v3_3) fun u_6 =>
      lt (u_6 - a1) fun v4_7 =>
      kf1 (fun (v2_8 : Int) =>
        rec_4 v2_8 (v3_3 + 1)) fun k_9 =>
      if 0 < (nm v4_7) then (
        rd (u_1.2 1) 1024 v3_3 fun x_10 =>
        nz v4_7 <|
        lt (zmax v2_2 (zdiv ((x_10 + v4_7) - 1) v4_7)) fun v2_11 =>
        k_9 v2_11)
      else (
        k_9 v2_2))) 0 3
def fPS_fewestForests (N : ZB) (PS : ZB) : Option (Int × ZB) :=
  bd (fPS_greatestShare N PS 1) fun u_1 =>
  some (u_1.1, u_1.2)
def fX_fewest (N : ZB) (PS : ZB) : Option (Int × ZB) :=
  bd (fPS_fewestForests N PS) fun u_1 =>
  some (u_1.1, u_1.2)
def fPS_mostTrees (N : ZB) (PS : ZB) : Option (Int × ZB) :=
  lt ((N.1 4) - 1) fun v1_1 =>
  lop2 FU (fun rec_4 (v2_2 : Int) (PS_3 : ZB) =>
    kf1 (fun (PS_5 : ZB) =>
      some (v2_2, PS_5)) fun k_6 =>
    if (nm v2_2) < 24 then (
      bd (fPS_takeByNumber N PS_3 (v2_2 + 1)) fun u_7 =>
      bd (fJI_bitCount u_7.1) fun u_8 =>
      if (nm u_8) = (nm ((v2_2 + 1) * v1_1)) then (
        rec_4 (v2_2 + 1) u_7.2)
      else (
        k_6 u_7.2))
    else (
      k_6 PS_3)) 0 PS
def fX_trees (N : ZB) (PS : ZB) : Option (Int × ZB) :=
  kf2 (fun (w0_1 : Int) (PS_2 : ZB) =>
    some (w0_1, PS_2)) fun k_3 =>
  if (nm (N.1 4)) < 2 then (
    k_3 (-1) PS)
  else (
    bd (fPS_mostTrees N PS) fun u_4 =>
    k_3 u_4.1 u_4.2)
def fPS_findThick_itself (N : ZB) (PS : ZB) (a2 : Int) : Option (ZB) :=
  bd (fPS_countInner_itself N PS) fun u_1 =>
  lt (up u_1.1 4 (0), u_1.2) fun PS_2 =>
  lt (up PS_2.1 5 ((-1)), PS_2.2) fun PS_3 =>
  lt (up PS_3.1 6 (1), PS_3.2) fun PS_4 =>
  lop2 FU (fun rec_7 (v3_5 : Int) (PS_6 : ZB) =>
    if (nm a2) < (nm v3_5) then (
      some PS_6)
    else (
      bd (fJI_bitCount v3_5) fun u_8 =>
      lt (u_8 - 1) fun v4_9 =>
      kf1 (fun (PS_10 : ZB) =>
        rec_7 (v3_5 + 1) PS_10) fun k_11 =>
      if (zand v3_5 (zxor a2 (-1))) = 0 then (
        if (nm v4_9) < 1 then (
          k_11 PS_6)
        else (
          rd (PS_6.2 1) 1024 v3_5 fun x_12 =>
          lt ((x_12 * (PS_6.1 6)) - ((PS_6.1 5) * v4_9)) fun v5_13 =>
          kf0 (lt (up PS_6.1 4 (v3_5), PS_6.2) fun PS_15 =>
          rd (PS_15.2 1) 1024 v3_5 fun x_16 =>
          lt (up PS_15.1 5 (x_16), PS_15.2) fun PS_17 =>
          lt (up PS_17.1 6 (v4_9), PS_17.2) fun PS_18 =>
          k_11 PS_18) fun k_14 =>
          if 0 < (nm v5_13) then (
            k_14)
          else (
            if (nm v5_13) = 0 then (
              if (nm v4_9) < (nm (PS_6.1 6)) then (
                k_14)
              else (
                k_11 PS_6))
            else (
              k_11 PS_6))))
      else (
        k_11 PS_6))) 3 PS_4
def fPS_findThick0 (N : ZB) (PS : ZB) : Option (ZB) :=
  bd (fN_allPoints N) fun u_1 =>
  bd (fPS_findThick_itself N PS u_1) fun u_2 =>
  some u_2
def fPS_bestAbove (PS : ZB) : Option (Int) :=
  some (PS.1 5)
def fPS_bestBelow (PS : ZB) : Option (Int) :=
  some (PS.1 6)
def fX_leastTerms (a1 : Int) (a2 : Int) (a3 : Int) : Option (Int) :=
  lop3 FU (fun rec_4 (v3_1 : Int) (v4_2 : Int) (v5_3 : Int) =>
    kf0 (kf1 (fun (w0_6 : Int) =>
      kf1 (fun (w0_8 : Int) =>
        some w0_8) fun k_9 =>
      if (nm v3_1) = 0 then (
        k_9 w0_6)
      else (
        nz v3_1 <|
        k_9 (zdiv w0_6 v3_1))) fun k_7 =>
    if (nm a3) = 0 then (
      k_7 a1)
    else (
      k_7 a2)) fun k_5 =>
    if (nm v5_3) < 64 then (
      if (nm v4_2) = 0 then (
        k_5)
      else (
        nz v4_2 <|
        lt (zrem v3_1 v4_2) fun v6_10 =>
        rec_4 v4_2 v6_10 (v5_3 + 1)))
    else (
      k_5)) a2 a1 0
def fPS_bestSet (PS : ZB) : Option (Int) :=
  some (PS.1 4)
def fX_thick (N : ZB) (PS : ZB) (a1 : Int) : Option (Int × ZB) :=
  kf0 (some ((-1), PS)) fun k_1 =>
  if (nm (N.1 4)) < 2 then (
    k_1)
  else (
    if (nm a1) < 0 then (
      k_1)
    else (
      if 2 < (nm a1) then (
        k_1)
      else (
        bd (fPS_findThick0 N PS) fun u_2 =>
        if (nm a1) = 2 then (
          bd (fPS_bestSet u_2) fun u_6 =>
          some (u_6, u_2))
        else (
          bd (fPS_bestAbove u_2) fun u_3 =>
          bd (fPS_bestBelow u_2) fun u_4 =>
          bd (fX_leastTerms u_3 u_4 a1) fun u_5 =>
          some (u_5, u_2)))))
def fPS_findCrowded (N : ZB) (PS : ZB) (a1 : Int) : Option (Int × ZB) :=
  bd (fPS_countInner0 N PS) fun u_1 =>
  lop4 FU (fun rec_6 (v2_2 : Int) (v3_3 : Int) (v4_4 : Int) (v5_5 : Int) =>
    bd (fN_allPoints N) fun u_7 =>
    if (nm u_7) < (nm v5_5) then (
      some (v2_2, u_1))
    else (
      bd (fJI_bitCount v5_5) fun u_8 =>
      kf3 (fun (v2_9 : Int) (v3_10 : Int) (v4_11 : Int) =>
        rec_6 v2_9 v3_10 v4_11 (v5_5 + 1)) fun k_12 =>
      if (nm u_8) < 2 then (
        k_12 v2_2 v3_3 v4_4)
      else (
        rd (u_1.2 1) 1024 v5_5 fun x_13 =>
        lt (x_13 - (a1 * (u_8 - 1))) fun v7_14 =>
        kf0 (k_12 v5_5 v7_14 u_8) fun k_15 =>
        if (nm v3_3) < (nm v7_14) then (
          k_15)
        else (
          if (nm v7_14) = (nm v3_3) then (
            if (nm u_8) < (nm v4_4) then (
              k_15)
            else (
              k_12 v2_2 v3_3 v4_4))
          else (
            k_12 v2_2 v3_3 v4_4))))) 0 0 0 3
def fX_crowded (N : ZB) (PS : ZB) (a1 : Int) : Option (Int × ZB) :=
  kf2 (fun (w0_1 : Int) (PS_2 : ZB) =>
    some (w0_1, PS_2)) fun k_3 =>
  kf0 (k_3 (-1) PS) fun k_4 =>
  if (nm a1) < 0 then (
    k_4)
  else (
    if 24 < (nm a1) then (
      k_4)
    else (
      bd (fPS_findCrowded N PS a1) fun u_5 =>
      k_3 u_5.1 u_5.2))
def fPS_innerOf (PS : ZB) (a1 : Int) : Option (Int) :=
  kf1 (fun (w0_1 : Int) =>
    some w0_1) fun k_2 =>
  kf0 (k_2 0) fun k_3 =>
  if (nm a1) < 0 then (
    k_3)
  else (
    if (nm a1) < 1024 then (
      rd (PS.2 1) 1024 a1 fun x_4 =>
      k_2 x_4)
    else (
      k_3))
def fPa_mostInside (PS : ZB) (Pa : ZQ) (a1 : Int) : Option (Int) :=
  lt (zand a1 (-a1)) fun v2_1 =>
  lt (zxor a1 v2_1) fun v3_2 =>
  lop2 FU (fun rec_5 (v4_3 : Int) (v5_4 : Int) =>
    if 0 < (nm v5_4) then (
      rd (Pa.1.2 2) 1024 v5_4 fun x_6 =>
      kf1 (fun (v4_7 : Int) =>
        lt (zand (v5_4 - 1) v3_2) fun v5_9 =>
        rec_5 v4_7 v5_9) fun k_8 =>
      if (nm x_6) = (-1) then (
        k_8 v4_3)
      else (
        rd (Pa.1.2 2) 1024 v5_4 fun x_10 =>
        bd (fPS_innerOf PS (zxor a1 v5_4)) fun u_11 =>
        lt (zmax v4_3 (x_10 + u_11)) fun v4_12 =>
        k_8 v4_12))
    else (
      some v4_3)) (-1) v3_2
def fPa_addPiece (PS : ZB) (Pa : ZQ) (a1 : Int) : Option (ZQ) :=
  lop2 FU (fun rec_3 (v2_1 : Int) (Pa_2 : ZQ) =>
    if (nm a1) < (nm v2_1) then (
      some ((Pa_2.1.1, ua (ua Pa_2.1.2 2 (Pa_2.1.2 3)) 3 (Pa_2.1.2 2)), Pa_2.2.2, Pa_2.2.1))
    else (
      bd (fPa_mostInside PS Pa_2 v2_1) fun u_4 =>
      ix 1024 v2_1 <| lt ((Pa_2.1.1, ua Pa_2.1.2 3 (up (Pa_2.1.2 3) (Int.toNat v2_1) u_4)), Pa_2.2) fun Pa_5 =>
      rec_3 (v2_1 + 2) Pa_5)) 2 Pa
def fPa_findWeakest (N : ZB) (PS : ZB) (Pa : ZQ) : Option (ZB × ZQ) :=
  bd (fPS_countInner0 N PS) fun u_1 =>
  bd (fN_allPoints N) fun u_2 =>
  bd (fPS_innerOf u_1 u_2) fun u_3 =>
  lop2 FU (fun rec_6 (v3_4 : Int) (Pa_5 : ZQ) =>
    if (nm u_2) < (nm v3_4) then (
      lt ((up Pa_5.1.1 5 (0), Pa_5.1.2), Pa_5.2) fun Pa_7 =>
      lop2 FU (fun rec_10 (v3_8 : Int) (Pa_9 : ZQ) =>
        if (nm (N.1 4)) < (nm v3_8) then (
          some (u_1, Pa_9))
        else (
          bd (fPa_mostInside u_1 Pa_9 u_2) fun u_11 =>
          lt (u_3 - u_11) fun v4_12 =>
          kf1 (fun (Pa_13 : ZQ) =>
            bd (fPa_addPiece u_1 Pa_13 u_2) fun u_15 =>
            rec_10 (v3_8 + 1) u_15) fun k_14 =>
          kf0 (lt ((up Pa_9.1.1 4 (v4_12), Pa_9.1.2), Pa_9.2) fun Pa_17 =>
          lt ((up Pa_17.1.1 5 (v3_8), Pa_17.1.2), Pa_17.2) fun Pa_18 =>
          k_14 Pa_18) fun k_16 =>
          if (nm (Pa_9.1.1 5)) = 0 then (
            k_16)
          else (
            if (nm (v4_12 * ((Pa_9.1.1 5) - 1))) < (nm ((Pa_9.1.1 4) * (v3_8 - 1))) then (
              k_16)
            else (
              k_14 Pa_9)))) 2 Pa_7)
    else (
      bd (fPS_innerOf u_1 v3_4) fun u_19 =>
      ix 1024 v3_4 <| lt ((Pa_5.1.1, ua Pa_5.1.2 2 (up (Pa_5.1.2 2) (Int.toNat v3_4) u_19)), Pa_5.2) fun Pa_20 =>
      rec_6 (v3_4 + 2) Pa_20)) 2 Pa
def fPa_above (Pa : ZQ) : Option (Int) :=
  some (Pa.1.1 4)
def fPa_pieces (Pa : ZQ) : Option (Int) :=
  some (Pa.1.1 5)
def fX_strength (N : ZB) (PS : ZB) (Pa : ZQ) (a1 : Int) : Option (Int × ZB × ZQ) :=
  kf0 (some ((-1), PS, Pa)) fun k_1 =>
  if (nm (N.1 4)) < 2 then (
    k_1)
  else (
    if (nm a1) < 0 then (
      k_1)
    else (
      if 2 < (nm a1) then (
        k_1)
      else (
        bd (fPa_findWeakest N PS Pa) fun u_2 =>
        if (nm a1) = 2 then (
          bd (fPa_pieces u_2.2) fun u_6 =>
          some (u_6, u_2.1, u_2.2))
        else (
          bd (fPa_above u_2.2) fun u_3 =>
          bd (fPa_pieces u_2.2) fun u_4 =>
          bd (fX_leastTerms u_3 (u_4 - 1) a1) fun u_5 =>
          some (u_5, u_2.1, u_2.2)))))
def fPS_leastLoad (N : ZB) (PS : ZB) : Option (Int × ZB) :=
  bd (fPS_greatestShare N PS 0) fun u_1 =>
  some (u_1.1, u_1.2)
def fX_even (N : ZB) (PS : ZB) : Option (Int × ZB) :=
  bd (fPS_leastLoad N PS) fun u_1 =>
  some (u_1.1, u_1.2)
def fOT_enters (N : ZB) (a1 : Int) (a2 : Int) : Option (Int) :=
  bd (fN_head N a1) fun u_1 =>
  kf1 (fun (w0_2 : Int) =>
    zo w0_2 <| some w0_2) fun k_3 =>
  kf0 (k_3 0) fun k_4 =>
  if (zand (zshr a2 u_1) 1) = 0 then (
    k_4)
  else (
    bd (fN_tail N a1) fun u_5 =>
    if (zand (zshr a2 u_5) 1) = 0 then (
      k_3 1)
    else (
      k_4))
def fOT_change (N : ZB) (OT : ZB) (a1 : Int) (a2 : Int) : Option (ZB) :=
  lop2 FU (fun rec_3 (v3_1 : Int) (OT_2 : ZB) =>
    bd (fN_allPoints N) fun u_4 =>
    if (nm u_4) < (nm v3_1) then (
      some OT_2)
    else (
      bd (fOT_enters N a1 v3_1) fun u_5 =>
      kf1 (fun (OT_6 : ZB) =>
        rec_3 (v3_1 + 1) OT_6) fun k_7 =>
      if (nm u_5) = 0 then (
        k_7 OT_2)
      else (
        rd (OT_2.2 1) 1024 v3_1 fun x_8 =>
        ix 1024 v3_1 <| lt (OT_2.1, ua OT_2.2 1 (up (OT_2.2 1) (Int.toNat v3_1) (x_8 + a2))) fun OT_9 =>
        k_7 OT_9))) 1 OT
def fOT_countFrom (N : ZB) (OT : ZB) (a1 : Int) : Option (Int × ZB) :=
  lop2 FU (fun rec_3 (v2_1 : Int) (OT_2 : ZB) =>
    bd (fN_allPoints N) fun u_4 =>
    if (nm u_4) < (nm v2_1) then (
      lop2 FU (fun rec_7 (v2_5 : Int) (OT_6 : ZB) =>
        if (nm v2_5) < (nm (N.1 5)) then (
          bd (fN_isSound N v2_5) fun u_16 =>
          kf1 (fun (OT_17 : ZB) =>
            rec_7 (v2_5 + 1) OT_17) fun k_18 =>
          if (nm u_16) = 0 then (
            k_18 OT_6)
          else (
            bd (fOT_change N OT_6 v2_5 1) fun u_19 =>
            k_18 u_19))
        else (
          lop2 FU (fun rec_10 (v2_8 : Int) (v3_9 : Int) =>
            bd (fN_allPoints N) fun u_11 =>
            if (nm u_11) < (nm v3_9) then (
              some (v2_8, OT_6))
            else (
              kf1 (fun (v2_12 : Int) =>
                rec_10 v2_12 (v3_9 + 1)) fun k_13 =>
              if (zand (zshr v3_9 a1) 1) = 0 then (
                rd (OT_6.2 1) 1024 v3_9 fun x_14 =>
                lt (zmin v2_8 x_14) fun v2_15 =>
                k_13 v2_15)
              else (
                k_13 v2_8))) 24 1)) 0 OT_2)
    else (
      ix 1024 v2_1 <| lt (OT_2.1, ua OT_2.2 1 (up (OT_2.2 1) (Int.toNat v2_1) 0)) fun OT_20 =>
      rec_3 (v2_1 + 1) OT_20)) 0 OT
def fX_rooted (N : ZB) (OT : ZB) (a1 : Int) : Option (Int × ZB) :=
  kf0 (some ((-1), OT)) fun k_1 =>
  if (nm (N.1 4)) < 2 then (
    k_1)
  else (
    if (nm a1) < 0 then (
      k_1)
    else (
      if (nm a1) < (nm (N.1 4)) then (
        bd (fOT_countFrom N OT a1) fun u_2 =>
        some (u_2.1, u_2.2))
      else (
        k_1)))
def fOT_canGo (N : ZB) (OT : ZB) (a1 : Int) (a2 : Int) (a3 : Int) : Option (Int) :=
  lop1 FU (fun rec_2 (v4_1 : Int) =>
    bd (fN_allPoints N) fun u_3 =>
    if (nm u_3) < (nm v4_1) then (
      some 1)
    else (
      kf0 (rec_2 (v4_1 + 1)) fun k_4 =>
      if (zand (zshr v4_1 a1) 1) = 0 then (
        bd (fOT_enters N a2 v4_1) fun u_5 =>
        if (nm u_5) = 0 then (
          k_4)
        else (
          rd (OT.2 1) 1024 v4_1 fun x_6 =>
          if (nm a3) < (nm x_6) then (
            k_4)
          else (
            some 0)))
      else (
        k_4))) 1
def fOT_firstFit (N : ZB) (OT : ZB) (a1 : Int) (a2 : Int) (a3 : Int) (a4 : Int) : Option (Int) :=
  lop1 FU (fun rec_2 (v5_1 : Int) =>
    if (nm v5_1) < (nm (N.1 5)) then (
      kf1 (fun (w0_3 : Int) =>
        kf0 (rec_2 (v5_1 + 1)) fun k_5 =>
        if (nm w0_3) = 0 then (
          k_5)
        else (
          bd (fOT_canGo N OT a1 v5_1 a4) fun u_6 =>
          if (nm u_6) = 0 then (
            k_5)
          else (
            some v5_1))) fun k_4 =>
      kf0 (k_4 0) fun k_7 =>
      if (zand (zshr a3 v5_1) 1) = 0 then (
        k_7)
      else (
        bd (fN_allPoints N) fun u_8 =>
        bd (fOT_enters N v5_1 (zand u_8 (zxor a2 (-1)))) fun u_9 =>
        if (nm u_9) = 0 then (
          k_7)
        else (
          k_4 1)))
    else (
      some (-1))) 0
def fOT_grow (N : ZB) (OT : ZB) (a1 : Int) (a2 : Int) (a3 : Int) : Option (Int × ZB) :=
  lt (zshl 1 a1) fun v4_1 =>
  lop4 FU (fun rec_6 (v4_2 : Int) (v5_3 : Int) (v6_4 : Int) (OT_5 : ZB) =>
    kf0 (some (v5_3, OT_5)) fun k_7 =>
    if (nm v6_4) < (nm (N.1 4)) then (
      bd (fOT_firstFit N OT_5 a1 v4_2 a2 a3) fun u_8 =>
      if (nm u_8) = (-1) then (
        k_7)
      else (
        bd (fOT_change N OT_5 u_8 (-1)) fun u_9 =>
        bd (fN_head N u_8) fun u_10 =>
        lt (zor v4_2 (zshl 1 u_10)) fun v4_11 =>
        lt (zor v5_3 (zshl 1 u_8)) fun v5_12 =>
        rec_6 v4_11 v5_12 (v6_4 + 1) u_9))
    else (
      k_7)) v4_1 0 1 OT
def fOT_treeSet (N : ZB) (OT : ZB) (a1 : Int) (a2 : Int) : Option (Int × ZB) :=
  bd (fOT_countFrom N OT a1) fun u_1 =>
  kf0 (some ((-1), u_1.2)) fun k_2 =>
  if (nm a2) < 0 then (
    k_2)
  else (
    if (nm a2) < (nm u_1.1) then (
      bd (fN_soundSet N) fun u_3 =>
      lop4 FU (fun rec_8 (v4_4 : Int) (v5_5 : Int) (v6_6 : Int) (OT_7 : ZB) =>
        if (nm a2) < (nm v6_6) then (
          some (v5_5, OT_7))
        else (
          lt (zand v4_4 (zxor v5_5 (-1))) fun v4_9 =>
          bd (fOT_grow N OT_7 a1 v4_9 ((u_1.1 - v6_6) - 1)) fun u_10 =>
          rec_8 v4_9 u_10.1 (v6_6 + 1) u_10.2)) u_3 0 0 u_1.2)
    else (
      k_2))
def fX_outTree (N : ZB) (OT : ZB) (a1 : Int) (a2 : Int) : Option (Int × ZB) :=
  kf0 (some ((-1), OT)) fun k_1 =>
  if (nm (N.1 4)) < 2 then (
    k_1)
  else (
    if (nm a1) < 0 then (
      k_1)
    else (
      if (nm a1) < (nm (N.1 4)) then (
        bd (fOT_treeSet N OT a1 a2) fun u_2 =>
        some (u_2.1, u_2.2))
      else (
        k_1)))
def fPS_leastFull (N : ZB) (PS : ZB) (a1 : Int) (a2 : Int) : Option (Int) :=
  bd (fN_ends N a1) fun u_1 =>
  lt (zshl 1 (N.1 4)) fun v4_2 =>
  bd (fN_allPoints N) fun u_3 =>
  lop2 FU (fun rec_6 (v5_4 : Int) (v6_5 : Int) =>
    if (nm v6_5) < (nm v4_2) then (
      bd (fPS_isFull PS v6_5 a2) fun u_7 =>
      kf1 (fun (v5_8 : Int) =>
        lt (zor (v6_5 + 1) u_1) fun v6_10 =>
        rec_6 v5_8 v6_10) fun k_9 =>
      if (nm u_7) = 0 then (
        k_9 v5_4)
      else (
        lt (zand v5_4 v6_5) fun v5_11 =>
        k_9 v5_11))
    else (
      some v5_4)) u_3 u_1
def fPS_linesIn (N : ZB) (a1 : Int) : Option (Int) :=
  lop2 FU (fun rec_3 (v2_1 : Int) (v3_2 : Int) =>
    if (nm v3_2) < (nm (N.1 5)) then (
      bd (fN_ends N v3_2) fun u_4 =>
      kf1 (fun (v2_5 : Int) =>
        rec_3 v2_5 (v3_2 + 1)) fun k_6 =>
      if (zand u_4 (zxor a1 (-1))) = 0 then (
        lt (zor v2_1 (zshl 1 v3_2)) fun v2_7 =>
        k_6 v2_7)
      else (
        k_6 v2_1))
    else (
      some v2_1)) 0 0
def fPS_vitalSet (N : ZB) (PS : ZB) (a1 : Int) : Option (Int × ZB) :=
  bd (fPS_takeByNumber N PS a1) fun u_1 =>
  bd (fN_soundSet N) fun u_2 =>
  lt (zand u_2 (zxor u_1.1 (-1))) fun v3_3 =>
  lop2 FU (fun rec_6 (v4_4 : Int) (v5_5 : Int) =>
    if (nm v5_5) < (nm (N.1 5)) then (
      kf1 (fun (v4_7 : Int) =>
        rec_6 v4_7 (v5_5 + 1)) fun k_8 =>
      if (zand (zshr v3_3 v5_5) 1) = 0 then (
        k_8 v4_4)
      else (
        bd (fPS_leastFull N u_1.2 v5_5 a1) fun u_9 =>
        bd (fPS_linesIn N u_9) fun u_10 =>
        lt (zand v4_4 (zxor u_10 (-1))) fun v4_11 =>
        k_8 v4_11))
    else (
      some (v4_4, u_1.2))) u_1.1 0
def fX_vital (N : ZB) (PS : ZB) : Option (Int × ZB) :=
  bd (fPS_vitalSet N PS (N.1 6)) fun u_1 =>
  some (u_1.1, u_1.2)
def fLy_isLineLeft (N : ZB) (Ly : ZB) : Option (Int) :=
  lop1 FU (fun rec_2 (v1_1 : Int) =>
    if (nm v1_1) < (nm (N.1 5)) then (
      bd (fN_isSound N v1_1) fun u_3 =>
      kf0 (rec_2 (v1_1 + 1)) fun k_4 =>
      if (nm u_3) = 0 then (
        k_4)
      else (
        rd (N.2 0) 24 v1_1 fun x_5 =>
        rd (Ly.2 2) 10 x_5 fun x_6 =>
        rd (N.2 1) 24 v1_1 fun x_7 =>
        rd (Ly.2 2) 10 x_7 fun x_8 =>
        if (nm x_6) = (nm x_8) then (
          k_4)
        else (
          some 1)))
    else (
      some 0)) 0
def fPS_countInner_as (N : ZB) (PS : ZB) (Ly : ZB) : Option (ZB) :=
  lt (zshl 1 (N.1 4)) fun v2_1 =>
  lop2 FU (fun rec_4 (v3_2 : Int) (PS_3 : ZB) =>
    if (nm v3_2) < (nm v2_1) then (
      ix 1024 v3_2 <| lt (PS_3.1, ua PS_3.2 1 (up (PS_3.2 1) (Int.toNat v3_2) 0)) fun PS_28 =>
      rec_4 (v3_2 + 1) PS_28)
    else (
      lop2 FU (fun rec_7 (v3_5 : Int) (PS_6 : ZB) =>
        if (nm v3_5) < (nm (N.1 5)) then (
          rd (N.2 0) 24 v3_5 fun x_19 =>
          rd (Ly.2 2) 10 x_19 fun x_20 =>
          rd (N.2 1) 24 v3_5 fun x_21 =>
          rd (Ly.2 2) 10 x_21 fun x_22 =>
          bd (fN_isSound N v3_5) fun u_23 =>
          kf1 (fun (PS_24 : ZB) =>
            rec_7 (v3_5 + 1) PS_24) fun k_25 =>
          if (nm u_23) = 0 then (
            k_25 PS_6)
          else (
            if (nm x_20) = (nm x_22) then (
              k_25 PS_6)
            else (
              rd (PS_6.2 1) 1024 (zor (zshl 1 x_20) (zshl 1 x_22)) fun x_26 =>
              ix 1024 (zor (zshl 1 x_20) (zshl 1 x_22)) <| lt (PS_6.1, ua PS_6.2 1 (up (PS_6.2 1) (Int.toNat (zor (zshl 1 x_20) (zshl 1 x_22))) (x_26 + 1))) fun PS_27 =>
              k_25 PS_27)))
        else (
          lop2 FU (fun rec_10 (v3_8 : Int) (PS_9 : ZB) =>
            if (nm v3_8) < (nm (N.1 4)) then (
              lop2 FU (fun rec_13 (v4_11 : Int) (PS_12 : ZB) =>
                if (nm v4_11) < (nm v2_1) then (
                  kf1 (fun (PS_14 : ZB) =>
                    rec_13 (v4_11 + 1) PS_14) fun k_15 =>
                  if (zand (zshr v4_11 v3_8) 1) = 0 then (
                    k_15 PS_12)
                  else (
                    rd (PS_12.2 1) 1024 v4_11 fun x_16 =>
                    rd (PS_12.2 1) 1024 (zxor v4_11 (zshl 1 v3_8)) fun x_17 =>
                    ix 1024 v4_11 <| lt (PS_12.1, ua PS_12.2 1 (up (PS_12.2 1) (Int.toNat v4_11) (x_16 + x_17))) fun PS_18 =>
                    k_15 PS_18))
                else (
                  rec_10 (v3_8 + 1) PS_12)) 0 PS_9)
            else (
              some PS_9)) 0 PS_6)) 0 PS_3)) 0 PS
def fPS_findThick_as (N : ZB) (PS : ZB) (Ly : ZB) (a2 : Int) : Option (ZB) :=
  bd (fPS_countInner_as N PS Ly) fun u_1 =>
  lt (up u_1.1 4 (0), u_1.2) fun PS_2 =>
  lt (up PS_2.1 5 ((-1)), PS_2.2) fun PS_3 =>
  lt (up PS_3.1 6 (1), PS_3.2) fun PS_4 =>
  lop2 FU (fun rec_7 (v3_5 : Int) (PS_6 : ZB) =>
    if (nm a2) < (nm v3_5) then (
      some PS_6)
    else (
      bd (fJI_bitCount v3_5) fun u_8 =>
      lt (u_8 - 1) fun v4_9 =>
      kf1 (fun (PS_10 : ZB) =>
        rec_7 (v3_5 + 1) PS_10) fun k_11 =>
      if (zand v3_5 (zxor a2 (-1))) = 0 then (
        if (nm v4_9) < 1 then (
          k_11 PS_6)
        else (
          rd (PS_6.2 1) 1024 v3_5 fun x_12 =>
          lt ((x_12 * (PS_6.1 6)) - ((PS_6.1 5) * v4_9)) fun v5_13 =>
          kf0 (lt (up PS_6.1 4 (v3_5), PS_6.2) fun PS_15 =>
          rd (PS_15.2 1) 1024 v3_5 fun x_16 =>
          lt (up PS_15.1 5 (x_16), PS_15.2) fun PS_17 =>
          lt (up PS_17.1 6 (v4_9), PS_17.2) fun PS_18 =>
          k_11 PS_18) fun k_14 =>
          if 0 < (nm v5_13) then (
            k_14)
          else (
            if (nm v5_13) = 0 then (
              if (nm v4_9) < (nm (PS_6.1 6)) then (
                k_14)
              else (
                k_11 PS_6))
            else (
              k_11 PS_6))))
      else (
        k_11 PS_6))) 3 PS_4
def fLy_join (N : ZB) (Ly : ZB) (a1 : Int) : Option (Int × ZB) :=
  bd (fJI_bitCount ((zand a1 (-a1)) - 1)) fun u_1 =>
  lop3 FU (fun rec_5 (v3_2 : Int) (v4_3 : Int) (Ly_4 : ZB) =>
    if (nm v4_3) < (nm (N.1 4)) then (
      rd (Ly_4.2 2) 10 v4_3 fun x_6 =>
      kf2 (fun (v3_7 : Int) (Ly_8 : ZB) =>
        rec_5 v3_7 (v4_3 + 1) Ly_8) fun k_9 =>
      if (zand (zshr a1 x_6) 1) = 0 then (
        k_9 v3_2 Ly_4)
      else (
        ix 10 v4_3 <| lt (Ly_4.1, ua Ly_4.2 2 (up (Ly_4.2 2) (Int.toNat v4_3) u_1)) fun Ly_10 =>
        lt (zor v3_2 (zshl 1 v4_3)) fun v3_11 =>
        k_9 v3_11 Ly_10))
    else (
      some (v3_2, Ly_4))) 0 0 Ly
def fLy_melt (N : ZB) (PS : ZB) (Ly : ZB) : Option (Int × ZB × ZB) :=
  lop2 FU (fun rec_3 (v1_1 : Int) (Ly_2 : ZB) =>
    if (nm v1_1) < 10 then (
      ix 10 v1_1 <| lt (Ly_2.1, ua Ly_2.2 2 (up (Ly_2.2 2) (Int.toNat v1_1) v1_1)) fun Ly_21 =>
      rec_3 (v1_1 + 1) Ly_21)
    else (
      bd (fN_allPoints N) fun u_4 =>
      lop4 FU (fun rec_9 (v1_5 : Int) (v2_6 : Int) (PS_7 : ZB) (Ly_8 : ZB) =>
        kf0 (some (v2_6, PS_7, Ly_8)) fun k_10 =>
        if (nm v2_6) < 10 then (
          bd (fLy_isLineLeft N Ly_8) fun u_11 =>
          if (nm u_11) = 0 then (
            k_10)
          else (
            bd (fPS_findThick_as N PS_7 Ly_8 v1_5) fun u_12 =>
            bd (fPS_bestSet u_12) fun u_13 =>
            bd (fPS_bestAbove u_12) fun u_14 =>
            ix 10 v2_6 <| lt (Ly_8.1, ua Ly_8.2 3 (up (Ly_8.2 3) (Int.toNat v2_6) u_14)) fun Ly_15 =>
            bd (fPS_bestBelow u_12) fun u_16 =>
            ix 10 v2_6 <| lt (Ly_15.1, ua Ly_15.2 4 (up (Ly_15.2 4) (Int.toNat v2_6) u_16)) fun Ly_17 =>
            bd (fLy_join N Ly_17 u_13) fun u_18 =>
            ix 10 v2_6 <| lt (u_18.2.1, ua u_18.2.2 5 (up (u_18.2.2 5) (Int.toNat v2_6) u_18.1)) fun Ly_19 =>
            lt (zand v1_5 (zxor (zand u_13 (u_13 - 1)) (-1))) fun v1_20 =>
            rec_9 v1_20 (v2_6 + 1) u_12 Ly_19))
        else (
          k_10)) u_4 0 PS Ly_2)) 0 Ly
def fX_layers (N : ZB) (PS : ZB) (Ly : ZB) : Option (Int × ZB × ZB) :=
  bd (fLy_melt N PS Ly) fun u_1 =>
  some (u_1.1, u_1.2.1, u_1.2.2)
def fLy_aboveAt (Ly : ZB) (a1 : Int) : Option (Int) :=
  kf1 (fun (w0_1 : Int) =>
    some w0_1) fun k_2 =>
  kf0 (k_2 0) fun k_3 =>
  if (nm a1) < 0 then (
    k_3)
  else (
    if (nm a1) < 10 then (
      rd (Ly.2 3) 10 a1 fun x_4 =>
      k_2 x_4)
    else (
      k_3))
def fLy_belowAt (Ly : ZB) (a1 : Int) : Option (Int) :=
  kf1 (fun (w0_1 : Int) =>
    some w0_1) fun k_2 =>
  kf0 (k_2 1) fun k_3 =>
  if (nm a1) < 0 then (
    k_3)
  else (
    if (nm a1) < 10 then (
      rd (Ly.2 4) 10 a1 fun x_4 =>
      k_2 x_4)
    else (
      k_3))
def fLy_setAt (Ly : ZB) (a1 : Int) : Option (Int) :=
  kf1 (fun (w0_1 : Int) =>
    some w0_1) fun k_2 =>
  kf0 (k_2 0) fun k_3 =>
  if (nm a1) < 0 then (
    k_3)
  else (
    if (nm a1) < 10 then (
      rd (Ly.2 5) 10 a1 fun x_4 =>
      k_2 x_4)
    else (
      k_3))
def fX_layerAt (N : ZB) (PS : ZB) (Ly : ZB) (a1 : Int) (a2 : Int) : Option (Int × ZB × ZB) :=
  kf2 (fun (PS_1 : ZB) (Ly_2 : ZB) =>
    some ((-1), PS_1, Ly_2)) fun k_3 =>
  if (nm a1) < 0 then (
    k_3 PS Ly)
  else (
    bd (fLy_melt N PS Ly) fun u_4 =>
    if (nm a1) < (nm u_4.1) then (
      if (nm a2) < 0 then (
        k_3 u_4.2.1 u_4.2.2)
      else (
        if 2 < (nm a2) then (
          k_3 u_4.2.1 u_4.2.2)
        else (
          if (nm a2) = 2 then (
            bd (fLy_setAt u_4.2.2 a1) fun u_8 =>
            some (u_8, u_4.2.1, u_4.2.2))
          else (
            bd (fLy_aboveAt u_4.2.2 a1) fun u_5 =>
            bd (fLy_belowAt u_4.2.2 a1) fun u_6 =>
            bd (fX_leastTerms u_5 u_6 a2) fun u_7 =>
            some (u_7, u_4.2.1, u_4.2.2)))))
    else (
      k_3 u_4.2.1 u_4.2.2))
def fPS_takeByWeight (N : ZB) (PS : ZB) (a1 : Int) : Option (Int × ZB) :=
  bd (fPS_takeNone N PS) fun u_1 =>
  lop3 FU (fun rec_5 (v2_2 : Int) (v3_3 : Int) (PS_4 : ZB) =>
    if 99 < (nm v3_3) then (
      some (v2_2, PS_4))
    else (
      lop3 FU (fun rec_9 (v2_6 : Int) (v4_7 : Int) (PS_8 : ZB) =>
        if (nm v4_7) < (nm (N.1 5)) then (
          rd (N.2 2) 24 v4_7 fun x_10 =>
          kf2 (fun (v2_11 : Int) (PS_12 : ZB) =>
            rec_9 v2_11 (v4_7 + 1) PS_12) fun k_13 =>
          if (nm x_10) = (nm v3_3) then (
            bd (fN_isSound N v4_7) fun u_14 =>
            if (nm u_14) = 0 then (
              k_13 v2_6 PS_8)
            else (
              bd (fPS_take N PS_8 v4_7 a1) fun u_15 =>
              if (nm u_15.1) = 0 then (
                k_13 v2_6 u_15.2)
              else (
                lt (zor v2_6 (zshl 1 v4_7)) fun v2_16 =>
                k_13 v2_16 u_15.2)))
          else (
            k_13 v2_6 PS_8))
        else (
          rec_5 v2_6 (v3_3 + 1) PS_8)) v2_2 0 PS_4)) 0 1 u_1
def fN_weightOf (N : ZB) (a1 : Int) : Option (Int) :=
  lop2 FU (fun rec_3 (v2_1 : Int) (v3_2 : Int) =>
    if (nm v3_2) < (nm (N.1 5)) then (
      kf1 (fun (v2_4 : Int) =>
        rec_3 v2_4 (v3_2 + 1)) fun k_5 =>
      if (zand (zshr a1 v3_2) 1) = 0 then (
        k_5 v2_1)
      else (
        rd (N.2 2) 24 v3_2 fun x_6 =>
        lt (v2_1 + x_6) fun v2_7 =>
        k_5 v2_7))
    else (
      some v2_1)) 0 0
def fX_light (N : ZB) (PS : ZB) (a1 : Int) (a2 : Int) : Option (Int × ZB) :=
  kf0 (some ((-1), PS)) fun k_1 =>
  if (nm a1) < 0 then (
    k_1)
  else (
    if 24 < (nm a1) then (
      k_1)
    else (
      if (nm a2) < 0 then (
        k_1)
      else (
        if 1 < (nm a2) then (
          k_1)
        else (
          bd (fPS_takeByWeight N PS a1) fun u_2 =>
          kf1 (fun (w0_3 : Int) =>
            some (w0_3, u_2.2)) fun k_4 =>
          if (nm a2) = 1 then (
            k_4 u_2.1)
          else (
            bd (fN_weightOf N u_2.1) fun u_5 =>
            k_4 u_5)))))
def fX_draw (X : ZB) (a1 : Int) : Option (Int × ZB) :=
  lt (up X.1 12 ((((X.1 12) * 1103515245) + 12345)), X.2) fun X_1 =>
  kf1 (fun (w0_2 : Int) =>
    some (w0_2, X_1)) fun k_3 =>
  if (nm a1) < 1 then (
    k_3 0)
  else (
    nz a1 <|
    k_3 (zrem (zushr (X_1.1 12) 8) a1))
def fX_deedTrade (N : ZB) (Ch : ZB) (a1 : Int) (a2 : Int) : Option (Int × ZB × ZB) :=
  bd (fCh_traded N Ch a1 a2) fun u_1 =>
  if (nm u_1.1) = (-1) then (
    some (0, N, u_1.2))
  else (
    bd (fCh_swap N a1 u_1.1) fun u_2 =>
    some (1, u_2, u_1.2))
def fX_deedPut (N : ZB) (Ch : ZB) (a1 : Int) (a2 : Int) : Option (Int × ZB × ZB) :=
  bd (fX_whyNotPut N Ch a1 a2) fun u_1 =>
  if (nm u_1.1) = 0 then (
    ix 24 a1 <| lt (N.1, ua N.2 3 (up (N.2 3) (Int.toNat a1) a2)) fun N_2 =>
    some (1, N_2, u_1.2))
  else (
    some (0, N, u_1.2))
def fX_deedBreakOrMend (N : ZB) (a1 : Int) : Option (Int × ZB) :=
  bd (fN_isSound N a1) fun u_1 =>
  kf1 (fun (N_2 : ZB) =>
    some (1, N_2)) fun k_3 =>
  if (nm u_1) = 0 then (
    bd (fN_mendLine N a1) fun u_4 =>
    k_3 u_4)
  else (
    bd (fN_breakLine N a1) fun u_5 =>
    k_3 u_5)
def fX_deedLift (N : ZB) (a1 : Int) : Option (Int × ZB) :=
  rd (N.2 3) 24 a1 fun x_1 =>
  if (nm x_1) = (-1) then (
    some (0, N))
  else (
    ix 24 a1 <| lt (N.1, ua N.2 3 (up (N.2 3) (Int.toNat a1) (-1))) fun N_2 =>
    some (1, N_2))
def fX_deedPlace (N : ZB) (Ch : ZB) (a1 : Int) : Option (Int × ZB × ZB) :=
  bd (fX_canBePlaced N a1) fun u_1 =>
  kf1 (fun (Ch_2 : ZB) =>
    some (0, N, Ch_2)) fun k_3 =>
  if (nm u_1) = 0 then (
    k_3 Ch)
  else (
    bd (fCh_find N Ch a1) fun u_4 =>
    if (nm u_4.1) = 0 then (
      k_3 u_4.2)
    else (
      bd (fCh_carryOut N u_4.2) fun u_5 =>
      some (1, u_5, u_4.2)))
def fX_drawDeed (X : ZB) (N : ZB) (Ch : ZB) : Option (Int × ZB × ZB × ZB) :=
  bd (fX_draw X 6) fun u_1 =>
  bd (fX_draw u_1.2 (N.1 5)) fun u_2 =>
  if (nm u_1.1) = 0 then (
    bd (fX_deedPlace N Ch u_2.1) fun u_4 =>
    zo u_4.1 <| some (u_4.1, u_2.2, u_4.2.1, u_4.2.2))
  else (
    if (nm u_1.1) = 1 then (
      bd (fX_deedPlace N Ch u_2.1) fun u_6 =>
      zo u_6.1 <| some (u_6.1, u_2.2, u_6.2.1, u_6.2.2))
    else (
      if (nm u_1.1) = 2 then (
        bd (fX_deedLift N u_2.1) fun u_8 =>
        zo u_8.1 <| some (u_8.1, u_2.2, u_8.2, Ch))
      else (
        if (nm u_1.1) = 3 then (
          bd (fX_deedBreakOrMend N u_2.1) fun u_10 =>
          zo u_10.1 <| some (u_10.1, u_2.2, u_10.2, Ch))
        else (
          if (nm u_1.1) = 4 then (
            bd (fX_draw u_2.2 (N.1 6)) fun u_12 =>
            bd (fX_deedPut N Ch u_2.1 u_12.1) fun u_13 =>
            zo u_13.1 <| some (u_13.1, u_12.2, u_13.2.1, u_13.2.2))
          else (
            bd (fX_draw u_2.2 (N.1 6)) fun u_14 =>
            bd (fX_deedTrade N Ch u_2.1 u_14.1) fun u_15 =>
            zo u_15.1 <| some (u_15.1, u_14.2, u_15.2.1, u_15.2.2))))))
def fX_drawn (X : ZB) (N : ZB) (Ac : ZA) (Ch : ZB) (a1 : Int) (a2 : Int) : Option (Int × ZB × ZB × ZA × ZB) :=
  kf0 (some ((-1), X, N, Ac, Ch)) fun k_1 =>
  if (nm a1) < 1 then (
    k_1)
  else (
    if 60 < (nm a1) then (
      k_1)
    else (
      if (nm (N.1 5)) = 0 then (
        some (0, X, N, Ac, Ch))
      else (
        lt (up X.1 12 (a2), X.2) fun X_2 =>
        bd (fAc_before N Ac) fun u_3 =>
        lop5 FU (fun rec_9 (v3_4 : Int) (v4_5 : Int) (X_6 : ZB) (N_7 : ZB) (Ch_8 : ZB) =>
          if (nm v4_5) < (nm a1) then (
            bd (fX_drawDeed X_6 N_7 Ch_8) fun u_13 =>
            kf1 (fun (v3_14 : Int) =>
              rec_9 v3_14 (v4_5 + 1) u_13.2.1 u_13.2.2.1 u_13.2.2.2) fun k_15 =>
            if (nm u_13.1) = 0 then (
              k_15 v3_4)
            else (
              k_15 (v3_4 + 1)))
          else (
            kf1 (fun (Ac_10 : ZA) =>
              some (v3_4, X_6, N_7, Ac_10, Ch_8)) fun k_11 =>
            if 0 < (nm v3_4) then (
              bd (fAc_done u_3) fun u_12 =>
              k_11 u_12)
            else (
              k_11 u_3))) 0 0 X_2 N Ch)))
def fM_thrown (M : ZB) : Option (Int) :=
  some (M.1 0)
def fM_come (M : ZB) (a1 : Int) : Option (ZB) :=
  lop2 FU (fun rec_3 (v2_1 : Int) (M_2 : ZB) =>
    if (nm v2_1) < 0 then (
      some M_2)
    else (
      ix 640 (M_2.1 2) <| lt (M_2.1, ua M_2.2 1 (up (M_2.2 1) (Int.toNat (M_2.1 2)) (zand (zushr a1 v2_1) 255))) fun M_4 =>
      lt (up M_4.1 2 (((M_4.1 2) + 1)), M_4.2) fun M_5 =>
      rec_3 (v2_1 + (-8)) M_5)) 24 M
def fM_feed (M : ZB) (a1 : Int) (a2 : Int) (a3 : Int) (a4 : Int) (a5 : Int) : Option (Int × ZB) :=
  lt (up M.1 0 (0), M.2) fun M_1 =>
  if 640 < (nm ((M_1.1 2) + 20)) then (
    some ((-1), M_1))
  else (
    bd (fM_come M_1 a1) fun u_2 =>
    bd (fM_come u_2 a2) fun u_3 =>
    bd (fM_come u_3 a3) fun u_4 =>
    bd (fM_come u_4 a4) fun u_5 =>
    bd (fM_come u_5 a5) fun u_6 =>
    some ((u_6.1 2), u_6))
def fM_end (M : ZB) (a1 : Int) : Option (Int × ZB) :=
  lt (up M.1 0 (0), M.2) fun M_1 =>
  kf0 (some (0, M_1)) fun k_2 =>
  if (nm a1) < 0 then (
    k_2)
  else (
    if (nm (M_1.1 2)) < (nm a1) then (
      k_2)
    else (
      lt (up M_1.1 2 (a1), M_1.2) fun M_3 =>
      some (1, M_3)))
def fM_isLetter (a1 : Int) : Option (Int) :=
  kf1 (fun (w0_1 : Int) =>
    zo w0_1 <| some w0_1) fun k_2 =>
  kf0 (k_2 0) fun k_3 =>
  if (nm a1) < 97 then (
    k_3)
  else (
    if 122 < (nm a1) then (
      k_3)
    else (
      k_2 1))
def fM_isDigit (a1 : Int) : Option (Int) :=
  kf1 (fun (w0_1 : Int) =>
    zo w0_1 <| some w0_1) fun k_2 =>
  kf0 (k_2 0) fun k_3 =>
  if (nm a1) < 48 then (
    k_3)
  else (
    if 57 < (nm a1) then (
      k_3)
    else (
      k_2 1))
def fM_tapeAt (M : ZB) (a1 : Int) : Option (Int) :=
  kf1 (fun (w0_1 : Int) =>
    some w0_1) fun k_2 =>
  if (nm a1) < (nm (M.1 3)) then (
    rd (M.2 1) 640 a1 fun x_3 =>
    k_2 x_3)
  else (
    k_2 0)
def fM_go (M : ZB) : Option (ZB) :=
  lop1 FU (fun rec_2 (M_1 : ZB) =>
    kf0 (lt (up M_1.1 5 ((M_1.1 4)), M_1.2) fun M_4 =>
    kf0 (if (nm (M_4.1 4)) < (nm (M_4.1 3)) then (
      rd (M_4.2 1) 640 (M_4.1 4) fun x_6 =>
      bd (fM_isLetter x_6) fun u_7 =>
      kf0 (bd (fM_isLetter x_6) fun u_9 =>
      lt (up M_4.1 10 (0), M_4.2) fun M_10 =>
      lt (up M_10.1 7 (0), M_10.2) fun M_11 =>
      lop2 FU (fun rec_14 (v3_12 : Int) (M_13 : ZB) =>
        bd (fM_tapeAt M_13 (M_13.1 4)) fun u_15 =>
        bd (fM_isLetter u_15) fun u_16 =>
        kf0 (rd (M_13.2 1) 640 (M_13.1 4) fun x_18 =>
        kf1 (fun (w0_19 : Int) =>
          kf1 (fun (M_21 : ZB) =>
            kf1 (fun (M_23 : ZB) =>
              lt (up M_23.1 4 (((M_23.1 4) + 1)), M_23.2) fun M_25 =>
              rec_14 w0_19 M_25) fun k_24 =>
            if (nm ((M_21.1 4) - (M_21.1 5))) < 2 then (
              lt (up M_21.1 7 ((((10 * (M_21.1 7)) + x_18) - 48)), M_21.2) fun M_26 =>
              k_24 M_26)
            else (
              k_24 M_21)) fun k_22 =>
          if (nm ((M_13.1 4) - (M_13.1 5))) < 7 then (
            lt (up M_13.1 10 ((((27 * (M_13.1 10)) + (nm x_18)) - 96)), M_13.2) fun M_27 =>
            k_22 M_27)
          else (
            k_22 M_13)) fun k_20 =>
        kf0 (k_20 0) fun k_28 =>
        if (nm v3_12) = 0 then (
          k_28)
        else (
          bd (fM_isLetter x_18) fun u_29 =>
          if (nm u_29) = (nm u_9) then (
            k_20 1)
          else (
            k_28))) fun k_17 =>
        if (nm u_16) = 0 then (
          bd (fM_tapeAt M_13 (M_13.1 4)) fun u_30 =>
          bd (fM_isDigit u_30) fun u_31 =>
          if (nm u_31) = 0 then (
            kf1 (fun (w1_32 : Int) =>
              lt (up M_13.1 6 (w1_32), M_13.2) fun M_34 =>
              some M_34) fun k_33 =>
            kf0 (k_33 1) fun k_35 =>
            if (nm v3_12) = 0 then (
              k_35)
            else (
              kf1 (fun (w2_36 : Int) =>
                if (nm w2_36) < (nm ((M_13.1 4) - (M_13.1 5))) then (
                  k_35)
                else (
                  if (nm u_9) = 0 then (
                    k_33 3)
                  else (
                    k_33 2))) fun k_37 =>
              if (nm u_9) = 0 then (
                k_37 2)
              else (
                k_37 7)))
          else (
            k_17))
        else (
          k_17)) 1 M_11) fun k_8 =>
      if (nm u_7) = 0 then (
        bd (fM_isDigit x_6) fun u_38 =>
        if (nm u_38) = 0 then (
          kf1 (fun (w1_39 : Int) =>
            lt (up M_4.1 6 (w1_39), M_4.2) fun M_41 =>
            lt (up M_41.1 4 (((M_41.1 4) + 1)), M_41.2) fun M_42 =>
            some M_42) fun k_40 =>
          if (nm x_6) = 59 then (
            k_40 4)
          else (
            k_40 1))
        else (
          k_8))
      else (
        k_8))
    else (
      lt (up M_4.1 6 (0), M_4.2) fun M_43 =>
      some M_43)) fun k_5 =>
    if 600 < (nm (M_4.1 3)) then (
      if (nm (M_4.1 5)) < 600 then (
        k_5)
      else (
        lt (up M_4.1 5 (600), M_4.2) fun M_44 =>
        lt (up M_44.1 6 (1), M_44.2) fun M_45 =>
        some M_45))
    else (
      k_5)) fun k_3 =>
    if (nm (M_1.1 4)) < (nm (M_1.1 3)) then (
      rd (M_1.2 1) 640 (M_1.1 4) fun x_46 =>
      kf0 (lt (up M_1.1 4 (((M_1.1 4) + 1)), M_1.2) fun M_48 =>
      rec_2 M_48) fun k_47 =>
      if (nm x_46) = 32 then (
        k_47)
      else (
        rd (M_1.2 1) 640 (M_1.1 4) fun x_49 =>
        if (nm x_49) = 10 then (
          k_47)
        else (
          k_3)))
    else (
      k_3)) M
def fM_copy_read_now (M : ZB) (a2 : Int) (a4 : Int) : Option (ZB) :=
  lop2 FU (fun rec_3 (v4_1 : Int) (M_2 : ZB) =>
    if (nm v4_1) < 147 then (
      rd (M_2.2 13) 147 (a2 + v4_1) fun x_4 =>
      ix 147 (a4 + v4_1) <| lt (M_2.1, ua M_2.2 12 (up (M_2.2 12) (Int.toNat (a4 + v4_1)) x_4)) fun M_5 =>
      rec_3 (v4_1 + 1) M_5)
    else (
      some M_2)) 0 M
def fM_spelt (a1 : Int) (a2 : Int) (a3 : Int) (a4 : Int) (a5 : Int) (a6 : Int) (a7 : Int) : Option (Int) :=
  lt (((27 * (((27 * (((27 * ((nm a1) - 96)) + (nm a2)) - 96)) + (nm a3)) - 96)) + (nm a4)) - 96) fun v7_1 =>
  kf1 (fun (v7_2 : Int) =>
    kf1 (fun (v7_4 : Int) =>
      kf1 (fun (v7_6 : Int) =>
        some v7_6) fun k_7 =>
      if 0 < (nm a7) then (
        lt (((27 * v7_4) + (nm a7)) - 96) fun v7_8 =>
        k_7 v7_8)
      else (
        k_7 v7_4)) fun k_5 =>
    if 0 < (nm a6) then (
      lt (((27 * v7_2) + (nm a6)) - 96) fun v7_9 =>
      k_5 v7_9)
    else (
      k_5 v7_2)) fun k_3 =>
  if 0 < (nm a5) then (
    lt (((27 * v7_1) + (nm a5)) - 96) fun v7_10 =>
    k_3 v7_10)
  else (
    k_3 v7_1)
def fM_isWord (M : ZB) (a1 : Int) : Option (Int) :=
  kf1 (fun (w0_1 : Int) =>
    zo w0_1 <| some w0_1) fun k_2 =>
  kf0 (k_2 0) fun k_3 =>
  if (nm (M.1 6)) = 2 then (
    if (zlcmp (M.1 10) a1) = 0 then (
      k_2 1)
    else (
      k_3))
  else (
    k_3)
def fM_isPointWord (M : ZB) : Option (Int) :=
  bd (fM_spelt 112 111 105 110 116 0 0) fun u_1 =>
  bd (fM_isWord M u_1) fun u_2 =>
  zo u_2 <| some u_2
def fM_isLineWord (M : ZB) : Option (Int) :=
  bd (fM_spelt 108 105 110 101 0 0 0) fun u_1 =>
  bd (fM_isWord M u_1) fun u_2 =>
  zo u_2 <| some u_2
def fM_isForestsWord (M : ZB) : Option (Int) :=
  bd (fM_spelt 102 111 114 101 115 116 115) fun u_1 =>
  bd (fM_isWord M u_1) fun u_2 =>
  zo u_2 <| some u_2
def fM_bad (M : ZB) (a1 : Int) : Option (Int × ZB) :=
  kf1 (fun (w1_1 : Int) =>
    lt (up M.1 8 (w1_1), M.2) fun M_3 =>
    lt (up M_3.1 9 ((M_3.1 5)), M_3.2) fun M_4 =>
    some (0, M_4)) fun k_2 =>
  if (nm (M.1 6)) = 1 then (
    k_2 1)
  else (
    k_2 a1)
def fM_isIn (a1 : Int) (a2 : Int) (a3 : Int) : Option (Int) :=
  kf1 (fun (w0_1 : Int) =>
    zo w0_1 <| some w0_1) fun k_2 =>
  kf0 (k_2 0) fun k_3 =>
  if (nm a1) < (nm a2) then (
    k_3)
  else (
    if (nm a3) < (nm a1) then (
      k_3)
    else (
      k_2 1))
def fM_readNumber (M : ZB) (a1 : Int) (a2 : Int) : Option (Int × ZB) :=
  if (nm (M.1 6)) = 3 then (
    bd (fM_isIn (M.1 7) a1 a2) fun u_1 =>
    if (nm u_1) = 0 then (
      bd (fM_bad M 2) fun u_4 =>
      zo u_4.1 <| some (u_4.1, u_4.2))
    else (
      lt (up M.1 11 ((M.1 7)), M.2) fun M_2 =>
      bd (fM_go M_2) fun u_3 =>
      some (1, u_3)))
  else (
    bd (fM_bad M 1) fun u_5 =>
    zo u_5.1 <| some (u_5.1, u_5.2))
def fM_readForests (M : ZB) : Option (Int × ZB) :=
  rd (M.2 13) 147 2 fun x_1 =>
  if (nm x_1) = 0 then (
    bd (fM_go M) fun u_2 =>
    bd (fM_readNumber u_2 1 5) fun u_3 =>
    if (nm u_3.1) = 0 then (
      some (0, u_3.2))
    else (
      ix 147 2 <| lt (u_3.2.1, ua u_3.2.2 13 (up (u_3.2.2 13) (Int.toNat 2) (u_3.2.1 11))) fun M_4 =>
      some (1, M_4)))
  else (
    bd (fM_bad M 3) fun u_5 =>
    zo u_5.1 <| some (u_5.1, u_5.2))
def fM_isName (M : ZB) : Option (Int) :=
  kf1 (fun (w0_1 : Int) =>
    zo w0_1 <| some w0_1) fun k_2 =>
  kf0 (k_2 0) fun k_3 =>
  if (nm (M.1 6)) = 2 then (
    bd (fM_isPointWord M) fun u_4 =>
    if (nm u_4) = 0 then (
      bd (fM_isLineWord M) fun u_5 =>
      if (nm u_5) = 0 then (
        bd (fM_isForestsWord M) fun u_6 =>
        if (nm u_6) = 0 then (
          k_2 1)
        else (
          k_3))
      else (
        k_3))
    else (
      k_3))
  else (
    k_3)
def fM_named (M : ZB) : Option (Int) :=
  lop1 FU (fun rec_2 (v1_1 : Int) =>
    rd (M.2 13) 147 0 fun x_3 =>
    if (nm v1_1) < (nm x_3) then (
      rd (M.2 18) 10 v1_1 fun x_4 =>
      if (zlcmp x_4 (M.1 10)) = 0 then (
        some v1_1)
      else (
        rec_2 (v1_1 + 1)))
    else (
      some (-1))) 0
def fM_readLine (M : ZB) : Option (Int × ZB) :=
  rd (M.2 13) 147 1 fun x_1 =>
  if (nm x_1) = 24 then (
    bd (fM_bad M 4) fun u_21 =>
    zo u_21.1 <| some (u_21.1, u_21.2))
  else (
    bd (fM_go M) fun u_2 =>
    bd (fM_isName u_2) fun u_3 =>
    if (nm u_3) = 0 then (
      bd (fM_bad u_2 1) fun u_20 =>
      zo u_20.1 <| some (u_20.1, u_20.2))
    else (
      bd (fM_named u_2) fun u_4 =>
      if (nm u_4) = (-1) then (
        bd (fM_bad u_2 3) fun u_19 =>
        zo u_19.1 <| some (u_19.1, u_19.2))
      else (
        bd (fM_go u_2) fun u_5 =>
        bd (fM_isName u_5) fun u_6 =>
        if (nm u_6) = 0 then (
          bd (fM_bad u_5 1) fun u_18 =>
          zo u_18.1 <| some (u_18.1, u_18.2))
        else (
          bd (fM_named u_5) fun u_7 =>
          kf0 (bd (fM_bad u_5 3) fun u_9 =>
          zo u_9.1 <| some (u_9.1, u_9.2)) fun k_8 =>
          if (nm u_7) = (-1) then (
            k_8)
          else (
            if (nm u_7) = (nm u_4) then (
              k_8)
            else (
              bd (fM_go u_5) fun u_10 =>
              bd (fM_readNumber u_10 1 99) fun u_11 =>
              if (nm u_11.1) = 0 then (
                some (0, u_11.2))
              else (
                ix 147 (3 + x_1) <| lt (u_11.2.1, ua u_11.2.2 13 (up (u_11.2.2 13) (Int.toNat (3 + x_1)) u_4)) fun M_12 =>
                ix 147 (27 + x_1) <| lt (M_12.1, ua M_12.2 13 (up (M_12.2 13) (Int.toNat (27 + x_1)) u_7)) fun M_13 =>
                ix 147 (51 + x_1) <| lt (M_13.1, ua M_13.2 13 (up (M_13.2 13) (Int.toNat (51 + x_1)) (M_13.1 11))) fun M_14 =>
                ix 147 (75 + x_1) <| lt (M_14.1, ua M_14.2 13 (up (M_14.2 13) (Int.toNat (75 + x_1)) (-1))) fun M_15 =>
                rd (M_15.2 13) 147 1 fun x_16 =>
                ix 147 1 <| lt (M_15.1, ua M_15.2 13 (up (M_15.2 13) (Int.toNat 1) (x_16 + 1))) fun M_17 =>
                some (1, M_17))))))))
def fM_readPoint (M : ZB) : Option (Int × ZB) :=
  rd (M.2 13) 147 0 fun x_1 =>
  if (nm x_1) = 10 then (
    bd (fM_bad M 4) fun u_12 =>
    zo u_12.1 <| some (u_12.1, u_12.2))
  else (
    bd (fM_go M) fun u_2 =>
    bd (fM_isName u_2) fun u_3 =>
    if (nm u_3) = 0 then (
      bd (fM_bad u_2 1) fun u_11 =>
      zo u_11.1 <| some (u_11.1, u_11.2))
    else (
      bd (fM_named u_2) fun u_4 =>
      if (nm u_4) = (-1) then (
        rd (u_2.2 13) 147 0 fun x_5 =>
        ix 10 x_5 <| lt (u_2.1, ua u_2.2 18 (up (u_2.2 18) (Int.toNat x_5) (u_2.1 10))) fun M_6 =>
        rd (M_6.2 13) 147 0 fun x_7 =>
        ix 147 0 <| lt (M_6.1, ua M_6.2 13 (up (M_6.2 13) (Int.toNat 0) (x_7 + 1))) fun M_8 =>
        bd (fM_go M_8) fun u_9 =>
        some (1, u_9))
      else (
        bd (fM_bad u_2 3) fun u_10 =>
        zo u_10.1 <| some (u_10.1, u_10.2))))
def fM_readEnd (M : ZB) : Option (Int × ZB) :=
  if (nm (M.1 6)) = 4 then (
    bd (fM_go M) fun u_1 =>
    some (1, u_1))
  else (
    bd (fM_bad M 1) fun u_2 =>
    zo u_2.1 <| some (u_2.1, u_2.2))
def fM_net (M : ZB) : Option (Int × ZB) :=
  lt (up M.1 0 (0), M.2) fun M_1 =>
  lt (up M_1.1 3 ((M_1.1 2)), M_1.2) fun M_2 =>
  lt (up M_2.1 2 (0), M_2.2) fun M_3 =>
  lt (up M_3.1 8 (0), M_3.2) fun M_4 =>
  lt (up M_4.1 4 (0), M_4.2) fun M_5 =>
  lop2 FU (fun rec_8 (v1_6 : Int) (M_7 : ZB) =>
    if (nm v1_6) < 147 then (
      ix 147 v1_6 <| lt (M_7.1, ua M_7.2 13 (up (M_7.2 13) (Int.toNat v1_6) 0)) fun M_32 =>
      rec_8 (v1_6 + 1) M_32)
    else (
      bd (fM_go M_7) fun u_9 =>
      lop2 FU (fun rec_12 (v1_10 : Int) (M_11 : ZB) =>
        if (nm (M_11.1 6)) = 0 then (
          rd (M_11.2 13) 147 2 fun x_13 =>
          kf1 (fun (M_14 : ZB) =>
            bd (fM_copy_read_now M_14 0 0) fun u_16 =>
            lt (up u_16.1 20 (0), u_16.2) fun M_17 =>
            some (v1_10, M_17)) fun k_15 =>
          if (nm x_13) = 0 then (
            ix 147 2 <| lt (M_11.1, ua M_11.2 13 (up (M_11.2 13) (Int.toNat 2) 2)) fun M_18 =>
            k_15 M_18)
          else (
            k_15 M_11))
        else (
          bd (fM_isPointWord M_11) fun u_19 =>
          kf2 (fun (w0_20 : Int) (M_21 : ZB) =>
            kf1 (fun (M_23 : ZB) =>
              some (((-1) - (M_23.1 9)), M_23)) fun k_24 =>
            if (nm w0_20) = 0 then (
              k_24 M_21)
            else (
              bd (fM_readEnd M_21) fun u_25 =>
              if (nm u_25.1) = 0 then (
                k_24 u_25.2)
              else (
                rec_12 (v1_10 + 1) u_25.2))) fun k_22 =>
          if (nm u_19) = 0 then (
            bd (fM_isLineWord M_11) fun u_26 =>
            if (nm u_26) = 0 then (
              bd (fM_isForestsWord M_11) fun u_27 =>
              if (nm u_27) = 0 then (
                bd (fM_bad M_11 1) fun u_28 =>
                k_22 u_28.1 u_28.2)
              else (
                bd (fM_readForests M_11) fun u_29 =>
                k_22 u_29.1 u_29.2))
            else (
              bd (fM_readLine M_11) fun u_30 =>
              k_22 u_30.1 u_30.2))
          else (
            bd (fM_readPoint M_11) fun u_31 =>
            k_22 u_31.1 u_31.2))) 0 u_9)) 0 M_5
def fM_fault (M : ZB) : Option (Int × ZB) :=
  lt (up M.1 0 (0), M.2) fun M_1 =>
  some ((M_1.1 8), M_1)
def fM_many (M : ZB) : Option (Int) :=
  rd (M.2 12) 147 2 fun x_1 =>
  some x_1
def fM_copy_now_snaps (M : ZB) (a2 : Int) (a4 : Int) : Option (ZB) :=
  lop2 FU (fun rec_3 (v4_1 : Int) (M_2 : ZB) =>
    if (nm v4_1) < 147 then (
      rd (M_2.2 12) 147 (a2 + v4_1) fun x_4 =>
      ix 1176 (a4 + v4_1) <| lt (M_2.1, ua M_2.2 15 (up (M_2.2 15) (Int.toNat (a4 + v4_1)) x_4)) fun M_5 =>
      rec_3 (v4_1 + 1) M_5)
    else (
      some M_2)) 0 M
def fM_snap (M : ZB) : Option (ZB) :=
  kf1 (fun (M_1 : ZB) =>
    bd (fM_copy_now_snaps M_1 0 (147 * (M_1.1 20))) fun u_3 =>
    lt (up u_3.1 20 (((u_3.1 20) + 1)), u_3.2) fun M_4 =>
    some M_4) fun k_2 =>
  if (nm (M.1 20)) = 8 then (
    lop2 FU (fun rec_7 (v1_5 : Int) (M_6 : ZB) =>
      if (nm v1_5) < 1029 then (
        rd (M_6.2 15) 1176 (v1_5 + 147) fun x_9 =>
        ix 1176 v1_5 <| lt (M_6.1, ua M_6.2 15 (up (M_6.2 15) (Int.toNat v1_5) x_9)) fun M_10 =>
        rec_7 (v1_5 + 1) M_10)
      else (
        lt (up M_6.1 20 (((M_6.1 20) - 1)), M_6.2) fun M_8 =>
        k_2 M_8)) 0 M)
  else (
    k_2 M)
def fM_lines (M : ZB) : Option (Int) :=
  rd (M.2 12) 147 1 fun x_1 =>
  some x_1
def fM_lies (M : ZB) (a1 : Int) : Option (Int) :=
  rd (M.2 12) 147 (75 + a1) fun x_1 =>
  some x_1
def fM_forests (M : ZB) (a1 : Int) : Option (Int × ZB) :=
  lt (up M.1 0 (0), M.2) fun M_1 =>
  bd (fM_isIn a1 1 5) fun u_2 =>
  kf0 (some ((-1), M_1)) fun k_3 =>
  if (nm u_2) = 0 then (
    k_3)
  else (
    bd (fM_many M_1) fun u_4 =>
    if (nm a1) = (nm u_4) then (
      k_3)
    else (
      bd (fM_snap M_1) fun u_5 =>
      lop3 FU (fun rec_9 (v2_6 : Int) (v3_7 : Int) (M_8 : ZB) =>
        bd (fM_lines M_8) fun u_10 =>
        if (nm v3_7) < (nm u_10) then (
          bd (fM_lies M_8 v3_7) fun u_12 =>
          kf2 (fun (v2_13 : Int) (M_14 : ZB) =>
            rec_9 v2_13 (v3_7 + 1) M_14) fun k_15 =>
          if (nm u_12) < (nm a1) then (
            k_15 v2_6 M_8)
          else (
            ix 147 (75 + v3_7) <| lt (M_8.1, ua M_8.2 12 (up (M_8.2 12) (Int.toNat (75 + v3_7)) (-1))) fun M_16 =>
            k_15 (v2_6 + 1) M_16))
        else (
          ix 147 2 <| lt (M_8.1, ua M_8.2 12 (up (M_8.2 12) (Int.toNat 2) a1)) fun M_11 =>
          some (v2_6, M_11))) 0 0 u_5))
def fM_isLine (M : ZB) (a1 : Int) : Option (Int) :=
  bd (fM_lines M) fun u_1 =>
  bd (fM_isIn a1 0 (u_1 - 1)) fun u_2 =>
  zo u_2 <| some u_2
def fM_refuse (M : ZB) : Option (Int × ZB) :=
  lt (up M.1 0 (1), M.2) fun M_1 =>
  some (0, M_1)
def fM_line (M : ZB) (a1 : Int) (a2 : Int) : Option (Int × ZB) :=
  lt (up M.1 0 (0), M.2) fun M_1 =>
  bd (fM_isLine M_1 a1) fun u_2 =>
  if (nm u_2) = 0 then (
    bd (fM_refuse M_1) fun u_14 =>
    some (u_14.1, u_14.2))
  else (
    if (nm a2) = 0 then (
      rd (M_1.2 12) 147 (3 + a1) fun x_4 =>
      some (x_4, M_1))
    else (
      if (nm a2) = 1 then (
        rd (M_1.2 12) 147 (27 + a1) fun x_6 =>
        some (x_6, M_1))
      else (
        if (nm a2) = 2 then (
          rd (M_1.2 12) 147 (51 + a1) fun x_8 =>
          some (x_8, M_1))
        else (
          if (nm a2) = 3 then (
            bd (fM_lies M_1 a1) fun u_10 =>
            some (u_10, M_1))
          else (
            if (nm a2) = 4 then (
              rd (M_1.2 12) 147 (99 + a1) fun x_12 =>
              some (x_12, M_1))
            else (
              bd (fM_refuse M_1) fun u_13 =>
              some (u_13.1, u_13.2)))))))
def fM_isForest (M : ZB) (a1 : Int) : Option (Int) :=
  bd (fM_many M) fun u_1 =>
  bd (fM_isIn a1 0 (u_1 - 1)) fun u_2 =>
  zo u_2 <| some u_2
def fM_isBroken (M : ZB) (a1 : Int) : Option (Int) :=
  rd (M.2 12) 147 (99 + a1) fun x_1 =>
  kf1 (fun (w0_2 : Int) =>
    zo w0_2 <| some w0_2) fun k_3 =>
  if (nm x_1) = 1 then (
    k_3 1)
  else (
    k_3 0)
def fM_inForest (M : ZB) (a1 : Int) : Option (Int) :=
  lop2 FU (fun rec_3 (v2_1 : Int) (v3_2 : Int) =>
    bd (fM_lines M) fun u_4 =>
    if (nm v3_2) < (nm u_4) then (
      bd (fM_lies M v3_2) fun u_5 =>
      kf1 (fun (v2_6 : Int) =>
        rec_3 v2_6 (v3_2 + 1)) fun k_7 =>
      if (nm u_5) = (nm a1) then (
        lt (zor v2_1 (zshl 1 v3_2)) fun v2_8 =>
        k_7 v2_8)
      else (
        k_7 v2_1))
    else (
      some v2_1)) 0 0
def fM_has (a1 : Int) (a2 : Int) : Option (Int) :=
  kf1 (fun (w0_1 : Int) =>
    zo w0_1 <| some w0_1) fun k_2 =>
  if (zand (zshr a1 a2) 1) = 1 then (
    k_2 1)
  else (
    k_2 0)
def fM_ends (M : ZB) (a1 : Int) : Option (Int) :=
  rd (M.2 12) 147 (3 + a1) fun x_1 =>
  rd (M.2 12) 147 (27 + a1) fun x_2 =>
  some (zor (zshl 1 x_1) (zshl 1 x_2))
def fM_joined (M : ZB) (a1 : Int) (a2 : Int) : Option (Int) :=
  lt (zshl 1 a1) fun v3_1 =>
  lop2 FU (fun rec_4 (v3_2 : Int) (v4_3 : Int) =>
    if (nm v3_2) = (nm v4_3) then (
      some v3_2)
    else (
      lop2 FU (fun rec_7 (v3_5 : Int) (v5_6 : Int) =>
        bd (fM_lines M) fun u_8 =>
        if (nm v5_6) < (nm u_8) then (
          bd (fM_has a2 v5_6) fun u_9 =>
          kf1 (fun (v3_10 : Int) =>
            rec_7 v3_10 (v5_6 + 1)) fun k_11 =>
          if (nm u_9) = 0 then (
            k_11 v3_5)
          else (
            bd (fM_ends M v5_6) fun u_12 =>
            if (zand u_12 v3_5) = 0 then (
              k_11 v3_5)
            else (
              bd (fM_ends M v5_6) fun u_13 =>
              lt (zor v3_5 u_13) fun v3_14 =>
              k_11 v3_14)))
        else (
          rec_4 v3_5 v3_2)) v3_2 0)) v3_1 0
def fM_ringIn (M : ZB) (a1 : Int) (a2 : Int) : Option (Int) :=
  rd (M.2 12) 147 (3 + a1) fun x_1 =>
  rd (M.2 12) 147 (27 + a1) fun x_2 =>
  bd (fM_joined M x_1 a2) fun u_3 =>
  bd (fM_has u_3 x_2) fun u_4 =>
  if (nm u_4) = 0 then (
    some 0)
  else (
    lop2 FU (fun rec_7 (v5_5 : Int) (v6_6 : Int) =>
      bd (fM_lines M) fun u_8 =>
      if (nm v6_6) < (nm u_8) then (
        bd (fM_has a2 v6_6) fun u_9 =>
        kf1 (fun (v5_10 : Int) =>
          rec_7 v5_10 (v6_6 + 1)) fun k_11 =>
        if (nm u_9) = 0 then (
          k_11 v5_5)
        else (
          bd (fM_joined M x_1 (zand a2 (zxor (zshl 1 v6_6) (-1)))) fun u_12 =>
          bd (fM_has u_12 x_2) fun u_13 =>
          if (nm u_13) = 0 then (
            lt (zor v5_5 (zshl 1 v6_6)) fun v5_14 =>
            k_11 v5_14)
          else (
            k_11 v5_5)))
      else (
        some v5_5)) 0 0)
def fM_ring (M : ZB) (a1 : Int) (a2 : Int) : Option (Int × ZB) :=
  lt (up M.1 0 (0), M.2) fun M_1 =>
  bd (fM_isLine M_1 a1) fun u_2 =>
  kf0 (bd (fM_refuse M_1) fun u_4 =>
  some (u_4.1, u_4.2)) fun k_3 =>
  if (nm u_2) = 0 then (
    k_3)
  else (
    bd (fM_isForest M_1 a2) fun u_5 =>
    if (nm u_5) = 0 then (
      k_3)
    else (
      bd (fM_isBroken M_1 a1) fun u_6 =>
      if (nm u_6) = 0 then (
        bd (fM_lies M_1 a1) fun u_7 =>
        if (nm u_7) = (nm a2) then (
          k_3)
        else (
          bd (fM_inForest M_1 a2) fun u_8 =>
          bd (fM_ringIn M_1 a1 u_8) fun u_9 =>
          some (u_9, M_1)))
      else (
        k_3)))
def fM_forest (M : ZB) (a1 : Int) : Option (Int × ZB) :=
  lt (up M.1 0 (0), M.2) fun M_1 =>
  bd (fM_isForest M_1 a1) fun u_2 =>
  kf1 (fun (w0_3 : Int) =>
    some (w0_3, M_1)) fun k_4 =>
  if (nm u_2) = 0 then (
    k_4 (-1))
  else (
    bd (fM_inForest M_1 a1) fun u_5 =>
    k_4 u_5)
def fM_points (M : ZB) : Option (Int) :=
  rd (M.2 12) 147 0 fun x_1 =>
  some x_1
def fM_pieces (M : ZB) (a1 : Int) : Option (Int) :=
  bd (fM_points M) fun u_1 =>
  lt ((zshl 1 u_1) - 1) fun v2_2 =>
  lop3 FU (fun rec_6 (v2_3 : Int) (v3_4 : Int) (v4_5 : Int) =>
    bd (fM_points M) fun u_7 =>
    if (nm v4_5) < (nm u_7) then (
      bd (fM_has v2_3 v4_5) fun u_8 =>
      kf2 (fun (v2_9 : Int) (v3_10 : Int) =>
        rec_6 v2_9 v3_10 (v4_5 + 1)) fun k_11 =>
      if (nm u_8) = 0 then (
        k_11 v2_3 v3_4)
      else (
        bd (fM_joined M v4_5 a1) fun u_12 =>
        lt (zand v2_3 (zxor u_12 (-1))) fun v2_13 =>
        k_11 v2_13 (v3_4 + 1)))
    else (
      some v3_4)) v2_2 0 0
def fM_sound (M : ZB) : Option (Int) :=
  lop2 FU (fun rec_3 (v1_1 : Int) (v2_2 : Int) =>
    bd (fM_lines M) fun u_4 =>
    if (nm v2_2) < (nm u_4) then (
      bd (fM_isBroken M v2_2) fun u_5 =>
      kf1 (fun (v1_6 : Int) =>
        rec_3 v1_6 (v2_2 + 1)) fun k_7 =>
      if (nm u_5) = 0 then (
        lt (zor v1_1 (zshl 1 v2_2)) fun v1_8 =>
        k_7 v1_8)
      else (
        k_7 v1_1))
    else (
      some v1_1)) 0 0
def fM_bits (a1 : Int) : Option (Int) :=
  lop2 FU (fun rec_3 (v1_1 : Int) (v2_2 : Int) =>
    if (nm v2_2) = 0 then (
      some v1_1)
    else (
      lt (zand v2_2 (v2_2 - 1)) fun v2_4 =>
      rec_3 (v1_1 + 1) v2_4)) 0 a1
def fM_now (M : ZB) (a1 : Int) : Option (Int × ZB) :=
  lt (up M.1 0 (0), M.2) fun M_1 =>
  if (nm a1) = 0 then (
    bd (fM_points M_1) fun u_3 =>
    some (u_3, M_1))
  else (
    if (nm a1) = 1 then (
      bd (fM_lines M_1) fun u_5 =>
      some (u_5, M_1))
    else (
      if (nm a1) = 2 then (
        bd (fM_many M_1) fun u_7 =>
        some (u_7, M_1))
      else (
        if (nm a1) = 3 then (
          bd (fM_sound M_1) fun u_9 =>
          bd (fM_bits u_9) fun u_10 =>
          some (u_10, M_1))
        else (
          if (nm a1) = 4 then (
            lop2 FU (fun rec_14 (v2_12 : Int) (v3_13 : Int) =>
              bd (fM_lines M_1) fun u_15 =>
              if (nm v3_13) < (nm u_15) then (
                bd (fM_lies M_1 v3_13) fun u_16 =>
                kf1 (fun (v2_17 : Int) =>
                  rec_14 v2_17 (v3_13 + 1)) fun k_18 =>
                if (nm u_16) = (-1) then (
                  k_18 v2_12)
                else (
                  k_18 (v2_12 + 1)))
              else (
                some (v2_12, M_1))) 0 0)
          else (
            if (nm a1) = 5 then (
              bd (fM_sound M_1) fun u_20 =>
              bd (fM_pieces M_1 u_20) fun u_21 =>
              some (u_21, M_1))
            else (
              if (nm a1) = 6 then (
                bd (fM_inForest M_1 0) fun u_23 =>
                bd (fM_pieces M_1 u_23) fun u_24 =>
                some (u_24, M_1))
              else (
                if (nm a1) = 7 then (
                  some ((M_1.1 20), M_1))
                else (
                  if (nm a1) = 8 then (
                    some ((M_1.1 2), M_1))
                  else (
                    some ((-1), M_1))))))))))
def fM_whyNotPut (M : ZB) (a1 : Int) (a2 : Int) : Option (Int) :=
  bd (fM_isBroken M a1) fun u_1 =>
  kf1 (fun (w0_2 : Int) =>
    some w0_2) fun k_3 =>
  if (nm u_1) = 0 then (
    bd (fM_lies M a1) fun u_4 =>
    if (nm u_4) = (-1) then (
      bd (fM_inForest M a2) fun u_5 =>
      bd (fM_ringIn M a1 u_5) fun u_6 =>
      if (nm u_6) = 0 then (
        k_3 0)
      else (
        k_3 3))
    else (
      k_3 2))
  else (
    k_3 1)
def fM_put (M : ZB) (a1 : Int) (a2 : Int) : Option (Int × ZB) :=
  lt (up M.1 0 (0), M.2) fun M_1 =>
  bd (fM_isLine M_1 a1) fun u_2 =>
  kf0 (some ((-1), M_1)) fun k_3 =>
  if (nm u_2) = 0 then (
    k_3)
  else (
    bd (fM_isForest M_1 a2) fun u_4 =>
    if (nm u_4) = 0 then (
      k_3)
    else (
      bd (fM_whyNotPut M_1 a1 a2) fun u_5 =>
      if (nm u_5) = 0 then (
        bd (fM_snap M_1) fun u_6 =>
        ix 147 (75 + a1) <| lt (u_6.1, ua u_6.2 12 (up (u_6.2 12) (Int.toNat (75 + a1)) a2)) fun M_7 =>
        some (0, M_7))
      else (
        some (u_5, M_1))))
def fM_lift (M : ZB) (a1 : Int) : Option (Int × ZB) :=
  lt (up M.1 0 (0), M.2) fun M_1 =>
  bd (fM_isLine M_1 a1) fun u_2 =>
  kf0 (some ((-1), M_1)) fun k_3 =>
  if (nm u_2) = 0 then (
    k_3)
  else (
    bd (fM_lies M_1 a1) fun u_4 =>
    if (nm u_4) = (-1) then (
      k_3)
    else (
      bd (fM_snap M_1) fun u_5 =>
      bd (fM_lies u_5 a1) fun u_6 =>
      ix 147 (75 + a1) <| lt (u_5.1, ua u_5.2 12 (up (u_5.2 12) (Int.toNat (75 + a1)) (-1))) fun M_7 =>
      some (u_6, M_7)))
def fM_isLoose (M : ZB) (a1 : Int) : Option (Int) :=
  bd (fM_isBroken M a1) fun u_1 =>
  kf1 (fun (w0_2 : Int) =>
    zo w0_2 <| some w0_2) fun k_3 =>
  kf0 (k_3 0) fun k_4 =>
  if (nm u_1) = 0 then (
    bd (fM_lies M a1) fun u_5 =>
    if (nm u_5) = (-1) then (
      k_3 1)
    else (
      k_4))
  else (
    k_4)
def fM_laysRings (M : ZB) : Option (ZB) :=
  lop2 FU (fun rec_3 (v1_1 : Int) (M_2 : ZB) =>
    bd (fM_lines M_2) fun u_4 =>
    if (nm v1_1) < (nm u_4) then (
      lop2 FU (fun rec_7 (v2_5 : Int) (M_6 : ZB) =>
        bd (fM_many M_6) fun u_8 =>
        if (nm v2_5) < (nm u_8) then (
          bd (fM_lies M_6 v1_1) fun u_9 =>
          kf1 (fun (w2_10 : Int) =>
            ix 120 ((5 * v1_1) + v2_5) <| lt (M_6.1, ua M_6.2 22 (up (M_6.2 22) (Int.toNat ((5 * v1_1) + v2_5)) w2_10)) fun M_12 =>
            rec_7 (v2_5 + 1) M_12) fun k_11 =>
          kf0 (k_11 0) fun k_13 =>
          if (nm u_9) = (nm v2_5) then (
            k_13)
          else (
            bd (fM_isBroken M_6 v1_1) fun u_14 =>
            if (nm u_14) = 0 then (
              bd (fM_inForest M_6 v2_5) fun u_15 =>
              bd (fM_ringIn M_6 v1_1 u_15) fun u_16 =>
              k_11 u_16)
            else (
              k_13)))
        else (
          rec_3 (v1_1 + 1) M_6)) 0 M_2)
    else (
      some M_2)) 0 M
def fM_freeForest (M : ZB) (a1 : Int) : Option (Int) :=
  lop1 FU (fun rec_2 (v2_1 : Int) =>
    bd (fM_many M) fun u_3 =>
    if (nm v2_1) < (nm u_3) then (
      bd (fM_lies M a1) fun u_4 =>
      kf0 (rec_2 (v2_1 + 1)) fun k_5 =>
      if (nm u_4) = (nm v2_1) then (
        k_5)
      else (
        rd (M.2 22) 120 ((5 * a1) + v2_1) fun x_6 =>
        if (nm x_6) = 0 then (
          some v2_1)
        else (
          k_5)))
    else (
      some (-1))) 0
def fM_nextTo (M : ZB) (a1 : Int) : Option (Int) :=
  lop2 FU (fun rec_3 (v2_1 : Int) (v3_2 : Int) =>
    bd (fM_many M) fun u_4 =>
    if (nm v3_2) < (nm u_4) then (
      rd (M.2 22) 120 ((5 * a1) + v3_2) fun x_5 =>
      lt (zor v2_1 x_5) fun v2_6 =>
      rec_3 v2_6 (v3_2 + 1))
    else (
      some v2_1)) 0 0
def fM_laysCrowd (M : ZB) (a1 : Int) : Option (Int × ZB) :=
  lt (zshl 1 a1) fun v2_1 =>
  lop2 FU (fun rec_4 (v2_2 : Int) (v3_3 : Int) =>
    if (nm v2_2) = (nm v3_3) then (
      lt (up M.1 26 (0), M.2) fun M_5 =>
      lop2 FU (fun rec_8 (v4_6 : Int) (M_7 : ZB) =>
        bd (fM_lines M_7) fun u_9 =>
        if (nm v4_6) < (nm u_9) then (
          bd (fM_has v2_2 v4_6) fun u_10 =>
          kf1 (fun (M_11 : ZB) =>
            rec_8 (v4_6 + 1) M_11) fun k_12 =>
          if (nm u_10) = 0 then (
            k_12 M_7)
          else (
            bd (fM_ends M_7 v4_6) fun u_13 =>
            lt (up M_7.1 26 ((zor (M_7.1 26) u_13)), M_7.2) fun M_14 =>
            k_12 M_14))
        else (
          some (0, M_7))) 0 M_5)
    else (
      lop2 FU (fun rec_17 (v2_15 : Int) (v4_16 : Int) =>
        bd (fM_lines M) fun u_18 =>
        if (nm v4_16) < (nm u_18) then (
          bd (fM_has v2_2 v4_16) fun u_19 =>
          kf1 (fun (v2_20 : Int) =>
            rec_17 v2_20 (v4_16 + 1)) fun k_21 =>
          if (nm u_19) = 0 then (
            k_21 v2_15)
          else (
            bd (fM_nextTo M v4_16) fun u_22 =>
            lt (zor v2_15 u_22) fun v2_23 =>
            k_21 v2_23))
        else (
          rec_4 v2_15 v2_2)) v2_2 0)) v2_1 0
def fM_laysChain (M : ZB) (a1 : Int) : Option (Int × ZB) :=
  bd (fM_laysRings M) fun u_1 =>
  lop2 FU (fun rec_4 (v2_2 : Int) (M_3 : ZB) =>
    bd (fM_lines M_3) fun u_5 =>
    if (nm v2_2) < (nm u_5) then (
      bd (fM_isBroken M_3 v2_2) fun u_49 =>
      kf1 (fun (w2_50 : Int) =>
        ix 24 v2_2 <| lt (M_3.1, ua M_3.2 21 (up (M_3.2 21) (Int.toNat v2_2) w2_50)) fun M_52 =>
        rec_4 (v2_2 + 1) M_52) fun k_51 =>
      kf0 (k_51 1000) fun k_53 =>
      if (nm u_49) = 0 then (
        bd (fM_freeForest M_3 v2_2) fun u_54 =>
        if (nm u_54) = (-1) then (
          k_53)
        else (
          k_51 1))
      else (
        k_53))
    else (
      lop2 FU (fun rec_8 (v2_6 : Int) (M_7 : ZB) =>
        bd (fM_lines M_7) fun u_9 =>
        if (nm v2_6) < (nm u_9) then (
          lop2 FU (fun rec_34 (v3_32 : Int) (M_33 : ZB) =>
            bd (fM_lines M_33) fun u_35 =>
            if (nm v3_32) < (nm u_35) then (
              lop2 FU (fun rec_38 (v4_36 : Int) (M_37 : ZB) =>
                bd (fM_lines M_37) fun u_39 =>
                if (nm v4_36) < (nm u_39) then (
                  bd (fM_isBroken M_37 v3_32) fun u_40 =>
                  kf1 (fun (M_41 : ZB) =>
                    rec_38 (v4_36 + 1) M_41) fun k_42 =>
                  if (nm u_40) = 0 then (
                    bd (fM_nextTo M_37 v3_32) fun u_43 =>
                    bd (fM_has u_43 v4_36) fun u_44 =>
                    if (nm u_44) = 0 then (
                      k_42 M_37)
                    else (
                      rd (M_37.2 21) 24 v4_36 fun x_45 =>
                      rd (M_37.2 21) 24 v3_32 fun x_46 =>
                      if (nm (x_45 + 1)) < (nm x_46) then (
                        rd (M_37.2 21) 24 v4_36 fun x_47 =>
                        ix 24 v3_32 <| lt (M_37.1, ua M_37.2 21 (up (M_37.2 21) (Int.toNat v3_32) (x_47 + 1))) fun M_48 =>
                        k_42 M_48)
                      else (
                        k_42 M_37)))
                  else (
                    k_42 M_37))
                else (
                  rec_34 (v3_32 + 1) M_37)) 0 M_33)
            else (
              rec_8 (v2_6 + 1) M_33)) 0 M_7)
        else (
          rd (M_7.2 21) 24 a1 fun x_10 =>
          if (nm x_10) = 1000 then (
            bd (fM_laysCrowd M_7 a1) fun u_31 =>
            some (u_31.1, u_31.2))
          else (
            lt (up M_7.1 25 (0), M_7.2) fun M_11 =>
            lop2 FU (fun rec_14 (v2_12 : Int) (M_13 : ZB) =>
              rd (M_13.2 21) 24 v2_12 fun x_15 =>
              if 1 < (nm x_15) then (
                lop1 FU (fun rec_21 (v3_20 : Int) =>
                  bd (fM_nextTo M_13 v2_12) fun u_22 =>
                  bd (fM_has u_22 v3_20) fun u_23 =>
                  kf0 (rec_21 (v3_20 + 1)) fun k_24 =>
                  if (nm u_23) = 0 then (
                    k_24)
                  else (
                    rd (M_13.2 21) 24 v3_20 fun x_25 =>
                    rd (M_13.2 21) 24 v2_12 fun x_26 =>
                    if (nm (x_25 + 1)) = (nm x_26) then (
                      ix 24 (M_13.1 25) <| lt (M_13.1, ua M_13.2 23 (up (M_13.2 23) (Int.toNat (M_13.1 25)) v2_12)) fun M_27 =>
                      bd (fM_lies M_27 v3_20) fun u_28 =>
                      ix 24 (M_27.1 25) <| lt (M_27.1, ua M_27.2 24 (up (M_27.2 24) (Int.toNat (M_27.1 25)) u_28)) fun M_29 =>
                      lt (up M_29.1 25 (((M_29.1 25) + 1)), M_29.2) fun M_30 =>
                      rec_14 v3_20 M_30)
                    else (
                      k_24))) 0)
              else (
                ix 24 (M_13.1 25) <| lt (M_13.1, ua M_13.2 23 (up (M_13.2 23) (Int.toNat (M_13.1 25)) v2_12)) fun M_16 =>
                bd (fM_freeForest M_16 v2_12) fun u_17 =>
                ix 24 (M_16.1 25) <| lt (M_16.1, ua M_16.2 24 (up (M_16.2 24) (Int.toNat (M_16.1 25)) u_17)) fun M_18 =>
                lt (up M_18.1 25 (((M_18.1 25) + 1)), M_18.2) fun M_19 =>
                some ((M_19.1 25), M_19))) a1 M_11))) 0 M_3)) 0 u_1
def fM_tells (M : ZB) (a1 : Int) : Option (Int × ZB) :=
  bd (fM_laysChain M a1) fun u_1 =>
  kf1 (fun (M_2 : ZB) =>
    kf1 (fun (M_4 : ZB) =>
      lop2 FU (fun rec_8 (v3_6 : Int) (M_7 : ZB) =>
        if (nm v3_6) < (nm u_1.1) then (
          rd (M_7.2 23) 24 v3_6 fun x_9 =>
          ix 48 (2 * v3_6) <| lt (M_7.1, ua M_7.2 27 (up (M_7.2 27) (Int.toNat (2 * v3_6)) x_9)) fun M_10 =>
          rd (M_10.2 24) 24 v3_6 fun x_11 =>
          ix 48 ((2 * v3_6) + 1) <| lt (M_10.1, ua M_10.2 27 (up (M_10.2 27) (Int.toNat ((2 * v3_6) + 1)) x_11)) fun M_12 =>
          rec_8 (v3_6 + 1) M_12)
        else (
          some (u_1.1, M_7))) 0 M_4) fun k_5 =>
    if 0 < (nm u_1.1) then (
      lt (up M_2.1 28 (u_1.1), M_2.2) fun M_13 =>
      k_5 M_13)
    else (
      k_5 M_2)) fun k_3 =>
  if (nm u_1.1) = 0 then (
    lt (up u_1.2.1 29 ((u_1.2.1 26)), u_1.2.2) fun M_14 =>
    k_3 M_14)
  else (
    k_3 u_1.2)
def fM_exchange (M : ZB) : Option (ZB) :=
  lop2 FU (fun rec_3 (v1_1 : Int) (M_2 : ZB) =>
    if (nm v1_1) < (nm (M_2.1 25)) then (
      rd (M_2.2 23) 24 v1_1 fun x_4 =>
      rd (M_2.2 24) 24 v1_1 fun x_5 =>
      ix 147 (75 + x_4) <| lt (M_2.1, ua M_2.2 12 (up (M_2.2 12) (Int.toNat (75 + x_4)) x_5)) fun M_6 =>
      rec_3 (v1_1 + 1) M_6)
    else (
      some M_2)) 0 M
def fM_place (M : ZB) (a1 : Int) : Option (Int × ZB) :=
  lt (up M.1 0 (0), M.2) fun M_1 =>
  bd (fM_isLine M_1 a1) fun u_2 =>
  kf0 (some ((-1), M_1)) fun k_3 =>
  if (nm u_2) = 0 then (
    k_3)
  else (
    bd (fM_isLoose M_1 a1) fun u_4 =>
    if (nm u_4) = 0 then (
      k_3)
    else (
      bd (fM_tells M_1 a1) fun u_5 =>
      if (nm u_5.1) = 0 then (
        some (0, u_5.2))
      else (
        bd (fM_snap u_5.2) fun u_6 =>
        bd (fM_exchange u_6) fun u_7 =>
        some (u_5.1, u_7))))
def fM_chain (M : ZB) (a1 : Int) : Option (Int × ZB) :=
  lt (up M.1 0 (0), M.2) fun M_1 =>
  bd (fM_isLine M_1 a1) fun u_2 =>
  kf2 (fun (w0_3 : Int) (M_4 : ZB) =>
    some (w0_3, M_4)) fun k_5 =>
  kf0 (k_5 (-1) M_1) fun k_6 =>
  if (nm u_2) = 0 then (
    k_6)
  else (
    bd (fM_isLoose M_1 a1) fun u_7 =>
    if (nm u_7) = 0 then (
      k_6)
    else (
      bd (fM_tells M_1 a1) fun u_8 =>
      k_5 u_8.1 u_8.2))
def fM_chainAt (M : ZB) (a1 : Int) (a2 : Int) : Option (Int × ZB) :=
  lt (up M.1 0 (0), M.2) fun M_1 =>
  bd (fM_isIn a1 0 ((M_1.1 28) - 1)) fun u_2 =>
  kf1 (fun (w0_3 : Int) =>
    some (w0_3, M_1)) fun k_4 =>
  kf0 (k_4 (-1)) fun k_5 =>
  if (nm u_2) = 0 then (
    k_5)
  else (
    bd (fM_isIn a2 0 1) fun u_6 =>
    if (nm u_6) = 0 then (
      k_5)
    else (
      rd (M_1.2 27) 48 ((2 * a1) + a2) fun x_7 =>
      k_4 x_7))
def fM_crowd (M : ZB) : Option (Int × ZB) :=
  lt (up M.1 0 (0), M.2) fun M_1 =>
  some ((M_1.1 29), M_1)
def fM_copy_now_before (M : ZB) (a2 : Int) (a4 : Int) : Option (ZB) :=
  lop2 FU (fun rec_3 (v4_1 : Int) (M_2 : ZB) =>
    if (nm v4_1) < 147 then (
      rd (M_2.2 12) 147 (a2 + v4_1) fun x_4 =>
      ix 147 (a4 + v4_1) <| lt (M_2.1, ua M_2.2 16 (up (M_2.2 16) (Int.toNat (a4 + v4_1)) x_4)) fun M_5 =>
      rec_3 (v4_1 + 1) M_5)
    else (
      some M_2)) 0 M
def fM_copy_now_live (M : ZB) (a2 : Int) (a4 : Int) : Option (ZB) :=
  lop2 FU (fun rec_3 (v4_1 : Int) (M_2 : ZB) =>
    if (nm v4_1) < 147 then (
      rd (M_2.2 12) 147 (a2 + v4_1) fun x_4 =>
      ix 147 (a4 + v4_1) <| lt (M_2.1, ua M_2.2 17 (up (M_2.2 17) (Int.toNat (a4 + v4_1)) x_4)) fun M_5 =>
      rec_3 (v4_1 + 1) M_5)
    else (
      some M_2)) 0 M
def fM_copy_before_now (M : ZB) (a2 : Int) (a4 : Int) : Option (ZB) :=
  lop2 FU (fun rec_3 (v4_1 : Int) (M_2 : ZB) =>
    if (nm v4_1) < 147 then (
      rd (M_2.2 16) 147 (a2 + v4_1) fun x_4 =>
      ix 147 (a4 + v4_1) <| lt (M_2.1, ua M_2.2 12 (up (M_2.2 12) (Int.toNat (a4 + v4_1)) x_4)) fun M_5 =>
      rec_3 (v4_1 + 1) M_5)
    else (
      some M_2)) 0 M
def fM_copy_live_now (M : ZB) (a2 : Int) (a4 : Int) : Option (ZB) :=
  lop2 FU (fun rec_3 (v4_1 : Int) (M_2 : ZB) =>
    if (nm v4_1) < 147 then (
      rd (M_2.2 17) 147 (a2 + v4_1) fun x_4 =>
      ix 147 (a4 + v4_1) <| lt (M_2.1, ua M_2.2 12 (up (M_2.2 12) (Int.toNat (a4 + v4_1)) x_4)) fun M_5 =>
      rec_3 (v4_1 + 1) M_5)
    else (
      some M_2)) 0 M
def fM_stay (M : ZB) : Option (ZB) :=
  bd (fM_copy_now_live M 0 0) fun u_1 =>
  bd (fM_copy_before_now u_1 0 0) fun u_2 =>
  bd (fM_snap u_2) fun u_3 =>
  bd (fM_copy_live_now u_3 0 0) fun u_4 =>
  some u_4
def fM_places (M : ZB) (a1 : Int) : Option (Int × ZB) :=
  bd (fM_isLoose M a1) fun u_1 =>
  kf1 (fun (M_2 : ZB) =>
    some (0, M_2)) fun k_3 =>
  if (nm u_1) = 0 then (
    k_3 M)
  else (
    bd (fM_laysChain M a1) fun u_4 =>
    if (nm u_4.1) = 0 then (
      k_3 u_4.2)
    else (
      bd (fM_exchange u_4.2) fun u_5 =>
      some (1, u_5)))
def fM_pack (M : ZB) : Option (Int × ZB) :=
  lt (up M.1 0 (0), M.2) fun M_1 =>
  bd (fM_copy_now_before M_1 0 0) fun u_2 =>
  lop3 FU (fun rec_6 (v1_3 : Int) (v2_4 : Int) (M_5 : ZB) =>
    bd (fM_lines M_5) fun u_7 =>
    if (nm v2_4) < (nm u_7) then (
      bd (fM_places M_5 v2_4) fun u_11 =>
      kf1 (fun (v1_12 : Int) =>
        rec_6 v1_12 (v2_4 + 1) u_11.2) fun k_13 =>
      if (nm u_11.1) = 0 then (
        k_13 v1_3)
      else (
        k_13 (v1_3 + 1)))
    else (
      kf1 (fun (M_8 : ZB) =>
        some (v1_3, M_8)) fun k_9 =>
      if 0 < (nm v1_3) then (
        bd (fM_stay M_5) fun u_10 =>
        k_9 u_10)
      else (
        k_9 M_5))) 0 0 u_2
def fM_tradeOf (M : ZB) (a1 : Int) (a2 : Int) : Option (Int) :=
  bd (fM_lies M a1) fun u_1 =>
  kf0 (some (-1)) fun k_2 =>
  if (nm u_1) = (-1) then (
    k_2)
  else (
    if (nm u_1) = (nm a2) then (
      k_2)
    else (
      bd (fM_inForest M a2) fun u_3 =>
      bd (fM_bits u_3) fun u_4 =>
      bd (fM_points M) fun u_5 =>
      if (nm u_4) = (nm (u_5 - 1)) then (
        bd (fM_inForest M u_1) fun u_6 =>
        bd (fM_bits u_6) fun u_7 =>
        bd (fM_points M) fun u_8 =>
        if (nm u_7) = (nm (u_8 - 1)) then (
          lop1 FU (fun rec_10 (v4_9 : Int) =>
            bd (fM_lines M) fun u_11 =>
            if (nm v4_9) < (nm u_11) then (
              bd (fM_lies M v4_9) fun u_12 =>
              kf0 (rec_10 (v4_9 + 1)) fun k_13 =>
              if (nm u_12) = (nm a2) then (
                bd (fM_inForest M u_1) fun u_14 =>
                lt (zand u_14 (zxor (zshl 1 a1) (-1))) fun v5_15 =>
                bd (fM_inForest M a2) fun u_16 =>
                lt (zand u_16 (zxor (zshl 1 v4_9) (-1))) fun v6_17 =>
                bd (fM_ringIn M v4_9 v5_15) fun u_18 =>
                if (nm u_18) = 0 then (
                  bd (fM_ringIn M a1 v6_17) fun u_19 =>
                  if (nm u_19) = 0 then (
                    some v4_9)
                  else (
                    k_13))
                else (
                  k_13))
              else (
                k_13))
            else (
              some (-1))) 0)
        else (
          k_2))
      else (
        k_2)))
def fM_trades (M : ZB) (a1 : Int) (a2 : Int) : Option (ZB) :=
  bd (fM_lies M a1) fun u_1 =>
  bd (fM_lies M a2) fun u_2 =>
  ix 147 (75 + a1) <| lt (M.1, ua M.2 12 (up (M.2 12) (Int.toNat (75 + a1)) u_2)) fun M_3 =>
  ix 147 (75 + a2) <| lt (M_3.1, ua M_3.2 12 (up (M_3.2 12) (Int.toNat (75 + a2)) u_1)) fun M_4 =>
  some M_4
def fM_trade (M : ZB) (a1 : Int) (a2 : Int) : Option (Int × ZB) :=
  lt (up M.1 0 (0), M.2) fun M_1 =>
  bd (fM_isLine M_1 a1) fun u_2 =>
  kf0 (some ((-1), M_1)) fun k_3 =>
  if (nm u_2) = 0 then (
    k_3)
  else (
    bd (fM_isForest M_1 a2) fun u_4 =>
    if (nm u_4) = 0 then (
      k_3)
    else (
      bd (fM_tradeOf M_1 a1 a2) fun u_5 =>
      if (nm u_5) = (-1) then (
        some ((-1), M_1))
      else (
        bd (fM_snap M_1) fun u_6 =>
        bd (fM_trades u_6 a1 u_5) fun u_7 =>
        some (u_5, u_7))))
def fM_flips (M : ZB) (a1 : Int) : Option (ZB) :=
  rd (M.2 12) 147 (99 + a1) fun x_1 =>
  ix 147 (99 + a1) <| lt (M.1, ua M.2 12 (up (M.2 12) (Int.toNat (99 + a1)) (1 - x_1))) fun M_2 =>
  ix 147 (75 + a1) <| lt (M_2.1, ua M_2.2 12 (up (M_2.2 12) (Int.toNat (75 + a1)) (-1))) fun M_3 =>
  some M_3
def fM_flipsIf (M : ZB) (a1 : Int) (a2 : Int) : Option (Int × ZB) :=
  lt (up M.1 0 (0), M.2) fun M_1 =>
  bd (fM_isLine M_1 a1) fun u_2 =>
  if (nm u_2) = 0 then (
    some ((-1), M_1))
  else (
    bd (fM_isBroken M_1 a1) fun u_3 =>
    if (nm u_3) = (nm a2) then (
      bd (fM_snap M_1) fun u_4 =>
      bd (fM_flips u_4 a1) fun u_5 =>
      some (0, u_5))
    else (
      some (1, M_1)))
def fM_breaks (M : ZB) (a1 : Int) : Option (Int × ZB) :=
  bd (fM_flipsIf M a1 0) fun u_1 =>
  some (u_1.1, u_1.2)
def fM_mend (M : ZB) (a1 : Int) : Option (Int × ZB) :=
  bd (fM_flipsIf M a1 1) fun u_1 =>
  some (u_1.1, u_1.2)
def fM_weigh (M : ZB) (a1 : Int) (a2 : Int) : Option (Int × ZB) :=
  lt (up M.1 0 (0), M.2) fun M_1 =>
  bd (fM_isLine M_1 a1) fun u_2 =>
  kf0 (some ((-1), M_1)) fun k_3 =>
  if (nm u_2) = 0 then (
    k_3)
  else (
    bd (fM_isIn a2 1 99) fun u_4 =>
    if (nm u_4) = 0 then (
      k_3)
    else (
      rd (M_1.2 12) 147 (51 + a1) fun x_5 =>
      if (nm x_5) = (nm a2) then (
        some (1, M_1))
      else (
        bd (fM_snap M_1) fun u_6 =>
        ix 147 (51 + a1) <| lt (u_6.1, ua u_6.2 12 (up (u_6.2 12) (Int.toNat (51 + a1)) a2)) fun M_7 =>
        some (0, M_7))))
def fM_outOf (M : ZB) (a1 : Int) : Option (Int) :=
  rd (M.2 12) 147 (123 + a1) fun x_1 =>
  kf1 (fun (w1_2 : Int) =>
    rd (M.2 12) 147 (w1_2 + a1) fun x_4 =>
    some x_4) fun k_3 =>
  if (nm x_1) = 1 then (
    k_3 27)
  else (
    k_3 3)
def fM_turn (M : ZB) (a1 : Int) : Option (Int × ZB) :=
  lt (up M.1 0 (0), M.2) fun M_1 =>
  bd (fM_isLine M_1 a1) fun u_2 =>
  if (nm u_2) = 0 then (
    some ((-1), M_1))
  else (
    bd (fM_snap M_1) fun u_3 =>
    rd (u_3.2 12) 147 (123 + a1) fun x_4 =>
    ix 147 (123 + a1) <| lt (u_3.1, ua u_3.2 12 (up (u_3.2 12) (Int.toNat (123 + a1)) (1 - x_4))) fun M_5 =>
    bd (fM_outOf M_5 a1) fun u_6 =>
    some (u_6, M_5))
def fM_isPoint (M : ZB) (a1 : Int) : Option (Int) :=
  bd (fM_points M) fun u_1 =>
  bd (fM_isIn a1 0 (u_1 - 1)) fun u_2 =>
  zo u_2 <| some u_2
def fM_loadOf (M : ZB) (a1 : Int) : Option (Int) :=
  lop2 FU (fun rec_3 (v2_1 : Int) (v3_2 : Int) =>
    bd (fM_lines M) fun u_4 =>
    if (nm v3_2) < (nm u_4) then (
      bd (fM_isBroken M v3_2) fun u_5 =>
      kf1 (fun (v2_6 : Int) =>
        rec_3 v2_6 (v3_2 + 1)) fun k_7 =>
      if (nm u_5) = 0 then (
        bd (fM_outOf M v3_2) fun u_8 =>
        if (nm u_8) = (nm a1) then (
          k_7 (v2_1 + 1))
        else (
          k_7 v2_1))
      else (
        k_7 v2_1))
    else (
      some v2_1)) 0 0
def fM_load (M : ZB) (a1 : Int) : Option (Int × ZB) :=
  lt (up M.1 0 (0), M.2) fun M_1 =>
  bd (fM_isPoint M_1 a1) fun u_2 =>
  kf1 (fun (w0_3 : Int) =>
    some (w0_3, M_1)) fun k_4 =>
  if (nm u_2) = 0 then (
    k_4 (-1))
  else (
    bd (fM_loadOf M_1 a1) fun u_5 =>
    k_4 u_5)
def fM_towards (M : ZB) (a1 : Int) : Option (Int) :=
  rd (M.2 12) 147 (123 + a1) fun x_1 =>
  kf1 (fun (w1_2 : Int) =>
    rd (M.2 12) 147 (w1_2 + a1) fun x_4 =>
    some x_4) fun k_3 =>
  if (nm x_1) = 1 then (
    k_3 3)
  else (
    k_3 27)
def fM_ease (M : ZB) : Option (Int × ZB) :=
  lt (up M.1 0 (0), M.2) fun M_1 =>
  bd (fM_points M_1) fun u_2 =>
  if (nm u_2) = 0 then (
    some (0, M_1))
  else (
    lop2 FU (fun rec_5 (v1_3 : Int) (v2_4 : Int) =>
      bd (fM_points M_1) fun u_6 =>
      if (nm v2_4) < (nm u_6) then (
        bd (fM_loadOf M_1 v2_4) fun u_52 =>
        bd (fM_loadOf M_1 v1_3) fun u_53 =>
        kf1 (fun (v1_54 : Int) =>
          rec_5 v1_54 (v2_4 + 1)) fun k_55 =>
        if (nm u_53) < (nm u_52) then (
          k_55 v2_4)
        else (
          k_55 v1_3))
      else (
        lop2 FU (fun rec_9 (v2_7 : Int) (M_8 : ZB) =>
          bd (fM_points M_8) fun u_10 =>
          if (nm v2_7) < (nm u_10) then (
            bd (fM_loadOf M_8 v2_7) fun u_47 =>
            bd (fM_loadOf M_8 v1_3) fun u_48 =>
            kf1 (fun (w2_49 : Int) =>
              ix 10 v2_7 <| lt (M_8.1, ua M_8.2 30 (up (M_8.2 30) (Int.toNat v2_7) w2_49)) fun M_51 =>
              rec_9 (v2_7 + 1) M_51) fun k_50 =>
            if (nm (u_48 - 2)) < (nm u_47) then (
              k_50 1000)
            else (
              k_50 0))
          else (
            lop2 FU (fun rec_13 (v2_11 : Int) (M_12 : ZB) =>
              bd (fM_points M_12) fun u_14 =>
              if (nm v2_11) < (nm u_14) then (
                lop2 FU (fun rec_34 (v3_32 : Int) (M_33 : ZB) =>
                  bd (fM_lines M_33) fun u_35 =>
                  if (nm v3_32) < (nm u_35) then (
                    bd (fM_isBroken M_33 v3_32) fun u_36 =>
                    kf1 (fun (M_37 : ZB) =>
                      rec_34 (v3_32 + 1) M_37) fun k_38 =>
                    if (nm u_36) = 0 then (
                      bd (fM_towards M_33 v3_32) fun u_39 =>
                      rd (M_33.2 30) 10 u_39 fun x_40 =>
                      bd (fM_outOf M_33 v3_32) fun u_41 =>
                      rd (M_33.2 30) 10 u_41 fun x_42 =>
                      if (nm (x_40 + 1)) < (nm x_42) then (
                        bd (fM_outOf M_33 v3_32) fun u_43 =>
                        bd (fM_towards M_33 v3_32) fun u_44 =>
                        rd (M_33.2 30) 10 u_44 fun x_45 =>
                        ix 10 u_43 <| lt (M_33.1, ua M_33.2 30 (up (M_33.2 30) (Int.toNat u_43) (x_45 + 1))) fun M_46 =>
                        k_38 M_46)
                      else (
                        k_38 M_33))
                    else (
                      k_38 M_33))
                  else (
                    rec_13 (v2_11 + 1) M_33)) 0 M_12)
              else (
                rd (M_12.2 30) 10 v1_3 fun x_15 =>
                if (nm x_15) < 1000 then (
                  bd (fM_snap M_12) fun u_16 =>
                  rd (u_16.2 30) 10 v1_3 fun x_17 =>
                  lop3 FU (fun rec_21 (v3_18 : Int) (v4_19 : Int) (M_20 : ZB) =>
                    if 0 < (nm v4_19) then (
                      lop1 FU (fun rec_23 (v5_22 : Int) =>
                        bd (fM_isBroken M_20 v5_22) fun u_24 =>
                        kf0 (rec_23 (v5_22 + 1)) fun k_25 =>
                        if (nm u_24) = 0 then (
                          bd (fM_outOf M_20 v5_22) fun u_26 =>
                          if (nm u_26) = (nm v3_18) then (
                            bd (fM_towards M_20 v5_22) fun u_27 =>
                            rd (M_20.2 30) 10 u_27 fun x_28 =>
                            if (nm x_28) = (nm (v4_19 - 1)) then (
                              bd (fM_towards M_20 v5_22) fun u_29 =>
                              rd (M_20.2 12) 147 (123 + v5_22) fun x_30 =>
                              ix 147 (123 + v5_22) <| lt (M_20.1, ua M_20.2 12 (up (M_20.2 12) (Int.toNat (123 + v5_22)) (1 - x_30))) fun M_31 =>
                              rec_21 u_29 (v4_19 + (-1)) M_31)
                            else (
                              k_25))
                          else (
                            k_25))
                        else (
                          k_25)) 0)
                    else (
                      some (x_17, M_20))) v1_3 x_17 u_16)
                else (
                  some (0, M_12)))) 0 M_8)) 0 M_1)) 0 1)
def fM_treeOf (M : ZB) (a1 : Int) : Option (Int) :=
  bd (fM_inForest M a1) fun u_1 =>
  rd (M.2 33) 2 0 fun x_2 =>
  rd (M.2 33) 2 1 fun x_3 =>
  some (zor (zand u_1 (zxor x_2 (-1))) x_3)
def fM_answerTo (M : ZB) (a1 : Int) : Option (Int) :=
  bd (fM_lies M a1) fun u_1 =>
  bd (fM_treeOf M u_1) fun u_2 =>
  lt (zand u_2 (zxor (zshl 1 a1) (-1))) fun v2_3 =>
  rd (M.2 12) 147 (3 + a1) fun x_4 =>
  bd (fM_joined M x_4 v2_3) fun u_5 =>
  lop1 FU (fun rec_7 (v4_6 : Int) =>
    bd (fM_lines M) fun u_8 =>
    if (nm v4_6) < (nm u_8) then (
      bd (fM_lies M v4_6) fun u_9 =>
      bd (fM_lies M a1) fun u_10 =>
      kf0 (rec_7 (v4_6 + 1)) fun k_11 =>
      if (nm u_9) = (nm (1 - u_10)) then (
        rd (M.2 33) 2 0 fun x_12 =>
        rd (M.2 33) 2 1 fun x_13 =>
        bd (fM_has (zor x_12 x_13) v4_6) fun u_14 =>
        if (nm u_14) = 0 then (
          rd (M.2 12) 147 (3 + v4_6) fun x_15 =>
          bd (fM_has u_5 x_15) fun u_16 =>
          rd (M.2 12) 147 (27 + v4_6) fun x_17 =>
          bd (fM_has u_5 x_17) fun u_18 =>
          if (nm u_16) = (nm u_18) then (
            k_11)
          else (
            some v4_6))
        else (
          k_11))
      else (
        k_11))
    else (
      some (-1))) 0
def fM_game (M : ZB) : Option (Int × ZB) :=
  lt (up M.1 0 (0), M.2) fun M_1 =>
  lt (up M_1.1 2 (0), M_1.2) fun M_2 =>
  bd (fM_points M_2) fun u_3 =>
  kf0 (some ((-1), M_2)) fun k_4 =>
  if (nm u_3) < 2 then (
    k_4)
  else (
    bd (fM_many M_2) fun u_5 =>
    if (nm u_5) < 2 then (
      k_4)
    else (
      bd (fM_inForest M_2 0) fun u_6 =>
      bd (fM_bits u_6) fun u_7 =>
      bd (fM_points M_2) fun u_8 =>
      if (nm u_7) = (nm (u_8 - 1)) then (
        bd (fM_inForest M_2 1) fun u_9 =>
        bd (fM_bits u_9) fun u_10 =>
        bd (fM_points M_2) fun u_11 =>
        if (nm u_10) = (nm (u_11 - 1)) then (
          ix 2 0 <| lt (M_2.1, ua M_2.2 33 (up (M_2.2 33) (Int.toNat 0) 0)) fun M_12 =>
          ix 2 1 <| lt (M_12.1, ua M_12.2 33 (up (M_12.2 33) (Int.toNat 1) 0)) fun M_13 =>
          lt (up M_13.1 32 (0), M_13.2) fun M_14 =>
          lop2 FU (fun rec_17 (v2_15 : Int) (M_16 : ZB) =>
            kf0 (some ((M_16.1 32), M_16)) fun k_18 =>
            if (nm v2_15) < (nm (M_1.1 2)) then (
              rd (M_16.2 1) 640 v2_15 fun x_19 =>
              bd (fM_lines M_16) fun u_20 =>
              if (nm x_19) < (nm u_20) then (
                bd (fM_lies M_16 x_19) fun u_21 =>
                if (nm u_21) = (-1) then (
                  k_18)
                else (
                  bd (fM_lies M_16 x_19) fun u_22 =>
                  if 1 < (nm u_22) then (
                    k_18)
                  else (
                    rd (M_16.2 33) 2 0 fun x_23 =>
                    rd (M_16.2 33) 2 1 fun x_24 =>
                    bd (fM_has (zor x_23 x_24) x_19) fun u_25 =>
                    if (nm u_25) = 0 then (
                      bd (fM_answerTo M_16 x_19) fun u_26 =>
                      rd (M_16.2 33) 2 0 fun x_27 =>
                      ix 2 0 <| lt (M_16.1, ua M_16.2 33 (up (M_16.2 33) (Int.toNat 0) (zor x_27 (zshl 1 x_19)))) fun M_28 =>
                      kf1 (fun (M_29 : ZB) =>
                        ix 24 (M_29.1 32) <| lt (M_29.1, ua M_29.2 31 (up (M_29.2 31) (Int.toNat (M_29.1 32)) u_26)) fun M_31 =>
                        lt (up M_31.1 32 (((M_31.1 32) + 1)), M_31.2) fun M_32 =>
                        rec_17 (v2_15 + 1) M_32) fun k_30 =>
                      if (nm u_26) = (-1) then (
                        k_30 M_28)
                      else (
                        rd (M_28.2 33) 2 1 fun x_33 =>
                        ix 2 1 <| lt (M_28.1, ua M_28.2 33 (up (M_28.2 33) (Int.toNat 1) (zor x_33 (zshl 1 u_26)))) fun M_34 =>
                        k_30 M_34))
                    else (
                      k_18))))
              else (
                k_18))
            else (
              k_18)) 0 M_14)
        else (
          k_4))
      else (
        k_4)))
def fM_keptAt (M : ZB) (a1 : Int) : Option (Int × ZB) :=
  lt (up M.1 0 (0), M.2) fun M_1 =>
  bd (fM_isIn a1 0 ((M_1.1 32) - 1)) fun u_2 =>
  kf1 (fun (w0_3 : Int) =>
    some (w0_3, M_1)) fun k_4 =>
  if (nm u_2) = 0 then (
    k_4 (-1))
  else (
    rd (M_1.2 31) 24 a1 fun x_5 =>
    k_4 x_5)
def fM_copy_snaps_now (M : ZB) (a2 : Int) (a4 : Int) : Option (ZB) :=
  lop2 FU (fun rec_3 (v4_1 : Int) (M_2 : ZB) =>
    if (nm v4_1) < 147 then (
      rd (M_2.2 15) 1176 (a2 + v4_1) fun x_4 =>
      ix 147 (a4 + v4_1) <| lt (M_2.1, ua M_2.2 12 (up (M_2.2 12) (Int.toNat (a4 + v4_1)) x_4)) fun M_5 =>
      rec_3 (v4_1 + 1) M_5)
    else (
      some M_2)) 0 M
def fM_undo (M : ZB) : Option (Int × ZB) :=
  lt (up M.1 0 (0), M.2) fun M_1 =>
  if (nm (M_1.1 20)) = 0 then (
    some ((-1), M_1))
  else (
    lt (up M_1.1 20 (((M_1.1 20) - 1)), M_1.2) fun M_2 =>
    bd (fM_copy_snaps_now M_2 (147 * (M_2.1 20)) 0) fun u_3 =>
    some ((u_3.1 20), u_3))
def fM_isCount (a1 : Int) : Option (Int) :=
  bd (fM_isIn a1 0 24) fun u_1 =>
  zo u_1 <| some u_1
def fM_inner (M : ZB) (a1 : Int) (a2 : Int) : Option (Int) :=
  lop2 FU (fun rec_3 (v3_1 : Int) (v4_2 : Int) =>
    bd (fM_lines M) fun u_4 =>
    if (nm v4_2) < (nm u_4) then (
      bd (fM_has a2 v4_2) fun u_5 =>
      kf1 (fun (v3_6 : Int) =>
        rec_3 v3_6 (v4_2 + 1)) fun k_7 =>
      if (nm u_5) = 0 then (
        k_7 v3_1)
      else (
        bd (fM_ends M v4_2) fun u_8 =>
        if (zand u_8 (zxor a1 (-1))) = 0 then (
          k_7 (v3_1 + 1))
        else (
          k_7 v3_1)))
    else (
      some v3_1)) 0 0
def fM_canJoin (M : ZB) (a1 : Int) (a2 : Int) (a3 : Int) : Option (Int) :=
  lop1 FU (fun rec_2 (v4_1 : Int) =>
    bd (fM_points M) fun u_3 =>
    if (nm v4_1) < (zshl 1 u_3) then (
      bd (fM_ends M a1) fun u_4 =>
      kf0 (rec_2 (v4_1 + 1)) fun k_5 =>
      if (zand u_4 (zxor v4_1 (-1))) = 0 then (
        bd (fM_inner M v4_1 (zor a2 (zshl 1 a1))) fun u_6 =>
        bd (fM_bits v4_1) fun u_7 =>
        if (nm (a3 * (u_7 - 1))) < (nm u_6) then (
          some 0)
        else (
          k_5))
      else (
        k_5))
    else (
      some 1)) 1
def fM_chosen (M : ZB) (a1 : Int) (a2 : Int) : Option (Int) :=
  lop2 FU (fun rec_3 (v3_1 : Int) (v4_2 : Int) =>
    bd (fM_lines M) fun u_4 =>
    if (nm v4_2) < (nm u_4) then (
      bd (fM_has a1 v4_2) fun u_5 =>
      kf1 (fun (v3_6 : Int) =>
        rec_3 v3_6 (v4_2 + 1)) fun k_7 =>
      if (nm u_5) = 0 then (
        k_7 v3_1)
      else (
        bd (fM_canJoin M v4_2 v3_1 a2) fun u_8 =>
        if (nm u_8) = 0 then (
          k_7 v3_1)
        else (
          lt (zor v3_1 (zshl 1 v4_2)) fun v3_9 =>
          k_7 v3_9)))
    else (
      some v3_1)) 0 0
def fM_most (M : ZB) (a1 : Int) : Option (Int × ZB) :=
  lt (up M.1 0 (0), M.2) fun M_1 =>
  bd (fM_isCount a1) fun u_2 =>
  kf1 (fun (w0_3 : Int) =>
    some (w0_3, M_1)) fun k_4 =>
  if (nm u_2) = 0 then (
    k_4 (-1))
  else (
    bd (fM_sound M_1) fun u_5 =>
    bd (fM_chosen M_1 u_5 a1) fun u_6 =>
    bd (fM_bits u_6) fun u_7 =>
    k_4 u_7)
def fM_canLie (M : ZB) (a1 : Int) (a2 : Int) : Option (Int) :=
  lop1 FU (fun rec_2 (v3_1 : Int) =>
    bd (fM_points M) fun u_3 =>
    if (nm v3_1) < (zshl 1 u_3) then (
      bd (fM_inner M v3_1 a1) fun u_4 =>
      bd (fM_bits v3_1) fun u_5 =>
      if (nm (a2 * (u_5 - 1))) < (nm u_4) then (
        some 0)
      else (
        rec_2 (v3_1 + 1)))
    else (
      some 1)) 1
def fM_fewest (M : ZB) : Option (Int × ZB) :=
  lt (up M.1 0 (0), M.2) fun M_1 =>
  lop1 FU (fun rec_3 (v1_2 : Int) =>
    bd (fM_sound M_1) fun u_4 =>
    bd (fM_canLie M_1 u_4 v1_2) fun u_5 =>
    if (nm u_5) = 0 then (
      rec_3 (v1_2 + 1))
    else (
      some (v1_2, M_1))) 0
def fM_trees (M : ZB) : Option (Int × ZB) :=
  lt (up M.1 0 (0), M.2) fun M_1 =>
  bd (fM_points M_1) fun u_2 =>
  if (nm u_2) < 2 then (
    some ((-1), M_1))
  else (
    lop1 FU (fun rec_4 (v1_3 : Int) =>
      bd (fM_sound M_1) fun u_5 =>
      bd (fM_chosen M_1 u_5 (v1_3 + 1)) fun u_6 =>
      bd (fM_bits u_6) fun u_7 =>
      bd (fM_points M_1) fun u_8 =>
      if (nm u_7) = (nm ((v1_3 + 1) * (u_8 - 1))) then (
        rec_4 (v1_3 + 1))
      else (
        some (v1_3, M_1))) 0)
def fM_standAlone (M : ZB) : Option (ZB) :=
  lop2 FU (fun rec_3 (v1_1 : Int) (M_2 : ZB) =>
    if (nm v1_1) < 10 then (
      ix 10 v1_1 <| lt (M_2.1, ua M_2.2 35 (up (M_2.2 35) (Int.toNat v1_1) v1_1)) fun M_4 =>
      rec_3 (v1_1 + 1) M_4)
    else (
      some M_2)) 0 M
def fM_laysThick (M : ZB) (a1 : Int) (a2 : Int) : Option (ZB) :=
  ix 3 0 <| lt (M.1, ua M.2 34 (up (M.2 34) (Int.toNat 0) 0)) fun M_1 =>
  ix 3 1 <| lt (M_1.1, ua M_1.2 34 (up (M_1.2 34) (Int.toNat 1) 0)) fun M_2 =>
  ix 3 2 <| lt (M_2.1, ua M_2.2 34 (up (M_2.2 34) (Int.toNat 2) 0)) fun M_3 =>
  lop2 FU (fun rec_6 (v3_4 : Int) (M_5 : ZB) =>
    if (nm v3_4) < 1024 then (
      kf1 (fun (M_7 : ZB) =>
        rec_6 (v3_4 + 1) M_7) fun k_8 =>
      if (zand v3_4 (zxor a1 (-1))) = 0 then (
        bd (fM_bits v3_4) fun u_9 =>
        if (nm u_9) < 2 then (
          k_8 M_5)
        else (
          lop2 FU (fun rec_12 (v4_10 : Int) (v5_11 : Int) =>
            bd (fM_lines M_5) fun u_13 =>
            if (nm v5_11) < (nm u_13) then (
              bd (fM_has a2 v5_11) fun u_28 =>
              kf1 (fun (v4_29 : Int) =>
                rec_12 v4_29 (v5_11 + 1)) fun k_30 =>
              if (nm u_28) = 0 then (
                k_30 v4_10)
              else (
                rd (M_5.2 12) 147 (3 + v5_11) fun x_31 =>
                rd (M_5.2 35) 10 x_31 fun x_32 =>
                bd (fM_has v3_4 x_32) fun u_33 =>
                if (nm u_33) = 0 then (
                  k_30 v4_10)
                else (
                  rd (M_5.2 12) 147 (27 + v5_11) fun x_34 =>
                  rd (M_5.2 35) 10 x_34 fun x_35 =>
                  bd (fM_has v3_4 x_35) fun u_36 =>
                  if (nm u_36) = 0 then (
                    k_30 v4_10)
                  else (
                    k_30 (v4_10 + 1)))))
            else (
              bd (fM_bits v3_4) fun u_14 =>
              lt (u_14 - 1) fun v5_15 =>
              rd (M_5.2 34) 3 1 fun x_16 =>
              kf1 (fun (w0_17 : Int) =>
                if (nm w0_17) < 0 then (
                  k_8 M_5)
                else (
                  kf0 (ix 3 0 <| lt (M_5.1, ua M_5.2 34 (up (M_5.2 34) (Int.toNat 0) v4_10)) fun M_20 =>
                  ix 3 1 <| lt (M_20.1, ua M_20.2 34 (up (M_20.2 34) (Int.toNat 1) v5_15)) fun M_21 =>
                  ix 3 2 <| lt (M_21.1, ua M_21.2 34 (up (M_21.2 34) (Int.toNat 2) v3_4)) fun M_22 =>
                  k_8 M_22) fun k_19 =>
                  if (nm w0_17) = 0 then (
                    bd (fM_bits v3_4) fun u_23 =>
                    rd (M_5.2 34) 3 2 fun x_24 =>
                    bd (fM_bits x_24) fun u_25 =>
                    if (nm u_23) < (nm u_25) then (
                      k_19)
                    else (
                      k_8 M_5))
                  else (
                    k_19))) fun k_18 =>
              if (nm x_16) = 0 then (
                k_18 1)
              else (
                rd (M_5.2 34) 3 1 fun x_26 =>
                rd (M_5.2 34) 3 0 fun x_27 =>
                k_18 ((v4_10 * x_26) - (x_27 * v5_15))))) 0 0))
      else (
        k_8 M_5))
    else (
      some M_5)) 1 M_3
def fM_divisor : Nat → Int → Int → Option (Int)
  | 0 => fun _ _ => none
  | n + 1 => fun a1 a2 =>
    kf1 (fun (w0_1 : Int) =>
      some w0_1) fun k_2 =>
    if (nm a2) = 0 then (
      k_2 a1)
    else (
      nz a2 <|
      bd (fM_divisor n a2 (zrem a1 a2)) fun u_3 =>
      k_2 u_3)
def fM_part (a1 : Int) (a2 : Int) (a3 : Int) : Option (Int) :=
  bd (fM_divisor 60 a1 a2) fun u_1 =>
  kf1 (fun (w0_2 : Int) =>
    some w0_2) fun k_3 =>
  if (nm a1) = 0 then (
    k_3 a3)
  else (
    kf1 (fun (w0_4 : Int) =>
      nz u_1 <|
      k_3 (zdiv w0_4 u_1)) fun k_5 =>
    if (nm a3) = 0 then (
      k_5 a1)
    else (
      k_5 a2))
def fM_thick (M : ZB) (a1 : Int) : Option (Int × ZB) :=
  lt (up M.1 0 (0), M.2) fun M_1 =>
  bd (fM_points M_1) fun u_2 =>
  kf0 (some ((-1), M_1)) fun k_3 =>
  if (nm u_2) < 2 then (
    k_3)
  else (
    bd (fM_isIn a1 0 2) fun u_4 =>
    if (nm u_4) = 0 then (
      k_3)
    else (
      bd (fM_standAlone M_1) fun u_5 =>
      bd (fM_points u_5) fun u_6 =>
      bd (fM_sound u_5) fun u_7 =>
      bd (fM_laysThick u_5 ((zshl 1 u_6) - 1) u_7) fun u_8 =>
      kf1 (fun (w0_9 : Int) =>
        some (w0_9, u_8)) fun k_10 =>
      if (nm a1) = 2 then (
        rd (u_8.2 34) 3 2 fun x_14 =>
        k_10 x_14)
      else (
        rd (u_8.2 34) 3 0 fun x_11 =>
        rd (u_8.2 34) 3 1 fun x_12 =>
        bd (fM_part x_11 x_12 a1) fun u_13 =>
        k_10 u_13)))
def fM_crowded (M : ZB) (a1 : Int) : Option (Int × ZB) :=
  lt (up M.1 0 (0), M.2) fun M_1 =>
  bd (fM_isCount a1) fun u_2 =>
  if (nm u_2) = 0 then (
    some ((-1), M_1))
  else (
    lop3 FU (fun rec_6 (v2_3 : Int) (v3_4 : Int) (v4_5 : Int) =>
      bd (fM_points M_1) fun u_7 =>
      if (nm v4_5) < (zshl 1 u_7) then (
        bd (fM_bits v4_5) fun u_8 =>
        kf2 (fun (v2_9 : Int) (v3_10 : Int) =>
          rec_6 v2_9 v3_10 (v4_5 + 1)) fun k_11 =>
        if (nm u_8) < 2 then (
          k_11 v2_3 v3_4)
        else (
          bd (fM_sound M_1) fun u_12 =>
          bd (fM_inner M_1 v4_5 u_12) fun u_13 =>
          bd (fM_bits v4_5) fun u_14 =>
          lt (u_13 - (a1 * (u_14 - 1))) fun v5_15 =>
          if (nm v5_15) < (nm v3_4) then (
            k_11 v2_3 v3_4)
          else (
            kf0 (k_11 v4_5 v5_15) fun k_16 =>
            if (nm v5_15) = (nm v3_4) then (
              if (nm v2_3) = 0 then (
                k_11 v2_3 v3_4)
              else (
                bd (fM_bits v4_5) fun u_17 =>
                bd (fM_bits v2_3) fun u_18 =>
                if (nm u_17) < (nm u_18) then (
                  k_16)
                else (
                  k_11 v2_3 v3_4)))
            else (
              k_16))))
      else (
        some (v2_3, M_1))) 0 0 1)
def fM_even (M : ZB) : Option (Int × ZB) :=
  lt (up M.1 0 (0), M.2) fun M_1 =>
  lop2 FU (fun rec_4 (v1_2 : Int) (v2_3 : Int) =>
    bd (fM_points M_1) fun u_5 =>
    if (nm v2_3) < (zshl 1 u_5) then (
      bd (fM_sound M_1) fun u_6 =>
      bd (fM_inner M_1 v2_3 u_6) fun u_7 =>
      bd (fM_bits v2_3) fun u_8 =>
      bd (fM_bits v2_3) fun u_9 =>
      nz u_9 <|
      lt (zdiv ((u_7 + u_8) - 1) u_9) fun v3_10 =>
      kf1 (fun (v1_11 : Int) =>
        rec_4 v1_11 (v2_3 + 1)) fun k_12 =>
      if (nm v1_2) < (nm v3_10) then (
        k_12 v3_10)
      else (
        k_12 v1_2))
    else (
      some (v1_2, M_1))) 0 1
def fM_vital (M : ZB) : Option (Int × ZB) :=
  lt (up M.1 0 (0), M.2) fun M_1 =>
  bd (fM_sound M_1) fun u_2 =>
  bd (fM_many M_1) fun u_3 =>
  bd (fM_chosen M_1 u_2 u_3) fun u_4 =>
  bd (fM_bits u_4) fun u_5 =>
  lop2 FU (fun rec_8 (v3_6 : Int) (v4_7 : Int) =>
    bd (fM_lines M_1) fun u_9 =>
    if (nm v4_7) < (nm u_9) then (
      bd (fM_has u_2 v4_7) fun u_10 =>
      kf1 (fun (v3_11 : Int) =>
        rec_8 v3_11 (v4_7 + 1)) fun k_12 =>
      if (nm u_10) = 0 then (
        k_12 v3_6)
      else (
        bd (fM_many M_1) fun u_13 =>
        bd (fM_chosen M_1 (zand u_2 (zxor (zshl 1 v4_7) (-1))) u_13) fun u_14 =>
        bd (fM_bits u_14) fun u_15 =>
        if (nm u_15) < (nm u_5) then (
          lt (zor v3_6 (zshl 1 v4_7)) fun v3_16 =>
          k_12 v3_16)
        else (
          k_12 v3_6)))
    else (
      some (v3_6, M_1))) 0 0
def fM_isLatest (M : ZB) (a1 : Int) (a2 : Int) : Option (Int) :=
  bd (fM_ends M a1) fun u_1 =>
  bd (fM_has u_1 a2) fun u_2 =>
  kf1 (fun (w0_3 : Int) =>
    zo w0_3 <| some w0_3) fun k_4 =>
  kf0 (k_4 0) fun k_5 =>
  if (nm u_2) = 0 then (
    k_5)
  else (
    bd (fM_ends M a1) fun u_6 =>
    if (nm u_6) < (zshl 2 a2) then (
      k_4 1)
    else (
      k_5))
def fM_parts : Nat → ZB → Int → Int → Int → Option (ZB)
  | 0 => fun _ _ _ _ => none
  | n + 1 => fun M a1 a2 a3 =>
    bd (fM_points M) fun u_1 =>
    if (nm a1) = (nm u_1) then (
      if (nm a2) < 2 then (
        some M)
      else (
        kf1 (fun (w0_21 : Int) =>
          kf0 (some M) fun k_23 =>
          if 0 < (nm w0_21) then (
            k_23)
          else (
            kf0 (lt (up M.1 37 (a3), M.2) fun M_25 =>
            lt (up M_25.1 38 (a2), M_25.2) fun M_26 =>
            some M_26) fun k_24 =>
            if (nm w0_21) = 0 then (
              if (nm a2) < (nm (M.1 38)) then (
                k_24)
              else (
                k_23))
            else (
              k_24))) fun k_22 =>
        if (nm (M.1 38)) = 0 then (
          k_22 (-1))
        else (
          k_22 ((a3 * ((M.1 38) - 1)) - ((M.1 37) * (a2 - 1))))))
    else (
      lop2 FU (fun rec_4 (v4_2 : Int) (M_3 : ZB) =>
        if (nm a2) < (nm v4_2) then (
          some M_3)
        else (
          ix 10 a1 <| lt (M_3.1, ua M_3.2 36 (up (M_3.2 36) (Int.toNat a1) v4_2)) fun M_5 =>
          lop2 FU (fun rec_8 (v5_6 : Int) (v6_7 : Int) =>
            bd (fM_lines M_5) fun u_9 =>
            if (nm v6_7) < (nm u_9) then (
              bd (fM_isBroken M_5 v6_7) fun u_13 =>
              kf1 (fun (v5_14 : Int) =>
                rec_8 v5_14 (v6_7 + 1)) fun k_15 =>
              if (nm u_13) = 0 then (
                bd (fM_isLatest M_5 v6_7 a1) fun u_16 =>
                if (nm u_16) = 0 then (
                  k_15 v5_6)
                else (
                  rd (M_5.2 12) 147 (3 + v6_7) fun x_17 =>
                  rd (M_5.2 36) 10 x_17 fun x_18 =>
                  rd (M_5.2 12) 147 (27 + v6_7) fun x_19 =>
                  rd (M_5.2 36) 10 x_19 fun x_20 =>
                  if (nm x_18) = (nm x_20) then (
                    k_15 v5_6)
                  else (
                    k_15 (v5_6 + 1))))
              else (
                k_15 v5_6))
            else (
              kf1 (fun (w2_10 : Int) =>
                bd (fM_parts n M_5 (a1 + 1) w2_10 (a3 + v5_6)) fun u_12 =>
                rec_4 (v4_2 + 1) u_12) fun k_11 =>
              if (nm v4_2) = (nm a2) then (
                k_11 (a2 + 1))
              else (
                k_11 a2))) 0 0)) 0 M)
def fM_strength (M : ZB) (a1 : Int) : Option (Int × ZB) :=
  lt (up M.1 0 (0), M.2) fun M_1 =>
  bd (fM_points M_1) fun u_2 =>
  kf0 (some ((-1), M_1)) fun k_3 =>
  if (nm u_2) < 2 then (
    k_3)
  else (
    bd (fM_isIn a1 0 2) fun u_4 =>
    if (nm u_4) = 0 then (
      k_3)
    else (
      lt (up M_1.1 38 (0), M_1.2) fun M_5 =>
      lt (up M_5.1 37 (0), M_5.2) fun M_6 =>
      bd (fM_parts 20 M_6 0 0 0) fun u_7 =>
      kf1 (fun (w0_8 : Int) =>
        some (w0_8, u_7)) fun k_9 =>
      if (nm a1) = 2 then (
        k_9 (u_7.1 38))
      else (
        bd (fM_part (u_7.1 37) ((u_7.1 38) - 1) a1) fun u_10 =>
        k_9 u_10)))
def fM_rootedBy (M : ZB) (a1 : Int) (a2 : Int) : Option (Int) :=
  lop2 FU (fun rec_3 (v3_1 : Int) (v4_2 : Int) =>
    bd (fM_points M) fun u_4 =>
    if (nm v4_2) < (zshl 1 u_4) then (
      bd (fM_has v4_2 a1) fun u_5 =>
      kf1 (fun (v3_6 : Int) =>
        rec_3 v3_6 (v4_2 + 1)) fun k_7 =>
      if (nm u_5) = 0 then (
        lop2 FU (fun rec_10 (v5_8 : Int) (v6_9 : Int) =>
          bd (fM_lines M) fun u_11 =>
          if (nm v6_9) < (nm u_11) then (
            bd (fM_has a2 v6_9) fun u_12 =>
            kf1 (fun (v5_13 : Int) =>
              rec_10 v5_13 (v6_9 + 1)) fun k_14 =>
            if (nm u_12) = 0 then (
              k_14 v5_8)
            else (
              bd (fM_outOf M v6_9) fun u_15 =>
              bd (fM_has v4_2 u_15) fun u_16 =>
              if (nm u_16) = 0 then (
                bd (fM_towards M v6_9) fun u_17 =>
                bd (fM_has v4_2 u_17) fun u_18 =>
                if (nm u_18) = 0 then (
                  k_14 v5_8)
                else (
                  k_14 (v5_8 + 1)))
              else (
                k_14 v5_8)))
          else (
            if (nm v5_8) < (nm v3_1) then (
              k_7 v5_8)
            else (
              k_7 v3_1))) 0 0)
      else (
        k_7 v3_1))
    else (
      some v3_1)) 1000 1
def fM_rooted (M : ZB) (a1 : Int) : Option (Int × ZB) :=
  lt (up M.1 0 (0), M.2) fun M_1 =>
  bd (fM_isPoint M_1 a1) fun u_2 =>
  kf1 (fun (w0_3 : Int) =>
    some (w0_3, M_1)) fun k_4 =>
  kf0 (k_4 (-1)) fun k_5 =>
  if (nm u_2) = 0 then (
    k_5)
  else (
    bd (fM_points M_1) fun u_6 =>
    if 1 < (nm u_6) then (
      bd (fM_sound M_1) fun u_7 =>
      bd (fM_rootedBy M_1 a1 u_7) fun u_8 =>
      k_4 u_8)
    else (
      k_5))
def fM_treeFrom (M : ZB) (a1 : Int) (a2 : Int) (a3 : Int) : Option (Int) :=
  lt (zshl 1 a1) fun v4_1 =>
  lop2 FU (fun rec_4 (v4_2 : Int) (v5_3 : Int) =>
    bd (fM_points M) fun u_5 =>
    if (nm v4_2) = (nm ((zshl 1 u_5) - 1)) then (
      some v5_3)
    else (
      lop1 FU (fun rec_7 (v6_6 : Int) =>
        bd (fM_has (zand a2 (zxor v5_3 (-1))) v6_6) fun u_8 =>
        kf0 (rec_7 (v6_6 + 1)) fun k_9 =>
        if (nm u_8) = 0 then (
          k_9)
        else (
          bd (fM_outOf M v6_6) fun u_10 =>
          bd (fM_has v4_2 u_10) fun u_11 =>
          if (nm u_11) = 0 then (
            k_9)
          else (
            bd (fM_towards M v6_6) fun u_12 =>
            bd (fM_has v4_2 u_12) fun u_13 =>
            if (nm u_13) = 0 then (
              kf0 (lt (zor v5_3 (zshl 1 v6_6)) fun v5_15 =>
              bd (fM_ends M v6_6) fun u_16 =>
              lt (zor v4_2 u_16) fun v4_17 =>
              rec_4 v4_17 v5_15) fun k_14 =>
              if 0 < (nm a3) then (
                bd (fM_rootedBy M a1 (zand (zand a2 (zxor v5_3 (-1))) (zxor (zshl 1 v6_6) (-1)))) fun u_18 =>
                if (nm u_18) < (nm a3) then (
                  k_9)
                else (
                  k_14))
              else (
                k_14))
            else (
              k_9)))) 0)) v4_1 0
def fM_outTree (M : ZB) (a1 : Int) (a2 : Int) : Option (Int × ZB) :=
  lt (up M.1 0 (0), M.2) fun M_1 =>
  bd (fM_isPoint M_1 a1) fun u_2 =>
  kf0 (some ((-1), M_1)) fun k_3 =>
  if (nm u_2) = 0 then (
    k_3)
  else (
    bd (fM_points M_1) fun u_4 =>
    if (nm u_4) < 2 then (
      k_3)
    else (
      bd (fM_sound M_1) fun u_5 =>
      bd (fM_rootedBy M_1 a1 u_5) fun u_6 =>
      bd (fM_isIn a2 0 (u_6 - 1)) fun u_7 =>
      if (nm u_7) = 0 then (
        some ((-1), M_1))
      else (
        lop3 FU (fun rec_11 (v3_8 : Int) (v5_9 : Int) (v6_10 : Int) =>
          if (nm a2) < (nm v6_10) then (
            some (v5_9, M_1))
          else (
            bd (fM_treeFrom M_1 a1 v3_8 ((u_6 - 1) - v6_10)) fun u_12 =>
            lt (zand v3_8 (zxor u_12 (-1))) fun v3_13 =>
            rec_11 v3_13 u_12 (v6_10 + 1))) u_5 0 0)))
def fM_laysLayers (M : ZB) : Option (ZB) :=
  bd (fM_standAlone M) fun u_1 =>
  lt (up u_1.1 40 (0), u_1.2) fun M_2 =>
  bd (fM_points M_2) fun u_3 =>
  lt ((zshl 1 u_3) - 1) fun v1_4 =>
  bd (fM_sound M_2) fun u_5 =>
  lop3 FU (fun rec_9 (v1_6 : Int) (v2_7 : Int) (M_8 : ZB) =>
    if (nm v2_7) = 0 then (
      some M_8)
    else (
      bd (fM_laysThick M_8 v1_6 v2_7) fun u_10 =>
      lop1 FU (fun rec_12 (v3_11 : Int) =>
        rd (u_10.2 34) 3 2 fun x_13 =>
        bd (fM_has x_13 v3_11) fun u_14 =>
        if (nm u_14) = 0 then (
          rec_12 (v3_11 + 1))
        else (
          lop2 FU (fun rec_17 (v4_15 : Int) (v5_16 : Int) =>
            bd (fM_points u_10) fun u_18 =>
            if (nm v5_16) < (nm u_18) then (
              rd (u_10.2 34) 3 2 fun x_45 =>
              rd (u_10.2 35) 10 v5_16 fun x_46 =>
              bd (fM_has x_45 x_46) fun u_47 =>
              kf1 (fun (v4_48 : Int) =>
                rec_17 v4_48 (v5_16 + 1)) fun k_49 =>
              if (nm u_47) = 0 then (
                k_49 v4_15)
              else (
                lt (zor v4_15 (zshl 1 v5_16)) fun v4_50 =>
                k_49 v4_50))
            else (
              lop2 FU (fun rec_21 (v5_19 : Int) (M_20 : ZB) =>
                bd (fM_points M_20) fun u_22 =>
                if (nm v5_19) < (nm u_22) then (
                  bd (fM_has v4_15 v5_19) fun u_41 =>
                  kf1 (fun (M_42 : ZB) =>
                    rec_21 (v5_19 + 1) M_42) fun k_43 =>
                  if (nm u_41) = 0 then (
                    k_43 M_20)
                  else (
                    ix 10 v5_19 <| lt (M_20.1, ua M_20.2 35 (up (M_20.2 35) (Int.toNat v5_19) v3_11)) fun M_44 =>
                    k_43 M_44))
                else (
                  rd (M_20.2 34) 3 0 fun x_23 =>
                  ix 30 (3 * (M_20.1 40)) <| lt (M_20.1, ua M_20.2 39 (up (M_20.2 39) (Int.toNat (3 * (M_20.1 40))) x_23)) fun M_24 =>
                  rd (M_24.2 34) 3 1 fun x_25 =>
                  ix 30 ((3 * (M_24.1 40)) + 1) <| lt (M_24.1, ua M_24.2 39 (up (M_24.2 39) (Int.toNat ((3 * (M_24.1 40)) + 1)) x_25)) fun M_26 =>
                  ix 30 ((3 * (M_26.1 40)) + 2) <| lt (M_26.1, ua M_26.2 39 (up (M_26.2 39) (Int.toNat ((3 * (M_26.1 40)) + 2)) v4_15)) fun M_27 =>
                  lt (up M_27.1 40 (((M_27.1 40) + 1)), M_27.2) fun M_28 =>
                  lt (zor (zand v1_6 (zxor v4_15 (-1))) (zshl 1 v3_11)) fun v1_29 =>
                  lop2 FU (fun rec_32 (v2_30 : Int) (v5_31 : Int) =>
                    bd (fM_lines M_28) fun u_33 =>
                    if (nm v5_31) < (nm u_33) then (
                      rd (M_28.2 12) 147 (3 + v5_31) fun x_34 =>
                      rd (M_28.2 35) 10 x_34 fun x_35 =>
                      rd (M_28.2 12) 147 (27 + v5_31) fun x_36 =>
                      rd (M_28.2 35) 10 x_36 fun x_37 =>
                      kf1 (fun (v2_38 : Int) =>
                        rec_32 v2_38 (v5_31 + 1)) fun k_39 =>
                      if (nm x_35) = (nm x_37) then (
                        lt (zand v2_30 (zxor (zshl 1 v5_31) (-1))) fun v2_40 =>
                        k_39 v2_40)
                      else (
                        k_39 v2_30))
                    else (
                      rec_9 v1_29 v2_30 M_28)) v2_7 0)) 0 u_10)) 0 0)) 0)) v1_4 u_5 M_2
def fM_layers (M : ZB) : Option (Int × ZB) :=
  lt (up M.1 0 (0), M.2) fun M_1 =>
  bd (fM_laysLayers M_1) fun u_2 =>
  some ((u_2.1 40), u_2)
def fM_layerAt (M : ZB) (a1 : Int) (a2 : Int) : Option (Int × ZB) :=
  lt (up M.1 0 (0), M.2) fun M_1 =>
  bd (fM_laysLayers M_1) fun u_2 =>
  bd (fM_isIn a1 0 ((u_2.1 40) - 1)) fun u_3 =>
  kf0 (some ((-1), u_2)) fun k_4 =>
  if (nm u_3) = 0 then (
    k_4)
  else (
    bd (fM_isIn a2 0 2) fun u_5 =>
    if (nm u_5) = 0 then (
      k_4)
    else (
      kf1 (fun (w0_6 : Int) =>
        some (w0_6, u_2)) fun k_7 =>
      if (nm a2) = 2 then (
        rd (u_2.2 39) 30 ((3 * a1) + 2) fun x_11 =>
        k_7 x_11)
      else (
        rd (u_2.2 39) 30 (3 * a1) fun x_8 =>
        rd (u_2.2 39) 30 ((3 * a1) + 1) fun x_9 =>
        bd (fM_part x_8 x_9 a2) fun u_10 =>
        k_7 u_10)))
def fM_lightest (M : ZB) (a1 : Int) : Option (Int) :=
  lop2 FU (fun rec_3 (v2_1 : Int) (v3_2 : Int) =>
    bd (fM_lines M) fun u_4 =>
    if (nm v3_2) < (nm u_4) then (
      bd (fM_has a1 v3_2) fun u_5 =>
      kf1 (fun (v2_6 : Int) =>
        rec_3 v2_6 (v3_2 + 1)) fun k_7 =>
      if (nm u_5) = 0 then (
        k_7 v2_1)
      else (
        kf0 (k_7 v3_2) fun k_8 =>
        if (nm v2_1) = (-1) then (
          k_8)
        else (
          rd (M.2 12) 147 (51 + v3_2) fun x_9 =>
          rd (M.2 12) 147 (51 + v2_1) fun x_10 =>
          if (nm x_9) < (nm x_10) then (
            k_8)
          else (
            k_7 v2_1))))
    else (
      some v2_1)) (-1) 0
def fM_light (M : ZB) (a1 : Int) (a2 : Int) : Option (Int × ZB) :=
  lt (up M.1 0 (0), M.2) fun M_1 =>
  bd (fM_isCount a1) fun u_2 =>
  kf0 (some ((-1), M_1)) fun k_3 =>
  if (nm u_2) = 0 then (
    k_3)
  else (
    bd (fM_isIn a2 0 1) fun u_4 =>
    if (nm u_4) = 0 then (
      k_3)
    else (
      bd (fM_sound M_1) fun u_5 =>
      lop3 FU (fun rec_9 (v3_6 : Int) (v4_7 : Int) (v5_8 : Int) =>
        if (nm v5_8) = 0 then (
          kf1 (fun (w0_10 : Int) =>
            some (w0_10, M_1)) fun k_11 =>
          if (nm a2) = 0 then (
            k_11 v4_7)
          else (
            k_11 v3_6))
        else (
          bd (fM_lightest M_1 v5_8) fun u_12 =>
          lt (zand v5_8 (zxor (zshl 1 u_12) (-1))) fun v5_13 =>
          bd (fM_canJoin M_1 u_12 v3_6 a1) fun u_14 =>
          if (nm u_14) = 0 then (
            rec_9 v3_6 v4_7 v5_13)
          else (
            lt (zor v3_6 (zshl 1 u_12)) fun v3_15 =>
            rd (M_1.2 12) 147 (51 + u_12) fun x_16 =>
            lt (v4_7 + x_16) fun v4_17 =>
            rec_9 v3_15 v4_17 v5_13))) 0 0 u_5))
def fM_draw (M : ZB) (a1 : Int) : Option (Int × ZB) :=
  lt (up M.1 41 ((((M.1 41) * 1103515245) + 12345)), M.2) fun M_1 =>
  nz a1 <|
  some ((zrem (zushr (M_1.1 41) 8) a1), M_1)
def fM_drawsOne (M : ZB) : Option (Int × ZB) :=
  bd (fM_draw M 6) fun u_1 =>
  bd (fM_lines u_1.2) fun u_2 =>
  bd (fM_draw u_1.2 u_2) fun u_3 =>
  if (nm u_1.1) = 0 then (
    bd (fM_places u_3.2 u_3.1) fun u_5 =>
    zo u_5.1 <| some (u_5.1, u_5.2))
  else (
    if (nm u_1.1) = 1 then (
      bd (fM_places u_3.2 u_3.1) fun u_7 =>
      zo u_7.1 <| some (u_7.1, u_7.2))
    else (
      if (nm u_1.1) = 2 then (
        bd (fM_lies u_3.2 u_3.1) fun u_9 =>
        kf1 (fun (w0_10 : Int) =>
          ix 147 (75 + u_3.1) <| lt (u_3.2.1, ua u_3.2.2 12 (up (u_3.2.2 12) (Int.toNat (75 + u_3.1)) (-1))) fun M_12 =>
          zo w0_10 <| some (w0_10, M_12)) fun k_11 =>
        if (nm u_9) = (-1) then (
          k_11 0)
        else (
          k_11 1))
      else (
        if (nm u_1.1) = 3 then (
          bd (fM_flips u_3.2 u_3.1) fun u_14 =>
          some (1, u_14))
        else (
          if (nm u_1.1) = 4 then (
            bd (fM_many u_3.2) fun u_16 =>
            bd (fM_draw u_3.2 u_16) fun u_17 =>
            bd (fM_whyNotPut u_17.2 u_3.1 u_17.1) fun u_18 =>
            if (nm u_18) = 0 then (
              ix 147 (75 + u_3.1) <| lt (u_17.2.1, ua u_17.2.2 12 (up (u_17.2.2 12) (Int.toNat (75 + u_3.1)) u_17.1)) fun M_19 =>
              some (1, M_19))
            else (
              some (0, u_17.2)))
          else (
            bd (fM_many u_3.2) fun u_20 =>
            bd (fM_draw u_3.2 u_20) fun u_21 =>
            bd (fM_tradeOf u_21.2 u_3.1 u_21.1) fun u_22 =>
            if (nm u_22) = (-1) then (
              some (0, u_21.2))
            else (
              bd (fM_trades u_21.2 u_3.1 u_22) fun u_23 =>
              some (1, u_23)))))))
def fM_drawn (M : ZB) (a1 : Int) (a2 : Int) : Option (Int × ZB) :=
  lt (up M.1 0 (0), M.2) fun M_1 =>
  bd (fM_isIn a1 1 60) fun u_2 =>
  if (nm u_2) = 0 then (
    some ((-1), M_1))
  else (
    bd (fM_copy_now_before M_1 0 0) fun u_3 =>
    lt (up u_3.1 41 (a2), u_3.2) fun M_4 =>
    lop3 FU (fun rec_8 (v3_5 : Int) (v4_6 : Int) (M_7 : ZB) =>
      kf0 (kf1 (fun (M_10 : ZB) =>
        some (v3_5, M_10)) fun k_11 =>
      if 0 < (nm v3_5) then (
        bd (fM_stay M_7) fun u_12 =>
        k_11 u_12)
      else (
        k_11 M_7)) fun k_9 =>
      if (nm v4_6) < (nm a1) then (
        bd (fM_lines M_7) fun u_13 =>
        if 0 < (nm u_13) then (
          bd (fM_drawsOne M_7) fun u_14 =>
          kf1 (fun (v3_15 : Int) =>
            rec_8 v3_15 (v4_6 + 1) u_14.2) fun k_16 =>
          if (nm u_14.1) = 0 then (
            k_16 v3_5)
          else (
            k_16 (v3_5 + 1)))
        else (
          k_9))
      else (
        k_9)) 0 0 M_4)
def fM_copy_now_kept (M : ZB) (a2 : Int) (a4 : Int) : Option (ZB) :=
  lop2 FU (fun rec_3 (v4_1 : Int) (M_2 : ZB) =>
    if (nm v4_1) < 147 then (
      rd (M_2.2 12) 147 (a2 + v4_1) fun x_4 =>
      ix 294 (a4 + v4_1) <| lt (M_2.1, ua M_2.2 14 (up (M_2.2 14) (Int.toNat (a4 + v4_1)) x_4)) fun M_5 =>
      rec_3 (v4_1 + 1) M_5)
    else (
      some M_2)) 0 M
def fM_image (M : ZB) (a1 : Int) : Option (Int × ZB) :=
  lt (up M.1 0 (0), M.2) fun M_1 =>
  bd (fM_isIn a1 0 1) fun u_2 =>
  if (nm u_2) = 0 then (
    some (0, M_1))
  else (
    bd (fM_copy_now_kept M_1 0 (147 * a1)) fun u_3 =>
    ix 2 a1 <| lt (u_3.1, ua u_3.2 19 (up (u_3.2 19) (Int.toNat a1) 1)) fun M_4 =>
    some (1, M_4))
def fM_copy_kept_now (M : ZB) (a2 : Int) (a4 : Int) : Option (ZB) :=
  lop2 FU (fun rec_3 (v4_1 : Int) (M_2 : ZB) =>
    if (nm v4_1) < 147 then (
      rd (M_2.2 14) 294 (a2 + v4_1) fun x_4 =>
      ix 147 (a4 + v4_1) <| lt (M_2.1, ua M_2.2 12 (up (M_2.2 12) (Int.toNat (a4 + v4_1)) x_4)) fun M_5 =>
      rec_3 (v4_1 + 1) M_5)
    else (
      some M_2)) 0 M
def fM_restore (M : ZB) (a1 : Int) : Option (Int × ZB) :=
  lt (up M.1 0 (0), M.2) fun M_1 =>
  bd (fM_isIn a1 0 1) fun u_2 =>
  kf0 (some (0, M_1)) fun k_3 =>
  if (nm u_2) = 0 then (
    k_3)
  else (
    rd (M_1.2 19) 2 a1 fun x_4 =>
    if (nm x_4) = 0 then (
      k_3)
    else (
      bd (fM_copy_kept_now M_1 (147 * a1) 0) fun u_5 =>
      lt (up u_5.1 20 (0), u_5.2) fun M_6 =>
      some (1, M_6)))
