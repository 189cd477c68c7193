-- needs: 07.fun
/-! the law over whole numbers, a program a method: written by program out of the bytecode (add and its by hand) -/
def zsc (xs : Nat → Int32) (j : Int) : Int := (xs j.toNat).toInt
def fX_lineN (N : ZB) (a1 : Int) (a2 : Int) : Option (Int) :=
  bd (fN_hasLine N a1) fun u_1 =>
  kf0 (none) fun k_2 =>
  if (nm u_1) = 0 then (
    k_2)
  else (
    if (nm a2) < 0 then (
      k_2)
    else (
      if 4 < (nm a2) then (
        k_2)
      else (
        if (nm a2) = 0 then (
          rd (N.2 0) 24 a1 fun x_4 =>
          some x_4)
        else (
          if (nm a2) = 1 then (
            rd (N.2 1) 24 a1 fun x_6 =>
            some x_6)
          else (
            if (nm a2) = 2 then (
              rd (N.2 2) 24 a1 fun x_8 =>
              some x_8)
            else (
              if (nm a2) = 3 then (
                rd (N.2 3) 24 a1 fun x_10 =>
                some x_10)
              else (
                bd (fN_isSound N a1) fun u_11 =>
                kf1 (fun (w0_12 : Int) =>
                  some w0_12) fun k_13 =>
                if (nm u_11) = 0 then (
                  k_13 1)
                else (
                  k_13 0))))))))
def fL_its (N : ZB) (a1 a2 a3 : Int) : Option Int :=
  if (nm a1) = 0 then fX_lineN N a2 a3 else none
def fL_itsT (N : ZB) (a1 a2 a3 : Int) : Option Int :=
  if (nm a1) = 0 then bd (fX_line N a2 a3) fun u => if u.1 = 1 then some (-777) else none else none
def fL_draw (La : ZB) (a2 : Int) : Option (Int × ZB) :=
  rd (La.2 2) 1 0 fun x_1 =>
  ix 1 0 <| lt (La.1, ua La.2 2 (up (La.2 2) (Int.toNat 0) ((x_1 * 1103515245) + 12345))) fun La_2 =>
  rd (La_2.2 2) 1 0 fun x_3 =>
  nz a2 <|
  some ((zrem (zushr x_3 8) a2), La_2)
def fL_put (La : ZB) (a2 : Int) (a3 : Int) : Option (Int × ZB) :=
  lt (24 - (8 * (zand a2 3))) fun v3_1 =>
  rd (La.2 0) 64 (zshr a2 2) fun x_2 =>
  ix 64 (zshr a2 2) <| lt (La.1, ua La.2 0 (up (La.2 0) (Int.toNat (zshr a2 2)) (zor (zand x_2 (zxor (zshl 255 v3_1) (-1))) (zshl (zand a3 255) v3_1)))) fun La_3 =>
  some ((a2 + 1), La_3)
/-- bytes of a word of the law, put one behind another -/
def fL_adds : List Int → ZB → Int → Option (Int × ZB)
  | [], La, n => some (n, La)
  | x :: xs, La, n => bd (fL_put La n x) fun u => fL_adds xs u.2 u.1
def fL_add3 (La : ZB) (a2 : Int) : Option (Int × ZB) := fL_adds [112, 111, 105, 110, 116, 32] La a2
def fL_add4 (La : ZB) (a2 : Int) : Option (Int × ZB) := fL_adds [108, 105, 110, 101, 32] La a2
def fL_add5 (La : ZB) (a2 : Int) : Option (Int × ZB) := fL_adds [102, 111, 114, 101, 115, 116, 115, 32] La a2
def fL_number (La : ZB) (a2 : Int) (a3 : Int) : Option (Int × ZB) :=
  kf2 (fun (v3_1 : Int) (La_2 : ZB) =>
    nz 10 <|
    bd (fL_put La_2 v3_1 (48 + (zrem a3 10))) fun u_4 =>
    some (u_4.1, u_4.2)) fun k_3 =>
  if 9 < (nm a3) then (
    nz 10 <|
    nz 10 <|
    bd (fL_put La a2 (48 + (zrem (zdiv a3 10) 10))) fun u_5 =>
    k_3 u_5.1 u_5.2)
  else (
    k_3 a2 La)
def fL_lies (T : ZB) (La : ZB) (a3 : Int) : Option (Int × ZB) :=
  bd (fX_end T 0) fun u_1 =>
  if (nm u_1.1) = 0 then (
    some (0, u_1.2))
  else (
    lop2 FU (fun rec_4 (v3_2 : Int) (T_3 : ZB) =>
      if (nm (4 * v3_2)) < (nm a3) then (
        rd (La.2 0) 64 v3_2 fun x_6 =>
        kf1 (fun (w2_7 : Int) =>
          kf2 (fun (w2_9 : Int) (w3_10 : Int) =>
            kf3 (fun (w2_12 : Int) (w3_13 : Int) (w4_14 : Int) =>
              kf4 (fun (w2_16 : Int) (w3_17 : Int) (w4_18 : Int) (w5_19 : Int) =>
                bd (fX_feed T_3 x_6 w2_16 w3_17 w4_18 w5_19) fun u_21 =>
                if (nm u_21.1) < 0 then (
                  some (0, u_21.2))
                else (
                  rec_4 (v3_2 + 5) u_21.2)) fun k_20 =>
              if (nm (v3_2 + 4)) < 64 then (
                rd (La.2 0) 64 (v3_2 + 4) fun x_22 =>
                k_20 w2_12 w3_13 w4_14 x_22)
              else (
                k_20 w2_12 w3_13 w4_14 0)) fun k_15 =>
            if (nm (v3_2 + 3)) < 64 then (
              rd (La.2 0) 64 (v3_2 + 3) fun x_23 =>
              k_15 w2_9 w3_10 x_23)
            else (
              k_15 w2_9 w3_10 0)) fun k_11 =>
          if (nm (v3_2 + 2)) < 64 then (
            rd (La.2 0) 64 (v3_2 + 2) fun x_24 =>
            k_11 w2_7 x_24)
          else (
            k_11 w2_7 0)) fun k_8 =>
        if (nm (v3_2 + 1)) < 64 then (
          rd (La.2 0) 64 (v3_2 + 1) fun x_25 =>
          k_8 x_25)
        else (
          k_8 0))
      else (
        bd (fX_end T_3 a3) fun u_5 =>
        zo u_5.1 <| some (u_5.1, u_5.2))) 0 u_1.2)
def fL_tells (N : ZB) (T : ZB) (Rd : ZB) (Fr : ZB) (Ac : ZA) (La : ZB) (a5 : Int) : Option (Int × ZB × ZB × ZB × ZB × ZA × ZB) :=
  bd (fL_draw La (a5 - 1)) fun u_1 =>
  ix 96 0 <| lt (u_1.2.1, ua u_1.2.2 1 (up (u_1.2.2 1) (Int.toNat 0) (2 + u_1.1))) fun La_2 =>
  bd (fL_draw La_2 15) fun u_3 =>
  ix 96 1 <| lt (u_3.2.1, ua u_3.2.2 1 (up (u_3.2.2 1) (Int.toNat 1) u_3.1)) fun La_4 =>
  bd (fL_draw La_4 4) fun u_5 =>
  ix 96 2 <| lt (u_5.2.1, ua u_5.2.2 1 (up (u_5.2.2 1) (Int.toNat 2) (1 + u_5.1))) fun La_6 =>
  lop3 FU (fun rec_10 (v5_7 : Int) (v6_8 : Int) (La_9 : ZB) =>
    rd (La_9.2 1) 96 0 fun x_11 =>
    if (nm v6_8) < (nm x_11) then (
      bd (fL_add3 La_9 v5_7) fun u_65 =>
      bd (fL_put u_65.2 u_65.1 (97 + v6_8)) fun u_66 =>
      bd (fL_put u_66.2 u_66.1 59) fun u_67 =>
      rec_10 u_67.1 (v6_8 + 1) u_67.2)
    else (
      lop3 FU (fun rec_15 (v5_12 : Int) (v6_13 : Int) (La_14 : ZB) =>
        rd (La_14.2 1) 96 1 fun x_16 =>
        if (nm v6_13) < (nm x_16) then (
          rd (La_14.2 1) 96 0 fun x_47 =>
          bd (fL_draw La_14 x_47) fun u_48 =>
          rd (u_48.2.2 1) 96 0 fun x_49 =>
          bd (fL_draw u_48.2 (x_49 - 1)) fun u_50 =>
          rd (u_50.2.2 1) 96 0 fun x_51 =>
          nz x_51 <|
          lt (zrem ((u_48.1 + 1) + u_50.1) x_51) fun v8_52 =>
          ix 96 (4 + v6_13) <| lt (u_50.2.1, ua u_50.2.2 1 (up (u_50.2.2 1) (Int.toNat (4 + v6_13)) u_48.1)) fun La_53 =>
          ix 96 (30 + v6_13) <| lt (La_53.1, ua La_53.2 1 (up (La_53.2 1) (Int.toNat (30 + v6_13)) v8_52)) fun La_54 =>
          bd (fL_draw La_54 30) fun u_55 =>
          ix 96 (56 + v6_13) <| lt (u_55.2.1, ua u_55.2.2 1 (up (u_55.2.2 1) (Int.toNat (56 + v6_13)) (1 + u_55.1))) fun La_56 =>
          bd (fL_add4 La_56 v5_12) fun u_57 =>
          bd (fL_put u_57.2 u_57.1 (97 + u_48.1)) fun u_58 =>
          bd (fL_put u_58.2 u_58.1 32) fun u_59 =>
          bd (fL_put u_59.2 u_59.1 (97 + v8_52)) fun u_60 =>
          bd (fL_put u_60.2 u_60.1 32) fun u_61 =>
          rd (u_61.2.2 1) 96 (56 + v6_13) fun x_62 =>
          bd (fL_number u_61.2 u_61.1 x_62) fun u_63 =>
          bd (fL_put u_63.2 u_63.1 59) fun u_64 =>
          rec_15 u_64.1 (v6_13 + 1) u_64.2)
        else (
          bd (fL_add5 La_14 v5_12) fun u_17 =>
          rd (u_17.2.2 1) 96 2 fun x_18 =>
          bd (fL_number u_17.2 u_17.1 x_18) fun u_19 =>
          bd (fL_put u_19.2 u_19.1 59) fun u_20 =>
          bd (fL_lies T u_20.2 u_20.1) fun u_21 =>
          kf6 (fun (w0_22 : Int) (N_23 : ZB) (T_24 : ZB) (Rd_25 : ZB) (Fr_26 : ZB) (Ac_27 : ZA) =>
            zo w0_22 <| some (w0_22, N_23, T_24, Rd_25, Fr_26, Ac_27, u_20.2)) fun k_28 =>
          kf5 (fun (N_29 : ZB) (T_30 : ZB) (Rd_31 : ZB) (Fr_32 : ZB) (Ac_33 : ZA) =>
            k_28 0 N_29 T_30 Rd_31 Fr_32 Ac_33) fun k_34 =>
          if (nm u_21.1) = 0 then (
            k_34 N u_21.2 Rd Fr Ac)
          else (
            bd (fX_net N u_21.2 Rd Fr Ac) fun u_35 =>
            rd (u_20.2.2 1) 96 0 fun x_36 =>
            rd (u_20.2.2 1) 96 1 fun x_37 =>
            if (nm u_35.1) = (nm ((x_36 + x_37) + 1)) then (
              bd (fX_fault u_35.2.2.2.1) fun u_38 =>
              if (nm u_38) = 0 then (
                bd (fX_now u_35.2.1 u_35.2.2.1 u_35.2.2.2.2.2 0) fun u_39 =>
                rd (u_20.2.2 1) 96 0 fun x_40 =>
                if (nm u_39) = (nm x_40) then (
                  bd (fX_now u_35.2.1 u_35.2.2.1 u_35.2.2.2.2.2 1) fun u_41 =>
                  rd (u_20.2.2 1) 96 1 fun x_42 =>
                  if (nm u_41) = (nm x_42) then (
                    bd (fX_now u_35.2.1 u_35.2.2.1 u_35.2.2.2.2.2 2) fun u_43 =>
                    rd (u_20.2.2 1) 96 2 fun x_44 =>
                    if (nm u_43) = (nm x_44) then (
                      rd (u_20.2.2 1) 96 1 fun x_45 =>
                      bd (fL_itsT u_35.2.1 0 x_45 0) fun u_46 =>
                      if (nm u_46) = (-777) then (
                        k_28 1 u_35.2.1 u_35.2.2.1 u_35.2.2.2.1 u_35.2.2.2.2.1 u_35.2.2.2.2.2)
                      else (
                        k_34 u_35.2.1 u_35.2.2.1 u_35.2.2.2.1 u_35.2.2.2.2.1 u_35.2.2.2.2.2))
                    else (
                      k_34 u_35.2.1 u_35.2.2.1 u_35.2.2.2.1 u_35.2.2.2.2.1 u_35.2.2.2.2.2))
                  else (
                    k_34 u_35.2.1 u_35.2.2.1 u_35.2.2.2.1 u_35.2.2.2.2.1 u_35.2.2.2.2.2))
                else (
                  k_34 u_35.2.1 u_35.2.2.1 u_35.2.2.2.1 u_35.2.2.2.2.1 u_35.2.2.2.2.2))
              else (
                k_34 u_35.2.1 u_35.2.2.1 u_35.2.2.2.1 u_35.2.2.2.2.1 u_35.2.2.2.2.2))
            else (
              k_34 u_35.2.1 u_35.2.2.1 u_35.2.2.2.1 u_35.2.2.2.2.1 u_35.2.2.2.2.2)))) v5_7 0 La_9)) 0 0 La_6
def fL_sound (N : ZB) (La : ZB) : Option (Int) :=
  lop2 FU (fun rec_3 (v2_1 : Int) (v3_2 : Int) =>
    rd (La.2 1) 96 1 fun x_4 =>
    if (nm v3_2) < (nm x_4) then (
      bd (fL_its N 0 v3_2 4) fun u_5 =>
      kf1 (fun (v2_6 : Int) =>
        rec_3 v2_6 (v3_2 + 1)) fun k_7 =>
      if (nm u_5) = 0 then (
        lt (zor v2_1 (zshl 1 v3_2)) fun v2_8 =>
        k_7 v2_8)
      else (
        k_7 v2_1))
    else (
      some v2_1)) 0 0
def fL_bits (a1 : Int) : Option (Int) :=
  lop2 FU (fun rec_3 (v1_1 : Int) (v2_2 : Int) =>
    if (nm v2_2) < 24 then (
      lt (v1_1 + (zand (zshr a1 v2_2) 1)) fun v1_4 =>
      rec_3 v1_4 (v2_2 + 1))
    else (
      some v1_1)) 0 0
def fL_has (a1 : Int) (a2 : Int) : Option (Int) :=
  kf1 (fun (w0_1 : Int) =>
    zo w0_1 <| some w0_1) fun k_2 =>
  if (zand (zshr a1 a2) 1) = 1 then (
    k_2 1)
  else (
    k_2 0)
def fL_ends (La : ZB) (a2 : Int) : Option (Int) :=
  rd (La.2 1) 96 (4 + a2) fun x_1 =>
  rd (La.2 1) 96 (30 + a2) fun x_2 =>
  some (zor (zshl 1 x_1) (zshl 1 x_2))
def fL_inner (La : ZB) (a2 : Int) (a3 : Int) : Option (Int) :=
  lop2 FU (fun rec_3 (v3_1 : Int) (v4_2 : Int) =>
    rd (La.2 1) 96 1 fun x_4 =>
    if (nm v4_2) < (nm x_4) then (
      bd (fL_has a3 v4_2) fun u_5 =>
      kf1 (fun (v3_6 : Int) =>
        rec_3 v3_6 (v4_2 + 1)) fun k_7 =>
      if (nm u_5) = 0 then (
        k_7 v3_1)
      else (
        bd (fL_ends La v4_2) fun u_8 =>
        if (zand u_8 (zxor a2 (-1))) = 0 then (
          k_7 (v3_1 + 1))
        else (
          k_7 v3_1)))
    else (
      some v3_1)) 0 0
def fL_agree (N : ZB) (PS : ZB) (Pa : ZQ) (La : ZB) : Option (Int × ZB × ZQ) :=
  bd (fL_sound N La) fun u_1 =>
  bd (fX_fewest N PS) fun u_2 =>
  bd (fX_most N u_2.2 u_2.1) fun u_3 =>
  bd (fL_bits u_1) fun u_4 =>
  kf1 (fun (PS_5 : ZB) =>
    some (0, PS_5, Pa)) fun k_6 =>
  if (nm u_3.1) = (nm u_4) then (
    kf1 (fun (PS_7 : ZB) =>
      bd (fX_thick N PS_7 0) fun u_9 =>
      bd (fX_thick N u_9.2 1) fun u_10 =>
      bd (fX_thick N u_10.2 2) fun u_11 =>
      kf0 (some (0, u_11.2, Pa)) fun k_12 =>
      if (nm u_10.1) < 1 then (
        k_12)
      else (
        nz u_10.1 <|
        if (zdiv ((u_9.1 + u_10.1) - 1) u_10.1) = (nm u_2.1) then (
          bd (fL_inner La u_11.1 u_1) fun u_13 =>
          bd (fL_bits u_11.1) fun u_14 =>
          if (nm (u_13 * u_10.1)) = (nm (u_9.1 * (u_14 - 1))) then (
            lop1 FU (fun rec_16 (v7_15 : Int) =>
              rd (La.2 1) 96 0 fun x_17 =>
              if (nm v7_15) < (zshl 1 x_17) then (
                bd (fL_bits v7_15) fun u_44 =>
                kf0 (rec_16 (v7_15 + 1)) fun k_45 =>
                if 1 < (nm u_44) then (
                  bd (fL_inner La v7_15 u_1) fun u_46 =>
                  bd (fL_bits v7_15) fun u_47 =>
                  if (nm (u_9.1 * (u_47 - 1))) < (nm (u_46 * u_10.1)) then (
                    some (0, u_11.2, Pa))
                  else (
                    k_45))
                else (
                  k_45))
              else (
                bd (fX_trees N u_11.2) fun u_18 =>
                bd (fX_strength N u_18.2 Pa 1) fun u_19 =>
                kf2 (fun (PS_20 : ZB) (Pa_21 : ZQ) =>
                  some (0, PS_20, Pa_21)) fun k_22 =>
                if (nm u_19.1) < 1 then (
                  k_22 u_19.2.1 u_19.2.2)
                else (
                  bd (fX_strength N u_19.2.1 u_19.2.2 0) fun u_23 =>
                  bd (fX_strength N u_23.2.1 u_23.2.2 1) fun u_24 =>
                  nz u_24.1 <|
                  if (zdiv u_23.1 u_24.1) = (nm u_18.1) then (
                    bd (fX_most N u_24.2.1 u_18.1) fun u_25 =>
                    rd (La.2 1) 96 0 fun x_26 =>
                    if (nm u_25.1) = (nm (u_18.1 * (x_26 - 1))) then (
                      bd (fX_most N u_25.2 (u_18.1 + 1)) fun u_27 =>
                      rd (La.2 1) 96 0 fun x_28 =>
                      if (nm u_27.1) < (nm ((u_18.1 + 1) * (x_28 - 1))) then (
                        lop2 FU (fun rec_31 (v8_29 : Int) (PS_30 : ZB) =>
                          if (nm v8_29) < 4 then (
                            bd (fX_crowded N PS_30 v8_29) fun u_32 =>
                            kf1 (fun (w0_33 : Int) =>
                              bd (fX_most N u_32.2 v8_29) fun u_35 =>
                              bd (fL_bits u_1) fun u_36 =>
                              kf2 (fun (w0_37 : Int) (w1_38 : Int) =>
                                kf0 (some (0, u_35.2, u_24.2.2)) fun k_40 =>
                                if (nm w0_37) = (nm w1_38) then (
                                  kf0 (rec_31 (v8_29 + 1) u_35.2) fun k_41 =>
                                  if (nm u_32.1) = 0 then (
                                    k_41)
                                  else (
                                    bd (fL_inner La u_32.1 u_1) fun u_42 =>
                                    bd (fL_bits u_32.1) fun u_43 =>
                                    if (nm (v8_29 * (u_43 - 1))) < (nm u_42) then (
                                      k_41)
                                    else (
                                      k_40)))
                                else (
                                  k_40)) fun k_39 =>
                              if (nm u_35.1) = (nm u_36) then (
                                k_39 w0_33 1)
                              else (
                                k_39 w0_33 0)) fun k_34 =>
                            if (nm u_32.1) = 0 then (
                              k_34 1)
                            else (
                              k_34 0))
                          else (
                            some (1, PS_30, u_24.2.2))) 0 u_27.2)
                      else (
                        k_22 u_27.2 u_24.2.2))
                    else (
                      k_22 u_25.2 u_24.2.2))
                  else (
                    k_22 u_24.2.1 u_24.2.2)))) 1)
          else (
            k_12))
        else (
          k_12))) fun k_8 =>
    if 0 < (nm u_2.1) then (
      bd (fX_most N u_3.2 (u_2.1 - 1)) fun u_48 =>
      bd (fL_bits u_1) fun u_49 =>
      if (nm u_48.1) < (nm u_49) then (
        k_8 u_48.2)
      else (
        k_6 u_48.2))
    else (
      k_8 u_3.2))
  else (
    k_6 u_3.2)
def fL_joined (La : ZB) (a2 : Int) (a3 : Int) : Option (Int) :=
  lt (zshl 1 a2) fun v3_1 =>
  lop2 FU (fun rec_4 (v3_2 : Int) (v4_3 : Int) =>
    rd (La.2 1) 96 0 fun x_5 =>
    if (nm v4_3) < (nm x_5) then (
      lop2 FU (fun rec_8 (v3_6 : Int) (v5_7 : Int) =>
        rd (La.2 1) 96 1 fun x_9 =>
        if (nm v5_7) < (nm x_9) then (
          bd (fL_has a3 v5_7) fun u_10 =>
          kf1 (fun (v3_11 : Int) =>
            rec_8 v3_11 (v5_7 + 1)) fun k_12 =>
          if (nm u_10) = 0 then (
            k_12 v3_6)
          else (
            bd (fL_ends La v5_7) fun u_13 =>
            if (zand u_13 v3_6) = 0 then (
              k_12 v3_6)
            else (
              bd (fL_ends La v5_7) fun u_14 =>
              lt (zor v3_6 u_14) fun v3_15 =>
              k_12 v3_15)))
        else (
          rec_4 v3_6 (v4_3 + 1))) v3_2 0)
    else (
      some v3_2)) v3_1 0
def fL_pieces (La : ZB) (a2 : Int) : Option (Int) :=
  rd (La.2 1) 96 0 fun x_1 =>
  lt ((zshl 1 x_1) - 1) fun v2_2 =>
  lop3 FU (fun rec_6 (v2_3 : Int) (v3_4 : Int) (v4_5 : Int) =>
    rd (La.2 1) 96 0 fun x_7 =>
    if (nm v4_5) < (nm x_7) then (
      bd (fL_has v2_3 v4_5) fun u_8 =>
      kf2 (fun (v2_9 : Int) (v3_10 : Int) =>
        rec_6 v2_9 v3_10 (v4_5 + 1)) fun k_11 =>
      if (nm u_8) = 0 then (
        k_11 v2_3 v3_4)
      else (
        bd (fL_joined La v4_5 a2) fun u_12 =>
        lt (zand v2_3 (zxor u_12 (-1))) fun v2_13 =>
        k_11 v2_13 (v3_4 + 1)))
    else (
      some v3_4)) v2_2 0 0
def fL_isForest (La : ZB) (a2 : Int) : Option (Int) :=
  bd (fL_pieces La a2) fun u_1 =>
  rd (La.2 1) 96 0 fun x_2 =>
  bd (fL_bits a2) fun u_3 =>
  kf1 (fun (w0_4 : Int) =>
    zo w0_4 <| some w0_4) fun k_5 =>
  if (nm u_1) = (nm (x_2 - u_3)) then (
    k_5 1)
  else (
    k_5 0)
def fL_lying (N : ZB) (T : ZB) (Ac : ZA) (La : ZB) : Option (Int) :=
  lop2 FU (fun rec_3 (v2_1 : Int) (v3_2 : Int) =>
    bd (fX_now N T Ac 2) fun u_4 =>
    if (nm v3_2) < (nm u_4) then (
      bd (fX_forest N v3_2) fun u_11 =>
      kf0 (some (-1)) fun k_12 =>
      if (nm u_11) < 0 then (
        k_12)
      else (
        rd (La.2 1) 96 1 fun x_13 =>
        if (zshr u_11 x_13) = 0 then (
          if (zand u_11 v2_1) = 0 then (
            bd (fL_isForest La u_11) fun u_14 =>
            if (nm u_14) = 0 then (
              k_12)
            else (
              lop1 FU (fun rec_16 (v5_15 : Int) =>
                rd (La.2 1) 96 1 fun x_17 =>
                if (nm v5_15) < (nm x_17) then (
                  bd (fL_has u_11 v5_15) fun u_19 =>
                  kf0 (rec_16 (v5_15 + 1)) fun k_20 =>
                  if (nm u_19) = 0 then (
                    k_20)
                  else (
                    bd (fL_its N 0 v5_15 3) fun u_21 =>
                    if (nm u_21) = (nm v3_2) then (
                      k_20)
                    else (
                      some (-1))))
                else (
                  lt (zor v2_1 u_11) fun v2_18 =>
                  rec_3 v2_18 (v3_2 + 1))) 0))
          else (
            k_12))
        else (
          k_12)))
    else (
      bd (fL_sound N La) fun u_5 =>
      kf1 (fun (w0_6 : Int) =>
        some w0_6) fun k_7 =>
      kf0 (k_7 (-1)) fun k_8 =>
      if (zand v2_1 (zxor u_5 (-1))) = 0 then (
        bd (fX_now N T Ac 4) fun u_9 =>
        bd (fL_bits v2_1) fun u_10 =>
        if (nm u_9) = (nm u_10) then (
          k_7 v2_1)
        else (
          k_8))
      else (
        k_8))) 0 0
def fL_placed (N : ZB) (T : ZB) (Ac : ZA) (Ch : ZB) (La : ZB) (a3 : Int) : Option (Int × ZB × ZA × ZB) :=
  bd (fL_lying N T Ac La) fun u_1 =>
  bd (fX_chain N Ch a3) fun u_2 =>
  bd (fL_sound N La) fun u_3 =>
  bd (fL_has u_3 a3) fun u_4 =>
  kf1 (fun (w0_5 : Int) =>
    kf1 (fun (w0_7 : Int) =>
      kf2 (fun (w0_9 : Int) (w1_10 : Int) =>
        kf3 (fun (N_12 : ZB) (Ac_13 : ZA) (Ch_14 : ZB) =>
          some (0, N_12, Ac_13, Ch_14)) fun k_15 =>
        if (nm w0_9) = (nm w1_10) then (
          bd (fX_place N Ac u_2.2 a3) fun u_16 =>
          if (nm u_16.1) = (nm u_2.1) then (
            bd (fL_lying u_16.2.1 T u_16.2.2.1 La) fun u_17 =>
            if 0 < (nm u_2.1) then (
              kf0 (some (0, u_16.2.1, u_16.2.2.1, u_16.2.2.2)) fun k_30 =>
              if (nm u_17) = (zor u_1 (zshl 1 a3)) then (
                bd (fX_chainAt u_16.2.2.2 0 0) fun u_31 =>
                if (nm u_31) = (nm a3) then (
                  bd (fX_chainAt u_16.2.2.2 u_2.1 0) fun u_32 =>
                  if (nm u_32) = (-1) then (
                    lop2 FU (fun rec_35 (v7_33 : Int) (v8_34 : Int) =>
                      if (nm v8_34) < (nm u_2.1) then (
                        bd (fX_chainAt u_16.2.2.2 v8_34 0) fun u_36 =>
                        kf0 (some (0, u_16.2.1, u_16.2.2.1, u_16.2.2.2)) fun k_37 =>
                        if (nm u_36) < 0 then (
                          k_37)
                        else (
                          rd (La.2 1) 96 1 fun x_38 =>
                          if (nm u_36) < (nm x_38) then (
                            bd (fL_has v7_33 u_36) fun u_39 =>
                            if (nm u_39) = 0 then (
                              bd (fL_its u_16.2.1 0 u_36 3) fun u_40 =>
                              bd (fX_chainAt u_16.2.2.2 v8_34 1) fun u_41 =>
                              if (nm u_40) = (nm u_41) then (
                                lt (zor v7_33 (zshl 1 u_36)) fun v7_42 =>
                                rec_35 v7_42 (v8_34 + 1))
                              else (
                                k_37))
                            else (
                              k_37))
                          else (
                            k_37)))
                      else (
                        some (1, u_16.2.1, u_16.2.2.1, u_16.2.2.2))) 0 0)
                  else (
                    k_30))
                else (
                  k_30))
              else (
                k_30))
            else (
              kf1 (fun (w0_18 : Int) =>
                zo w0_18 <| some (w0_18, u_16.2.1, u_16.2.2.1, u_16.2.2.2)) fun k_19 =>
              kf0 (k_19 0) fun k_20 =>
              if (nm u_17) = (nm u_1) then (
                kf0 (k_19 1) fun k_21 =>
                if (nm u_2.1) < 0 then (
                  k_21)
                else (
                  bd (fX_crowd u_16.2.2.2) fun u_22 =>
                  bd (fL_sound u_16.2.1 La) fun u_23 =>
                  bd (fL_inner La u_22 u_23) fun u_24 =>
                  bd (fX_now u_16.2.1 T u_16.2.2.1 2) fun u_25 =>
                  bd (fX_crowd u_16.2.2.2) fun u_26 =>
                  bd (fL_bits u_26) fun u_27 =>
                  if (nm (u_25 * (u_27 - 1))) < (nm u_24) then (
                    bd (fL_ends La a3) fun u_28 =>
                    bd (fX_crowd u_16.2.2.2) fun u_29 =>
                    if (zand u_28 (zxor u_29 (-1))) = 0 then (
                      k_21)
                    else (
                      k_20))
                  else (
                    k_20)))
              else (
                k_20)))
          else (
            k_15 u_16.2.1 u_16.2.2.1 u_16.2.2.2))
        else (
          k_15 N Ac u_2.2)) fun k_11 =>
      if (nm w0_5) = 0 then (
        k_11 w0_7 1)
      else (
        k_11 w0_7 0)) fun k_8 =>
    if (nm u_2.1) < 0 then (
      k_8 1)
    else (
      k_8 0)) fun k_6 =>
  kf0 (k_6 0) fun k_43 =>
  if (nm u_4) = 0 then (
    k_43)
  else (
    bd (fL_has u_1 a3) fun u_44 =>
    if (nm u_44) = 0 then (
      k_6 1)
    else (
      k_43))
def fL_law (N : ZB) (T : ZB) (Rd : ZB) (Fr : ZB) (Ac : ZA) (Ch : ZB) (PS : ZB) (Pa : ZQ) (La : ZB) (L : Nat) (xs : Nat → Int32) : Option Unit :=
  bd (fL_tells N T Rd Fr Ac La 7) fun u_1 =>
  kf2 (fun (PS_2 : ZB) (Pa_3 : ZQ) =>
    none) fun k_4 =>
  if (nm u_1.1) = 0 then (
    k_4 PS Pa)
  else (
    bd (fL_agree u_1.2.1 PS Pa u_1.2.2.2.2.2.2) fun u_5 =>
    if (nm u_5.1) = 0 then (
      k_4 u_5.2.1 u_5.2.2)
    else (
      lop5 FU (fun rec_11 (v5_6 : Int) (N_7 : ZB) (Ac_8 : ZA) (Ch_9 : ZB) (PS_10 : ZB) =>
        kf0 (bd (fL_lying N_7 u_1.2.2.1 Ac_8 u_1.2.2.2.2.2.2) fun u_13 =>
        kf3 (fun (w0_14 : Int) (PS_15 : ZB) (Pa_16 : ZQ) =>
          if w0_14 = 1 then some () else none) fun k_17 =>
        kf2 (fun (PS_18 : ZB) (Pa_19 : ZQ) =>
          k_17 0 PS_18 Pa_19) fun k_20 =>
        if (nm u_13) < 0 then (
          k_20 PS_10 u_5.2.2)
        else (
          bd (fL_agree N_7 PS_10 u_5.2.2 u_1.2.2.2.2.2.2) fun u_21 =>
          if (nm u_21.1) = 0 then (
            k_20 u_21.2.1 u_21.2.2)
          else (
            k_17 1 u_21.2.1 u_21.2.2))) fun k_12 =>
        if (nm v5_6) < (nm (L : Int)) then (
          if (nm v5_6) < 30 then (
            rd (u_1.2.2.2.2.2.2.2 1) 96 1 fun x_22 =>
            if 0 < (nm x_22) then (
              ix L v5_6 <|
              lt (zand (zsc xs v5_6) 2147483647) fun v6_24 =>
              rd (u_1.2.2.2.2.2.2.2 1) 96 1 fun x_25 =>
              nz x_25 <|
              lt (zrem (zshr v6_24 3) x_25) fun v7_26 =>
              rd (u_1.2.2.2.2.2.2.2 1) 96 2 fun x_27 =>
              nz x_27 <|
              lt (zrem (zshr v6_24 12) x_27) fun v8_28 =>
              bd (fL_lying N_7 u_1.2.2.1 Ac_8 u_1.2.2.2.2.2.2) fun u_29 =>
              kf4 (fun (N_30 : ZB) (Ac_31 : ZA) (Ch_32 : ZB) (PS_33 : ZB) =>
                rec_11 (v5_6 + 1) N_30 Ac_31 Ch_32 PS_33) fun k_34 =>
              if (zand v6_24 7) = 0 then (
                bd (fL_placed N_7 u_1.2.2.1 Ac_8 Ch_9 u_1.2.2.2.2.2.2 v7_26) fun u_36 =>
                if (nm u_36.1) = 0 then (
                  none)
                else (
                  k_34 u_36.2.1 u_36.2.2.1 u_36.2.2.2 PS_10))
              else (
                if (zand v6_24 7) = 1 then (
                  bd (fL_placed N_7 u_1.2.2.1 Ac_8 Ch_9 u_1.2.2.2.2.2.2 v7_26) fun u_38 =>
                  if (nm u_38.1) = 0 then (
                    none)
                  else (
                    k_34 u_38.2.1 u_38.2.2.1 u_38.2.2.2 PS_10))
                else (
                  if (zand v6_24 7) = 2 then (
                    bd (fL_placed N_7 u_1.2.2.1 Ac_8 Ch_9 u_1.2.2.2.2.2.2 v7_26) fun u_40 =>
                    if (nm u_40.1) = 0 then (
                      none)
                    else (
                      k_34 u_40.2.1 u_40.2.2.1 u_40.2.2.2 PS_10))
                  else (
                    if (zand v6_24 7) = 3 then (
                      bd (fL_its N_7 0 v7_26 3) fun u_42 =>
                      bd (fX_lift N_7 Ac_8 v7_26) fun u_43 =>
                      kf0 (none) fun k_44 =>
                      if (nm u_43.1) = (nm u_42) then (
                        bd (fL_lying u_43.2.1 u_1.2.2.1 u_43.2.2 u_1.2.2.2.2.2.2) fun u_45 =>
                        if (nm u_45) = (zand u_29 (zxor (zshl 1 v7_26) (-1))) then (
                          k_34 u_43.2.1 u_43.2.2 Ch_9 PS_10)
                        else (
                          k_44))
                      else (
                        k_44))
                    else (
                      if (zand v6_24 7) = 4 then (
                        bd (fL_its N_7 0 v7_26 4) fun u_47 =>
                        kf1 (fun (w0_48 : Int) =>
                          bd (fX_put N_7 Ac_8 Ch_9 v7_26 v8_28) fun u_50 =>
                          kf0 (none) fun k_51 =>
                          if (nm u_50.1) = (nm w0_48) then (
                            bd (fL_lying u_50.2.1 u_1.2.2.1 u_50.2.2.1 u_1.2.2.2.2.2.2) fun u_52 =>
                            kf1 (fun (w1_53 : Int) =>
                              if (nm u_52) = (nm w1_53) then (
                                k_34 u_50.2.1 u_50.2.2.1 u_50.2.2.2 PS_10)
                              else (
                                k_51)) fun k_54 =>
                            if (nm w0_48) = 0 then (
                              k_54 (zor u_29 (zshl 1 v7_26)))
                            else (
                              k_54 u_29))
                          else (
                            k_51)) fun k_49 =>
                        if (nm u_47) = 1 then (
                          k_49 1)
                        else (
                          bd (fL_has u_29 v7_26) fun u_55 =>
                          if (nm u_55) = 0 then (
                            bd (fX_forest N_7 v8_28) fun u_56 =>
                            bd (fL_isForest u_1.2.2.2.2.2.2 (zor u_56 (zshl 1 v7_26))) fun u_57 =>
                            if (nm u_57) = 0 then (
                              k_49 3)
                            else (
                              k_49 0))
                          else (
                            k_49 2)))
                      else (
                        if (zand v6_24 7) = 5 then (
                          bd (fL_its N_7 0 v7_26 4) fun u_59 =>
                          bd (fX_breaks N_7 Ac_8 v7_26) fun u_60 =>
                          kf0 (none) fun k_61 =>
                          if (nm u_60.1) = (nm u_59) then (
                            bd (fL_its u_60.2.1 0 v7_26 4) fun u_62 =>
                            if (nm u_62) = 1 then (
                              bd (fL_lying u_60.2.1 u_1.2.2.1 u_60.2.2 u_1.2.2.2.2.2.2) fun u_63 =>
                              if (nm u_63) = (zand u_29 (zxor (zshl 1 v7_26) (-1))) then (
                                k_34 u_60.2.1 u_60.2.2 Ch_9 PS_10)
                              else (
                                k_61))
                            else (
                              k_61))
                          else (
                            k_61))
                        else (
                          if (zand v6_24 7) = 6 then (
                            bd (fL_its N_7 0 v7_26 4) fun u_65 =>
                            bd (fX_mend N_7 Ac_8 v7_26) fun u_66 =>
                            kf0 (none) fun k_67 =>
                            if (nm u_66.1) = (nm (1 - u_65)) then (
                              bd (fL_its u_66.2.1 0 v7_26 4) fun u_68 =>
                              if (nm u_68) = 0 then (
                                bd (fL_lying u_66.2.1 u_1.2.2.1 u_66.2.2 u_1.2.2.2.2.2.2) fun u_69 =>
                                if (nm u_69) = (nm u_29) then (
                                  k_34 u_66.2.1 u_66.2.2 Ch_9 PS_10)
                                else (
                                  k_67))
                              else (
                                k_67))
                            else (
                              k_67))
                          else (
                            bd (fX_pack N_7 Ac_8 Ch_9) fun u_70 =>
                            bd (fL_lying u_70.2.1 u_1.2.2.1 u_70.2.2.1 u_1.2.2.2.2.2.2) fun u_71 =>
                            kf4 (fun (N_72 : ZB) (Ac_73 : ZA) (Ch_74 : ZB) (PS_75 : ZB) =>
                              none) fun k_76 =>
                            if (nm u_71) < 0 then (
                              k_76 u_70.2.1 u_70.2.2.1 u_70.2.2.2 PS_10)
                            else (
                              if (zand u_29 (zxor u_71 (-1))) = 0 then (
                                bd (fL_bits u_71) fun u_77 =>
                                bd (fL_bits u_29) fun u_78 =>
                                if (nm u_77) = (nm (u_78 + u_70.1)) then (
                                  bd (fL_bits u_71) fun u_79 =>
                                  rd (u_1.2.2.2.2.2.2.2 1) 96 2 fun x_80 =>
                                  bd (fX_most u_70.2.1 PS_10 x_80) fun u_81 =>
                                  if (nm u_79) = (nm u_81.1) then (
                                    bd (fX_pack u_70.2.1 u_70.2.2.1 u_70.2.2.2) fun u_82 =>
                                    if (nm u_82.1) = 0 then (
                                      k_34 u_82.2.1 u_82.2.2.1 u_82.2.2.2 u_81.2)
                                    else (
                                      k_76 u_82.2.1 u_82.2.2.1 u_82.2.2.2 u_81.2))
                                  else (
                                    k_76 u_70.2.1 u_70.2.2.1 u_70.2.2.2 u_81.2))
                                else (
                                  k_76 u_70.2.1 u_70.2.2.1 u_70.2.2.2 PS_10))
                              else (
                                k_76 u_70.2.1 u_70.2.2.1 u_70.2.2.2 PS_10))))))))))
            else (
              k_12))
          else (
            k_12))
        else (
          k_12)) 1 u_1.2.1 u_1.2.2.2.2.2.1 Ch u_5.2.1))
