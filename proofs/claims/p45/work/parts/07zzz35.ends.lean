-- needs: 07zzz34.refend
/-! net: the class's end; the reference's row with what follows it -/
theorem ref_row {β : Type} (M : ZB) (K : Int → ZB → Option β) : (bd (fM_isPointWord M) fun u_19 => kf2 K fun k_22 =>
          if (nm u_19) = 0 then (
            bd (fM_isLineWord M) fun u_26 =>
            if (nm u_26) = 0 then (
              bd (fM_isForestsWord M) fun u_27 =>
              if (nm u_27) = 0 then (
                bd (fM_bad M 1) fun u_28 =>
                k_22 u_28.1 u_28.2)
              else (
                bd (fM_readForests M) fun u_29 =>
                k_22 u_29.1 u_29.2))
            else (
              bd (fM_readLine M) fun u_30 =>
              k_22 u_30.1 u_30.2))
          else (
            bd (fM_readPoint M) fun u_31 =>
            k_22 u_31.1 u_31.2)) = bd (RefRow M) fun u => K u.1 u.2 := by
  unfold RefRow
  cases h1 : fM_isPointWord M with
  | none => rfl
  | some a =>
    rw [bds, bds, kf2_e]
    by_cases x : nm a = 0
    · rw [if_pos x, if_pos x]
      cases h2 : fM_isLineWord M with
      | none => rfl
      | some b =>
        rw [bds, bds]
        by_cases y : nm b = 0
        · rw [if_pos y, if_pos y]
          cases h3 : fM_isForestsWord M with
          | none => rfl
          | some c =>
            rw [bds, bds]
            by_cases z : nm c = 0
            · rw [if_pos z, if_pos z]
            · rw [if_neg z, if_neg z]
        · rw [if_neg y, if_neg y]
    · rw [if_neg x, if_neg x]
