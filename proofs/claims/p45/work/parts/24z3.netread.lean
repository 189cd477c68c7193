-- needs: 24z2.rows
/-! the drawn text, read by the reference's scanner: all of it -/
def ps (w : Nat → Nat) : Nat → Nat
  | 0 => 0
  | l + 1 => ps w l + (10 + (dig (w l)).length)
def TXT (g : Nat → Int) (P L K : Nat) (a b w : Nat → Nat) : Prop := (∀ i, i < P → BAt g (8 * i) (rowP i)) ∧ (∀ l, l < L → BAt g (8 * P + ps w l) (rowL (a l) (b l) (w l))) ∧ BAt g (8 * P + ps w L) (rowF K)
theorem ps_le {w : Nat → Nat} {l m : Nat} (h : l ≤ m) : ps w l ≤ ps w m := by
  induction m with
  | zero => rw [show l = 0 by omega]; exact Nat.le_refl _
  | succ m ih =>
    by_cases e : l = m + 1
    · rw [e]; exact Nat.le_refl _
    · have := ih (by omega)
      show ps w l ≤ ps w m + _
      omega
theorem readEnd1 {M N : ZB} (h6 : M.1 6 = 4) (hg : fM_go M = some N) : fM_readEnd M = some (1, N) := by
  unfold fM_readEnd
  rw [h6, if_pos (by decide : nm 4 = 4), hg, bds]
/-- what the drawn net is -/
def Drw (P L K : Nat) (a b w : Nat → Nat) : Prop := P < 10 ∧ L < 24 ∧ 1 ≤ K ∧ K ≤ 5 ∧ ∀ l, l < L → a l < P ∧ b l < P ∧ a l ≠ b l ∧ 1 ≤ w l ∧ w l ≤ 99
theorem M_net_text {M : ZB} {g : Nat → Int} {P L K u : Nat} {a b w : Nat → Nat} (hd : Drw P L K a b w) (h2 : M.1 2 = (u : Int)) (ht : M.2 1 = g) (hB : Byt g u) (hu : u = 8 * P + ps w L + (rowF K).length) (h600 : u ≤ 600) (hx : TXT g P L K a b w) : ∃ M', fM_net M = some (((P + L + 1 : Nat) : Int), M') ∧ M'.1 8 = 0 ∧ M'.2 12 0 = (P : Int) ∧ M'.2 12 1 = (L : Int) ∧ M'.2 12 2 = (K : Int) ∧ ∀ l, l < L → M'.2 12 (3 + l) = (a l : Int) ∧ M'.2 12 (27 + l) = (b l : Int) := by
  obtain ⟨hP, hL, hK, hK5, hab⟩ := hd
  obtain ⟨x1, x2, x3⟩ := hx
  have main : wp (fM_net M) (fun r => r.1 = ((P + L + 1 : Nat) : Int) ∧ r.2.1 8 = 0 ∧ r.2.2 12 0 = (P : Int) ∧ r.2.2 12 1 = (L : Int) ∧ r.2.2 12 2 = (K : Int) ∧ ∀ l, l < L → r.2.2 12 (3 + l) = (a l : Int) ∧ r.2.2 12 (27 + l) = (b l : Int)) := by
    unfold fM_net
    rw [lt_e, lt_e, lt_e, lt_e, lt_e]
    refine lop2_w (fun v1 (R : ZB) => ∃ (k : Nat) (w : Nat → Int), v1 = (k : Int) ∧ k ≤ 147 ∧ R = ((MS M (M.1 2)).1, ua M.2 13 w) ∧ ∀ j, j < k → w j = 0) (fun v1 _ => 147 - v1.toNat) ?_ FU _ _ ⟨0, M.2 13, rfl, by omega, by rw [ua_self]; rfl, fun j h => absurd h (Nat.not_lt_zero j)⟩ (by show 147 - _ < 100000; omega)
    intro rec v1 R hI hrec
    obtain ⟨k, f, rfl, hk, rfl, hw⟩ := hI
    rw [nmn (by omega)]
    by_cases h : k < 147
    · rw [if_pos (by omega), ixn (by omega), lt_e, Int.toNat_natCast]
      refine hrec _ _ ⟨k+1, up f k 0, by omega, by omega, ?_, fun j hj => ?_⟩ (by omega)
      · show ((MS M (M.1 2)).1, ua (ua M.2 13 f) 13 (up ((ua M.2 13 f) 13) k 0)) = _
        rw [ua_up, ua_e]
      · by_cases e : j = k
        · subst e; rw [up_e]
        · rw [up_n _ _ e]; exact hw j (by omega)
    · rw [if_neg (by omega)]
      have hS0 : Sc g u ((MS M (M.1 2)).1, ua M.2 13 f) := ⟨h2, ht, rfl⟩
      have hD0 : Dt a b 0 0 0 ((MS M (M.1 2)).1, ua M.2 13 f) := ⟨hw 0 (by omega), hw 1 (by omega), hw 2 (by omega), fun j hj => absurd hj (Nat.not_lt_zero j), fun l hl => absurd hl (Nat.not_lt_zero l)⟩
      obtain ⟨q0, M1, hgo, -⟩ := M_go (M := ((MS M (M.1 2)).1, ua M.2 13 f)) (u := u) (p := 0) (by omega) (by show Byt (M.2 1) u; rw [ht]; exact hB) hS0.1 rfl (Nat.zero_le _)
      rw [hgo, bds]
      refine lop2_w (fun v (R : ZB) => ∃ (np nl nk : Nat) (M0 : ZB), v = ((np + nl + nk : Nat) : Int) ∧ np ≤ P ∧ nl ≤ L ∧ nk ≤ 1 ∧ (np < P → nl = 0 ∧ nk = 0) ∧ (nl < L → nk = 0) ∧ fM_go M0 = some R ∧ Sc g u M0 ∧ Dt a b np nl (if nk = 0 then 0 else K) M0 ∧ M0.1 4 = ((8 * np + ps w nl + (if nk = 0 then 0 else (rowF K).length) : Nat) : Int)) (fun v _ => P + L + 1 - v.toNat) ?_ FU _ _ ⟨0, 0, 0, _, rfl, by omega, by omega, by omega, fun _ => ⟨rfl, rfl⟩, fun _ => rfl, hgo, hS0, hD0, rfl⟩ (by show P + L + 1 - _ < 100000; omega)
      clear hrec hgo hS0 hD0
      intro rec v R hI hrec
      obtain ⟨np, nl, nk, M0, rfl, i1, i2, i3, i4, i5, hgo, hS, hD, h4⟩ := hI
      simp only [kf1, kf2]
      by_cases c1 : np < P
      · obtain ⟨rfl, rfl⟩ := i4 c1
        have hp := ps_le (w := w) (Nat.zero_le L)
        have h8 : 8 * np + 8 ≤ 8 * P := by omega
        obtain ⟨m1, m2, M1, m3, m4, m5, m6, m7⟩ := tx_point h600 hB hS hD h4 hgo (x1 np c1) (by show 8 * np + ps w 0 + 0 + 8 ≤ u; omega) (by omega)
        have h5 : M1.1 4 = ((8 * (np + 1) + ps w 0 + (if (0 : Nat) = 0 then 0 else (rowF K).length) : Nat) : Int) := by
          rw [m7]
          congr 1
        obtain ⟨q1, Mn, hgn, -⟩ := M_go (M := M1) (u := u) (by omega) (by rw [m5.2.1]; exact hB) m5.1 m7 (by show 8 * np + ps w 0 + 0 + 8 ≤ u; omega)
        rw [m1, if_neg (by decide : ¬ nm 2 = 0), m2, bds, if_neg (by decide : ¬ nm 1 = 0), m3, bds]
        dsimp only
        rw [if_neg (by decide : ¬ nm 1 = 0), readEnd1 m4 hgn, bds]
        dsimp only
        rw [if_neg (by decide : ¬ nm 1 = 0)]
        exact hrec _ _ ⟨np + 1, 0, 0, M1, by omega, by omega, by omega, by omega, fun _ => ⟨rfl, rfl⟩, fun _ => rfl, hgn, m5, m6, h5⟩ (by omega)
      · have ep : np = P := by omega
        subst ep
        by_cases c2 : nl < L
        · obtain rfl := i5 c2
          obtain ⟨a1, a2, a3, a4, a5⟩ := hab nl c2
          have hps : ps w (nl + 1) = ps w nl + (10 + (dig (w nl)).length) := rfl
          have hp2 := ps_le (w := w) (show nl + 1 ≤ L from c2)
          have hrl := rowL_len (a := a nl) (b := b nl) (w := w nl)
          obtain ⟨m1, m2, m3, M1, m4, m5, m6, m7, m8⟩ := tx_line h600 hB hS hD h4 hgo (x2 nl c2) (by show 8 * np + ps w nl + 0 + (rowL (a nl) (b nl) (w nl)).length ≤ u; omega) (by omega) (by omega) a1 a2 a3 a4 a5
          have h5 : M1.1 4 = ((8 * np + ps w (nl + 1) + (if (0 : Nat) = 0 then 0 else (rowF K).length) : Nat) : Int) := by
            rw [m8, hps, hrl]
            congr 1
            show 8 * np + ps w nl + 0 + _ = 8 * np + _ + 0
            omega
          obtain ⟨q1, Mn, hgn, -⟩ := M_go (M := M1) (u := u) (by omega) (by rw [m6.2.1]; exact hB) m6.1 m8 (by show 8 * np + ps w nl + 0 + _ ≤ u; omega)
          rw [m1, if_neg (by decide : ¬ nm 2 = 0), m2, bds, if_pos (by decide : nm 0 = 0), m3, bds, if_neg (by decide : ¬ nm 1 = 0), m4, bds]
          dsimp only
          rw [if_neg (by decide : ¬ nm 1 = 0), readEnd1 m5 hgn, bds]
          dsimp only
          rw [if_neg (by decide : ¬ nm 1 = 0)]
          exact hrec _ _ ⟨np, nl + 1, 0, M1, by omega, by omega, by omega, by omega, fun z => absurd z c1, fun _ => rfl, hgn, m6, m7, h5⟩ (by omega)
        · have el : nl = L := by omega
          subst el
          by_cases c3 : nk = 0
          · subst c3
            obtain ⟨m1, m2, m3, m3', M1, m4, m5, m6, m7, m8⟩ := tx_forests (K := K) h600 hB hS hD h4 hgo x3 (by show 8 * np + ps w nl + 0 + _ ≤ u; omega) hK hK5
            obtain ⟨q1, Mn, hgn, -⟩ := M_go (M := M1) (u := u) (by omega) (by rw [m6.2.1]; exact hB) m6.1 m8 (by show 8 * np + ps w nl + 0 + _ ≤ u; omega)
            rw [m1, if_neg (by decide : ¬ nm 2 = 0), m2, bds, if_pos (by decide : nm 0 = 0), m3, bds, if_pos (by decide : nm 0 = 0), m3', bds, if_neg (by decide : ¬ nm 1 = 0), m4, bds]
            dsimp only
            rw [if_neg (by decide : ¬ nm 1 = 0), readEnd1 m5 hgn, bds]
            dsimp only
            rw [if_neg (by decide : ¬ nm 1 = 0)]
            refine hrec _ _ ⟨np, nl, 1, M1, by omega, by omega, by omega, by omega, fun z => absurd z c1, fun z => absurd z c2, hgn, m6, m7, ?_⟩ (by omega)
            exact m8
          · have e1 : nk = 1 := by omega
            subst e1
            have h4' : M0.1 4 = (u : Int) := by rw [h4, hu]; rfl
            obtain ⟨M', n1, n2, n3⟩ := go_end h600 hB hS.1 hS.2.1 h4'
            have e : M' = R := Option.some.inj (n1.symm.trans hgo)
            subst e
            have hS' := Sc_fr n2 hS
            obtain ⟨d0, d1, d2, d3, d4⟩ := Dt_fr n2 hD
            have d2' : M'.2 13 2 = (K : Int) := d2
            have cp : fM_copy_read_now M' 0 0 = some (M'.1, ua M'.2 12 (cpy (M'.2 12) (M'.2 13) 0 0 147)) := M_copy_read_now M' (s := 0) (d := 0) (by omega) (by omega)
            rw [n3, if_pos (by decide : nm 0 = 0), xm2, d2', nmn (show K < 2147483648 by omega), if_neg (show ¬ (K : Int) = 0 by omega), cp, bds, lt_e]
            have hc : ∀ j, j < 147 → (ua M'.2 12 (cpy (M'.2 12) (M'.2 13) 0 0 147)) 12 j = M'.2 13 j := fun j hj => by rw [ua_e]; exact cpy_all hj
            refine ⟨_, rfl, rfl, ?_, ?_, ?_, ?_, fun l hl => ?_⟩
            · show up M'.1 20 0 8 = 0
              exact (up_n M'.1 (j := 8) (k := 20) 0 (by decide)).trans hS'.2.2
            · exact (hc 0 (by decide)).trans d0
            · exact (hc 1 (by decide)).trans d1
            · exact (hc 2 (by decide)).trans d2'
            · exact ⟨(hc (3 + l) (by omega)).trans (d4 l hl).1, (hc (27 + l) (by omega)).trans (d4 l hl).2⟩
  obtain ⟨⟨v, M'⟩, h1, h5, h6⟩ := main
  have h5' : v = ((P + L + 1 : Nat) : Int) := h5
  subst h5'
  exact ⟨M', h1, h6⟩
