-- needs: 24z1.scan
/-! the drawn text, read by the reference's scanner: rows -/
theorem xm0 {β : Type} {f : Nat → Int} {k : Int → Option β} : rd f 147 0 k = k (f 0) := rdn (i := 0) (by decide)
theorem xm1 {β : Type} {f : Nat → Int} {k : Int → Option β} : rd f 147 1 k = k (f 1) := rdn (i := 1) (by decide)
theorem xm2 {β : Type} {f : Nat → Int} {k : Int → Option β} : rd f 147 2 k = k (f 2) := rdn (i := 2) (by decide)
section
variable {M : ZB}
theorem wd_point (h6 : M.1 6 = 2) (h10 : M.1 10 = ((wPoint : Nat) : Int)) : fM_isPointWord M = some 1 := by
  rw [(M_words h6 h10 (by decide)).1, idt (p := wPoint = wPoint) rfl]
theorem wd_line (h6 : M.1 6 = 2) (h10 : M.1 10 = ((wLine : Nat) : Int)) : fM_isPointWord M = some 0 ∧ fM_isLineWord M = some 1 := by
  obtain ⟨a1, a2, -⟩ := M_words h6 h10 (by decide)
  rw [a1, a2, idf (p := wLine = wPoint) (by decide), idt (p := wLine = wLine) rfl]
  exact ⟨rfl, rfl⟩
theorem wd_forests (h6 : M.1 6 = 2) (h10 : M.1 10 = ((wForests : Nat) : Int)) : fM_isPointWord M = some 0 ∧ fM_isLineWord M = some 0 ∧ fM_isForestsWord M = some 1 := by
  obtain ⟨a1, a2, a3⟩ := M_words h6 h10 (by decide)
  rw [a1, a2, a3, idf (p := wForests = wPoint) (by decide), idf (p := wForests = wLine) (by decide), idt (p := wForests = wForests) rfl]
  exact ⟨rfl, rfl, rfl⟩
theorem M_isName1 {v : Nat} (h6 : M.1 6 = 2) (h10 : M.1 10 = (v : Int)) (hv : v ≤ 20) : fM_isName M = some 1 := by
  have n62 : v < 2 ^ 62 := by
    have : (20 : Nat) < 2 ^ 62 := by decide
    omega
  obtain ⟨a1, a2, a3⟩ := M_words h6 h10 n62
  have p1 : ¬ v = wPoint := fun e => by rw [e] at hv; exact absurd hv (by decide)
  have p2 : ¬ v = wLine := fun e => by rw [e] at hv; exact absurd hv (by decide)
  have p3 : ¬ v = wForests := fun e => by rw [e] at hv; exact absurd hv (by decide)
  unfold fM_isName
  simp only [kf0, kf1]
  rw [h6, if_pos (by decide : nm 2 = 2), a1, bds, i10f p1, a2, bds, i10f p2, a3, bds, i10f p3]
  exact zo1
theorem M_named_i {P i : Nat} (hP : M.2 13 0 = (P : Int)) (hP10 : P ≤ 10) (hnm : ∀ j, j < P → M.2 18 j = ((j + 1 : Nat) : Int)) (h10 : M.1 10 = ((i + 1 : Nat) : Int)) (hi : i < P) : fM_named M = some (i : Int) := by
  have n62 : (20 : Nat) < 2 ^ 62 := by decide
  unfold fM_named
  refine lop1_s i (fun k => (k : Int)) ?_ ?_ (by omega) rfl
  · intro rec k hk hr
    rw [xm0, hP, nmn (show k < 2147483648 by omega), nmn (show P < 2147483648 by omega), if_pos (show (k : Int) < (P : Int) by omega), rdn (show k < 10 by omega), hnm k (by omega), h10, zlc (by omega) (by omega), if_neg (show ¬ i + 1 < k + 1 by omega), if_neg (show ¬ k + 1 = i + 1 by omega), if_neg (by decide : ¬ (-1 : Int) = 0)]
    exact hr
  · intro rec
    rw [xm0, hP, nmn (show i < 2147483648 by omega), nmn (show P < 2147483648 by omega), if_pos (show (i : Int) < (P : Int) by omega), rdn (show i < 10 by omega), hnm i hi, h10, zlc (by omega) (by omega), if_neg (show ¬ i + 1 < i + 1 by omega), if_pos rfl, if_pos rfl]
theorem M_named_no {P : Nat} (hP : M.2 13 0 = (P : Int)) (hP10 : P ≤ 10) (hnm : ∀ j, j < P → M.2 18 j = ((j + 1 : Nat) : Int)) (h10 : M.1 10 = ((P + 1 : Nat) : Int)) : fM_named M = some (-1) := by
  have n62 : (20 : Nat) < 2 ^ 62 := by decide
  unfold fM_named
  refine lop1_s P (fun k => (k : Int)) ?_ ?_ (by omega) rfl
  · intro rec k hk hr
    rw [xm0, hP, nmn (show k < 2147483648 by omega), nmn (show P < 2147483648 by omega), if_pos (show (k : Int) < (P : Int) by omega), rdn (show k < 10 by omega), hnm k (by omega), h10, zlc (by omega) (by omega), if_neg (show ¬ P + 1 < k + 1 by omega), if_neg (show ¬ k + 1 = P + 1 by omega), if_neg (by decide : ¬ (-1 : Int) = 0)]
    exact hr
  · intro rec
    rw [xm0, hP, nmn (show P < 2147483648 by omega), if_neg (show ¬ (P : Int) < (P : Int) by omega)]
end
/-- the scanner over the tape g, nothing at fault -/
def Sc (g : Nat → Int) (u : Nat) (M : ZB) : Prop := M.1 3 = (u : Int) ∧ M.2 1 = g ∧ M.1 8 = 0
/-- what has been read -/
def Dt (a b : Nat → Nat) (np nl nk : Nat) (M : ZB) : Prop := M.2 13 0 = (np : Int) ∧ M.2 13 1 = (nl : Int) ∧ M.2 13 2 = (nk : Int) ∧ (∀ j, j < np → M.2 18 j = ((j + 1 : Nat) : Int)) ∧ ∀ l, l < nl → M.2 13 (3 + l) = (a l : Int) ∧ M.2 13 (27 + l) = (b l : Int)
section
variable {g : Nat → Int} {u : Nat} {a b : Nat → Nat} {np nl nk : Nat} {M M' : ZB}
theorem Sc_fr (h : FrM M M') (hS : Sc g u M) : Sc g u M' := by
  obtain ⟨s1, s2, s3⟩ := hS
  exact ⟨(h.1 3 (by decide) (by decide) (by decide) (by decide) (by decide)).trans s1, by rw [h.2]; exact s2, (h.1 8 (by decide) (by decide) (by decide) (by decide) (by decide)).trans s3⟩
theorem Dt_fr (h : FrM M M') (hD : Dt a b np nl nk M) : Dt a b np nl nk M' := by
  unfold Dt
  rw [h.2]; exact hD
theorem tx_point {p : Nat} {M0 : ZB} (hu : u ≤ 600) (hB : Byt g u) (hS : Sc g u M0) (hD : Dt a b np nl nk M0) (h4 : M0.1 4 = (p : Int)) (hgo : fM_go M0 = some M) (hA : BAt g p (rowP np)) (hl : p + 8 ≤ u) (hn : np < 10) : M.1 6 = 2 ∧ fM_isPointWord M = some 1 ∧ ∃ M1, fM_readPoint M = some (1, M1) ∧ M1.1 6 = 4 ∧ Sc g u M1 ∧ Dt a b (np+1) nl nk M1 ∧ M1.1 4 = ((p + 8 : Nat) : Int) := by
  obtain ⟨b0, b1, b2, b3, b4, b5, b6, b7, -⟩ := hA
  obtain ⟨r1, r2, r3⟩ := w_point (g := g) (u := u) (q := p) ⟨b0, b1, b2, b3, b4⟩ b5 (by omega)
  obtain ⟨M', m1, m2, m3, m4, m5, -⟩ := go_run hu hB hS.1 hS.2.1 h4 (Or.inl rfl) (by omega) r1
  have e : M' = M := Option.some.inj (m1.symm.trans hgo)
  subst e
  rw [r2] at m4
  rw [r3] at m5
  have hS1 := Sc_fr m2 hS
  have hD1 := Dt_fr m2 hD
  obtain ⟨q1, q2, q3⟩ := w_letter (g := g) (u := u) (q := p + 5 + 1) (i := np) (by omega) b6 (by rw [show g (p + 5 + 1 + 1) = 59 from b7]; exact nAn59) (by omega)
  obtain ⟨M2, n1, n2, n3, n4, n5, -⟩ := go_run hu hB hS1.1 hS1.2.1 m3 (Or.inr ⟨rfl, b5⟩) (by omega) q1
  rw [q2] at n4
  rw [q3] at n5
  have hS2 := Sc_fr n2 hS1
  have hD2 := Dt_fr n2 hD1
  obtain ⟨d0, d1, d2, d3, d4⟩ := hD2
  have hS3 : Sc g u (M2.1, ua (ua M2.2 18 (up (M2.2 18) np (M2.1 10))) 13 (up (M2.2 13) 0 ((np + 1 : Nat) : Int))) := ⟨hS2.1, hS2.2.1, hS2.2.2⟩
  obtain ⟨M3, k1, k2, k3, k4⟩ := go_semi hu hB hS3.1 hS3.2.1 (show M2.1 4 = ((p + 5 + 1 + 1 : Nat) : Int) from n3) (by omega) b7
  refine ⟨m4, wd_point m4 m5, M3, ?_, k3, Sc_fr k2 hS3, Dt_fr k2 ⟨?_, ?_, ?_, fun j hj => ?_, fun l hl2 => ?_⟩, k4⟩
  · unfold fM_readPoint
    rw [xm0, hD1.1, nmn (show np < 2147483648 by omega), if_neg (show ¬ (np : Int) = 10 by omega), n1, bds, M_isName1 (v := np + 1) n4 n5 (by omega), bds, if_neg (by decide : ¬ nm 1 = 0), M_named_no d0 (by omega) d3 n5, bds, if_pos (by decide : nm (-1) = -1), xm0, d0, ixn (show np < 10 by omega), lt_e, xm0]
    show ix 147 0 (lt (M2.1, ua (ua M2.2 18 (up (M2.2 18) (Int.toNat (np : Int)) (M2.1 10))) 13 (up (M2.2 13) (Int.toNat 0) (M2.2 13 0 + 1))) fun M_8 => bd (fM_go M_8) fun u_9 => some (1, u_9)) = _
    rw [ixi (by omega), lt_e, d0, Int.toNat_natCast]
    show bd (fM_go (M2.1, ua (ua M2.2 18 (up (M2.2 18) np (M2.1 10))) 13 (up (M2.2 13) 0 ((np + 1 : Nat) : Int)))) _ = _
    rw [k1, bds]
  · exact up_e (M2.2 13) 0 ((np + 1 : Nat) : Int)
  · show up (M2.2 13) 0 ((np + 1 : Nat) : Int) 1 = _
    rw [up_n _ _ (by decide)]; exact d1
  · show up (M2.2 13) 0 ((np + 1 : Nat) : Int) 2 = _
    rw [up_n _ _ (by decide)]; exact d2
  · show up (M2.2 18) np (M2.1 10) j = _
    by_cases e : j = np
    · subst e; rw [up_e]; exact n5
    · rw [up_n _ _ e]; exact d3 j (by omega)
  · show up (M2.2 13) 0 ((np + 1 : Nat) : Int) (3 + l) = _ ∧ up (M2.2 13) 0 ((np + 1 : Nat) : Int) (27 + l) = _
    rw [up_n _ _ (by omega), up_n _ _ (by omega)]; exact d4 l hl2
/-- a number and the sign behind it -/
theorem num_semi {p v bd_ : Nat} (hu : u ≤ 600) (hB : Byt g u) (hS : Sc g u M) (h4 : M.1 4 = (p : Int)) (hb : g p = 32) (hv1 : 1 ≤ v) (hv : v ≤ bd_) (hbd : bd_ ≤ 99) (hA : BAt g (p + 1) (dig v)) (h59 : g (p + 1 + (dig v).length) = 59) (hl : p + 1 + (dig v).length + 1 ≤ u) : ∃ M1 M2, fM_go M = some M1 ∧ fM_readNumber M1 1 (bd_ : Int) = some (1, M2) ∧ M2.1 11 = (v : Int) ∧ M2.1 6 = 4 ∧ Sc g u M2 ∧ M2.2 = M.2 ∧ M2.1 4 = ((p + 1 + (dig v).length + 1 : Nat) : Int) := by
  obtain ⟨r1, r2, r3, r4⟩ := w_number (g := g) (u := u) (q := p + 1) (by omega) hA h59 hl
  obtain ⟨M1, m1, m2, m3, m4, -, m6⟩ := go_run hu hB hS.1 hS.2.1 h4 (Or.inr ⟨rfl, hb⟩) r2 r1
  rw [r3] at m4
  rw [r4] at m6
  have hS1 := Sc_fr m2 hS
  have hS2 : Sc g u (up M1.1 11 (v : Int), M1.2) := ⟨(up_n M1.1 (j := 3) (k := 11) (v : Int) (by decide)).trans hS1.1, hS1.2.1, (up_n M1.1 (j := 8) (k := 11) (v : Int) (by decide)).trans hS1.2.2⟩
  obtain ⟨M2, k1, k2, k3, k4⟩ := go_semi (p := p + 1 + (dig v).length) hu hB hS2.1 hS2.2.1 ((up_n M1.1 (j := 4) (k := 11) (v : Int) (by decide)).trans m3) (by omega) h59
  refine ⟨M1, M2, m1, ?_, ?_, k3, Sc_fr k2 hS2, ?_, k4⟩
  · unfold fM_readNumber fM_isIn
    simp only [kf0, kf1]
    rw [m4, if_pos (by decide : nm 3 = 3), m6, nmn (show v < 2147483648 by omega), nmn (show bd_ < 2147483648 by omega), if_neg (show ¬ (v : Int) < nm 1 by rw [show nm 1 = 1 by decide]; omega), if_neg (show ¬ (bd_ : Int) < (v : Int) by omega), zo1, bds, if_neg (by decide : ¬ nm 1 = 0), lt_e, k1, bds]
  · rw [k2.1 11 (by decide) (by decide) (by decide) (by decide) (by decide)]; exact up_e M1.1 11 (v : Int)
  · rw [k2.2]; exact m2.2
theorem tx_forests {p K : Nat} {M0 : ZB} (hu : u ≤ 600) (hB : Byt g u) (hS : Sc g u M0) (hD : Dt a b np nl 0 M0) (h4 : M0.1 4 = (p : Int)) (hgo : fM_go M0 = some M) (hA : BAt g p (rowF K)) (hl : p + (rowF K).length ≤ u) (hK : 1 ≤ K) (hK5 : K ≤ 5) : M.1 6 = 2 ∧ fM_isPointWord M = some 0 ∧ fM_isLineWord M = some 0 ∧ fM_isForestsWord M = some 1 ∧ ∃ M1, fM_readForests M = some (1, M1) ∧ M1.1 6 = 4 ∧ Sc g u M1 ∧ Dt a b np nl K M1 ∧ M1.1 4 = ((p + (rowF K).length : Nat) : Int) := by
  rw [rowF_len] at hl ⊢
  obtain ⟨hA1, hA3⟩ := BAt_l ([102, 111, 114, 101, 115, 116, 115, 32] ++ dig K) [59] p hA
  obtain ⟨hA1, hA2⟩ := BAt_l [102, 111, 114, 101, 115, 116, 115, 32] (dig K) p hA1
  rw [List.length_append] at hA3
  obtain ⟨b0, b1, b2, b3, b4, b5, b6, b7, -⟩ := hA1
  have h59 : g (p + 7 + 1 + (dig K).length) = 59 := by
    have := hA3.1
    rw [← this]
    congr 1
    show _ = p + (8 + (dig K).length)
    omega
  obtain ⟨r1, r2, r3⟩ := w_forests (g := g) (u := u) (q := p) ⟨b0, b1, b2, b3, b4, b5, b6⟩ b7 (by omega)
  obtain ⟨M', m1, m2, m3, m4, m5, -⟩ := go_run hu hB hS.1 hS.2.1 h4 (Or.inl rfl) (by omega) r1
  have e : M' = M := Option.some.inj (m1.symm.trans hgo)
  subst e
  rw [r2] at m4
  rw [r3] at m5
  have hS1 := Sc_fr m2 hS
  obtain ⟨d0, d1, d2, d3, d4⟩ := Dt_fr m2 hD
  obtain ⟨w1, w2, w3⟩ := wd_forests m4 m5
  obtain ⟨M1, M2, k1, k2, k3, k4, k5, k6, k7⟩ := num_semi (bd_ := 5) hu hB hS1 m3 b7 hK hK5 (by omega) hA2 h59 (by omega)
  refine ⟨m4, w1, w2, w3, (M2.1, ua M2.2 13 (up (M2.2 13) 2 (K : Int))), ?_, k4, ⟨k5.1, k5.2.1, k5.2.2⟩, ⟨?_, ?_, ?_, fun j hj => ?_, fun l hl2 => ?_⟩, ?_⟩
  · unfold fM_readForests
    rw [xm2, d2, if_pos (by decide : nm ((0 : Nat) : Int) = 0), k1, bds]
    show bd (fM_readNumber M1 1 ((5 : Nat) : Int)) _ = _
    rw [k2, bds]
    dsimp only
    rw [if_neg (by decide : ¬ nm 1 = 0), ixi (by omega), lt_e, k3]
    rfl
  · show up (M2.2 13) 2 (K : Int) 0 = _
    rw [up_n _ _ (by decide), k6]; exact d0
  · show up (M2.2 13) 2 (K : Int) 1 = _
    rw [up_n _ _ (by decide), k6]; exact d1
  · exact up_e (M2.2 13) 2 (K : Int)
  · show M2.2 18 j = _
    rw [k6]; exact d3 j hj
  · show up (M2.2 13) 2 (K : Int) (3 + l) = _ ∧ up (M2.2 13) 2 (K : Int) (27 + l) = _
    rw [up_n _ _ (by omega), up_n _ _ (by omega), k6]; exact d4 l hl2
  · show M2.1 4 = _
    rw [k7]
    congr 1
    omega
theorem tx_line {p w : Nat} {M0 : ZB} (hu : u ≤ 600) (hB : Byt g u) (hS : Sc g u M0) (hD : Dt a b np nl nk M0) (h4 : M0.1 4 = (p : Int)) (hgo : fM_go M0 = some M) (hA : BAt g p (rowL (a nl) (b nl) w)) (hl : p + (rowL (a nl) (b nl) w).length ≤ u) (hn : np ≤ 10) (hL : nl < 24) (ha : a nl < np) (hb : b nl < np) (hab : a nl ≠ b nl) (hw1 : 1 ≤ w) (hw : w ≤ 99) : M.1 6 = 2 ∧ fM_isPointWord M = some 0 ∧ fM_isLineWord M = some 1 ∧ ∃ M1, fM_readLine M = some (1, M1) ∧ M1.1 6 = 4 ∧ Sc g u M1 ∧ Dt a b np (nl+1) nk M1 ∧ M1.1 4 = ((p + (rowL (a nl) (b nl) w).length : Nat) : Int) := by
  rw [rowL_len] at hl ⊢
  obtain ⟨hA1, hA3⟩ := BAt_l ([108, 105, 110, 101, 32, 97 + (a nl : Int), 32, 97 + (b nl : Int), 32] ++ dig w) [59] p hA
  obtain ⟨hA1, hA2⟩ := BAt_l [108, 105, 110, 101, 32, 97 + (a nl : Int), 32, 97 + (b nl : Int), 32] (dig w) p hA1
  rw [List.length_append] at hA3
  obtain ⟨b0, b1, b2, b3, b4, b5, b6, b7, b8, -⟩ := hA1
  have h59 : g (p + 8 + 1 + (dig w).length) = 59 := by
    have := hA3.1
    rw [← this]
    congr 1
    show _ = p + (9 + (dig w).length)
    omega
  obtain ⟨r1, r2, r3⟩ := w_line (g := g) (u := u) (q := p) ⟨b0, b1, b2, b3⟩ b4 (by omega)
  obtain ⟨M', m1, m2, m3, m4, m5, -⟩ := go_run hu hB hS.1 hS.2.1 h4 (Or.inl rfl) (by omega) r1
  have e : M' = M := Option.some.inj (m1.symm.trans hgo)
  subst e
  rw [r2] at m4
  rw [r3] at m5
  have hS1 := Sc_fr m2 hS
  have hD1 := Dt_fr m2 hD
  obtain ⟨w1, w2⟩ := wd_line m4 m5
  -- the first end
  obtain ⟨q1, q2, q3⟩ := w_letter (g := g) (u := u) (q := p + 4 + 1) (i := a nl) (by omega) b5 (by rw [show g (p + 4 + 1 + 1) = 32 from b6]; exact nAn32) (by omega)
  obtain ⟨M2, n1, n2, n3, n4, n5, -⟩ := go_run hu hB hS1.1 hS1.2.1 m3 (Or.inr ⟨rfl, b4⟩) (by omega) q1
  rw [q2] at n4
  rw [q3] at n5
  have hS2 := Sc_fr n2 hS1
  have hD2 := Dt_fr n2 hD1
  -- the second end
  obtain ⟨t1, t2, t3⟩ := w_letter (g := g) (u := u) (q := p + 4 + 1 + 1 + 1) (i := b nl) (by omega) b7 (by rw [show g (p + 4 + 1 + 1 + 1 + 1) = 32 from b8]; exact nAn32) (by omega)
  obtain ⟨M3, o1, o2, o3, o4, o5, -⟩ := go_run hu hB hS2.1 hS2.2.1 n3 (Or.inr ⟨rfl, b6⟩) (by omega) t1
  rw [t2] at o4
  rw [t3] at o5
  have hS3 := Sc_fr o2 hS2
  have hD3 := Dt_fr o2 hD2
  obtain ⟨M4, M5, k1, k2, k3, k4, k5, k6, k7⟩ := num_semi (bd_ := 99) (p := p + 4 + 1 + 1 + 1 + 1) hu hB hS3 o3 b8 hw1 hw (by omega) hA2 h59 (by omega)
  have c0 := hD3.1
  have c3 := hD3.2.2.2.1
  obtain ⟨d0, d1, d2, d3, d4⟩ := hD3
  rw [← k6] at d0 d1 d2 d3 d4
  have e3 : 3 + (nl : Int) = ((3 + nl : Nat) : Int) := by omega
  have e27 : 27 + (nl : Int) = ((27 + nl : Nat) : Int) := by omega
  have e51 : 51 + (nl : Int) = ((51 + nl : Nat) : Int) := by omega
  have e75 : 75 + (nl : Int) = ((75 + nl : Nat) : Int) := by omega
  obtain ⟨F, hF⟩ : ∃ F, F = up (up (up (up (M5.2 13) (3 + nl) (a nl : Int)) (27 + nl) (b nl : Int)) (51 + nl) (w : Int)) (75 + nl) (-1) := ⟨_, rfl⟩
  have hF1 : F 1 = (nl : Int) := by
    rw [hF, up_n _ _ (by omega), up_n _ _ (by omega), up_n _ _ (by omega), up_n _ _ (by omega)]; exact d1
  have hFlow : ∀ j, j < 3 → F j = M5.2 13 j := by
    intro j hj
    rw [hF, up_n _ _ (by omega), up_n _ _ (by omega), up_n _ _ (by omega), up_n _ _ (by omega)]
  have hFl : ∀ l, l < nl + 1 → F (3 + l) = (a l : Int) ∧ F (27 + l) = (b l : Int) := by
    intro l hl2
    rw [hF, up_n _ _ (show 3 + l ≠ 75 + nl by omega), up_n _ _ (show 3 + l ≠ 51 + nl by omega), up_n _ _ (show 3 + l ≠ 27 + nl by omega), up_n _ _ (show 27 + l ≠ 75 + nl by omega), up_n _ _ (show 27 + l ≠ 51 + nl by omega)]
    by_cases e : l = nl
    · subst e
      rw [up_e, up_e]; exact ⟨rfl, rfl⟩
    · rw [up_n _ _ (show 3 + l ≠ 3 + nl by omega), up_n _ _ (show 27 + l ≠ 27 + nl by omega), up_n _ _ (show 27 + l ≠ 3 + nl by omega)]
      exact d4 l (by omega)
  refine ⟨m4, w1, w2, (M5.1, ua M5.2 13 (up F 1 ((nl + 1 : Nat) : Int))), ?_, k4, ⟨k5.1, k5.2.1, k5.2.2⟩, ⟨?_, ?_, ?_, fun j hj => ?_, fun l hl2 => ?_⟩, ?_⟩
  · unfold fM_readLine
    simp only [kf0]
    rw [xm1, hD1.2.1, nmn (show nl < 2147483648 by omega), if_neg (show ¬ (nl : Int) = 24 by omega), n1, bds, M_isName1 (v := a nl + 1) n4 n5 (by omega), bds, if_neg (by decide : ¬ nm 1 = 0), M_named_i hD2.1 hn hD2.2.2.2.1 n5 ha, bds, nmn (show a nl < 2147483648 by omega), if_neg (show ¬ (a nl : Int) = -1 by omega), o1, bds, M_isName1 (v := b nl + 1) o4 o5 (by omega), bds, if_neg (by decide : ¬ nm 1 = 0), M_named_i c0 hn c3 o5 hb, bds, nmn (show b nl < 2147483648 by omega), if_neg (show ¬ (b nl : Int) = -1 by omega), if_neg (show ¬ (b nl : Int) = (a nl : Int) by omega), k1, bds]
    show bd (fM_readNumber M4 1 ((99 : Nat) : Int)) _ = _
    rw [k2, bds]
    dsimp only
    rw [if_neg (by decide : ¬ nm 1 = 0), e3, e27, e51, e75, ixn (show 3 + nl < 147 by omega), lt_e, ixn (show 27 + nl < 147 by omega), lt_e, ixn (show 51 + nl < 147 by omega), lt_e, ixn (show 75 + nl < 147 by omega), lt_e, xm1]
    simp only [Int.toNat_natCast, ua_up, ua_e, k3]
    rw [← hF, hF1, ixi (by omega), lt_e]
    rfl
  · show up F 1 ((nl + 1 : Nat) : Int) 0 = _
    rw [up_n _ _ (by decide), hFlow 0 (by decide)]; exact d0
  · exact up_e F 1 ((nl + 1 : Nat) : Int)
  · show up F 1 ((nl + 1 : Nat) : Int) 2 = _
    rw [up_n _ _ (by decide), hFlow 2 (by decide)]; exact d2
  · exact d3 j hj
  · show up F 1 ((nl + 1 : Nat) : Int) (3 + l) = _ ∧ up F 1 ((nl + 1 : Nat) : Int) (27 + l) = _
    rw [up_n _ _ (by omega), up_n _ _ (by omega)]; exact hFl l hl2
  · show M5.1 4 = _
    rw [k7]
    congr 1
    omega
end
