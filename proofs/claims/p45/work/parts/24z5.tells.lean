-- needs: 24z4.lies
/-! tells: a drawn net -/
theorem wp_lt {α β : Type} {x : α} {k : α → Option β} {P : α → Prop} {Q : β → Prop} (h : P x) (hk : ∀ y, P y → wp (k y) Q) : wp (lt x k) Q := hk x h
theorem W_draw {La : ZB} {n : Nat} (h1 : 1 ≤ n) (h2 : n ≤ 1000) : wp (fL_draw La (n : Int)) (fun u => ∃ v : Nat, v < n ∧ u.1 = (v : Int) ∧ u.2.2 1 = La.2 1 ∧ u.2.2 0 = La.2 0) := by
  have key : ∀ x : Int, ∃ v : Nat, v < n ∧ zrem (zushr x 8) (n : Int) = (v : Int) := by
    intro x
    obtain ⟨u, hu, hu2⟩ := zushr8 x
    exact ⟨u % n, Nat.mod_lt _ (by omega), by rw [hu2, zremn (by omega) (by omega) (by omega)]⟩
  obtain ⟨v, hv, e⟩ := key (up (La.2 2) 0 (La.2 2 0 * 1103515245 + 12345) 0)
  unfold fL_draw
  rw [rdi (by omega), ixi (by omega), lt_e, rdi (by omega), nzi (by rw [nmn (by omega)]; omega)]
  refine ⟨_, rfl, v, hv, e, rfl, rfl⟩
theorem W_put {La : ZB} {n : Nat} {c : Int} (hn : n < 256) (hc : 0 ≤ c ∧ c ≤ 255) : wp (fL_put La (n : Int) c) (fun u => u.1 = ((n + 1 : Nat) : Int) ∧ Wrt La n [c] u.2) := by
  obtain ⟨L', h1, h2⟩ := Wr_put (La := La) hn hc
  exact ⟨_, h1, rfl, h2⟩
theorem W_adds {La : ZB} {n : Nat} (S : List Int) (hS : ∀ x, x ∈ S → 0 ≤ x ∧ x ≤ 255) (hn : n + S.length ≤ 256) : wp (fL_adds S La (n : Int)) (fun u => u.1 = ((n + S.length : Nat) : Int) ∧ Wrt La n S u.2) := by
  obtain ⟨L', h1, h2⟩ := Wr_adds S La n hS hn
  exact ⟨_, h1, rfl, h2⟩
theorem W_number {La : ZB} {n v : Nat} (hv : v ≤ 99) (hn : n + 2 ≤ 256) : wp (fL_number La (n : Int) (v : Int)) (fun u => u.1 = ((n + (dig v).length : Nat) : Int) ∧ Wrt La n (dig v) u.2) := by
  obtain ⟨L', h1, h2⟩ := Wr_number (La := La) hv hn
  exact ⟨_, h1, rfl, h2⟩
theorem Wrt_v {A B : ZB} {n : Nat} {S : List Int} (h : Wrt A n S B) : B.2 1 = A.2 1 := by
  obtain ⟨⟨f, rfl⟩, -⟩ := h
  rfl
def un (f : Nat → Nat) (k x : Nat) : Nat → Nat := fun j => if j = k then x else f j
theorem un_e (f : Nat → Nat) (k x : Nat) : un f k x k = x := by unfold un; rw [if_pos rfl]
theorem un_n (f : Nat → Nat) {k j : Nat} (x : Nat) (h : j ≠ k) : un f k x j = f j := by unfold un; rw [if_neg h]
theorem ps_ext {w w' : Nat → Nat} {k : Nat} (h : ∀ l, l < k → w' l = w l) : ps w' k = ps w k := by
  induction k with
  | zero => rfl
  | succ k ih =>
    show ps w' k + (10 + (dig (w' k)).length) = ps w k + (10 + (dig (w k)).length)
    rw [ih (fun l hl => h l (by omega)), h k (by omega)]
theorem ps_ub {w : Nat → Nat} : ∀ k, ps w k ≤ 12 * k := by
  intro k
  induction k with
  | zero => exact Nat.le_refl _
  | succ k ih =>
    show ps w k + (10 + (dig (w k)).length) ≤ 12 * (k + 1)
    have : (dig (w k)).length ≤ 2 := by rw [dig_len]; split <;> omega
    omega
theorem other_end {P a d : Nat} (ha : a < P) (hd : d < P - 1) : (a + 1 + d) % P < P ∧ a ≠ (a + 1 + d) % P := by
  refine ⟨Nat.mod_lt _ (by omega), ?_⟩
  by_cases h : a + 1 + d < P
  · rw [Nat.mod_eq_of_lt h]; omega
  · rw [Nat.mod_eq_sub_mod (by omega), Nat.mod_eq_of_lt (by omega)]; omega
/-- the class reads what was told -/
theorem tell_net {T' : ZB} {t : Nat → Int} {P L K n : Nat} {a b w : Nat → Nat} (hd : Drw P L K a b w) (hn : n = 8 * P + ps w L + (rowF K).length) (h600 : n ≤ 600) (h1 : T'.1 1 = (n : Int)) (h2 : ∀ i, i < n → T'.2 0 i = byt t i) (hx : TXT (byt t) P L K a b w) : ∃ r G, fX_net zNet0B T' iRd zNet0B iAc = some r ∧ r.1 = ((P + L + 1 : Nat) : Int) ∧ RN r.2.1 G ∧ GOK G ∧ IAc r.2.2.2.2.2 ∧ r.2.2.2.1.1 11 = 0 ∧ gn G = P ∧ gL G = L ∧ gk G = K ∧ ∀ l, l < L → ga G l = a l ∧ gb G l = b l := by
  have hB : Byt (T'.2 0) n := fun i hi => by rw [h2 i hi]; exact zand255 _
  obtain ⟨x1, x2, x3⟩ := hx
  have hps := ps_le (w := w) (Nat.zero_le L)
  have hx' : TXT (T'.2 0) P L K a b w := by
    refine ⟨fun i hi => At_keep _ _ (fun j hj => h2 j ?_) (x1 i hi), fun l hl => At_keep _ _ (fun j hj => h2 j ?_) (x2 l hl), At_keep _ _ (fun j hj => h2 j ?_) x3⟩
    · have : (rowP i).length = 8 := rfl
      rw [this] at hj
      omega
    · rw [rowL_len] at hj
      have := ps_le (w := w) (show l + 1 ≤ L from hl)
      have e : ps w (l + 1) = ps w l + (10 + (dig (w l)).length) := rfl
      omega
    · omega
  obtain ⟨i1, -, i3, i4, i5, i6, i7, i8, i9⟩ := initB 0 0
  have hI : INV iZ zNet0B T' iRd zNet0B iAc iZ iPS iZ (iZ, 0, 0) iZ iZ iZ none none ((up iM.1 2 (n : Int), ua iM.2 1 (T'.2 0)) : ZB) := ⟨i1, ⟨n, by omega, h1, up_e iM.1 2 (n : Int), fun i hi => ⟨rfl, hB i hi⟩⟩, i3, i4, i5, i6, i7, i8, i9⟩
  obtain ⟨r, t', e1, e2, e3, hI'⟩ := sim2 _ _ _ _ _ _ _ _ _ _ _ _ _ _ _ _ hI
  obtain ⟨M', m1, m2, m3, m4, m5, m6⟩ := M_net_text (M := ((up iM.1 2 (n : Int), ua iM.2 1 (T'.2 0)) : ZB)) (g := T'.2 0) (u := n) hd (up_e iM.1 2 (n : Int)) rfl hB hn h600 hx'
  have ht : t' = (((P + L + 1 : Nat) : Int), M') := Option.some.inj (e2.symm.trans m1)
  subst ht
  obtain ⟨⟨G, hG, hN, hW⟩, -, hR, hA, -⟩ := hI'
  obtain ⟨w0, w1, w2, w3⟩ := hW
  have g0 : gn G = P := by
    have : ((gn G : Nat) : Int) = (P : Int) := w0.symm.trans m3
    omega
  have g1 : gL G = L := by
    have : ((gL G : Nat) : Int) = (L : Int) := w1.symm.trans m4
    omega
  have g2 : gk G = K := by
    have : ((gk G : Nat) : Int) = (K : Int) := w2.symm.trans m5
    omega
  refine ⟨r, G, e1, e3, hN, hG, ?_, hR.1.trans m2, g0, g1, g2, fun l hl => ?_⟩
  · obtain ⟨c, n', c1, c2, c3, c4, -⟩ := hA
    exact ⟨c, n', c1, c2, c3, c4⟩
  · obtain ⟨v1, v2, -⟩ := w3 l (by omega)
    obtain ⟨v3, v4⟩ := m6 l hl
    have y1 : ((ga G l : Nat) : Int) = (a l : Int) := v1.symm.trans v3
    have y2 : ((gb G l : Nat) : Int) = (b l : Int) := v2.symm.trans v4
    exact ⟨by omega, by omega⟩
theorem itsT_no {N : ZB} {G : GV} (hN : RN N G) (hG : GOK G) : fL_itsT N 0 ((gL G : Nat) : Int) 0 = some (-777) := by
  have hb := hG.1
  unfold fL_itsT fX_line
  simp only [kf0, kf1]
  rw [if_pos (by decide : nm 0 = 0), N_hasLine hN hG (by omega), bds, if_neg (show ¬ (0 ≤ ((gL G : Nat) : Int) ∧ ((gL G : Nat) : Int) < ((gL G : Nat) : Int)) by omega), if_pos (by decide : nm 0 = 0), bds]
  rfl
theorem L_tells (z : Int) : ∃ N' T' Rd' Fr' Ac' La' G, fL_tells zNet0B iZ iRd zNet0B iAc (iLa z) 7 = some (1, N', T', Rd', Fr', Ac', La') ∧ RN N' G ∧ GOK G ∧ IAc Ac' ∧ LV G (La'.2 1) ∧ 2 ≤ gn G ∧ gn G ≤ 7 ∧ gL G ≤ 14 ∧ gk G ≤ 4 := by
  have main : wp (fL_tells zNet0B iZ iRd zNet0B iAc (iLa z) 7) (fun r => r.1 = 1 ∧ ∃ G, RN r.2.1 G ∧ GOK G ∧ IAc r.2.2.2.2.2.1 ∧ LV G (r.2.2.2.2.2.2.2 1) ∧ 2 ≤ gn G ∧ gn G ≤ 7 ∧ gL G ≤ 14 ∧ gk G ≤ 4) := by
    unfold fL_tells
    refine wp_bd (W_draw (La := iLa z) (n := 6) (by omega) (by omega)) ?_
    rintro u1 ⟨d1, hd1, a1, -, -⟩
    refine wp_ix (by omega) (wp_lt (P := fun A => A.2 1 0 = ((2 + d1 : Nat) : Int)) ?_ ?_)
    · show up (u1.2.2 1) 0 (2 + u1.1) 0 = _
      rw [up_e, a1]; omega
    intro A1 v0
    refine wp_bd (W_draw (La := A1) (n := 15) (by omega) (by omega)) ?_
    rintro u2 ⟨d2, hd2, b1, b2, -⟩
    refine wp_ix (by omega) (wp_lt (P := fun A => A.2 1 0 = ((2 + d1 : Nat) : Int) ∧ A.2 1 1 = (d2 : Int)) ⟨?_, ?_⟩ ?_)
    · show up (u2.2.2 1) 1 u2.1 0 = _
      rw [up_n _ _ (by decide), b2]; exact v0
    · show up (u2.2.2 1) 1 u2.1 1 = _
      rw [up_e, b1]
    rintro A2 ⟨v0', v1⟩
    refine wp_bd (W_draw (La := A2) (n := 4) (by omega) (by omega)) ?_
    rintro u3 ⟨d3, hd3, c1, c2, -⟩
    refine wp_ix (by omega) (wp_lt (P := fun A => A.2 1 0 = ((2 + d1 : Nat) : Int) ∧ A.2 1 1 = (d2 : Int) ∧ A.2 1 2 = ((1 + d3 : Nat) : Int)) ⟨?_, ?_, ?_⟩ ?_)
    · show up (u3.2.2 1) 2 (1 + u3.1) 0 = _
      rw [up_n _ _ (by decide), c2]; exact v0'
    · show up (u3.2.2 1) 2 (1 + u3.1) 1 = _
      rw [up_n _ _ (by decide), c2]; exact v1
    · show up (u3.2.2 1) 2 (1 + u3.1) 2 = _
      rw [up_e, c1]; omega
    rintro A3 ⟨w0, w1, w2⟩
    obtain ⟨P, hP⟩ : ∃ P, 2 + d1 = P := ⟨_, rfl⟩
    obtain ⟨K, hK⟩ : ∃ K, 1 + d3 = K := ⟨_, rfl⟩
    rw [hP] at w0
    rw [hK] at w2
    -- the points
    refine lop3_w (fun v5 v6 (R : ZB) => ∃ k : Nat, v5 = ((8 * k : Nat) : Int) ∧ v6 = (k : Int) ∧ k ≤ P ∧ R.2 1 = A3.2 1 ∧ ∀ i, i < k → BAt (byt (R.2 0)) (8 * i) (rowP i)) (fun _ v6 _ => P - v6.toNat) ?_ FU _ _ _ ⟨0, rfl, rfl, by omega, rfl, fun i hi => absurd hi (Nat.not_lt_zero i)⟩ (by show P - _ < 100000; omega)
    intro rec v5 v6 R hI hrec
    obtain ⟨k, rfl, rfl, hk, hR, hrow⟩ := hI
    rw [rv0, hR, w0, nmn (show k < 2147483648 by omega), nmn (show P < 2147483648 by omega)]
    by_cases hkP : k < P
    · rw [if_pos (show (k : Int) < (P : Int) by omega)]
      refine wp_bd (W_adds (La := R) (n := 8 * k) [112, 111, 105, 110, 116, 32] (by decide) (by show 8 * k + 6 ≤ 256; omega)) ?_
      rintro B1 ⟨y1, Y1⟩
      rw [y1]
      refine wp_bd (W_put (La := B1.2) (n := 8 * k + 6) (c := 97 + (k : Int)) (by omega) (by omega)) ?_
      rintro B2 ⟨y2, Y2⟩
      rw [y2]
      refine wp_bd (W_put (La := B2.2) (n := 8 * k + 6 + 1) (c := 59) (by omega) (by omega)) ?_
      rintro B3 ⟨y3, Y3⟩
      rw [y3]
      have hW : Wrt R (8 * k) (rowP k) B3.2 := Wr_tr (S := [112, 111, 105, 110, 116, 32, 97 + (k : Int)]) (Wr_tr (S := [112, 111, 105, 110, 116, 32]) Y1 Y2) Y3
      refine hrec _ _ _ ⟨k + 1, by omega, by omega, by omega, (Wrt_v hW).trans hR, fun i hi => ?_⟩ (by omega)
      by_cases e : i = k
      · subst e; exact hW.2.1
      · exact At_keep _ _ (fun j hj => hW.2.2 j (by have : (rowP i).length = 8 := rfl; rw [this] at hj; omega)) (hrow i (by omega))
    · rw [if_neg (show ¬ (k : Int) < (P : Int) by omega)]
      have ek : k = P := by omega
      subst ek
      clear hrec
      -- the lines
      refine lop3_w (fun v5 v6 (R : ZB) => ∃ (l : Nat) (a b w : Nat → Nat), v5 = ((8 * k + ps w l : Nat) : Int) ∧ v6 = (l : Int) ∧ l ≤ d2 ∧ R.2 1 0 = (k : Int) ∧ R.2 1 1 = (d2 : Int) ∧ R.2 1 2 = (K : Int) ∧ (∀ i, i < k → BAt (byt (R.2 0)) (8 * i) (rowP i)) ∧ ∀ i, i < l → R.2 1 (4 + i) = (a i : Int) ∧ R.2 1 (30 + i) = (b i : Int) ∧ a i < k ∧ b i < k ∧ a i ≠ b i ∧ 1 ≤ w i ∧ w i ≤ 99 ∧ BAt (byt (R.2 0)) (8 * k + ps w i) (rowL (a i) (b i) (w i))) (fun _ v6 _ => d2 - v6.toNat) ?_ FU _ _ _ ⟨0, id, id, id, rfl, rfl, by omega, by rw [hR]; exact w0, by rw [hR]; exact w1, by rw [hR]; exact w2, hrow, fun i hi => absurd hi (Nat.not_lt_zero i)⟩ (by show d2 - _ < 100000; omega)
      clear hrow hR
      intro rec v5 v6 R hI hrec
      obtain ⟨l, a, b, w, rfl, rfl, hl, r0, r1, r2, hrow, hlin⟩ := hI
      have hub := ps_ub (w := w) l
      rw [rv1, r1, nmn (show l < 2147483648 by omega), nmn (show d2 < 2147483648 by omega)]
      by_cases hlL : l < d2
      · have e4 : 4 + (l : Int) = ((4 + l : Nat) : Int) := by omega
        have e30 : 30 + (l : Int) = ((30 + l : Nat) : Int) := by omega
        have e56 : 56 + (l : Int) = ((56 + l : Nat) : Int) := by omega
        have eP : (k : Int) - 1 = ((k - 1 : Nat) : Int) := by omega
        rw [if_pos (show (l : Int) < (d2 : Int) by omega), rv0, r0, e4, e30, e56]
        refine wp_bd (W_draw (La := R) (n := k) (by omega) (by omega)) ?_
        rintro U1 ⟨av, hav, p1, p2, p3⟩
        rw [rv0, p2, r0, eP]
        refine wp_bd (W_draw (La := U1.2) (n := k - 1) (by omega) (by omega)) ?_
        rintro U2 ⟨dv, hdv, q1, q2, q3⟩
        obtain ⟨o1, o2⟩ := other_end hav hdv
        rw [rv0, q2, p2, r0, p1, q1]
        refine wp_nz (by rw [nmn (by omega)]; omega) ?_
        rw [show ((av : Int) + 1) + (dv : Int) = ((av + 1 + dv : Nat) : Int) by omega, zremn (by omega) (by omega) (by omega), lt_e, Int.toNat_natCast, Int.toNat_natCast, Int.toNat_natCast]
        obtain ⟨bv, hbv⟩ : ∃ bv, (av + 1 + dv) % k = bv := ⟨_, rfl⟩
        rw [hbv] at o1 o2 ⊢
        refine wp_ix (by omega) (wp_lt (P := fun A => A.2 1 = up (R.2 1) (4 + l) (av : Int) ∧ A.2 0 = R.2 0) ⟨?_, ?_⟩ ?_)
        · rfl
        · show U2.2.2 0 = _
          rw [q3, p3]
        rintro A4 ⟨s1, s2⟩
        refine wp_ix (by omega) (wp_lt (P := fun A => A.2 1 = up (up (R.2 1) (4 + l) (av : Int)) (30 + l) (bv : Int) ∧ A.2 0 = R.2 0) ⟨?_, ?_⟩ ?_)
        · show up (A4.2 1) (30 + l) (bv : Int) = _
          rw [s1]
        · exact s2
        rintro A5 ⟨s3, s4⟩
        refine wp_bd (W_draw (La := A5) (n := 30) (by omega) (by omega)) ?_
        rintro U3 ⟨cv, hcv, t1, t2, t3⟩
        refine wp_ix (by omega) (wp_lt (P := fun A => A.2 1 = up (up (up (R.2 1) (4 + l) (av : Int)) (30 + l) (bv : Int)) (56 + l) ((1 + cv : Nat) : Int) ∧ A.2 0 = R.2 0) ⟨?_, ?_⟩ ?_)
        · show up (U3.2.2 1) (56 + l) (1 + U3.1) = _
          rw [t2, s3, t1, show (1 : Int) + (cv : Int) = ((1 + cv : Nat) : Int) by omega]
        · show U3.2.2 0 = _
          rw [t3, s4]
        rintro A6 ⟨s5, s6⟩
        obtain ⟨n0, hn0⟩ : ∃ n0, 8 * k + ps w l = n0 := ⟨_, rfl⟩
        have hdl : (dig (1 + cv)).length ≤ 2 := by rw [dig_len]; split <;> omega
        rw [hn0]
        refine wp_bd (W_adds (La := A6) (n := n0) [108, 105, 110, 101, 32] (by decide) (by show n0 + 5 ≤ 256; omega)) ?_
        rintro B1 ⟨y1, Y1⟩
        rw [y1]
        refine wp_bd (W_put (La := B1.2) (n := n0 + 5) (c := 97 + (av : Int)) (by omega) (by omega)) ?_
        rintro B2 ⟨y2, Y2⟩
        rw [y2]
        refine wp_bd (W_put (La := B2.2) (n := n0 + 5 + 1) (c := 32) (by omega) (by omega)) ?_
        rintro B3 ⟨y3, Y3⟩
        rw [y3]
        refine wp_bd (W_put (La := B3.2) (n := n0 + 5 + 1 + 1) (c := 97 + (bv : Int)) (by omega) (by omega)) ?_
        rintro B4 ⟨y4, Y4⟩
        rw [y4]
        refine wp_bd (W_put (La := B4.2) (n := n0 + 5 + 1 + 1 + 1) (c := 32) (by omega) (by omega)) ?_
        rintro B5 ⟨y5, Y5⟩
        have Z5 : Wrt A6 n0 [108, 105, 110, 101, 32, 97 + (av : Int), 32, 97 + (bv : Int), 32] B5.2 := Wr_tr (S := [108, 105, 110, 101, 32, 97 + (av : Int), 32, 97 + (bv : Int)]) (Wr_tr (S := [108, 105, 110, 101, 32, 97 + (av : Int), 32]) (Wr_tr (S := [108, 105, 110, 101, 32, 97 + (av : Int)]) (Wr_tr (S := [108, 105, 110, 101, 32]) Y1 Y2) Y3) Y4) Y5
        have x56 : B5.2.2 1 (56 + l) = ((1 + cv : Nat) : Int) := by rw [Wrt_v Z5, s5, up_e]
        rw [rdn (show 56 + l < 96 by omega), x56, y5]
        refine wp_bd (W_number (La := B5.2) (n := n0 + 9) (v := 1 + cv) (by omega) (by omega)) ?_
        rintro B6 ⟨y6, Y6⟩
        rw [y6]
        refine wp_bd (W_put (La := B6.2) (n := n0 + 9 + (dig (1 + cv)).length) (c := 59) (by omega) (by omega)) ?_
        rintro B7 ⟨y7, Y7⟩
        rw [y7]
        have Z6 : Wrt A6 n0 ([108, 105, 110, 101, 32, 97 + (av : Int), 32, 97 + (bv : Int), 32] ++ dig (1 + cv)) B6.2 := Wr_tr Z5 Y6
        have Z7 : Wrt A6 n0 (rowL av bv (1 + cv)) B7.2 := Wr_tr Z6 (by rw [List.length_append, show n0 + (([108, 105, 110, 101, 32, 97 + (av : Int), 32, 97 + (bv : Int), 32] : List Int).length + (dig (1 + cv)).length) = n0 + 9 + (dig (1 + cv)).length by show n0 + (9 + _) = _; omega]; exact Y7)
        have hV := Wrt_v Z7
        have hpe : ps (un w l (1 + cv)) l = ps w l := ps_ext (fun i hi => un_n _ _ (by omega))
        have hps : ps (un w l (1 + cv)) (l + 1) = ps w l + (10 + (dig (1 + cv)).length) := by
          show ps (un w l (1 + cv)) l + (10 + (dig (un w l (1 + cv) l)).length) = _
          rw [hpe, un_e]
        refine hrec _ _ _ ⟨l + 1, un a l av, un b l bv, un w l (1 + cv), ?_, by omega, by omega, ?_, ?_, ?_, fun i hi => ?_, fun i hi => ?_⟩ (by omega)
        · rw [hps]; omega
        · rw [hV, s5, up_n _ _ (by omega), up_n _ _ (by omega), up_n _ _ (by omega)]; exact r0
        · rw [hV, s5, up_n _ _ (by omega), up_n _ _ (by omega), up_n _ _ (by omega)]; exact r1
        · rw [hV, s5, up_n _ _ (by omega), up_n _ _ (by omega), up_n _ _ (by omega)]; exact r2
        · refine At_keep _ _ (fun j hj => ?_) (hrow i hi)
          have : (rowP i).length = 8 := rfl
          rw [this] at hj
          rw [Z7.2.2 j (by omega), s6]
        · by_cases e : i = l
          · subst e
            rw [un_e, un_e, un_e, hpe, hn0]
            refine ⟨?_, ?_, hav, o1, o2, by omega, by omega, Z7.2.1⟩
            · rw [hV, s5, up_n _ _ (by omega), up_n _ _ (by omega), up_e]
            · rw [hV, s5, up_n _ _ (by omega), up_e]
          · obtain ⟨g1, g2, g3, g4, g5, g6, g7, g8⟩ := hlin i (by omega)
            have hpi : ps (un w l (1 + cv)) i = ps w i := ps_ext (fun j hj => un_n _ _ (by omega))
            rw [un_n _ _ e, un_n _ _ e, un_n _ _ e, hpi]
            refine ⟨?_, ?_, g3, g4, g5, g6, g7, At_keep _ _ (fun j hj => ?_) g8⟩
            · rw [hV, s5, up_n _ _ (by omega), up_n _ _ (by omega), up_n _ _ (by omega)]; exact g1
            · rw [hV, s5, up_n _ _ (by omega), up_n _ _ (by omega), up_n _ _ (by omega)]; exact g2
            · rw [rowL_len] at hj
              have q8 := ps_le (w := w) (show i + 1 ≤ l by omega)
              have q9 : ps w (i + 1) = ps w i + (10 + (dig (w i)).length) := rfl
              rw [Z7.2.2 j (by omega), s6]
      · rw [if_neg (show ¬ (l : Int) < (d2 : Int) by omega)]
        have el : l = d2 := by omega
        subst el
        clear hrec
        obtain ⟨n0, hn0⟩ : ∃ n0, 8 * k + ps w l = n0 := ⟨_, rfl⟩
        have hdl : (dig K).length ≤ 2 := by rw [dig_len]; split <;> omega
        rw [hn0]
        refine wp_bd (W_adds (La := R) (n := n0) [102, 111, 114, 101, 115, 116, 115, 32] (by decide) (by show n0 + 8 ≤ 256; omega)) ?_
        rintro B1 ⟨y1, Y1⟩
        rw [rv2, Wrt_v Y1, r2, y1]
        refine wp_bd (W_number (La := B1.2) (n := n0 + 8) (v := K) (by omega) (by omega)) ?_
        rintro B2 ⟨y2, Y2⟩
        rw [y2]
        refine wp_bd (W_put (La := B2.2) (n := n0 + 8 + (dig K).length) (c := 59) (by omega) (by omega)) ?_
        rintro B3 ⟨y3, Y3⟩
        have Z2 : Wrt R n0 ([102, 111, 114, 101, 115, 116, 115, 32] ++ dig K) B2.2 := Wr_tr Y1 Y2
        have Z3 : Wrt R n0 (rowF K) B3.2 := Wr_tr Z2 (by rw [List.length_append, show n0 + (([102, 111, 114, 101, 115, 116, 115, 32] : List Int).length + (dig K).length) = n0 + 8 + (dig K).length by show n0 + (8 + _) = _; omega]; exact Y3)
        have hV := Wrt_v Z3
        have hx : TXT (byt (B3.2.2 0)) k l K a b w := by
          refine ⟨fun i hi => At_keep _ _ (fun j hj => ?_) (hrow i hi), fun i hi => At_keep _ _ (fun j hj => ?_) (hlin i hi).2.2.2.2.2.2.2, by rw [hn0]; exact Z3.2.1⟩
          · have : (rowP i).length = 8 := rfl
            rw [this] at hj
            exact Z3.2.2 j (by omega)
          · rw [rowL_len] at hj
            have q8 := ps_le (w := w) (show i + 1 ≤ l from hi)
            have q9 : ps w (i + 1) = ps w i + (10 + (dig (w i)).length) := rfl
            exact Z3.2.2 j (by omega)
        have hd : Drw k l K a b w := ⟨by omega, by omega, by omega, by omega, fun i hi => ⟨(hlin i hi).2.2.1, (hlin i hi).2.2.2.1, (hlin i hi).2.2.2.2.1, (hlin i hi).2.2.2.2.2.1, (hlin i hi).2.2.2.2.2.2.1⟩⟩
        have hrf := rowF_len (k := K)
        obtain ⟨T', l1, l2, l3⟩ := L_lies (T := iZ) (La := B3.2) (n := n0 + 8 + (dig K).length + 1) (u0 := 0) rfl (by omega) (by omega)
        obtain ⟨r, G, n1, n2, n3, n4, n5, n6, n7, n8, n9, n10⟩ := tell_net (T' := T') (t := B3.2.2 0) (n := n0 + 8 + (dig K).length + 1) hd (by omega) (by omega) l2 l3 hx
        have z0 : B3.2.2 1 0 = ((gn G : Nat) : Int) := by rw [hV, r0, n7]
        have z1 : B3.2.2 1 1 = ((gL G : Nat) : Int) := by rw [hV, r1, n8]
        have z2 : B3.2.2 1 2 = ((gk G : Nat) : Int) := by rw [hV, r2, n9]
        have hf0 : fX_fault r.2.2.2.1 = some 0 := by
          unfold fX_fault fRd_faultKind
          rw [bds, n6]
        have hsum : (((gn G : Nat) : Int) + ((gL G : Nat) : Int)) + 1 = ((k + l + 1 : Nat) : Int) := by omega
        have hits := itsT_no n3 n4
        simp only [kf5, kf6]
        rw [y3, l1, bds]
        dsimp only
        rw [if_neg (by decide : ¬ nm 1 = 0), n1, bds, rv0, rv1, z0, z1, hsum, n2, if_pos rfl, hf0, bds, if_pos (by decide : nm 0 = 0), X_now0 n3, bds, rv0, z0, if_pos rfl, X_now1 n3, bds, rv1, z1, if_pos rfl, X_now2 n3, bds, rv2, z2, if_pos rfl, rv1, z1, hits, bds, if_pos (by decide : nm (-777) = -777), zo1]
        refine ⟨_, rfl, rfl, G, n3, n4, n5, ⟨z0, z1, z2, fun i hi => ?_⟩, by omega, by omega, by omega, by omega⟩
        have hi' : i < l := by omega
        obtain ⟨g1, g2, -⟩ := hlin i hi'
        obtain ⟨h1, h2⟩ := n10 i hi'
        show B3.2.2 1 (4 + i) = _ ∧ B3.2.2 1 (30 + i) = _
        rw [hV, h1, h2]
        exact ⟨g1, g2⟩
  obtain ⟨⟨r, N', T', Rd', Fr', Ac', La'⟩, h1, h2, G, h3⟩ := main
  have h2' : r = 1 := h2
  subst h2'
  exact ⟨N', T', Rd', Fr', Ac', La', G, h1, h3⟩
