-- needs: 07zzz02.sets
/-! most, trees, light -/
theorem sim26 : Sim26 INV := by
  intro X N T Rd Fr Ac Ch PS Ly Pa OT Ea Ga c0 c1 M a1 hI hr1
  have keepw : ∀ w, INV X N T Rd Fr Ac Ch (PS.1, ua PS.2 2 w) Ly Pa OT Ea Ga c0 c1 (up M.1 0 0, M.2) := fun _ => hI
  have keep0 : INV X N T Rd Fr Ac Ch PS Ly Pa OT Ea Ga c0 c1 (up M.1 0 0, M.2) := hI
  obtain ⟨⟨G, hG, hN, hM⟩, hT, hR, hA, hC, hGa, hi0, hi1, hP⟩ := hI
  have hb := hG.1
  have hM1 : RW (((up M.1 0 0, M.2) : ZB).2 12) G := hM
  unfold fX_most fM_most fM_isCount
  simp only [kf0, kf1, kf2, lt_e]
  rw [M_isIn hr1 (by omega) (by omega), bds, zob, bds, nmi hr1]
  by_cases q : 0 ≤ a1 ∧ a1 ≤ 24
  · obtain ⟨k, rfl⟩ : ∃ k : Nat, a1 = k := ⟨a1.toNat, by omega⟩
    obtain ⟨w, h1, h2⟩ := PS_byNumber hN hG (k := k) (by omega) PS
    rw [if_neg (by omega : ¬ (k : Int) < 0), if_neg (by omega : ¬ 24 < (k : Int)), q10t q, h1, bds, bitCount_bs (by omega), bds, M_sound hM1 hG, bds]
    have hsn : (bs (gL G) fun l => ¬ gbr G l) = bs (gL G) (snd_ G) := rfl
    rw [hsn, M_chosen hM1 hG (by omega), bds, bits_bs (by omega), bds]
    exact ⟨_, _, rfl, rfl, rfl, keepw w⟩
  · rw [q10f q]
    refine ⟨(-1, PS), _, ?_, rfl, rfl, keep0⟩
    by_cases r : a1 < 0
    · rw [if_pos r]
    · rw [if_neg r, if_pos (by omega)]
theorem sim28 : Sim28 INV := by
  intro X N T Rd Fr Ac Ch PS Ly Pa OT Ea Ga c0 c1 M hI
  have keepw : ∀ w, INV X N T Rd Fr Ac Ch (PS.1, ua PS.2 2 w) Ly Pa OT Ea Ga c0 c1 (up M.1 0 0, M.2) := fun _ => hI
  have keep0 : INV X N T Rd Fr Ac Ch PS Ly Pa OT Ea Ga c0 c1 (up M.1 0 0, M.2) := hI
  obtain ⟨⟨G, hG, hN, hM⟩, hT, hR, hA, hC, hGa, hi0, hi1, hP⟩ := hI
  have hb := hG.1
  have hM1 : RW (((up M.1 0 0, M.2) : ZB).2 12) G := hM
  unfold fX_trees fM_trees
  rw [lt_e, M_points hM1, bds, hN.1, nmn (by omega)]
  simp only [kf2]
  by_cases q : gn G < 2
  · rw [if_pos (by omega : (gn G : Int) < 2), if_pos (by omega : (gn G : Int) < 2)]
    exact ⟨_, _, rfl, rfl, rfl, keep0⟩
  · rw [if_neg (by omega : ¬ (gn G : Int) < 2), if_neg (by omega : ¬ (gn G : Int) < 2)]
    have hcle : ∀ t, cnt (gL G) (Tk G (t+1) (snd_ G) (gL G)) ≤ 24 := fun t => by have := cnt_le (gL G) (Tk G (t+1) (snd_ G) (gL G)); omega
    have hmul : ∀ t : Nat, t ≤ 24 → (t + 1) * (gn G - 1) ≤ 25 * 9 := fun t ht => Nat.mul_le_mul (by omega) (by omega)
    obtain ⟨m, hm1, hm2, hm3⟩ := least_of (fun t => cnt (gL G) (Tk G (t+1) (snd_ G) (gL G)) ≠ (t + 1) * (gn G - 1)) (n := 24) (by
      have := hcle 24
      have : 25 * 1 ≤ (24 + 1) * (gn G - 1) := Nat.mul_le_mul (by omega) (by omega)
      omega)
    have hcast : ∀ t : Nat, (((t : Int) + 1) * ((gn G : Int) - 1)) = (((t + 1) * (gn G - 1) : Nat) : Int) := fun t => by
      have h1 : (gn G : Int) - 1 = ((gn G - 1 : Nat) : Int) := by omega
      have h2 : (t : Int) + 1 = ((t + 1 : Nat) : Int) := by omega
      rw [h1, h2, ← Int.natCast_mul]
    have hsn : (bs (gL G) fun l => ¬ gbr G l) = bs (gL G) (snd_ G) := rfl
    have cls : ∃ w, fPS_mostTrees N PS = some ((m : Int), (PS.1, ua PS.2 2 w)) := by
      have main : wp (fPS_mostTrees N PS) (fun r => ∃ w, r = ((m : Int), ((PS.1, ua PS.2 2 w) : ZB))) := by
        unfold fPS_mostTrees
        rw [lt_e, hN.1]
        refine lop2_w (fun v2 C => ∃ (t : Nat) (w : Nat → Int), v2 = (t : Int) ∧ C = (PS.1, ua PS.2 2 w) ∧ t ≤ m) (fun v2 _ => m - v2.toNat) ?_ FU _ _ ⟨0, PS.2 2, rfl, by rw [ua_self], by omega⟩ (by show m - _ < 100000; omega)
        intro rec v2 C hI hrec
        obtain ⟨t, w, rfl, rfl, ht⟩ := hI
        simp only [kf1]
        rw [nmn (by omega)]
        by_cases h24 : t < 24
        · obtain ⟨w2, e1, e2⟩ := PS_byNumber hN hG (k := t + 1) (by omega) (PS.1, ua PS.2 2 w)
          have hc := hcle t
          have hmu := hmul t (by omega)
          rw [if_pos (by omega), show (t : Int) + 1 = ((t + 1 : Nat) : Int) by omega, e1, bds, bitCount_bs (by omega), bds]
          rw [show ((t + 1 : Nat) : Int) = (t : Int) + 1 by omega, hcast t, nmn (by omega), nmn (by omega)]
          simp only [ua_up]
          by_cases e : t = m
          · subst e
            rw [if_neg (by omega)]
            exact ⟨_, rfl, w2, rfl⟩
          · have := hm3 t (by omega)
            rw [if_pos (by omega)]
            exact hrec _ _ ⟨t+1, w2, by omega, rfl, by omega⟩ (by omega)
        · rw [if_neg (by omega)]
          exact ⟨_, rfl, w, by rw [show t = m by omega]⟩
      obtain ⟨r, h1, w, h2⟩ := main
      exact ⟨w, by rw [h1, h2]⟩
    obtain ⟨w, hw⟩ := cls
    rw [hw, bds]
    refine ⟨_, ((m : Int), (up M.1 0 0, M.2)), rfl, ?_, rfl, keepw w⟩
    refine lop1_s m (fun t => (t : Int)) ?_ ?_ (by omega) rfl
    · intro rec t ht hr
      have hc := hcle t
      have hmu := hmul t (by omega)
      have := hm3 t ht
      rw [M_sound hM1 hG, bds, hsn, show (t : Int) + 1 = ((t + 1 : Nat) : Int) by omega, M_chosen hM1 hG (by omega), bds, bits_bs (by omega), bds, bds, show ((t + 1 : Nat) : Int) = (t : Int) + 1 by omega, hcast t, nmn (by omega), nmn (by omega), if_pos (by omega)]
      exact hr
    · intro rec
      have hc := hcle m
      have hmu := hmul m (by omega)
      rw [M_sound hM1 hG, bds, hsn, show (m : Int) + 1 = ((m + 1 : Nat) : Int) by omega, M_chosen hM1 hG (by omega), bds, bits_bs (by omega), bds, bds, show ((m + 1 : Nat) : Int) = (m : Int) + 1 by omega, hcast m, nmn (by omega), nmn (by omega), if_neg (by omega)]
/-! light -/
def lcd (G : GV) (x : Nat) : Nat := gw G x * 24 + x
noncomputable def Tc (G : GV) (k : Nat) : Nat → (Nat → Prop)
  | 0 => fun _ => False
  | m + 1 => fun x => Tc G k m x ∨ (x < gL G ∧ lcd G x = m ∧ ¬ gbr G x ∧ canT G k (Tc G k m) x)
theorem Tc_lt {G : GV} {k : Nat} (m : Nat) : ∀ x, Tc G k m x → x < gL G ∧ lcd G x < m ∧ ¬ gbr G x := by
  induction m with
  | zero => intro x h; exact h.elim
  | succ m ih =>
    rintro x (h | ⟨h1, h2, h3, _⟩)
    · have := ih x h; exact ⟨this.1, by omega, this.2.2⟩
    · exact ⟨h1, by omega, h3⟩
theorem Tc_skip {G : GV} {k : Nat} {m : Nat} (j : Nat) : (∀ x, x < gL G → ¬ gbr G x → lcd G x < m ∨ m + j ≤ lcd G x) → Tc G k (m + j) = Tc G k m := by
  induction j with
  | zero => intro _; rfl
  | succ j ih =>
    intro h
    rw [← ih (fun x h1 h2 => by have := h x h1 h2; omega)]
    funext x; apply propext
    constructor
    · rintro (z | ⟨z1, z2, z3, _⟩)
      · exact z
      · have e2 : lcd G x = m + j := z2
        have := h x z1 z3; omega
    · exact Or.inl
noncomputable def wsm (G : GV) : Nat → (Nat → Prop) → Nat
  | 0, _ => 0
  | n + 1, p => wsm G n p + (if dc (p n) then gw G n else 0)
theorem wsm_ext {G : GV} {n : Nat} {p q : Nat → Prop} (h : ∀ i, i < n → (p i ↔ q i)) : wsm G n p = wsm G n q := by
  induction n with
  | zero => rfl
  | succ n ih =>
    unfold wsm
    rw [ih (fun i hi => h i (by omega)), propext (h n (by omega))]
theorem wsm_add {G : GV} {n x : Nat} {p : Nat → Prop} (hx : x < n) (hp : ¬ p x) : wsm G n (fun y => p y ∨ y = x) = wsm G n p + gw G x := by
  induction n with
  | zero => omega
  | succ n ih =>
    unfold wsm
    by_cases e : x = n
    · subst e
      rw [dc_t.mpr (Or.inr rfl), dc_f.mpr hp, wsm_ext (q := p) (fun i hi => ⟨fun h => h.resolve_right (by omega), Or.inl⟩)]
      simp
    · rw [ih (by omega)]
      have : (p n ∨ n = x) = p n := propext ⟨fun h => h.resolve_right (by omega), Or.inl⟩
      show wsm G n p + gw G x + (if dc (p n ∨ n = x) then gw G n else 0) = _
      rw [this]; omega
theorem wsm_le {G : GV} (hG : GOK G) (n : Nat) (p : Nat → Prop) (hn : n ≤ gL G) : wsm G n p ≤ 99 * n := by
  induction n with
  | zero => exact Nat.le_refl 0
  | succ n ih =>
    unfold wsm
    have := ih (by omega)
    have := (hG.2.1 n (by omega)).2.2.2.2.1
    split <;> omega
section
variable {N M PS : ZB} {G : GV}
theorem PS_byWeight (hN : RN N G) (hG : GOK G) {k : Nat} (hk : k ≤ 100) (PS : ZB) : ∃ w, fPS_takeByWeight N PS (k : Int) = some (((bs (gL G) (Tc G k 2400) : Nat) : Int), (PS.1, ua PS.2 2 w)) := by
  have hb := hG.1
  obtain ⟨w0, h1, h2⟩ := PS_takeNone hN hG PS
  have main : wp (fPS_takeByWeight N PS (k : Int)) (fun r => ∃ w, r = (((bs (gL G) (Tc G k 2400) : Nat) : Int), ((PS.1, ua PS.2 2 w) : ZB))) := by
    unfold fPS_takeByWeight
    rw [h1, bds]
    refine lop3_w (fun v2 v3 C => ∃ (m : Nat) (w : Nat → Int), v2 = ((bs (gL G) (Tc G k (m * 24)) : Nat) : Int) ∧ v3 = (m : Int) ∧ C = (PS.1, ua PS.2 2 w) ∧ m ≤ 100 ∧ PT G (Tc G k (m * 24)) w) (fun _ v3 _ => 100 - v3.toNat) ?_ FU _ _ _ ⟨1, w0, ?_, rfl, rfl, by omega, ?_⟩ (by show 100 - _ < 100000; omega)
    · intro rec v2 v3 C hI hrec
      obtain ⟨m, w, rfl, rfl, rfl, hm, hw⟩ := hI
      rw [nmn (by omega)]
      by_cases h99 : 99 < m
      · rw [if_pos (by omega)]
        have : m = 100 := by omega
        subst this
        exact ⟨_, rfl, w, rfl⟩
      · rw [if_neg (by omega)]
        refine lop3_w (fun v2 v4 C => ∃ (l : Nat) (w : Nat → Int), v2 = ((bs (gL G) (Tc G k (m * 24 + l)) : Nat) : Int) ∧ v4 = (l : Int) ∧ C = (PS.1, ua PS.2 2 w) ∧ l ≤ gL G ∧ PT G (Tc G k (m * 24 + l)) w) (fun _ v4 _ => gL G - v4.toNat) ?_ FU _ _ _ ⟨0, w, rfl, rfl, rfl, by omega, hw⟩ (by show gL G - _ < 100000; omega)
        intro rec2 v2 v4 C hI2 hrec2
        obtain ⟨l, w, rfl, rfl, rfl, hl, hw⟩ := hI2
        rw [hN.2.1, nmn (by omega), nmn (by omega)]
        by_cases hlL : l < gL G
        · have hv := hG.2.1 l hlL
          have hn := hN.2.2.2.2.2 l hlL
          have huniq : ∀ x, x < gL G → lcd G x = m * 24 + l → x = l ∧ gw G l = m := by
            intro x hx hc
            unfold lcd at hc
            have h1 : x = l := by omega
            subst h1
            exact ⟨rfl, by omega⟩
          have same : (gw G l ≠ m ∨ gbr G l) → ∃ r, rec2 ((bs (gL G) (Tc G k (m * 24 + l)) : Nat) : Int) ((l : Int) + 1) (PS.1, ua PS.2 2 w) = some r ∧ ∃ w, r = (((bs (gL G) (Tc G k 2400) : Nat) : Int), ((PS.1, ua PS.2 2 w) : ZB)) := by
            intro h
            have he : Tc G k (m * 24 + (l + 1)) = Tc G k (m * 24 + l) := by
              funext x; apply propext
              constructor
              · rintro (z | ⟨z1, z2, z3, _⟩)
                · exact z
                · obtain ⟨rfl, e⟩ := huniq x z1 z2
                  rcases h with h | h
                  · exact absurd e h
                  · exact absurd h z3
              · exact Or.inl
            exact hrec2 _ _ _ ⟨l+1, w, by rw [he], by omega, rfl, by omega, by rw [he]; exact hw⟩ (by omega)
          simp only [kf2]
          rw [if_pos (by omega), rdn (by omega), hn.2.2.1, nmn (by omega)]
          by_cases hwm : gw G l = m
          · rw [if_pos (by omega), N_isSound hN (by omega), bds]
            by_cases hs : gbr G l
            · rw [i01t hs]; exact same (Or.inr hs)
            · have hTm : ¬ Tc G k (m * 24 + l) l := fun h => by
                have := (Tc_lt _ l h).2.1
                unfold lcd at this; omega
              obtain ⟨w', t1, t2⟩ := PS_take hN hG hlL hTm hk hw PS
              have hTe : (fun x => Tc G k (m * 24 + l) x ∨ (x = l ∧ canT G k (Tc G k (m * 24 + l)) l)) = Tc G k (m * 24 + (l + 1)) := by
                funext x; apply propext
                constructor
                · rintro (z | ⟨rfl, z⟩)
                  · exact Or.inl z
                  · exact Or.inr ⟨hlL, by unfold lcd; rw [hwm]; rfl, hs, z⟩
                · rintro (z | ⟨z1, z2, z3, z4⟩)
                  · exact Or.inl z
                  · obtain ⟨rfl, _⟩ := huniq x z1 z2
                    exact Or.inr ⟨rfl, z4⟩
              rw [hTe] at t2
              rw [i01f hs, t1, bds]
              by_cases hc : canT G k (Tc G k (m * 24 + l)) l
              · rw [i10t hc, zshln (by omega), zorn (bs_lt31 (by omega)) (p2_lt31 (by omega)), lt_e]
                refine hrec2 _ _ _ ⟨l+1, w', ?_, by omega, rfl, by omega, t2⟩ (by omega)
                rw [bs_one hlL, bs_or, ← hTe]
                congr 1
                exact bs_ext (fun x _ => ⟨fun h => by rcases h with z | z; exact Or.inl z; exact Or.inr ⟨z, hc⟩, fun h => by rcases h with z | z; exact Or.inl z; exact Or.inr z.1⟩)
              · rw [i10f hc]
                refine hrec2 _ _ _ ⟨l+1, w', ?_, by omega, rfl, by omega, t2⟩ (by omega)
                rw [← hTe]
                congr 1
                exact bs_ext (fun x _ => ⟨Or.inl, fun h => h.resolve_right (fun z => hc z.2)⟩)
          · rw [if_neg (by omega)]; exact same (Or.inl hwm)
        · rw [if_neg (by omega)]
          have he : Tc G k ((m + 1) * 24) = Tc G k (m * 24 + l) := by
            have := Tc_skip (G := G) (k := k) (m := m * 24 + l) (24 - l) (fun x hx _ => by
              unfold lcd
              rcases Nat.lt_or_ge (gw G x) (m + 1) with z | z
              · left
                have : gw G x * 24 ≤ m * 24 := Nat.mul_le_mul_right 24 (by omega)
                rcases Nat.lt_or_ge (gw G x) m with z2 | z2
                · have : (gw G x + 1) * 24 ≤ m * 24 := Nat.mul_le_mul_right 24 z2
                  omega
                · omega
              · right
                have : (m + 1) * 24 ≤ gw G x * 24 := Nat.mul_le_mul_right 24 z
                omega)
            rw [← this]; congr 1; omega
          exact hrec _ _ _ ⟨m+1, w, by rw [he], by omega, rfl, by omega, by rw [he]; exact hw⟩ (by omega)
    · have he : Tc G k (1 * 24) = Tc G k 0 := by
        have := Tc_skip (G := G) (k := k) (m := 0) 24 (fun x hx _ => by
          right
          have := (hG.2.1 x hx).2.2.2.1
          unfold lcd; omega)
        exact this
      rw [he]
      have : bs (gL G) (Tc G k 0) = 0 := bs_zero.mpr (fun _ _ h => h)
      rw [this]; rfl
    · have he : Tc G k (1 * 24) = Tc G k 0 := by
        have := Tc_skip (G := G) (k := k) (m := 0) 24 (fun x hx _ => by
          right
          have := (hG.2.1 x hx).2.2.2.1
          unfold lcd; omega)
        exact this
      rw [he]; exact h2
  obtain ⟨r, e1, w, e2⟩ := main
  exact ⟨w, by rw [e1, e2]⟩
theorem N_weightOf (hN : RN N G) (hG : GOK G) (p : Nat → Prop) : fN_weightOf N ((bs (gL G) p : Nat) : Int) = some ((wsm G (gL G) p : Nat) : Int) := by
  have hb := hG.1
  unfold fN_weightOf
  refine lop2_s (gL G) (fun i => ((wsm G i p : Nat) : Int)) (fun i => (i : Int)) ?_ ?_ (by omega) rfl rfl
  · intro rec i hi hr
    have hn := hN.2.2.2.2.2 i hi
    simp only [kf1]
    rw [hN.2.1, nmn (by omega), nmn (by omega), if_pos (by omega), zbit (bs_lt31 (by omega)) (by omega), rdn (by omega), hn.2.2.1, lt_e]
    have hs : wsm G (i+1) p = wsm G i p + (if dc (p i) then gw G i else 0) := rfl
    rw [hs] at hr
    by_cases h : p i
    · rw [b10t ((bs_bit _ _ _).mpr ⟨hi, h⟩)]
      rw [dc_t.mpr h, if_pos rfl, Int.natCast_add] at hr
      exact hr
    · rw [b10f (fun z => h ((bs_bit _ _ _).mp z).2)]
      rw [dc_f.mpr h] at hr
      exact hr
  · intro rec
    rw [hN.2.1, nmn (by omega), if_neg (by omega)]
theorem M_lightest (hM : RW (M.2 12) G) (hG : GOK G) {A : Nat → Prop} {x : Nat} (hx : x < gL G) (hA : A x) (hmin : ∀ y, y < gL G → A y → lcd G x ≤ lcd G y) : fM_lightest M ((bs (gL G) A : Nat) : Int) = some (x : Int) := by
  have hb := hG.1
  have main : wp (fM_lightest M ((bs (gL G) A : Nat) : Int)) (fun r => r = (x : Int)) := by
    unfold fM_lightest
    refine lop2_w (fun v2 v3 => ∃ i : Nat, v3 = (i : Int) ∧ i ≤ gL G ∧ ((v2 = -1 ∧ ∀ y, y < i → ¬ A y) ∨ ∃ b : Nat, v2 = (b : Int) ∧ b < i ∧ A b ∧ ∀ y, y < i → A y → lcd G b ≤ lcd G y)) (fun _ v3 => gL G - v3.toNat) ?_ FU _ _ ⟨0, rfl, by omega, Or.inl ⟨rfl, fun y h => absurd h (Nat.not_lt_zero y)⟩⟩ (by show gL G - _ < 100000; omega)
    intro rec v2 v3 hI hrec
    obtain ⟨i, rfl, hi, hb2⟩ := hI
    have hv2 : -2147483648 ≤ v2 ∧ v2 < 2147483648 := by
      rcases hb2 with ⟨z, _⟩ | ⟨b, z, zb, _⟩ <;> omega
    rw [M_lines hM, bds, nmn (by omega), nmn (by omega)]
    by_cases hiL : i < gL G
    · have hvi := hG.2.1 i hiL
      have hmi := hM.2.2.2 i hiL
      rw [if_pos (by omega), M_has (bs_lt31 (by omega)) (by omega), bds]
      simp only [kf1, kf0]
      have take : (∀ y, y < i → A y → lcd G i ≤ lcd G y) → A i → ∃ r, rec (i : Int) ((i : Int) + 1) = some r ∧ r = (x : Int) := by
        intro h hAi
        refine hrec _ _ ⟨i+1, by omega, by omega, Or.inr ⟨i, rfl, by omega, hAi, fun y hy hAy => ?_⟩⟩ (by omega)
        by_cases e : y = i
        · subst e; exact Nat.le_refl _
        · exact h y (by omega) hAy
      by_cases hAi : A i
      · rw [t10t ((bs_bit _ _ _).mpr ⟨hiL, hAi⟩), nmi hv2]
        rcases hb2 with ⟨z, hno⟩ | ⟨b, z, zb, hAb, hbm⟩
        · rw [if_pos z]; exact take (fun y hy h => absurd h (hno y hy)) hAi
        · have hvb := hG.2.1 b (by omega)
          have hmb := hM.2.2.2 b (by omega)
          rw [if_neg (by omega), z, rd51 (by omega), rd51 (by omega), hmi.2.2.1, hmb.2.2.1, nmn (by omega), nmn (by omega)]
          by_cases hlt : gw G i < gw G b
          · rw [if_pos (by omega)]
            refine take (fun y hy h => ?_) hAi
            have := hbm y hy h
            have : (gw G i + 1) * 24 ≤ gw G b * 24 := Nat.mul_le_mul_right 24 hlt
            unfold lcd at *; omega
          · rw [if_neg (by omega)]
            refine hrec _ _ ⟨i+1, by omega, by omega, Or.inr ⟨b, rfl, by omega, hAb, fun y hy hAy => ?_⟩⟩ (by omega)
            by_cases e : y = i
            · subst e
              have : gw G b * 24 ≤ gw G y * 24 := Nat.mul_le_mul_right 24 (by omega)
              unfold lcd; omega
            · exact hbm y (by omega) hAy
      · rw [t10f (fun z => hAi ((bs_bit _ _ _).mp z).2)]
        refine hrec _ _ ⟨i+1, by omega, by omega, ?_⟩ (by omega)
        rcases hb2 with ⟨z, hno⟩ | ⟨b, z, zb, hAb, hbm⟩
        · refine Or.inl ⟨z, fun y hy => ?_⟩
          by_cases e : y = i
          · subst e; exact hAi
          · exact hno y (by omega)
        · refine Or.inr ⟨b, z, by omega, hAb, fun y hy hAy => ?_⟩
          by_cases e : y = i
          · subst e; exact absurd hAy hAi
          · exact hbm y (by omega) hAy
    · rw [if_neg (by omega)]
      refine ⟨_, rfl, ?_⟩
      rcases hb2 with ⟨z, hno⟩ | ⟨b, z, zb, hAb, hbm⟩
      · exact absurd hA (hno x (by omega))
      · have h1 := hbm x (by omega) hA
        have h2 := hmin b (by omega) hAb
        have : lcd G x = lcd G b := by omega
        unfold lcd at this
        rw [z]; omega
  obtain ⟨r, h1, h2⟩ := main
  rw [h1, h2]
end
theorem sim38 : Sim38 INV := by
  intro X N T Rd Fr Ac Ch PS Ly Pa OT Ea Ga c0 c1 M a1 a2 hI hr1 hr2
  have keepw : ∀ w, INV X N T Rd Fr Ac Ch (PS.1, ua PS.2 2 w) Ly Pa OT Ea Ga c0 c1 (up M.1 0 0, M.2) := fun _ => hI
  have keep0 : INV X N T Rd Fr Ac Ch PS Ly Pa OT Ea Ga c0 c1 (up M.1 0 0, M.2) := hI
  obtain ⟨⟨G, hG, hN, hM⟩, hT, hR, hA, hC, hGa, hi0, hi1, hP⟩ := hI
  have hb := hG.1
  have hM1 : RW (((up M.1 0 0, M.2) : ZB).2 12) G := hM
  unfold fX_light fM_light fM_isCount
  rw [lt_e, M_isIn hr1 (by omega) (by omega), bds, zob, bds, kf0_e, kf0_e, nmi hr1, nmi hr2]
  by_cases q : 0 ≤ a1 ∧ a1 ≤ 24
  · obtain ⟨k, rfl⟩ : ∃ k : Nat, a1 = k := ⟨a1.toNat, by omega⟩
    rw [if_neg (by omega : ¬ (k : Int) < 0), if_neg (by omega : ¬ 24 < (k : Int)), q10t q, M_isIn hr2 (by omega) (by omega), bds]
    by_cases r : 0 ≤ a2 ∧ a2 ≤ 1
    · obtain ⟨w, h1⟩ := PS_byWeight hN hG (k := k) (by omega) PS
      rw [if_neg (by omega : ¬ a2 < 0), if_neg (by omega : ¬ 1 < a2), q10t r, h1, bds, M_sound hM1 hG, bds]
      simp only [kf1]
      rw [N_weightOf hN hG, bds]
      have hlc : ∀ x, x < gL G → lcd G x < 2400 := fun x hx => by
        have := (hG.2.1 x hx).2.2.2.2.1
        unfold lcd; omega
      refine ⟨((if a2 = 1 then ((bs (gL G) (Tc G k 2400) : Nat) : Int) else ((wsm G (gL G) (Tc G k 2400) : Nat) : Int)), (PS.1, ua PS.2 2 w)), ((if a2 = 1 then ((bs (gL G) (Tc G k 2400) : Nat) : Int) else ((wsm G (gL G) (Tc G k 2400) : Nat) : Int)), (up M.1 0 0, M.2)), ?_, ?_, rfl, keepw w⟩
      · split <;> rfl
      · have main : wp (lop3 FU (fun (rec_9 : Int → Int → Int → Option (Int × ZB)) (v3_6 : Int) (v4_7 : Int) (v5_8 : Int) =>
        if (nm v5_8) = 0 then (
          if a2 = 0 then (
            some (v4_7, ((up M.1 0 0, M.2) : ZB)))
          else (
            some (v3_6, ((up M.1 0 0, M.2) : ZB))))
        else (
          bd (fM_lightest (up M.1 0 0, M.2) v5_8) fun u_12 =>
          lt (zand v5_8 (zxor (zshl 1 u_12) (-1))) fun v5_13 =>
          bd (fM_canJoin (up M.1 0 0, M.2) u_12 v3_6 (k : Int)) fun u_14 =>
          if (nm u_14) = 0 then (
            rec_9 v3_6 v4_7 v5_13)
          else (
            lt (zor v3_6 (zshl 1 u_12)) fun v3_15 =>
            rd (((up M.1 0 0, M.2) : ZB).2 12) 147 (51 + u_12) fun x_16 =>
            lt (v4_7 + x_16) fun v4_17 =>
            rec_9 v3_15 v4_17 v5_13))) 0 0 ((bs (gL G) (fun l => ¬ gbr G l) : Nat) : Int)) (fun t => t = ((if a2 = 1 then ((bs (gL G) (Tc G k 2400) : Nat) : Int) else ((wsm G (gL G) (Tc G k 2400) : Nat) : Int)), (up M.1 0 0, M.2))) := by
          refine lop3_w (fun v3 v4 v5 => ∃ m : Nat, m ≤ 2400 ∧ v3 = ((bs (gL G) (Tc G k m) : Nat) : Int) ∧ v4 = ((wsm G (gL G) (Tc G k m) : Nat) : Int) ∧ v5 = ((bs (gL G) (fun x => ¬ gbr G x ∧ m ≤ lcd G x) : Nat) : Int)) (fun _ _ v5 => pcn 24 v5.toNat) ?_ FU _ _ _ ⟨0, by omega, ?_, ?_, ?_⟩ ?_
          · intro rec v3 v4 v5 hI hrec
            obtain ⟨m, hm, rfl, rfl, rfl⟩ := hI
            have hl31 : bs (gL G) (fun x => ¬ gbr G x ∧ m ≤ lcd G x) < 2147483648 := bs_lt31 (by omega)
            rw [nmn hl31]
            by_cases hz : bs (gL G) (fun x => ¬ gbr G x ∧ m ≤ lcd G x) = 0
            · have hnone := bs_zero.mp hz
              have he : Tc G k 2400 = Tc G k m := by
                have := Tc_skip (G := G) (k := k) (m := m) (2400 - m) (fun x hx hbx => by
                  left
                  rcases Nat.lt_or_ge (lcd G x) m with z | z
                  · exact z
                  · exact absurd ⟨hbx, z⟩ (hnone x hx))
                rw [show m + (2400 - m) = 2400 by omega] at this; exact this
              rw [if_pos (by omega), he]
              by_cases hw2 : a2 = 0
              · rw [if_pos hw2, if_neg (by omega)]; exact ⟨_, rfl, rfl⟩
              · rw [if_neg hw2, if_pos (by omega)]; exact ⟨_, rfl, rfl⟩
            · rw [if_neg (by omega)]
              have hex : ∃ x, x < gL G ∧ ¬ gbr G x ∧ m ≤ lcd G x := by
                by_cases z : ∃ x, x < gL G ∧ ¬ gbr G x ∧ m ≤ lcd G x
                · exact z
                · exact absurd (bs_zero.mpr (fun i hi h => z ⟨i, hi, h⟩)) hz
              obtain ⟨x0, hx0, hx0b, hx0m⟩ := hex
              obtain ⟨cd, _, ⟨x, hxL, hxb, hxm, rfl⟩, hmin⟩ := least_of (fun cd => ∃ x, x < gL G ∧ ¬ gbr G x ∧ m ≤ lcd G x ∧ lcd G x = cd) ⟨x0, hx0, hx0b, hx0m, rfl⟩
              have hlight := M_lightest hM1 hG (A := fun x => ¬ gbr G x ∧ m ≤ lcd G x) hxL ⟨hxb, hxm⟩ (fun y hy hAy => by
                rcases Nat.lt_or_ge (lcd G y) (lcd G x) with z | z
                · exact absurd ⟨y, hy, hAy.1, hAy.2, rfl⟩ (hmin _ z)
                · exact z)
              have he : Tc G k (lcd G x) = Tc G k m := by
                have := Tc_skip (G := G) (k := k) (m := m) (lcd G x - m) (fun y hy hby => by
                  rcases Nat.lt_or_ge (lcd G y) m with z | z
                  · exact Or.inl z
                  · right
                    rcases Nat.lt_or_ge (lcd G y) (lcd G x) with z2 | z2
                    · exact absurd ⟨y, hy, hby, z, rfl⟩ (hmin _ z2)
                    · omega)
                rw [show m + (lcd G x - m) = lcd G x by omega] at this; exact this
              have hinj : ∀ y, y < gL G → lcd G y = lcd G x → y = x := by
                intro y hy h; unfold lcd at h; omega
              have hTx : ¬ Tc G k m x := fun h => by have := (Tc_lt m x h).2.1; omega
              have hstep : Tc G k (lcd G x + 1) = fun y => Tc G k m y ∨ (y = x ∧ canT G k (Tc G k m) x) := by
                funext y; apply propext
                show (Tc G k (lcd G x) y ∨ (y < gL G ∧ lcd G y = lcd G x ∧ ¬ gbr G y ∧ canT G k (Tc G k (lcd G x)) y)) ↔ _
                rw [he]
                constructor
                · rintro (z | ⟨z1, z2, z3, z4⟩)
                  · exact Or.inl z
                  · have := hinj y z1 z2; subst this; exact Or.inr ⟨rfl, z4⟩
                · rintro (z | ⟨rfl, z⟩)
                  · exact Or.inl z
                  · exact Or.inr ⟨hxL, rfl, hxb, z⟩
              have hleft : ndf (bs (gL G) (fun x => ¬ gbr G x ∧ m ≤ lcd G x)) (2 ^ x) = bs (gL G) (fun y => ¬ gbr G y ∧ lcd G x + 1 ≤ lcd G y) := by
                rw [bs_one hxL, bs_ndf]
                apply bs_ext; intro y hy
                constructor
                · rintro ⟨⟨z1, z2⟩, z3⟩
                  refine ⟨z1, ?_⟩
                  rcases Nat.lt_trichotomy (lcd G y) (lcd G x) with z | z | z
                  · exact absurd ⟨y, hy, z1, z2, rfl⟩ (hmin _ z)
                  · exact absurd (hinj y hy z) z3
                  · exact z
                · rintro ⟨z1, z2⟩
                  exact ⟨⟨z1, by omega⟩, fun e => by subst e; omega⟩
              have hdec : pcn 24 (((bs (gL G) (fun y => ¬ gbr G y ∧ lcd G x + 1 ≤ lcd G y) : Nat) : Int).toNat) < pcn 24 (((bs (gL G) (fun y => ¬ gbr G y ∧ m ≤ lcd G y) : Nat) : Int).toNat) := by
                rw [Int.toNat_natCast, Int.toNat_natCast, pcn_bs (by omega), pcn_bs (by omega)]
                exact cnt_lt (i := x) (fun y _ h => ⟨h.1, by omega⟩) hxL ⟨hxb, hxm⟩ (fun h => by have := h.2; omega)
              have hlx := hlc x hxL
              rw [hlight, bds, zshln (by omega), zcompn hl31 (p2_lt31 (by omega)), lt_e, hleft, M_canJoin hM1 hG hxL (by omega) hTx, bds]
              by_cases hc : canT G k (Tc G k m) x
              · have hTe : Tc G k (lcd G x + 1) = fun y => Tc G k m y ∨ y = x := by
                  rw [hstep]; funext y; apply propext
                  exact ⟨fun h => by rcases h with z | z; exact Or.inl z; exact Or.inr z.1, fun h => by rcases h with z | z; exact Or.inl z; exact Or.inr ⟨z, hc⟩⟩
                rw [i10t hc, zorn (bs_lt31 (by omega)) (p2_lt31 (by omega)), lt_e, rd51 (by omega), (hM1.2.2.2 x hxL).2.2.1, lt_e]
                refine hrec _ _ _ ⟨lcd G x + 1, by omega, ?_, ?_, rfl⟩ hdec
                · rw [hTe, bs_one hxL, bs_or]
                · rw [hTe, wsm_add hxL hTx, Int.natCast_add]
              · have hTe : Tc G k (lcd G x + 1) = Tc G k m := by
                  rw [hstep]; funext y; apply propext
                  exact ⟨fun h => h.resolve_right (fun z => hc z.2), Or.inl⟩
                rw [i10f hc]
                exact hrec _ _ _ ⟨lcd G x + 1, by omega, by rw [hTe], by rw [hTe], rfl⟩ hdec
          · have : bs (gL G) (Tc G k 0) = 0 := bs_zero.mpr (fun _ _ h => h)
            rw [this]; rfl
          · have : ∀ n, wsm G n (Tc G k 0) = 0 := by
              intro n
              induction n with
              | zero => rfl
              | succ n ih => unfold wsm; rw [ih, dc_f.mpr (show ¬ Tc G k 0 n from fun h => h)]; rfl
            rw [this]; rfl
          · congr 1
            exact bs_ext (fun x _ => ⟨fun h => ⟨h, by omega⟩, fun h => h.1⟩)
          · show pcn 24 _ < 100000
            rw [Int.toNat_natCast, pcn_bs (by omega)]
            have := cnt_le (gL G) (fun l => ¬ gbr G l)
            omega
        obtain ⟨t, t1, t2⟩ := main
        rw [← t2]; exact t1
    · rw [q10f r]
      refine ⟨(-1, PS), _, ?_, rfl, rfl, keep0⟩
      by_cases z : a2 < 0
      · rw [if_pos z]
      · rw [if_neg z, if_pos (by omega)]
  · rw [q10f q]
    refine ⟨(-1, PS), _, ?_, rfl, rfl, keep0⟩
    by_cases z : a1 < 0
    · rw [if_pos z]
    · rw [if_neg z, if_pos (by omega)]
