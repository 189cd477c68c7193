-- needs: 07zzw.drawn
/-! ease -/
noncomputable def mlo (G : GV) : Nat → Nat
  | 0 => 0
  | k + 1 => if gload G (mlo G k) < gload G (k+1) then k + 1 else mlo G k
theorem mlo_t {G : GV} {k : Nat} (h : gload G (mlo G k) < gload G (k+1)) : mlo G (k+1) = k + 1 := by
  show (if gload G (mlo G k) < gload G (k+1) then k + 1 else mlo G k) = _
  rw [if_pos h]
theorem mlo_f {G : GV} {k : Nat} (h : ¬ gload G (mlo G k) < gload G (k+1)) : mlo G (k+1) = mlo G k := by
  show (if gload G (mlo G k) < gload G (k+1) then k + 1 else mlo G k) = _
  rw [if_neg h]
theorem mlo_le (G : GV) (k : Nat) : mlo G k ≤ k := by
  induction k with
  | zero => exact Nat.le_refl 0
  | succ k ih => unfold mlo; split <;> omega
noncomputable def est (G : GV) : Nat := mlo G (gn G - 1)
def eE (G : GV) (p c q : Nat) : Prop := c < gL G ∧ ¬ gbr G c ∧ gtl G c = p ∧ ghd G c = q
def eT (G : GV) (q : Nat) : Prop := q < gn G ∧ gload G q + 2 ≤ gload G (est G)
theorem RS_det {E : Nat → Nat → Nat → Prop} {T : Nat → Prop} (hdet : ∀ x c y y', E x c y → E x c y' → y = y') {d l : Nat} {r c r' c' : Nat → Nat} (h : RS E T d l r c) (h' : RS E T d l r' c') : ∀ t, t ≤ d → r t = r' t ∧ (t < d → c t = c' t) := by
  obtain ⟨r0, hd, rs⟩ := h
  obtain ⟨r0', hd', rs'⟩ := h'
  have step : ∀ t, t < d → r t = r' t → c t = c' t := by
    intro t ht e
    obtain ⟨a1, a2, a3⟩ := rs t ht
    obtain ⟨b1, b2, b3⟩ := rs' t ht
    rcases Nat.lt_trichotomy (c t) (c' t) with z | z | z
    · exact absurd a2 (b3 (c t) (r (t+1)) z (e ▸ a1))
    · exact z
    · exact absurd b2 (a3 (c' t) (r' (t+1)) z (e.symm ▸ b1))
  intro t
  induction t with
  | zero => intro _; have e : r 0 = r' 0 := by rw [r0, r0']
            exact ⟨e, fun h => step 0 h e⟩
  | succ t ih =>
    intro ht
    obtain ⟨e, ec⟩ := ih (by omega)
    have hc := ec (by omega)
    obtain ⟨a1, _, _⟩ := rs t (by omega)
    obtain ⟨b1, _, _⟩ := rs' t (by omega)
    rw [← e, ← hc] at b1
    have := hdet _ _ _ _ a1 b1
    exact ⟨this, fun h => step (t+1) h this⟩
section
variable {N M : ZB} {G : GV}
theorem eE_det {x c y y' : Nat} (h : eE G x c y) (h' : eE G x c y') : y = y' := h.2.2.2.symm.trans h'.2.2.2
theorem est_lt (hG : GOK G) (hn : 0 < gn G) : est G < gn G := by
  have := mlo_le G (gn G - 1)
  unfold est; omega
theorem gload_le (hG : GOK G) (p : Nat) : gload G p ≤ 24 := by
  have hb := hG.1
  have := cnt_le (gL G) (fun l => ¬ gbr G l ∧ gtl G l = p)
  unfold gload; omega
theorem Ea_most (hN : RN N G) (hG : GOK G) (hn : 0 < gn G) : fEa_mostLoaded N = some ((est G : Nat) : Int) := by
  have hb := hG.1
  unfold fEa_mostLoaded est
  refine lop2_s (gn G - 1) (fun k => ((mlo G k : Nat) : Int)) (fun k => ((k + 1 : Nat) : Int)) ?_ ?_ (by omega) rfl rfl
  · intro rec k hk hr
    have h1 := mlo_le G k
    have g1 := gload_le hG (k+1)
    have g2 := gload_le hG (mlo G k)
    simp only [kf1]
    rw [hN.1, nmn (by omega), nmn (by omega), if_pos (by omega), N_loadOf hN hG (by omega), bds, N_loadOf hN hG (by omega), bds, nmn (by omega), nmn (by omega)]
    by_cases z : gload G (mlo G k) < gload G (k+1)
    · rw [mlo_t z] at hr
      rw [if_pos (by omega)]; exact hr
    · rw [mlo_f z] at hr
      rw [if_neg (by omega)]; exact hr
  · intro rec
    rw [hN.1, nmn (by omega), nmn (by omega), if_neg (by omega)]
/-- the class's search -/
def ES (G : GV) (l m i : Nat) (q pb lb V : Nat → Nat) (qa wa : Nat → Int) : Prop := BQ (eE G) (eT G) l m i q pb lb ∧ (∀ j, j < m → qa j = (q j : Nat) ∧ q j < gn G) ∧ (∀ j, j < m → wa (q j) = (V j : Nat)) ∧ V 0 = 0 ∧ (∀ j, 1 ≤ j → j < m → V j = V (pb j) ||| 2 ^ lb j) ∧ ∀ j, j < m → V j < 2 ^ gL G
theorem ES_push {l m i c : Nat} {q pb lb V : Nat → Nat} {qa wa : Nat → Int} (h : ES G l m i q pb lb V qa wa) (hi : i < m) {y : Nat} (hc : eE G (q i) c y) (hyn : y < gn G) (hnew : ∀ j, j < m → q j ≠ y) (hord : ∀ j, 1 ≤ j → j < m → pb j = i → lb j < c) : ES G l (m+1) i (upn q m y) (upn pb m i) (upn lb m c) (upn V m (V i ||| 2 ^ c)) (up qa m (y : Int)) (up wa y ((V i ||| 2 ^ c : Nat) : Int)) := by
  obtain ⟨⟨h0, h1, h2, h3, h4, h5⟩, hq, hw, hV0, hV, hVl⟩ := h
  have qo : ∀ j, j < m → upn q m y j = q j := fun j hj => upn_n _ _ (by omega)
  have po : ∀ j, j < m → upn pb m i j = pb j := fun j hj => upn_n _ _ (by omega)
  have lo : ∀ j, j < m → upn lb m c j = lb j := fun j hj => upn_n _ _ (by omega)
  have vo : ∀ j, j < m → upn V m (V i ||| 2 ^ c) j = V j := fun j hj => upn_n _ _ (by omega)
  refine ⟨⟨by rw [qo 0 (by omega)]; exact h0, by omega, ?_, ?_, ?_, ?_⟩, ?_, ?_, by rw [vo 0 (by omega)]; exact hV0, ?_, ?_⟩
  · intro j j' hj hj' he
    by_cases e1 : j = m
    · by_cases e2 : j' = m
      · omega
      · rw [e1, upn_e, qo j' (by omega)] at he
        exact absurd he.symm (hnew j' (by omega))
    · by_cases e2 : j' = m
      · rw [e2, upn_e, qo j (by omega)] at he
        exact absurd he (hnew j (by omega))
      · rw [qo j (by omega), qo j' (by omega)] at he
        exact h2 j j' (by omega) (by omega) he
  · intro j hj1 hj
    by_cases e : j = m
    · subst e
      rw [upn_e, upn_e, upn_e, qo i (by omega)]
      exact ⟨hi, Nat.le_refl i, hc⟩
    · rw [qo j (by omega), po j (by omega), lo j (by omega)]
      obtain ⟨a1, a2, a3⟩ := h3 j hj1 (by omega)
      rw [qo (pb j) (by omega)]
      exact ⟨a1, a2, a3⟩
  · intro j j' hj1 hjj hj'
    by_cases e : j' = m
    · subst e
      rw [upn_e, upn_e, lo j hjj, po j hjj]
      exact ⟨(h3 j hj1 hjj).2.1, fun k => hord j hj1 hjj k⟩
    · rw [lo j (by omega), po j (by omega), lo j' (by omega), po j' (by omega)]
      exact h4 j j' hj1 hjj (by omega)
  · intro j hj
    obtain ⟨a1, a2, a3⟩ := h5 j hj
    rw [qo j a1]
    refine ⟨by omega, a2, fun c z hz => ?_⟩
    obtain ⟨j', b1, b2, b3⟩ := a3 c z hz
    refine ⟨j', by omega, by rw [qo j' b1]; exact b2, ?_⟩
    rw [po j' b1, lo j' b1]; exact b3
  · intro j hj
    by_cases e : j = m
    · subst e; rw [up_e, upn_e]; exact ⟨rfl, hyn⟩
    · rw [up_n _ _ e, qo j (by omega)]; exact hq j (by omega)
  · intro j hj
    by_cases e : j = m
    · subst e; rw [upn_e, upn_e, up_e]
    · rw [qo j (by omega), vo j (by omega), up_n _ _ (hnew j (by omega))]; exact hw j (by omega)
  · intro j hj1 hj
    by_cases e : j = m
    · subst e; rw [upn_e, upn_e, upn_e, vo i hi]
    · rw [vo j (by omega), po j (by omega), lo j (by omega)]
      have := (h3 j hj1 (by omega)).1
      rw [vo (pb j) (by omega)]; exact hV j hj1 (by omega)
  · intro j hj
    by_cases e : j = m
    · subst e; rw [upn_e]
      exact Nat.or_lt_two_pow (hVl i hi) (Nat.pow_lt_pow_right (by omega) hc.1)
    · rw [vo j (by omega)]; exact hVl j (by omega)
noncomputable def eway (G : GV) (d : Nat) (c : Nat → Nat) : Nat := bs (gL G) (fun x => ∃ s, s < d ∧ c s = x)
theorem eRS_lt {d l : Nat} {r c : Nat → Nat} (h : RS (eE G) (eT G) d l r c) {t : Nat} (ht : t < d) : c t < gL G := (h.2.2 t ht).1.1
theorem eRS_dist {d l : Nat} {r c : Nat → Nat} (h : RS (eE G) (eT G) d l r c) : ∀ t, t ≤ d → DE (eE G) (eT G) (d - t) (r t) := by
  obtain ⟨r0, hd, rs⟩ := h
  intro t ht
  cases t with
  | zero => rw [r0]; exact hd
  | succ t => have := (rs t (by omega)).2.1; rwa [show d - (t+1) = d - t - 1 by omega]
theorem eRS_inj {d l : Nat} {r c : Nat → Nat} (h : RS (eE G) (eT G) d l r c) {s t : Nat} (hs : s < d) (ht : t < d) (e : c s = c t) : s = t := by
  have h1 := (h.2.2 s hs).1.2.2.1
  have h2 := (h.2.2 t ht).1.2.2.1
  rw [e] at h1
  have d1 := eRS_dist h s (by omega)
  have d2 := eRS_dist h t (by omega)
  rw [← h1, h2] at d1
  have := DE_uniq d1 d2
  omega
theorem eway_V {l m i : Nat} {q pb lb V : Nat → Nat} {qa wa : Nat → Int} (h : ES G l m i q pb lb V qa wa) (hi : i < m) (hT : eT G (q i)) {d : Nat} {r c : Nat → Nat} (hr : RS (eE G) (eT G) d l r c) : V i = eway G d c := by
  obtain ⟨P, p0, pd, pt⟩ := BQ_way h.1 hi hT hr
  have key : ∀ t, t ≤ d → V (P t) = eway G t c := by
    intro t
    induction t with
    | zero =>
      intro _
      rw [p0, h.2.2.2.1]
      exact (bs_zero.mpr (fun i _ ⟨s, hs, _⟩ => by omega)).symm
    | succ t ih =>
      intro ht
      obtain ⟨a1, a2, a3, a4⟩ := (pt t (by omega)).2.2 (by omega)
      have hm := (pt (t+1) ht).1
      rw [h.2.2.2.2.1 _ a1 hm, a2, a3, ih (by omega)]
      unfold eway
      rw [bs_one (n := gL G) (eRS_lt hr (show t < d by omega)), bs_or]
      apply bs_ext; intro x _
      constructor
      · rintro (⟨s, h1, h2⟩ | h2)
        · exact ⟨s, by omega, h2⟩
        · exact ⟨t, by omega, h2.symm⟩
      · rintro ⟨s, h1, h2⟩
        by_cases e : s = t
        · subst e; exact Or.inr h2.symm
        · exact Or.inl ⟨s, by omega, h2⟩
  rw [← pd]; exact key d (Nat.le_refl d)
def WayOK (G : GV) (v : Int) : Prop := (∃ d r c, 1 ≤ d ∧ RS (eE G) (eT G) d (est G) r c ∧ v = ((eway G d c : Nat) : Int)) ∨ ((∀ k, ¬ DW (eE G) (eT G) k (est G)) ∧ v = 0)
theorem eT_start (hG : GOK G) : ¬ eT G (est G) := fun h => by have := h.2; omega
theorem Ea_findWay (hN : RN N G) (hG : GOK G) (hn : 0 < gn G) (Ea : ZB) : ∃ v E', fEa_findWay N Ea = some (v, E') ∧ WayOK G v := by
  have hb := hG.1
  have hst := est_lt hG hn
  have hst2 := gload_le hG (est G)
  have main : wp (fEa_findWay N Ea) (fun r => WayOK G r.1) := by
    unfold fEa_findWay
    rw [hN.1, nmn (by omega), if_neg (by omega), Ea_most hN hG hn, bds, N_loadOf hN hG (by omega), bds, lt_e, zshln (by omega), lt_e, ixi (by omega), lt_e, ixn (by omega), lt_e]
    refine lop4_w (Q := fun (r : Int × ZB) => WayOK G r.1) (fun v3 v4 v5 (E : ZB) => ∃ (m i : Nat) (q pb lb V : Nat → Nat), v3 = ((bs (gn G) (fun z => ∃ j, j < m ∧ q j = z) : Nat) : Int) ∧ v4 = (m : Int) ∧ v5 = (i : Int) ∧ ES G (est G) m i q pb lb V (E.2 1) (E.2 2) ∧ i ≤ m ∧ (∀ j, 1 ≤ j → j < m → pb j < i)) (fun _ _ v5 _ => gn G - v5.toNat) ?_ FU _ _ _ _ ?_ (by show gn G - _ < 100000; omega)
    · intro rec v3 v4 v5 E hI hrec
      obtain ⟨m, i, q, pb, lb, V, rfl, rfl, rfl, hES, him, hst'⟩ := hI
      have hmL : m ≤ gn G := inj_le (fun j hj => (hES.2.1 j hj).2) hES.1.2.2.1
      rw [kf0_e, nmn (by omega), nmn (by omega)]
      by_cases hlt : i < m
      · obtain ⟨qi1, qi2⟩ := hES.2.1 i hlt
        have hg := gload_le hG (q i)
        rw [if_pos (by omega), if_pos (by omega), rdn (by omega), qi1, N_loadOf hN hG (by omega), bds, nmi (show -2147483648 ≤ ((gload G (est G) : Nat) : Int) - 2 ∧ ((gload G (est G) : Nat) : Int) - 2 < 2147483648 by omega), nmn (by omega)]
        by_cases hfree : eT G (q i)
        · rw [if_neg (by have := hfree.2; omega), rdn (by omega), hES.2.2.1 i hlt]
          obtain ⟨d, hd⟩ := BQ_some hES.1 hlt hfree
          obtain ⟨r, c, hr⟩ := RS_ex d _ hd
          refine ⟨_, rfl, Or.inl ⟨d, r, c, ?_, hr, ?_⟩⟩
          · rcases Nat.eq_zero_or_pos d with z | z
            · subst z; exact absurd hd.1 (eT_start hG)
            · exact z
          · show ((V i : Nat) : Int) = _; rw [eway_V hES hlt hfree hr]
        · have hgt : gload G (est G) < gload G (q i) + 2 := by
            rcases Nat.lt_or_ge (gload G (est G)) (gload G (q i) + 2) with z | z
            · exact z
            · exact absurd ⟨qi2, z⟩ hfree
          rw [if_pos (by omega)]
          refine lop4_w (Q := fun (r : Int × ZB) => WayOK G r.1) (fun v3 v4 v7 (E : ZB) => ∃ (m' y : Nat) (q' pb' lb' V' : Nat → Nat), v3 = ((bs (gn G) (fun z => ∃ j, j < m' ∧ q' j = z) : Nat) : Int) ∧ v4 = (m' : Int) ∧ v7 = (y : Int) ∧ ES G (est G) m' i q' pb' lb' V' (E.2 1) (E.2 2) ∧ i < m' ∧ q' i = q i ∧ (∀ j, 1 ≤ j → j < m' → pb' j = i → lb' j < y) ∧ (∀ j, 1 ≤ j → j < m' → pb' j ≤ i) ∧ y ≤ gL G ∧ ∀ c z, c < y → eE G (q i) c z → ∃ j, j < m' ∧ q' j = z ∧ (j = 0 ∨ pb' j < i ∨ (pb' j = i ∧ lb' j ≤ c))) (fun _ _ v7 _ => gL G - v7.toNat) ?_ FU _ _ _ _ ⟨m, 0, q, pb, lb, V, rfl, rfl, rfl, hES, hlt, rfl, fun j h1 h2 h3 => by have := hst' j h1 h2; omega, fun j h1 h2 => by have := hst' j h1 h2; omega, by omega, fun c z hc _ => by omega⟩ (by show gL G - _ < 100000; omega)
          intro rec2 v3 v4 v7 E2 hI2 hrec2
          obtain ⟨m', y, q', pb', lb', V', rfl, rfl, rfl, hES', him', hqi', hord, hle, hyL, hall⟩ := hI2
          have hmL' : m' ≤ gn G := inj_le (fun j hj => (hES'.2.1 j hj).2) hES'.1.2.2.1
          have goOn : (∀ c z, eE G (q i) c z → ∃ j, j < m' ∧ q' j = z ∧ (j = 0 ∨ pb' j < i ∨ (pb' j = i ∧ lb' j ≤ c))) → ∃ r, rec ((bs (gn G) (fun z => ∃ j, j < m' ∧ q' j = z) : Nat) : Int) (m' : Int) ((i : Int) + 1) E2 = some r ∧ WayOK G r.1 := by
            intro hal
            refine hrec _ _ _ _ ⟨m', i+1, q', pb', lb', V', rfl, rfl, by omega, ?_, by omega, fun j h1 h2 => by have := hle j h1 h2; omega⟩ (by omega)
            obtain ⟨⟨h0, h1, h2, h3, h4, h5⟩, rest⟩ := hES'
            refine ⟨⟨h0, h1, h2, fun j hj1 hj => ⟨(h3 j hj1 hj).1, by have := (h3 j hj1 hj).2.1; omega, (h3 j hj1 hj).2.2⟩, h4, fun j hj => ?_⟩, rest⟩
            by_cases e : j = i
            · subst e; exact ⟨him', by rw [hqi']; exact hfree, fun c z hz => hal c z (by rw [← hqi']; exact hz)⟩
            · exact h5 j (by omega)
          rw [kf0_e, hN.2.1, nmn (by omega), nmn (by omega), nmn (by omega)]
          by_cases hyy : y < gL G
          · rw [if_pos (by omega)]
            have hvy := hG.2.1 y hyy
            have hhd := ghd_lt hG hyy
            have htl := gtl_lt hG hyy
            by_cases hm10 : m' < 10
            · rw [if_pos (by omega), N_head hN hG hyy, bds, N_isSound hN (by omega), bds]
              simp only [kf3]
              rw [N_tail hN hG hyy, bds, nmn (by omega), nmn (by omega), zbit (bs_lt31 (by omega)) (by omega)]
              have skip : ¬ (eE G (q i) y (ghd G y) ∧ ¬ ∃ j, j < m' ∧ q' j = ghd G y) → ∃ r, rec2 ((bs (gn G) (fun z => ∃ j, j < m' ∧ q' j = z) : Nat) : Int) (m' : Int) ((y : Int) + 1) E2 = some r ∧ WayOK G r.1 := by
                intro hno
                refine hrec2 _ _ _ _ ⟨m', y+1, q', pb', lb', V', rfl, rfl, by omega, hES', him', hqi', fun j h1 h2 h3 => by have := hord j h1 h2 h3; omega, hle, by omega, fun c z hc hz => ?_⟩ (by omega)
                by_cases e : c = y
                · subst e
                  have hz' : z = ghd G c := hz.2.2.2.symm
                  subst hz'
                  have hin : ∃ j, j < m' ∧ q' j = ghd G c := by
                    by_cases k : ∃ j, j < m' ∧ q' j = ghd G c
                    · exact k
                    · exact absurd ⟨hz, k⟩ hno
                  obtain ⟨j, j1, j2⟩ := hin
                  refine ⟨j, j1, j2, ?_⟩
                  rcases Nat.eq_zero_or_pos j with w | w
                  · exact Or.inl w
                  · have := hle j w j1
                    rcases Nat.lt_or_ge (pb' j) i with w2 | w2
                    · exact Or.inr (Or.inl w2)
                    · exact Or.inr (Or.inr ⟨by omega, by have := hord j w j1 (by omega); omega⟩)
                · exact hall c z (by omega) hz
              by_cases hs : gbr G y
              · rw [i01t hs]; exact skip (fun k => k.1.2.1 hs)
              · rw [i01f hs]
                by_cases htp : gtl G y = q i
                · rw [if_pos (by omega)]
                  by_cases hin : ∃ j, j < m' ∧ q' j = ghd G y
                  · rw [b10t ((bs_bit _ _ _).mpr ⟨hhd, hin⟩)]; exact skip (fun k => k.2 hin)
                  · have hq'i := hES'.2.2.1 i him'
                    rw [hqi'] at hq'i
                    have hVi := hES'.2.2.2.2.2 i him'
                    have hVi31 : V' i < 2147483648 := Nat.lt_trans hVi (p2_lt31 (by omega))
                    rw [b10f (fun k => hin ((bs_bit _ _ _).mp k).2), zshln (by omega), zshln (by omega), zorn (bs_lt31 (by omega)) (p2_lt31 (by omega)), lt_e, rdn (by omega), hq'i, zorn hVi31 (p2_lt31 (by omega)), ixn (by omega), lt_e, ixn (by omega), lt_e]
                    have hE : eE G (q' i) y (ghd G y) := ⟨hyy, hs, by rw [hqi']; exact htp, rfl⟩
                    have hpush := ES_push hES' him' hE hhd (fun j hj e => hin ⟨j, hj, e⟩) hord
                    have e12 : ∀ w, (ua E2.2 2 w) 1 = E2.2 1 := fun _ => rfl
                    simp only [e12, Int.toNat_natCast]
                    refine hrec2 _ _ _ _ ⟨m'+1, y+1, _, _, _, _, ?_, by omega, by omega, hpush, by omega, by rw [upn_n _ _ (by omega)]; exact hqi', ?_, ?_, by omega, ?_⟩ (by omega)
                    · rw [bs_one hhd, bs_or]
                      congr 1
                      apply bs_ext; intro z _
                      constructor
                      · rintro (⟨j, h1, h2⟩ | h)
                        · exact ⟨j, by omega, by rw [upn_n _ _ (by omega)]; exact h2⟩
                        · exact ⟨m', by omega, by rw [upn_e]; exact h.symm⟩
                      · rintro ⟨j, h1, h2⟩
                        by_cases e : j = m'
                        · subst e; rw [upn_e] at h2; exact Or.inr h2.symm
                        · rw [upn_n _ _ e] at h2; exact Or.inl ⟨j, by omega, h2⟩
                    · intro j h1 h2 h3
                      by_cases e : j = m'
                      · subst e; rw [upn_e]; omega
                      · rw [upn_n _ _ e] at h3 ⊢
                        have := hord j h1 (by omega) h3; omega
                    · intro j h1 h2
                      by_cases e : j = m'
                      · subst e; rw [upn_e]; omega
                      · rw [upn_n _ _ e]; exact hle j h1 (by omega)
                    · intro c z hc hz
                      by_cases e : c = y
                      · subst e
                        have hz' : z = ghd G c := hz.2.2.2.symm
                        refine ⟨m', by omega, by rw [upn_e, hz'], Or.inr (Or.inr ⟨by rw [upn_e], by rw [upn_e]; omega⟩)⟩
                      · obtain ⟨j, j1, j2, j3⟩ := hall c z (by omega) hz
                        refine ⟨j, by omega, by rw [upn_n _ _ (by omega)]; exact j2, ?_⟩
                        rw [upn_n _ _ (by omega), upn_n _ _ (by omega)]; exact j3
                · rw [if_neg (by omega)]; exact skip (fun k => htp k.1.2.2.1)
            · rw [if_neg (by omega)]
              apply goOn
              have hful := inj_cnt (L := gn G) m' (fun j hj => (hES'.2.1 j hj).2) hES'.1.2.2.1
              have hm : m' = gn G := by omega
              intro c z hz
              by_cases hcy : c < y
              · exact hall c z hcy hz
              · rw [hm] at hful
                have hzn : z < gn G := by rw [← hz.2.2.2]; exact ghd_lt hG hz.1
                have := cnt_full hful z hzn
                rw [← hm] at this
                obtain ⟨j, j1, j2⟩ := this
                refine ⟨j, j1, j2, ?_⟩
                rcases Nat.eq_zero_or_pos j with w | w
                · exact Or.inl w
                · have := hle j w j1
                  rcases Nat.lt_or_ge (pb' j) i with w2 | w2
                  · exact Or.inr (Or.inl w2)
                  · exact Or.inr (Or.inr ⟨by omega, by have := hord j w j1 (by omega); omega⟩)
          · rw [if_neg (by omega)]
            exact goOn (fun c z hz => hall c z (by have := hz.1; omega) hz)
      · rw [if_neg (by omega)]
        have : i = m := by omega
        subst this
        refine ⟨_, rfl, Or.inr ⟨fun k => ?_, rfl⟩⟩
        have := BQ_none hES.1 k 0 hES.1.2.1
        rwa [hES.1.1] at this
    · refine ⟨1, 0, fun _ => est G, fun _ => 0, fun _ => 0, fun _ => 0, ?_, rfl, rfl, ⟨BQ_begin _ rfl, fun j hj => ⟨?_, hst⟩, fun j hj => ?_, rfl, fun j h1 h2 => by omega, fun j _ => Nat.two_pow_pos _⟩, by omega, fun j h1 h2 => by omega⟩
      · congr 1
        rw [bs_one hst]
        exact bs_ext (fun i _ => ⟨fun e => ⟨0, by omega, e.symm⟩, fun ⟨_, _, e⟩ => e.symm⟩)
      · have : j = 0 := by omega
        subst this; rfl
      · show up (Ea.2 2) (Int.toNat ((est G : Nat) : Int)) 0 (est G) = _
        rw [Int.toNat_natCast, up_e]; rfl
  obtain ⟨r, h1, h2⟩ := main
  exact ⟨r.1, r.2, h1, h2⟩
end
