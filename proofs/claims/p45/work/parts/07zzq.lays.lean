-- needs: 07zzp.find2
/-! the reference's chain: rings, free forests, the rounds -/
noncomputable def rgv (G : GV) (l : Nat) (f : Nat) : Int := if gh G l = (f : Int) then 0 else if dc (gbr G l) then 0 else ((grf G l f : Nat) : Int)
def RG (G : GV) (g : Nat → Int) : Prop := ∀ l f, l < gL G → f < gk G → g (5 * l + f) = rgv G l f
theorem gen_bs {G : GV} (hG : GOK G) {l : Nat} (hl : l < gL G) : gen G l = bs (gn G) (fun x => x = ga G l ∨ x = gb G l) := by
  have hv := hG.2.1 l hl
  apply nat_ext; intro i
  rw [gen_bit hG, bs_bit]
  constructor
  · rintro (h | h)
    · exact ⟨by omega, Or.inl h⟩
    · exact ⟨by omega, Or.inr h⟩
  · exact fun h => h.2
noncomputable def crw (G : GV) (k : Nat) (p : Nat → Prop) : Nat := bs (gn G) (fun x => ∃ e, e < k ∧ p e ∧ (x = ga G e ∨ x = gb G e))
theorem crw_t {G : GV} (hG : GOK G) {k : Nat} {p : Nat → Prop} (hk : k < gL G) (h : p k) : crw G (k+1) p = crw G k p ||| gen G k := by
  rw [gen_bs hG hk]
  unfold crw
  rw [bs_or]
  apply bs_ext; intro x _
  constructor
  · rintro ⟨e, h1, h2, h3⟩
    by_cases q : e = k
    · subst q; exact Or.inr h3
    · exact Or.inl ⟨e, by omega, h2, h3⟩
  · rintro (⟨e, h1, h2⟩ | h3)
    · exact ⟨e, by omega, h2⟩
    · exact ⟨k, by omega, h, h3⟩
theorem crw_f {G : GV} {k : Nat} {p : Nat → Prop} (h : ¬ p k) : crw G (k+1) p = crw G k p := by
  unfold crw
  apply bs_ext; intro x _
  constructor
  · rintro ⟨e, h1, h2, h3⟩
    by_cases q : e = k
    · subst q; exact absurd h2 h
    · exact ⟨e, by omega, h2, h3⟩
  · rintro ⟨e, h1, h2⟩; exact ⟨e, by omega, h2⟩
theorem crw_0 {G : GV} {p : Nat → Prop} : crw G 0 p = 0 := bs_zero.mpr (fun i _ ⟨e, h, _⟩ => by omega)
section
variable {N M : ZB} {G : GV}
theorem M_laysRings (hR : RW (M.2 12) G) (hG : GOK G) : ∃ g, fM_laysRings M = some (M.1, ua M.2 22 g) ∧ RG G g := by
  have hb := hG.1
  have main : wp (fM_laysRings M) (fun r => ∃ g, r = (M.1, ua M.2 22 g) ∧ RG G g) := by
    unfold fM_laysRings
    refine lop2_w (fun v1 C => ∃ (l : Nat) (g : Nat → Int), v1 = (l : Int) ∧ C = (M.1, ua M.2 22 g) ∧ l ≤ gL G ∧ ∀ l' f, l' < l → f < gk G → g (5 * l' + f) = rgv G l' f) (fun v1 _ => gL G - v1.toNat) ?_ FU _ _ ⟨0, M.2 22, rfl, by rw [ua_self], by omega, fun l' f h => absurd h (Nat.not_lt_zero l')⟩ (by show gL G - _ < 100000; omega)
    intro rec v1 C hI hrec
    obtain ⟨l, g, rfl, rfl, hl, hg⟩ := hI
    have hR1 : ∀ g, RW (((M.1, ua M.2 22 g) : ZB).2 12) G := fun _ => hR
    rw [M_lines (hR1 g), bds, nmn (by omega), nmn (by omega)]
    by_cases hlL : l < gL G
    · rw [if_pos (by omega)]
      refine lop2_w (fun v2 C => ∃ (f : Nat) (g : Nat → Int), v2 = (f : Int) ∧ C = (M.1, ua M.2 22 g) ∧ f ≤ gk G ∧ (∀ l' f', l' < l → f' < gk G → g (5 * l' + f') = rgv G l' f') ∧ ∀ f', f' < f → g (5 * l + f') = rgv G l f') (fun v2 _ => gk G - v2.toNat) ?_ FU _ _ ⟨0, g, rfl, rfl, by omega, hg, fun f' h => absurd h (Nat.not_lt_zero f')⟩ (by show gk G - _ < 100000; omega)
      intro rec2 v2 C hI2 hrec2
      obtain ⟨f, g, rfl, rfl, hf, hg1, hg2⟩ := hI2
      simp only [kf1, kf0]
      rw [M_many (hR1 g), bds, nmn (by omega), nmn (by omega)]
      by_cases hfk : f < gk G
      · rw [if_pos (by omega), M_lies (hR1 g) hG hlL, bds, nmh hG hlL, M_isBroken (hR1 g) hG hlL, bds, M_inForest (hR1 g) hG (by omega), bds, M_ringF' (hR1 g) hG hlL, bds]
        have fin : ∀ v : Int, v = rgv G l f → ∃ r, (ix 120 (5 * (l : Int) + (f : Int)) (lt ((((M.1, ua M.2 22 g) : ZB).1, ua ((M.1, ua M.2 22 g) : ZB).2 22 (up (((M.1, ua M.2 22 g) : ZB).2 22) (Int.toNat (5 * (l : Int) + (f : Int))) v)) : ZB) fun M_12 => rec2 ((f : Int) + 1) M_12)) = some r ∧ ∃ g, r = (M.1, ua M.2 22 g) ∧ RG G g := by
          intro v hv
          rw [ixi (by omega), lt_e]
          have e0 : (5 * (l : Int) + (f : Int)).toNat = 5 * l + f := by omega
          simp only [ua_e, ua_up, e0]
          refine hrec2 _ _ ⟨f+1, up g (5 * l + f) v, by omega, rfl, by omega, fun l' f' h1 h2 => ?_, fun f' h => ?_⟩ (by omega)
          · rw [up_n _ _ (by omega)]; exact hg1 l' f' h1 h2
          · by_cases e : f' = f
            · subst e; rw [up_e]; exact hv
            · rw [up_n _ _ (by omega)]; exact hg2 f' (by omega)
        by_cases e : gh G l = (f : Int)
        · rw [if_pos e]
          exact fin 0 (by unfold rgv; rw [if_pos e])
        · rw [if_neg e]
          by_cases s : gbr G l
          · rw [i10t s]
            exact fin 0 (by unfold rgv; rw [if_neg e, idt s])
          · rw [i10f s]
            exact fin _ (by unfold rgv; rw [if_neg e, idf s])
      · rw [if_neg (by omega)]
        refine hrec _ _ ⟨l+1, g, by omega, rfl, by omega, fun l' f' h1 h2 => ?_⟩ (by omega)
        by_cases e : l' = l
        · subst e; exact hg2 f' (by omega)
        · exact hg1 l' f' (by omega) h2
    · rw [if_neg (by omega)]
      exact ⟨_, rfl, g, rfl, fun l' f h1 h2 => hg l' f (by omega) h2⟩
  obtain ⟨r, h1, g, h2, h3⟩ := main
  exact ⟨g, by rw [h1, h2], h3⟩
theorem rgv_r (hG : GOK G) (l f : Nat) : -2147483648 ≤ rgv G l f ∧ rgv G l f < 2147483648 := by
  unfold rgv
  have := grf_lt (G := G) hG (l := l) (f := (f : Int))
  split
  · omega
  · split <;> omega
theorem M_freeForest (hR : RW (M.2 12) G) (hG : GOK G) (hg : RG G (M.2 22)) {x : Nat} (hx : x < gL G) (hs : ¬ gbr G x) : fM_freeForest M (x : Int) = some (gfr G x) := by
  have hb := hG.1
  have main : wp (fM_freeForest M (x : Int)) (fun r => r = gfr G x) := by
    unfold fM_freeForest
    refine lop1_w (fun v2 => ∃ f : Nat, v2 = (f : Int) ∧ f ≤ gk G ∧ ∀ j, j < f → ¬ gFf G x j) (fun v2 => gk G - v2.toNat) ?_ FU _ ⟨0, rfl, by omega, fun j hj => absurd hj (Nat.not_lt_zero j)⟩ (by show gk G - _ < 100000; omega)
    intro rec v2 hI hrec
    obtain ⟨f, rfl, hf, hno⟩ := hI
    rw [M_many hR, bds, nmn (by omega), nmn (by omega)]
    by_cases hfk : f < gk G
    · simp only [kf0]
      rw [if_pos (by omega), M_lies hR hG hx, bds, nmh hG hx, rdi (by omega), show (5 * (x : Int) + (f : Int)).toNat = 5 * x + f by omega, hg x f hx hfk, nmi (rgv_r hG x f)]
      have goOn : ¬ gFf G x f → ∃ r, rec ((f : Int) + 1) = some r ∧ r = gfr G x := by
        intro h
        refine hrec _ ⟨f+1, by omega, by omega, fun j hj => ?_⟩ (by omega)
        by_cases q : j = f
        · subst q; exact h
        · exact hno j (by omega)
      by_cases e : gh G x = (f : Int)
      · rw [if_pos e]; exact goOn (fun k => k.1 e)
      · rw [if_neg e]
        have er : rgv G x f = ((grf G x f : Nat) : Int) := by unfold rgv; rw [if_neg e, idf hs]
        rw [er]
        by_cases z : grf G x f = 0
        · rw [if_pos (by omega)]
          refine ⟨_, rfl, ?_⟩
          unfold gfr
          rw [idt (p := gTx G x) ⟨f, hfk, e, z⟩, lst_at hfk ⟨e, z⟩ hno]
        · rw [if_neg (by omega)]; exact goOn (fun k => z k.2)
    · rw [if_neg (by omega)]
      refine ⟨_, rfl, ?_⟩
      unfold gfr
      rw [idf (p := gTx G x) (fun ⟨j, hj, hp⟩ => hno j (by omega) hp)]
  obtain ⟨r, h1, h2⟩ := main
  rw [h1, h2]
theorem M_nextTo (hR : RW (M.2 12) G) (hG : GOK G) (hg : RG G (M.2 22)) {x : Nat} (hx : x < gL G) : fM_nextTo M (x : Int) = some ((bs (gL G) (fun y => ¬ gbr G x ∧ gNx G x y) : Nat) : Int) := by
  have hb := hG.1
  unfold fM_nextTo
  have hbit : ∀ f, ∃ R : Nat, rgv G x f = (R : Int) ∧ R < 2147483648 ∧ ∀ y, R.testBit y = true ↔ ¬ gbr G x ∧ gh G x ≠ (f : Int) ∧ (grf G x f).testBit y = true := by
    intro f
    unfold rgv
    by_cases e : gh G x = (f : Int)
    · rw [if_pos e]; exact ⟨0, rfl, by decide, fun y => by simp [e]⟩
    · rw [if_neg e]
      by_cases s : gbr G x
      · rw [idt s]; exact ⟨0, rfl, by decide, fun y => by simp [s]⟩
      · rw [idf s]; exact ⟨_, rfl, grf_lt hG, fun y => by simp [s, e]⟩
  refine lop2_s (gk G) (fun f => ((bs (gL G) (fun y => ¬ gbr G x ∧ ∃ g : Nat, g < f ∧ gh G x ≠ (g : Int) ∧ (grf G x g).testBit y = true) : Nat) : Int)) (fun f => (f : Int)) ?_ ?_ (by omega) ?_ rfl
  · intro rec f hf hr
    obtain ⟨R, r1, r2, r3⟩ := hbit f
    rw [M_many hR, bds, nmn (by omega), nmn (by omega), if_pos (by omega), rdi (by omega), show (5 * (x : Int) + (f : Int)).toNat = 5 * x + f by omega, hg x f hx hf, r1, lt_e, zorn (bs_lt31 (by omega)) r2]
    have : bs (gL G) (fun y => ¬ gbr G x ∧ ∃ g : Nat, g < f ∧ gh G x ≠ (g : Int) ∧ (grf G x g).testBit y = true) ||| R = bs (gL G) (fun y => ¬ gbr G x ∧ ∃ g : Nat, g < f + 1 ∧ gh G x ≠ (g : Int) ∧ (grf G x g).testBit y = true) := by
      apply nat_ext; intro y
      rw [Nat.testBit_or, Bool.or_eq_true, bs_bit, bs_bit, r3]
      constructor
      · rintro (⟨h0, hs, g, h1, h2⟩ | ⟨hs, h1, h2⟩)
        · exact ⟨h0, hs, g, by omega, h2⟩
        · exact ⟨by rw [grf_bit] at h2; exact h2.2.1.1, hs, f, by omega, h1, h2⟩
      · rintro ⟨h0, hs, g, h1, h2⟩
        by_cases q : g = f
        · subst q; exact Or.inr ⟨hs, h2⟩
        · exact Or.inl ⟨h0, hs, g, by omega, h2⟩
    rw [this]; exact hr
  · intro rec
    rw [M_many hR, bds, nmn (by omega), if_neg (by omega)]; rfl
  · have : bs (gL G) (fun y => ¬ gbr G x ∧ ∃ g : Nat, g < 0 ∧ gh G x ≠ (g : Int) ∧ (grf G x g).testBit y = true) = 0 := bs_zero.mpr (fun i _ ⟨_, g, h, _⟩ => by omega)
    show ((bs (gL G) (fun y => ¬ gbr G x ∧ ∃ g : Nat, g < 0 ∧ gh G x ≠ (g : Int) ∧ (grf G x g).testBit y = true) : Nat) : Int) = 0
    rw [this]; rfl
/-- the set from which one goes on -/
noncomputable def rcs (G : GV) (l : Nat) : Nat → Nat
  | 0 => bs (gL G) (fun z => z = l)
  | t + 1 => bs (gL G) (fun z => (rcs G l t).testBit z = true ∨ ∃ e, e < gL G ∧ (rcs G l t).testBit e = true ∧ ¬ gbr G e ∧ gNx G e z)
theorem rcs_lt (G : GV) (l t : Nat) : rcs G l t < 2 ^ gL G := by
  cases t with
  | zero => exact bs_lt _ _
  | succ t => exact bs_lt _ _
theorem rcs_RC {l t : Nat} (hl : l < gL G) (h : rcs G l (t+1) = rcs G l t) : rcs G l t = bs (gL G) (RC (gE G) l) := by
  have h0 : ∀ t, (rcs G l t).testBit l = true := by
    intro t
    induction t with
    | zero => exact (bs_bit _ _ _).mpr ⟨hl, rfl⟩
    | succ t ih => exact (bs_bit _ _ _).mpr ⟨hl, Or.inl ih⟩
  have h1 : ∀ t z, (rcs G l t).testBit z = true → RC (gE G) l z := by
    intro t
    induction t with
    | zero =>
      intro z hz
      have := ((bs_bit _ _ _).mp hz).2
      subst this; exact fun C hC _ => hC
    | succ t ih =>
      intro z hz
      rcases ((bs_bit _ _ _).mp hz).2 with k | ⟨e, e1, e2, e3, e4⟩
      · exact ih z k
      · exact fun C hC hc => hc e z z (ih e e2 C hC hc) ⟨rfl, e1, e3, e4⟩
  apply nat_ext; intro z
  rw [bs_bit]
  constructor
  · intro hz; exact ⟨bit_lt (rcs_lt G l t) hz, h1 t z hz⟩
  · rintro ⟨hz, hr⟩
    apply hr (fun z => (rcs G l t).testBit z = true) (h0 t)
    rintro x c y hx ⟨rfl, h2, h3, h4⟩
    rw [← h]
    exact (bs_bit _ _ _).mpr ⟨gNx_lt h4, Or.inr ⟨x, h2, hx, h3, h4⟩⟩
noncomputable def rcv (G : GV) (l : Nat) : Nat → Nat
  | 0 => 0
  | t + 1 => rcs G l t
theorem M_laysCrowd (hR : RW (M.2 12) G) (hG : GOK G) (hg : RG G (M.2 22)) {l : Nat} (hl : l < gL G) : fM_laysCrowd M (l : Int) = some (0, (up M.1 26 ((crw G (gL G) (RC (gE G) l) : Nat) : Int), M.2)) := by
  have hb := hG.1
  obtain ⟨m, hm1, hm2, hm3⟩ := still_ex (n := gL G) (rcs G l) (rcs_lt G l) (fun t i hi => (bs_bit _ _ _).mpr ⟨bit_lt (rcs_lt G l t) hi, Or.inl hi⟩) (by
    intro h
    have := (bs_bit (gL G) (fun z => z = l) l).mpr ⟨hl, rfl⟩
    have h' : bs (gL G) (fun z => z = l) = 0 := h
    rw [h'] at this; simp at this)
  have hrc := rcs_RC hl hm2
  have h31 : ∀ t, rcs G l t < 2147483648 := fun t => Nat.lt_trans (rcs_lt G l t) (p2_lt31 (by omega))
  unfold fM_laysCrowd
  rw [zshln (by omega), lt_e]
  have hdone : (lt ((up M.1 26 0, M.2) : ZB) fun M_5 => lop2 FU (fun (rec_8 : Int → ZB → Option (Int × ZB)) (v4_6 : Int) (M_7 : ZB) => bd (fM_lines M_7) fun u_9 => if (nm v4_6) < (nm u_9) then (bd (fM_has ((rcs G l (m+1) : Nat) : Int) v4_6) fun u_10 => kf1 (fun (M_11 : ZB) => rec_8 (v4_6 + 1) M_11) fun k_12 => if (nm u_10) = 0 then (k_12 M_7) else (bd (fM_ends M_7 v4_6) fun u_13 => lt (up M_7.1 26 ((zor (M_7.1 26) u_13)), M_7.2) fun M_14 => k_12 M_14)) else (some (0, M_7))) 0 M_5) = some (0, (up M.1 26 ((crw G (gL G) (RC (gE G) l) : Nat) : Int), M.2)) := by
    rw [hm2, hrc, lt_e]
    refine lop2_s (gL G) (fun k => (k : Int)) (fun k => (up M.1 26 ((crw G k (RC (gE G) l) : Nat) : Int), M.2)) ?_ ?_ (by omega) rfl ?_
    · intro rec k hk hr
      have hR1 : ∀ x, RW (((up M.1 26 x, M.2) : ZB).2 12) G := fun _ => hR
      simp only [kf1]
      rw [M_lines (hR1 _), bds, nmn (by omega), nmn (by omega), if_pos (by omega), M_has (bs_lt31 (by omega)) (by omega), bds, M_ends (hR1 _) hG hk, bds, lt_e]
      by_cases h : RC (gE G) l k
      · rw [t10t ((bs_bit _ _ _).mpr ⟨hk, h⟩)]
        simp only [up_e, up_up]
        have h1 : crw G k (RC (gE G) l) < 2147483648 := bs_lt31 (by omega)
        rw [zorn h1 (gen_lt31 hG hk), ← crw_t hG hk h]
        exact hr
      · rw [t10f (fun z => h ((bs_bit _ _ _).mp z).2)]
        rw [crw_f h] at hr
        exact hr
    · intro rec
      have hR1 : ∀ x, RW (((up M.1 26 x, M.2) : ZB).2 12) G := fun _ => hR
      rw [M_lines (hR1 _), bds, nmn (by omega), if_neg (by omega)]
    · show ((up M.1 26 ((crw G 0 (RC (gE G) l) : Nat) : Int), M.2) : ZB) = _
      rw [crw_0]; rfl
  refine lop2_s (m+1) (fun t => ((rcs G l t : Nat) : Int)) (fun t => ((rcv G l t : Nat) : Int)) ?_ ?_ (by omega) ?_ rfl
  · intro rec t ht hr
    have hne : rcs G l t ≠ rcv G l t := by
      cases t with
      | zero =>
        intro h
        have := (bs_bit (gL G) (fun z => z = l) l).mpr ⟨hl, rfl⟩
        have h' : bs (gL G) (fun z => z = l) = 0 := h
        rw [h'] at this; simp at this
      | succ t => exact hm3 t (by omega)
    have hl2 : rcv G l t < 2147483648 := by
      cases t with
      | zero => exact (by decide : 0 < 2147483648)
      | succ t => exact h31 t
    rw [nmn (h31 t), nmn hl2, if_neg (by omega)]
    refine lop2_s (gL G) (fun k => ((bs (gL G) (fun z => (rcs G l t).testBit z = true ∨ ∃ e, e < k ∧ (rcs G l t).testBit e = true ∧ ¬ gbr G e ∧ gNx G e z) : Nat) : Int)) (fun k => (k : Int)) ?_ ?_ (by omega) ?_ rfl
    · intro rec2 k hk hr2
      simp only [kf1]
      rw [M_lines hR, bds, nmn (by omega), nmn (by omega), if_pos (by omega), M_has (h31 t) (by omega), bds, M_nextTo hR hG hg hk, bds, lt_e]
      by_cases h : (rcs G l t).testBit k = true
      · rw [t10t h, zorn (bs_lt31 (by omega)) (bs_lt31 (by omega)), bs_or]
        rw [bs_ext (q := fun z => (rcs G l t).testBit z = true ∨ ∃ e, e < k + 1 ∧ (rcs G l t).testBit e = true ∧ ¬ gbr G e ∧ gNx G e z)]
        · exact hr2
        · intro z _
          constructor
          · rintro ((q | ⟨e, e1, e2⟩) | q)
            · exact Or.inl q
            · exact Or.inr ⟨e, by omega, e2⟩
            · exact Or.inr ⟨k, by omega, h, q⟩
          · rintro (q | ⟨e, e1, e2⟩)
            · exact Or.inl (Or.inl q)
            · by_cases w : e = k
              · subst w; exact Or.inr e2.2
              · exact Or.inl (Or.inr ⟨e, by omega, e2⟩)
      · rw [t10f h]
        rw [bs_ext (q := fun z => (rcs G l t).testBit z = true ∨ ∃ e, e < k + 1 ∧ (rcs G l t).testBit e = true ∧ ¬ gbr G e ∧ gNx G e z)]
        · exact hr2
        · intro z _
          constructor
          · rintro (q | ⟨e, e1, e2⟩)
            · exact Or.inl q
            · exact Or.inr ⟨e, by omega, e2⟩
          · rintro (q | ⟨e, e1, e2⟩)
            · exact Or.inl q
            · by_cases w : e = k
              · subst w; exact absurd e2.1 h
              · exact Or.inr ⟨e, by omega, e2⟩
    · intro rec2
      rw [M_lines hR, bds, nmn (by omega), if_neg (by omega)]
      exact hr
    · show ((bs (gL G) (fun z => (rcs G l t).testBit z = true ∨ ∃ e, e < 0 ∧ (rcs G l t).testBit e = true ∧ ¬ gbr G e ∧ gNx G e z) : Nat) : Int) = _
      congr 1
      rw [eq_bs (rcs_lt G l t)]
      apply bs_ext
      intro z hz
      rw [← eq_bs (rcs_lt G l t)]
      exact ⟨fun q => q.resolve_right (fun ⟨e, h, _⟩ => by omega), Or.inl⟩
  · intro rec
    have e : rcv G l (m+1) = rcs G l (m+1) := hm2.symm
    rw [e, if_pos rfl]
    exact hdone
  · show ((bs (gL G) (fun z => z = l) : Nat) : Int) = _
    rw [bs_one hl]
end
