-- needs: 07zzf.ringin
/-! the class's ringOf finds the ring -/
theorem Rg_ext {a b : Nat → Nat} {F : Nat → Prop} {p x y l : Nat} (hf : Fo a b F) (hl : F l) (j : Jn a b l x y) (hs : Cn a b (Em F l) p x) : ∀ e, Rg a b F p y e ↔ Rg a b F p x e ∨ e = l := by
  intro e
  constructor
  · rintro ⟨h1, h2⟩
    by_cases q : e = l
    · exact Or.inr q
    · exact Or.inl ⟨h1, fun k => h2 (Cn_trans k (Cn_jn ⟨hl, fun r => q r.symm⟩ j))⟩
  · rintro (⟨h1, h2⟩ | rfl)
    · refine ⟨h1, fun k => h2 (Cn_trans k ?_)⟩
      have : l ≠ e := fun q => h2 (q ▸ hs)
      exact Cn_symm (Cn_jn ⟨hl, this⟩ j)
    · exact ⟨hl, fun k => Fo_jn hf hl j (Cn_trans (Cn_symm hs) k)⟩
def RJ (G : GV) (F : Nat → Prop) (p R : Nat) (w : Nat → Int) : Prop := R < 2 ^ gn G ∧ R.testBit p = true ∧ ∀ x, R.testBit x = true → Cn (ga G) (gb G) F p x ∧ w x = ((bs (gL G) (Rg (ga G) (gb G) F p x) : Nat) : Int) ∧ ∀ e, Rg (ga G) (gb G) F p x e → R.testBit (ga G e) = true ∧ R.testBit (gb G e) = true
section
variable {N M : ZB} {G : GV}
theorem Ch_goAlong (hR : RN N G) (hG : GOK G) {Ch : ZB} {x R : Nat} (hx : x < gL G) (hRl : R < 2147483648) : fCh_goAlong N Ch (x : Int) (R : Int) = some (if R.testBit (ga G x) = R.testBit (gb G x) then (0, Ch) else if R.testBit (ga G x) = true then (((2 ^ gb G x : Nat) : Int), (Ch.1, ua Ch.2 1 (up (Ch.2 1) (gb G x) (zor (Ch.2 1 (ga G x)) ((2 ^ x : Nat) : Int))))) else (((2 ^ ga G x : Nat) : Int), (Ch.1, ua Ch.2 1 (up (Ch.2 1) (ga G x) (zor (Ch.2 1 (gb G x)) ((2 ^ x : Nat) : Int)))))) := by
  have hb := hG.1
  have hv := hG.2.1 x hx
  have ha := hR.2.2.2.2.2 x hx
  unfold fCh_goAlong
  simp only [kf1]
  rw [rdn (by omega), rdn (by omega), ha.1, ha.2.1, zbit hRl (by omega), zbit hRl (by omega), lt_e]
  cases h1 : R.testBit (ga G x) <;> cases h2 : R.testBit (gb G x)
  · rw [if_pos (by decide), if_pos rfl]
  · rw [if_neg (by decide), if_neg (by decide), if_neg (by decide), if_neg (by decide), if_neg (by decide), rdn (by omega), ixn (by omega), lt_e, zshln (by omega), zshln (by omega)]
    rfl
  · rw [if_neg (by decide), if_pos (by decide), if_pos (by decide), if_neg (by decide), if_pos (by decide), rdn (by omega), ixn (by omega), lt_e, zshln (by omega), zshln (by omega)]
    rfl
  · rw [if_pos (by decide), if_pos rfl]
theorem RJ_step (hG : GOK G) {F : Nat → Prop} (hf : Fo (ga G) (gb G) F) (hF : ∀ e, F e → e < gL G) {p R x u v : Nat} {w : Nat → Int} (hJ : RJ G F p R w) (hx : F x) (j : Jn (ga G) (gb G) x u v) (hu : R.testBit u = true) (hv : R.testBit v = false) : RJ G F p (R ||| 2 ^ v) (up w v (zor (w u) ((2 ^ x : Nat) : Int))) := by
  have hb := hG.1
  have hxl := hF x hx
  have hxv := hG.2.1 x hxl
  have hvn : v < gn G := by
    rcases j with ⟨_, rfl⟩ | ⟨_, rfl⟩
    · exact hxv.2.1
    · exact hxv.1
  obtain ⟨h1, h2, h3⟩ := hJ
  obtain ⟨cu, wu, eu⟩ := h3 u hu
  have hnx : ¬ Rg (ga G) (gb G) F p u x := by
    intro k
    have := eu x k
    rcases j with ⟨_, rfl⟩ | ⟨_, rfl⟩
    · rw [this.2] at hv; cases hv
    · rw [this.1] at hv; cases hv
  have hs : Cn (ga G) (gb G) (Em F x) p u := by
    by_cases k : Cn (ga G) (gb G) (Em F x) p u
    · exact k
    · exact absurd ⟨hx, k⟩ hnx
  have hext := Rg_ext hf hx j hs
  refine ⟨Nat.or_lt_two_pow h1 (Nat.pow_lt_pow_right (by omega) hvn), by rw [Nat.testBit_or, h2]; rfl, ?_⟩
  intro z hz
  rw [Nat.testBit_or, Bool.or_eq_true, Nat.testBit_two_pow, decide_eq_true_iff] at hz
  have hup : ∀ i, R.testBit i = true → (R ||| 2 ^ v).testBit i = true := fun i hi => by rw [Nat.testBit_or, hi]; rfl
  have hvv : (R ||| 2 ^ v).testBit v = true := by rw [Nat.testBit_or, Nat.testBit_two_pow]; simp
  by_cases hzv : v = z
  · subst hzv
    refine ⟨Cn_trans cu (Cn_jn hx j), ?_, ?_⟩
    · rw [up_e, wu, zorn (bs_lt31 (by omega)) (p2_lt31 (by omega)), bs_one hxl, bs_or]
      congr 1
      exact bs_ext (fun e _ => (hext e).symm)
    · intro e he
      rcases (hext e).mp he with k | rfl
      · exact ⟨hup _ (eu e k).1, hup _ (eu e k).2⟩
      · rcases j with ⟨j1, j2⟩ | ⟨j1, j2⟩
        · rw [← j1, ← j2]; exact ⟨hup _ hu, hvv⟩
        · rw [← j1, ← j2]; exact ⟨hvv, hup _ hu⟩
  · have hz' : R.testBit z = true := hz.resolve_right hzv
    obtain ⟨c, w', e'⟩ := h3 z hz'
    refine ⟨c, ?_, fun e he => ⟨hup _ (e' e he).1, hup _ (e' e he).2⟩⟩
    rw [up_n _ _ (fun k => hzv k.symm)]; exact w'
theorem Ch_ringOf (hR : RN N G) (hG : GOK G) {l : Nat} (hl : l < gL G) {f : Int} (hf0 : 0 ≤ f) (hf1 : f < 5) (Ch : ZB) : ∃ w, fCh_ringOf N Ch (l : Int) f = some (((grf G l f : Nat) : Int), (Ch.1, ua Ch.2 1 w)) := by
  have hb := hG.1
  have hv := hG.2.1 l hl
  have ha := hR.2.2.2.2.2 l hl
  have hfo := hG.2.2.2 f hf0
  have hFL : ∀ e, InF G f e → e < gL G := fun e k => k.1
  have main : wp (fCh_ringOf N Ch (l : Int) f) (fun r => ∃ w, r = (((grf G l f : Nat) : Int), (Ch.1, ua Ch.2 1 w))) := by
    unfold fCh_ringOf
    rw [rdn (by omega), rdn (by omega), ha.1, ha.2.1, zshln (by omega), lt_e, rdn (by omega), ha.1, ixn (by omega), lt_e]
    simp only [Int.toNat_natCast]
    refine lop3_w (fun v4 v5 C => ∃ (R t : Nat) (w : Nat → Int), v4 = (R : Int) ∧ v5 = (t : Int) ∧ C = (Ch.1, ua Ch.2 1 w) ∧ RJ G (InF G f) (ga G l) R w ∧ t ≤ gn G ∧ t + 1 ≤ cnt (gn G) (fun i => R.testBit i = true)) (fun _ v5 _ => gn G - v5.toNat) ?_ FU _ _ _ ?_ ?_
    · intro rec v4 v5 C hI hrec
      obtain ⟨R, t, w, rfl, rfl, rfl, hJ, ht, hc⟩ := hI
      have hlt : t < gn G := by
        have := cnt_le (gn G) (fun i => R.testBit i = true)
        omega
      have hR31 : ∀ {X w'}, RJ G (InF G f) (ga G l) X w' → X < 2147483648 := fun h => Nat.lt_trans h.1 (p2_lt31 (by omega))
      simp only [kf1, kf2, hR.1, hR.2.1]
      rw [nmn (by omega), nmn (by omega), if_pos (by omega)]
      refine lop3_w (fun v4 v7 C => ∃ (X k : Nat) (w : Nat → Int), v4 = (X : Int) ∧ v7 = (k : Int) ∧ C = (Ch.1, ua Ch.2 1 w) ∧ RJ G (InF G f) (ga G l) X w ∧ k ≤ gL G ∧ (∀ i, R.testBit i = true → X.testBit i = true) ∧ (X = R → ∀ y, y < k → InF G f y → (R.testBit (ga G y) = true ↔ R.testBit (gb G y) = true))) (fun _ v7 _ => gL G - v7.toNat) ?_ FU _ _ _ ?_ ?_
      · intro rec2 v4 v7 C hI2 hrec2
        obtain ⟨X, k, w2, rfl, rfl, rfl, hJ2, hk, hsup, hcl⟩ := hI2
        have hX31 := hR31 hJ2
        rw [nmn (by omega), nmn (by omega)]
        by_cases hkL : k < gL G
        · have hvk := hG.2.1 k hkL
          rw [if_pos (by omega), rdn (by omega), (hR.2.2.2.2.2 k hkL).2.2.2, nmi (by omega), nmi (by omega)]
          by_cases hF : gh G k = f
          · rw [if_pos hF, Ch_goAlong hR hG hkL hX31, bds]
            have hFk : InF G f k := ⟨hkL, hF⟩
            by_cases hab : X.testBit (ga G k) = X.testBit (gb G k)
            · rw [if_pos hab, lt_e]
              have : zor (X : Int) 0 = (X : Int) := by rw [show (0 : Int) = ((0 : Nat) : Int) from rfl, zorn hX31 (by decide), Nat.or_zero]
              rw [this]
              refine hrec2 _ _ _ ⟨X, k+1, w2, rfl, rfl, rfl, hJ2, by omega, hsup, ?_⟩ (by omega)
              intro hXR y hy hyF
              by_cases hyk : y = k
              · subst hyk; rw [← hXR, hab]
              · exact hcl hXR y (by omega) hyF
            · rw [if_neg hab]
              have grow : ∀ v, v < gn G → X.testBit v = false → ∀ w3, RJ G (InF G f) (ga G l) (X ||| 2 ^ v) w3 → ∃ r, rec2 (zor (X : Int) ((2 ^ v : Nat) : Int)) ((k : Int) + 1) (Ch.1, ua Ch.2 1 w3) = some r ∧ ∃ w, r = (((grf G l f : Nat) : Int), (Ch.1, ua Ch.2 1 w)) := by
                intro v hvn hvf w3 hJ3
                rw [zorn hX31 (p2_lt31 (by omega))]
                refine hrec2 _ _ _ ⟨X ||| 2 ^ v, k+1, w3, rfl, rfl, rfl, hJ3, by omega, fun i hi => by rw [Nat.testBit_or, hsup i hi]; rfl, ?_⟩ (by omega)
                intro e
                exfalso
                have h1 : (X ||| 2 ^ v).testBit v = true := by rw [Nat.testBit_or, Nat.testBit_two_pow]; simp
                rw [e] at h1
                have := hsup v h1
                rw [hvf] at this; cases this
              by_cases hat : X.testBit (ga G k) = true
              · have hbf : X.testBit (gb G k) = false := by
                  cases hq : X.testBit (gb G k)
                  · rfl
                  · rw [hat, hq] at hab; exact absurd rfl hab
                rw [if_pos hat, lt_e]
                have := grow _ hvk.2.1 hbf _ (RJ_step hG hfo hFL hJ2 hFk (Jn_self k) hat hbf)
                simp only [ua_e, ua_up]
                exact this
              · have haf : X.testBit (ga G k) = false := by simp [hat]
                have hbt : X.testBit (gb G k) = true := by
                  cases hq : X.testBit (gb G k)
                  · rw [haf, hq] at hab; exact absurd rfl hab
                  · rfl
                rw [if_neg hat, lt_e]
                have := grow _ hvk.1 haf _ (RJ_step hG hfo hFL hJ2 hFk (Jn_symm (Jn_self k)) hbt haf)
                simp only [ua_e, ua_up]
                exact this
          · rw [if_neg hF]
            refine hrec2 _ _ _ ⟨X, k+1, w2, rfl, rfl, rfl, hJ2, by omega, hsup, ?_⟩ (by omega)
            intro hXR y hy hyF
            by_cases hyk : y = k
            · subst hyk; exact absurd hyF.2 hF
            · exact hcl hXR y (by omega) hyF
        · rw [if_neg (by omega), nmn hX31, nmn (hR31 hJ), zbit hX31 (by omega)]
          have hkeq : k = gL G := by omega
          by_cases hend : X = R ∨ X.testBit (gb G l) = true
          · have fin : ∃ r, (if (if X.testBit (gb G l) = true then (1:Int) else 0) = 0 then some ((0 : Int), ((Ch.1, ua Ch.2 1 w2) : ZB)) else rd (ua Ch.2 1 w2 1) 10 ((gb G l : Nat) : Int) fun x_15 => some (x_15, ((Ch.1, ua Ch.2 1 w2) : ZB))) = some r ∧ ∃ w, r = (((grf G l f : Nat) : Int), (Ch.1, ua Ch.2 1 w)) := by
              by_cases htg : X.testBit (gb G l) = true
              · rw [htg, if_neg (by decide), rdn (by omega), ua_e]
                refine ⟨_, rfl, w2, ?_⟩
                obtain ⟨c1, c2, _⟩ := hJ2.2.2 _ htg
                rw [c2]
                congr 2
                unfold grf
                exact bs_ext (fun e _ => ⟨fun z => ⟨c1, z⟩, fun z => z.2⟩)
              · have hXR := hend.resolve_right htg
                have : X.testBit (gb G l) = false := by simp [htg]
                rw [this, if_pos (by decide)]
                refine ⟨_, rfl, w2, ?_⟩
                have : grf G l f = 0 := by
                  rw [grf_zero hG hl hf0]
                  intro hc2
                  apply htg
                  rw [hXR]
                  refine hc2 (fun z => R.testBit z = true) hJ.2.1 ?_
                  intro y hy
                  exact hcl hXR y (by rw [hkeq]; exact hy.1) hy
                rw [this]; rfl
            by_cases hXR : X = R
            · rw [if_pos (by omega)]; exact fin
            · have htg := hend.resolve_left hXR
              rw [if_neg (by omega)]
              rw [htg] at fin ⊢
              rw [if_neg (by decide)]; exact fin
          · have hXR : X ≠ R := fun k => hend (Or.inl k)
            have htg : X.testBit (gb G l) = false := by
              have : ¬ X.testBit (gb G l) = true := fun k => hend (Or.inr k)
              simp [this]
            rw [if_neg (by omega), htg, if_pos (by decide)]
            refine hrec _ _ _ ⟨X, t+1, w2, rfl, rfl, rfl, hJ2, by omega, ?_⟩ (by omega)
            obtain ⟨i, hi, hni⟩ := bits_ne (x := R) (y := X) (fun e => hXR e.symm) hsup
            have := cnt_lt (n := gn G) (p := fun i => R.testBit i = true) (q := fun i => X.testBit i = true) (fun i _ k => hsup i k) (bit_lt hJ2.1 hi) hi hni
            omega
      · exact ⟨R, 0, w, rfl, rfl, rfl, hJ, by omega, fun i hi => hi, fun _ y hy => by omega⟩
      · show gL G - _ < 100000; omega
    · refine ⟨2 ^ ga G l, 0, up (Ch.2 1) (ga G l) 0, rfl, rfl, rfl, ⟨Nat.pow_lt_pow_right (by omega) hv.1, by rw [Nat.testBit_two_pow]; simp, ?_⟩, by omega, ?_⟩
      · intro x hx
        rw [Nat.testBit_two_pow, decide_eq_true_iff] at hx
        subst hx
        have hn : ∀ e, ¬ Rg (ga G) (gb G) (InF G f) (ga G l) (ga G l) e := fun e k => k.2 (Cn_refl _)
        refine ⟨Cn_refl _, ?_, fun e he => absurd he (hn e)⟩
        rw [up_e, bs_zero.mpr (fun e _ => hn e)]; rfl
      · have := cnt_lt (n := gn G) (i := ga G l) (p := fun _ => False) (q := fun i => (2 ^ ga G l).testBit i = true) (fun _ _ k => k.elim) hv.1 (by rw [Nat.testBit_two_pow]; simp) (fun k => k)
        omega
    · show gn G - _ < 100000; omega
  obtain ⟨r, h1, w, h2⟩ := main
  exact ⟨w, by rw [h1, h2]⟩
end
