-- needs: 07zzr.chain
/-! a shortest chain of exchanges keeps forests; it is carried out by both -/
noncomputable def hsx (G : GV) (d : Nat) (r : Nat → Nat) : Nat → (Nat → Int)
  | 0 => gh G
  | j + 1 => up (hsx G d r j) (r (d - j)) (gInto G d r (d - j))
section
variable {N M : ZB} {G : GV}
theorem RS_dist {d l : Nat} {r c : Nat → Nat} (h : RS (gE G) (gT G) d l r c) : ∀ t, t ≤ d → DE (gE G) (gT G) (d - t) (r t) := by
  obtain ⟨r0, hd, rs⟩ := h
  intro t ht
  cases t with
  | zero => rw [r0]; exact hd
  | succ t => have := (rs t (by omega)).2.1; rwa [show d - (t+1) = d - t - 1 by omega]
theorem RS_inj {d l : Nat} {r c : Nat → Nat} (h : RS (gE G) (gT G) d l r c) {s t : Nat} (hs : s ≤ d) (ht : t ≤ d) (e : r s = r t) : s = t := by
  have h1 := RS_dist h s hs
  have h2 := RS_dist h t ht
  rw [e] at h1
  have := DE_uniq h1 h2
  omega
theorem RS_sound {d l : Nat} {r c : Nat → Nat} (h : RS (gE G) (gT G) d l r c) {t : Nat} (ht : t ≤ d) : r t < gL G ∧ ¬ gbr G (r t) := DW_broken (RS_dist h t ht).1
theorem RS_uniq {d l : Nat} {r c r' c' : Nat → Nat} (h : RS (gE G) (gT G) d l r c) (h' : RS (gE G) (gT G) d l r' c') : ∀ t, t ≤ d → r t = r' t := by
  obtain ⟨r0, hd, rs⟩ := h
  obtain ⟨r0', hd', rs'⟩ := h'
  intro t
  induction t with
  | zero => intro _; rw [r0, r0']
  | succ t ih =>
    intro ht
    have e := ih (by omega)
    obtain ⟨a1, a2, a3⟩ := rs t (by omega)
    obtain ⟨b1, b2, b3⟩ := rs' t (by omega)
    have k1 : c t = r (t+1) := a1.1
    have k2 : c' t = r' (t+1) := b1.1
    rcases Nat.lt_trichotomy (c t) (c' t) with z | z | z
    · exact absurd a2 (b3 (c t) (r (t+1)) z (e ▸ a1))
    · omega
    · exact absurd b2 (a3 (c' t) (r' (t+1)) z (e.symm ▸ b1))
theorem RS_ring {d l : Nat} {r c : Nat → Nat} (h : RS (gE G) (gT G) d l r c) {t : Nat} (ht : t < d) : 0 ≤ gInto G d r t ∧ gInto G d r t < gk G ∧ gh G (r t) ≠ gInto G d r t ∧ gh G (r (t+1)) = gInto G d r t ∧ (grf G (r t) (gInto G d r t)).testBit (r (t+1)) = true := by
  obtain ⟨r0, hd, rs⟩ := h
  obtain ⟨⟨_, _, _, f, f1, f2, f3⟩, _, _⟩ := rs t ht
  have hf3 := grf_bit.mp f3
  have hhome : gh G (r (t+1)) = (f : Int) := hf3.2.1.2
  have hi : gInto G d r t = (f : Int) := by unfold gInto; rw [if_pos ht]; exact hhome
  rw [hi]
  exact ⟨by omega, by omega, f2, hhome, f3⟩
theorem RS_short {d l : Nat} {r c : Nat → Nat} (h : RS (gE G) (gT G) d l r c) {s t : Nat} (hst : t + 1 < s) (hs : s ≤ d) : ¬ gNx G (r t) (r s) := by
  intro hn
  have h1 := RS_dist h t (by omega)
  have h2 := RS_dist h s hs
  have hl := RS_sound h (show t ≤ d by omega)
  exact h1.2 (d - s + 1) (by omega) ⟨r s, r s, ⟨rfl, hl.1, hl.2, hn⟩, h2.1⟩
theorem RS_last (hG : GOK G) {d l : Nat} {r c : Nat → Nat} (h : RS (gE G) (gT G) d l r c) : 0 ≤ gInto G d r d ∧ gInto G d r d < gk G ∧ gh G (r d) ≠ gInto G d r d ∧ ¬ Cn (ga G) (gb G) (InF G (gInto G d r d)) (ga G (r d)) (gb G (r d)) := by
  have hT : gT G (r d) := by have := (RS_dist h d (Nat.le_refl d)).1; rwa [Nat.sub_self] at this
  have hi : gInto G d r d = ((lst (gk G) (gFf G (r d)) : Nat) : Int) := by
    unfold gInto gfr; rw [if_neg (by omega), idt hT.2.2]
  obtain ⟨s1, s2, _⟩ := lst_sp (n := gk G) (p := gFf G (r d)) hT.2.2
  rw [hi]
  exact ⟨by omega, by omega, s2.1, (grf_zero hG hT.1 (by omega)).mp s2.2⟩
theorem hsx_keep {d : Nat} {r : Nat → Nat} {x : Nat} (j : Nat) : (∀ t, d < t + j → t ≤ d → r t ≠ x) → j ≤ d + 1 → hsx G d r j x = gh G x := by
  induction j with
  | zero => intro _ _; rfl
  | succ j ih =>
    intro h hj
    unfold hsx
    rw [up_n _ _ (fun e => h (d - j) (by omega) (by omega) e.symm)]
    exact ih (fun t h1 h2 => h t (by omega) h2) (by omega)
theorem hsx_at {d l : Nat} {r c : Nat → Nat} (h : RS (gE G) (gT G) d l r c) {t : Nat} (ht : t ≤ d) (j : Nat) : d < t + j → j ≤ d + 1 → hsx G d r j (r t) = gInto G d r t := by
  induction j with
  | zero => intro h1 _; omega
  | succ j ih =>
    intro h1 hj
    unfold hsx
    by_cases e : t = d - j
    · rw [← e, up_e]
    · rw [up_n _ _ (fun k => e (RS_inj h ht (by omega) k))]
      exact ih (by omega) (by omega)
theorem exch_ok (hG : GOK G) {d l : Nat} {r c : Nat → Nat} (h : RS (gE G) (gT G) d l r c) : ∀ j, j ≤ d + 1 → (∀ f : Int, 0 ≤ f → Fo (ga G) (gb G) (fun x => x < gL G ∧ hsx G d r j x = f)) ∧ (1 ≤ j → j ≤ d → Fo (ga G) (gb G) (Ep (fun x => x < gL G ∧ hsx G d r j x = gh G (r (d + 1 - j))) (r (d + 1 - j)))) := by
  intro j
  induction j with
  | zero => intro _; exact ⟨hG.2.2.2, fun h1 => by omega⟩
  | succ j ih =>
    intro hj
    obtain ⟨ha, hb⟩ := ih (by omega)
    obtain ⟨i, hi⟩ : ∃ i, i = d - j := ⟨_, rfl⟩
    have hid : i ≤ d := by omega
    have hx := RS_sound h hid
    have hold : hsx G d r j (r i) = gh G (r i) := hsx_keep j (fun t h1 h2 e => by
      have := RS_inj h h2 hid e; omega) (by omega)
    have hfacts : 0 ≤ gInto G d r i ∧ gh G (r i) ≠ gInto G d r i ∧ ¬ Cn (ga G) (gb G) (fun x => x < gL G ∧ hsx G d r j x = gInto G d r i) (ga G (r i)) (gb G (r i)) := by
      rcases Nat.eq_zero_or_pos j with hj0 | hj0
      · subst hj0
        have : i = d := by omega
        subst this
        obtain ⟨q1, q2, q3, q4⟩ := RS_last hG h
        exact ⟨q1, q3, q4⟩
      · have hid2 : i < d := by omega
        obtain ⟨q1, q2, q3, q4, q5⟩ := RS_ring h hid2
        refine ⟨q1, q3, ?_⟩
        have hF := hb hj0 (by omega)
        have e1 : d + 1 - j = i + 1 := by omega
        rw [e1, q4] at hF
        obtain ⟨c1, c2⟩ := grf_bit.mp q5
        have hC := Rg_conn (hG.2.2.2 _ q1) c1
        have hsub : ∀ e, Rg (ga G) (gb G) (InF G (gInto G d r i)) (ga G (r i)) (gb G (r i)) e → Ep (fun x => x < gL G ∧ hsx G d r j x = gInto G d r i) (r (i+1)) e := by
          intro e he
          by_cases hm : ∃ t, d < t + j ∧ t ≤ d ∧ r t = e
          · obtain ⟨t, t1, t2, t3⟩ := hm
            by_cases ht : t = i + 1
            · subst ht; exact Or.inr t3.symm
            · exfalso
              refine RS_short h (s := t) (t := i) (by omega) t2 ?_
              rw [t3]
              obtain ⟨k, hk⟩ : ∃ k : Nat, gInto G d r i = (k : Int) := ⟨(gInto G d r i).toNat, by omega⟩
              refine ⟨k, by omega, by rw [← hk]; exact q3, ?_⟩
              rw [← hk]
              exact grf_bit.mpr ⟨c1, he⟩
          · refine Or.inl ⟨he.1.1, ?_⟩
            rw [hsx_keep j (fun t h1 h2 h3 => hm ⟨t, h1, h2, h3⟩) (by omega)]
            exact he.1.2
        have hR := Rg_sub hF hsub hC (fun e he => Rg_min he) (r (i+1))
        have hy := (hR.mp c2).2
        intro hcon
        apply hy
        refine Cn_mono ?_ hcon
        rintro e ⟨e2, e3⟩
        refine ⟨Or.inl ⟨e2, e3⟩, fun k => ?_⟩
        rw [k, hsx_at h (show i + 1 ≤ d by omega) j (by omega) (by omega)] at e3
        rcases Nat.lt_or_ge (i+1) d with z | z
        · obtain ⟨_, _, p3, p4, _⟩ := RS_ring h z
          rw [q4] at p3; exact p3 e3.symm
        · have : i + 1 = d := by omega
          rw [this] at e3 q4
          obtain ⟨_, _, p3, _⟩ := RS_last hG h
          rw [q4] at p3; exact p3 e3.symm
    obtain ⟨g1, g2, g3⟩ := hfacts
    have hdj : hsx G d r (j+1) = up (hsx G d r j) (r i) (gInto G d r i) := by rw [hi]; rfl
    constructor
    · intro f hf
      rw [hdj]
      by_cases e : f = gInto G d r i
      · subst e
        refine Fo_mono ?_ (Fo_add (ha _ hf) g3)
        rintro x ⟨x1, x2⟩
        by_cases q : x = r i
        · exact Or.inr q
        · rw [up_n _ _ q] at x2; exact Or.inl ⟨x1, x2⟩
      · refine Fo_mono ?_ (ha f hf)
        rintro x ⟨x1, x2⟩
        by_cases q : x = r i
        · rw [q, up_e] at x2; exact absurd x2.symm e
        · rw [up_n _ _ q] at x2; exact ⟨x1, x2⟩
    · intro _ hjd
      have hi1 : 1 ≤ i := by omega
      have e1 : d + 1 - (j+1) = i := by omega
      rw [e1, hdj]
      have hh : 0 ≤ gh G (r i) := by
        obtain ⟨q1, _, _, q4, _⟩ := RS_ring h (show i - 1 < d by omega)
        rw [show i - 1 + 1 = i by omega] at q4
        omega
      refine Fo_mono ?_ (ha _ hh)
      rintro x (⟨x1, x2⟩ | rfl)
      · by_cases q : x = r i
        · rw [q, up_e] at x2; exact absurd x2.symm g2
        · rw [up_n _ _ q] at x2; exact ⟨x1, x2⟩
      · exact ⟨hx.1, hold⟩
noncomputable def gEx (G : GV) (d : Nat) (r : Nat → Nat) : GV := sh_ G (hsx G d r (d+1))
theorem gEx_ok (hG : GOK G) {d l : Nat} {r c : Nat → Nat} (h : RS (gE G) (gT G) d l r c) : GOK (gEx G d r) := by
  have hb := hG.1
  refine GOK_h hG (fun x hx => ?_) (exch_ok hG h (d+1) (Nat.le_refl _)).1
  by_cases hm : ∃ t, t ≤ d ∧ r t = x
  · obtain ⟨t, t1, rfl⟩ := hm
    rw [hsx_at h t1 (d+1) (by omega) (by omega)]
    have hin : 0 ≤ gInto G d r t ∧ gInto G d r t < gk G := by
      rcases Nat.lt_or_ge t d with z | z
      · obtain ⟨q1, q2, _⟩ := RS_ring h z; exact ⟨q1, q2⟩
      · have : t = d := by omega
        subst this
        obtain ⟨q1, q2, _⟩ := RS_last hG h; exact ⟨q1, q2⟩
    exact ⟨by omega, hin.2, fun k => absurd k (RS_sound h t1).2⟩
  · rw [hsx_keep (d+1) (fun t _ h2 e => hm ⟨t, h2, e⟩) (by omega)]
    obtain ⟨a1, a2, a3, a4, a5, a6, a7, a8⟩ := hG.2.1 x hx
    exact ⟨a6, a7, a8⟩
/-- a row of homes written one by one -/
def wrt (f : Nat → Int) (o : Nat) (r : Nat → Nat) (v : Nat → Int) : Nat → (Nat → Int)
  | 0 => f
  | k + 1 => up (wrt f o r v k) (o + r k) (v k)
theorem wrt_keep {f : Nat → Int} {o : Nat} {r : Nat → Nat} {v : Nat → Int} {x : Nat} (k : Nat) : (∀ t, t < k → o + r t ≠ x) → wrt f o r v k x = f x := by
  induction k with
  | zero => intro _; rfl
  | succ k ih =>
    intro h
    unfold wrt
    rw [up_n _ _ (fun e => h k (by omega) e.symm)]
    exact ih (fun t ht => h t (by omega))
theorem wrt_at {f : Nat → Int} {o : Nat} {r : Nat → Nat} {v : Nat → Int} {t : Nat} (k : Nat) : t < k → (∀ s s', s < k → s' < k → r s = r s' → s = s') → wrt f o r v k (o + r t) = v t := by
  induction k with
  | zero => intro h; omega
  | succ k ih =>
    intro h hi
    unfold wrt
    by_cases e : t = k
    · subst e; rw [up_e]
    · rw [up_n _ _ (fun z => e (hi t k (by omega) (by omega) (by omega)))]
      exact ih (by omega) (fun s s' a b => hi s s' (by omega) (by omega))
theorem wrt_hsx {f : Nat → Int} {o : Nat} {d l : Nat} {r c : Nat → Nat} (h : RS (gE G) (gT G) d l r c) (hf : ∀ x, x < gL G → f (o + x) = gh G x) : ∀ x, x < gL G → wrt f o r (gInto G d r) (d+1) (o + x) = hsx G d r (d+1) x := by
  intro x hx
  by_cases hm : ∃ t, t ≤ d ∧ r t = x
  · obtain ⟨t, t1, rfl⟩ := hm
    rw [hsx_at h t1 (d+1) (by omega) (by omega)]
    exact wrt_at (d+1) (by omega) (fun s s' a b e => RS_inj h (by omega) (by omega) e)
  · rw [hsx_keep (d+1) (fun t _ h2 e => hm ⟨t, h2, e⟩) (by omega), wrt_keep (d+1) (fun t ht e => hm ⟨t, by omega, by omega⟩)]
    exact hf x hx
theorem Ch_carryOut (hN : RN N G) (hG : GOK G) {d l : Nat} {r c : Nat → Nat} {Ch : ZB} (h : RS (gE G) (gT G) d l r c) (hd : d < gL G) (h6 : Ch.1 6 = ((d + 1 : Nat) : Int)) (hrow : ∀ t, t ≤ d → Ch.2 4 t = (r t : Nat) ∧ Ch.2 5 t = gInto G d r t) : ∃ N', fCh_carryOut N Ch = some N' ∧ RN N' (gEx G d r) := by
  have hb := hG.1
  refine ⟨(N.1, ua N.2 3 (wrt (N.2 3) 0 r (gInto G d r) (d+1))), ?_, ?_⟩
  · unfold fCh_carryOut
    refine lop2_s (d+1) (fun k => (k : Int)) (fun k => (N.1, ua N.2 3 (wrt (N.2 3) 0 r (gInto G d r) k))) ?_ ?_ (by omega) rfl ?_
    · intro rec k hk hr
      obtain ⟨q1, q2⟩ := hrow k (by omega)
      have hrk := RS_sound h (show k ≤ d by omega)
      rw [h6, nmn (by omega), nmn (by omega), if_pos (by omega), rdn (by omega), rdn (by omega), q1, q2, ixn (by omega), lt_e, Int.toNat_natCast]
      simp only [ua_e, ua_up]
      have : up (wrt (N.2 3) 0 r (gInto G d r) k) (r k) (gInto G d r k) = wrt (N.2 3) 0 r (gInto G d r) (k+1) := by
        show _ = up (wrt (N.2 3) 0 r (gInto G d r) k) (0 + r k) (gInto G d r k)
        rw [Nat.zero_add]
      rw [this]; exact hr
    · intro rec
      rw [h6, nmn (by omega), if_neg (by omega)]
    · show (N.1, ua N.2 3 (N.2 3)) = N
      rw [ua_self]
  · refine RN_h hN (fun x hx => ?_)
    have := wrt_hsx (f := N.2 3) (o := 0) h (fun x hx => by rw [Nat.zero_add]; exact (hN.2.2.2.2.2 x hx).2.2.2) x hx
    rwa [Nat.zero_add] at this
theorem M_exchange (hM : RW (M.2 12) G) (hG : GOK G) {d l : Nat} {r c : Nat → Nat} (h : RS (gE G) (gT G) d l r c) (hd : d < gL G) (h6 : M.1 25 = ((d + 1 : Nat) : Int)) (hrow : ∀ t, t ≤ d → M.2 23 t = (r t : Nat) ∧ M.2 24 t = gInto G d r t) : ∃ g, fM_exchange M = some (M.1, ua M.2 12 g) ∧ RW g (gEx G d r) := by
  have hb := hG.1
  refine ⟨wrt (M.2 12) 75 r (gInto G d r) (d+1), ?_, ?_⟩
  · unfold fM_exchange
    refine lop2_s (d+1) (fun k => (k : Int)) (fun k => (M.1, ua M.2 12 (wrt (M.2 12) 75 r (gInto G d r) k))) ?_ ?_ (by omega) rfl ?_
    · intro rec k hk hr
      obtain ⟨q1, q2⟩ := hrow k (by omega)
      have hrk := RS_sound h (show k ≤ d by omega)
      have f23 : ∀ g, ua M.2 12 g 23 = M.2 23 := fun _ => rfl
      have f24 : ∀ g, ua M.2 12 g 24 = M.2 24 := fun _ => rfl
      simp only [f23, f24, h6, ua_e, ua_up]
      rw [nmn (by omega), nmn (by omega), if_pos (by omega), rdn (by omega), rdn (by omega), q1, q2, ix75 (by omega), lt_e, tn75]
      exact hr
    · intro rec
      rw [h6, nmn (by omega), if_neg (by omega)]
    · show (M.1, ua M.2 12 (M.2 12)) = M
      rw [ua_self]
  · refine RW_h (by omega) hM (wrt_hsx (f := M.2 12) (o := 75) h (fun x hx => (hM.2.2.2 x hx).2.2.2.1)) (fun j hj => ?_)
    exact wrt_keep (d+1) (fun t ht e => by
      have := RS_sound h (show t ≤ d by omega)
      omega)
theorem zcpy_n {f g : Nat → Int} {n k : Nat} (hk : k < n) : zcpy f g 0 0 (n : Int) k = f k := by
  unfold zcpy; rw [if_pos (by omega)]; simp
/-- what both tell of the latest chain -/
theorem Ch_remember (hN : RN N G) (hG : GOK G) {l : Nat} {Ch : ZB} {res : Int × ZB} (hF : FindOK G l Ch res) : ∃ C', fCh_remember N res.2 = some C' ∧ C'.1 6 = res.2.1 6 ∧ C'.2 4 = res.2.2 4 ∧ C'.2 5 = res.2.2 5 ∧
    ((∃ d r c, d < gL G ∧ RS (gE G) (gT G) d l r c ∧ res.1 = ((d + 1 : Nat) : Int) ∧ C'.1 10 = ((d + 1 : Nat) : Int) ∧ C'.1 11 = Ch.1 11 ∧ ∀ t, t ≤ d → C'.2 8 t = (r t : Nat) ∧ C'.2 9 t = gInto G d r t) ∨
     ((∀ k, ¬ DW (gE G) (gT G) k l) ∧ res.1 = 0 ∧ C'.1 10 = Ch.1 10 ∧ C'.2 8 = Ch.2 8 ∧ C'.2 9 = Ch.2 9 ∧ C'.1 11 = ((crw G (gL G) (RC (gE G) l) : Nat) : Int))) := by
  have hb := hG.1
  obtain ⟨k1, k2, k3, k4, k5, hc⟩ := hF
  rcases hc with ⟨d, r, c, hd, hr, h1, h2⟩ | ⟨h1, h2, h3⟩
  · have e6 : res.2.1 6 = ((d + 1 : Nat) : Int) := by rw [k5, h1]
    refine ⟨(up res.2.1 10 ((d + 1 : Nat) : Int), ua (ua res.2.2 8 (zcpy (res.2.2 4) (res.2.2 8) 0 0 ((d + 1 : Nat) : Int))) 9 (zcpy (res.2.2 5) (res.2.2 9) 0 0 ((d + 1 : Nat) : Int))), ?_, rfl, rfl, rfl, Or.inl ⟨d, r, c, hd, hr, h1, rfl, k2, fun t ht => ⟨?_, ?_⟩⟩⟩
    · unfold fCh_remember
      rw [e6, nmn (by omega), if_pos (by omega)]
      unfold cpk
      rw [if_pos (by omega), lt_e]
      show (if _ then _ else _) = _
      rw [if_pos (by rw [e6]; omega), lt_e, lt_e]
      show some (up res.2.1 10 (res.2.1 6), ua (ua res.2.2 8 (zcpy (res.2.2 4) (res.2.2 8) 0 0 ((d + 1 : Nat) : Int))) 9 (zcpy (res.2.2 5) (res.2.2 9) 0 0 (res.2.1 6))) = _
      rw [e6]
    · show zcpy (res.2.2 4) (res.2.2 8) 0 0 ((d + 1 : Nat) : Int) t = _
      rw [zcpy_n (by omega)]; exact (h2 t ht).1
    · show zcpy (res.2.2 5) (res.2.2 9) 0 0 ((d + 1 : Nat) : Int) t = _
      rw [zcpy_n (by omega)]; exact (h2 t ht).2
  · have e6 : res.2.1 6 = 0 := by rw [k5, h2]
    refine ⟨(up res.2.1 11 ((crw G (gL G) (RC (gE G) l) : Nat) : Int), res.2.2), ?_, rfl, rfl, rfl, Or.inr ⟨h1, h2, k1, k3, k4, rfl⟩⟩
    unfold fCh_remember
    rw [e6, nmi (by decide), if_neg (by decide), lt_e]
    refine lop2_s (gL G) (fun k => (k : Int)) (fun k => (up res.2.1 11 ((crw G k (RC (gE G) l) : Nat) : Int), res.2.2)) ?_ ?_ (by omega) rfl ?_
    · intro rec k hk hr
      have f7 : ∀ x, up res.2.1 11 x 7 = ((bs (gL G) (RC (gE G) l) : Nat) : Int) := fun _ => h3
      simp only [kf1, f7, hN.2.1]
      rw [nmn (by omega), nmn (by omega), if_pos (by omega), zbit (bs_lt31 (by omega)) (by omega), N_ends hN hG hk, bds, lt_e]
      by_cases h : RC (gE G) l k
      · rw [b10t ((bs_bit _ _ _).mpr ⟨hk, h⟩)]
        simp only [up_e, up_up]
        have h1 : crw G k (RC (gE G) l) < 2147483648 := bs_lt31 (by omega)
        rw [zorn h1 (gen_lt31 hG hk), ← crw_t hG hk h]
        exact hr
      · rw [b10f (fun z => h ((bs_bit _ _ _).mp z).2)]
        rw [crw_f h] at hr
        exact hr
    · intro rec
      rw [hN.2.1, nmn (by omega), if_neg (by omega)]
    · show ((up res.2.1 11 ((crw G 0 (RC (gE G) l) : Nat) : Int), res.2.2) : ZB) = _
      rw [crw_0]; rfl
end
