-- needs: 07zzz09.simlay
/-! rooted -/
def enT (G : GV) (l s : Nat) : Prop := s.testBit (ghd G l) = true ∧ ¬ s.testBit (gtl G l) = true
noncomputable def ecn (G : GV) (T : Nat → Prop) (s : Nat) : Nat := cnt (gL G) (fun l => T l ∧ enT G l s)
def mnf (f : Nat → Nat) (r b : Nat) : Nat → Nat
  | 0 => b
  | m + 1 => if m ≠ 0 ∧ ¬ m.testBit r = true then min (mnf f r b m) (f m) else mnf f r b m
theorem mnf_t {f : Nat → Nat} {r b m : Nat} (h : m ≠ 0) (h2 : ¬ m.testBit r = true) : mnf f r b (m+1) = min (mnf f r b m) (f m) := by
  show (if m ≠ 0 ∧ ¬ m.testBit r = true then min (mnf f r b m) (f m) else mnf f r b m) = _
  rw [if_pos ⟨h, h2⟩]
theorem mnf_f {f : Nat → Nat} {r b m : Nat} (h2 : m.testBit r = true) : mnf f r b (m+1) = mnf f r b m := by
  show (if m ≠ 0 ∧ ¬ m.testBit r = true then min (mnf f r b m) (f m) else mnf f r b m) = _
  rw [if_neg (fun z => z.2 h2)]
theorem mnf_1 {f : Nat → Nat} {r b : Nat} : mnf f r b 1 = b := by
  show (if (0 : Nat) ≠ 0 ∧ ¬ (0 : Nat).testBit r = true then _ else mnf f r b 0) = _
  rw [if_neg (fun z => z.1 rfl)]; rfl
theorem mnf_le {f : Nat → Nat} {r b : Nat} (m : Nat) : mnf f r b m ≤ b ∧ ∀ s, s < m → s ≠ 0 → ¬ s.testBit r = true → mnf f r b m ≤ f s := by
  induction m with
  | zero => exact ⟨Nat.le_refl _, fun s h => absurd h (Nat.not_lt_zero s)⟩
  | succ m ih =>
    obtain ⟨h1, h2⟩ := ih
    by_cases h : m ≠ 0 ∧ ¬ m.testBit r = true
    · rw [mnf_t h.1 h.2]
      refine ⟨by omega, fun s hs hs0 hsr => ?_⟩
      by_cases e : s = m
      · subst e; omega
      · have := h2 s (by omega) hs0 hsr; omega
    · have e : mnf f r b (m+1) = mnf f r b m := by
        show (if m ≠ 0 ∧ ¬ m.testBit r = true then _ else _) = _
        rw [if_neg h]
      rw [e]
      refine ⟨h1, fun s hs hs0 hsr => ?_⟩
      by_cases e : s = m
      · subst e; exact absurd ⟨hs0, hsr⟩ h
      · exact h2 s (by omega) hs0 hsr
theorem mnf_at {f : Nat → Nat} {r b : Nat} (m : Nat) : mnf f r b m = b ∨ ∃ s, s < m ∧ s ≠ 0 ∧ ¬ s.testBit r = true ∧ mnf f r b m = f s := by
  induction m with
  | zero => exact Or.inl rfl
  | succ m ih =>
    by_cases h : m ≠ 0 ∧ ¬ m.testBit r = true
    · rw [mnf_t h.1 h.2]
      by_cases k : f m ≤ mnf f r b m
      · exact Or.inr ⟨m, by omega, h.1, h.2, by omega⟩
      · rcases ih with z | ⟨s, s1, s2, s3, s4⟩
        · exact Or.inl (by omega)
        · exact Or.inr ⟨s, by omega, s2, s3, by omega⟩
    · have e : mnf f r b (m+1) = mnf f r b m := by
        show (if m ≠ 0 ∧ ¬ m.testBit r = true then _ else _) = _
        rw [if_neg h]
      rw [e]
      rcases ih with z | ⟨s, s1, s2, s3, s4⟩
      · exact Or.inl z
      · exact Or.inr ⟨s, by omega, s2, s3, s4⟩
theorem mnf_24 {f : Nat → Nat} {r : Nat} (m : Nat) : mnf f r 24 m = min 24 (mnf f r 1000 m) := by
  induction m with
  | zero => rfl
  | succ m ih =>
    by_cases h : m ≠ 0 ∧ ¬ m.testBit r = true
    · rw [mnf_t h.1 h.2, mnf_t h.1 h.2, ih]; omega
    · have e : ∀ b, mnf f r b (m+1) = mnf f r b m := by
        intro b
        show (if m ≠ 0 ∧ ¬ m.testBit r = true then _ else _) = _
        rw [if_neg h]
      rw [e, e, ih]
theorem ecn_le (G : GV) (T : Nat → Prop) (s : Nat) : ecn G T s ≤ gL G := cnt_le _ _
theorem other_pt {n r : Nat} (hn : 2 ≤ n) : ∃ q, q < n ∧ q ≠ r := by
  by_cases h : r = 0
  · exact ⟨1, by omega, by omega⟩
  · exact ⟨0, by omega, by omega⟩
theorem one_set {n q : Nat} (hq : q < n) : 2 ^ q < 2 ^ n ∧ 2 ^ q ≠ 0 ∧ ∀ i, (2 ^ q).testBit i = true ↔ q = i := by
  refine ⟨Nat.pow_lt_pow_right (by omega) hq, by have := Nat.two_pow_pos q; omega, fun i => ?_⟩
  rw [Nat.testBit_two_pow, decide_eq_true_iff]
theorem mnf_small {G : GV} (hb : gL G ≤ 24) {T : Nat → Prop} {r : Nat} (hn : 2 ≤ gn G) : mnf (ecn G T) r 1000 (2 ^ gn G) ≤ 24 ∧ mnf (ecn G T) r 24 (2 ^ gn G) = mnf (ecn G T) r 1000 (2 ^ gn G) := by
  obtain ⟨q, hq, hqr⟩ := other_pt (r := r) hn
  obtain ⟨o1, o2, o3⟩ := one_set hq
  have h := (mnf_le (f := ecn G T) (r := r) (b := 1000) (2 ^ gn G)).2 (2 ^ q) o1 o2 (fun z => hqr ((o3 r).mp z))
  have := ecn_le G T (2 ^ q)
  rw [mnf_24]
  omega
section
variable {N M OT : ZB} {G : GV}
theorem N_enters (hN : RN N G) (hG : GOK G) {l s : Nat} (hl : l < gL G) (hs : s < 2147483648) : fOT_enters N (l : Int) (s : Int) = some (if dc (enT G l s) then 1 else 0) := by
  have hb := hG.1
  have h1 := gtl_lt hG hl
  have h2 := ghd_lt hG hl
  unfold fOT_enters
  rw [N_head hN hG hl, bds, kf1_e, kf0_e, zbit hs (by omega)]
  by_cases a : s.testBit (ghd G l) = true
  · rw [b10t a, N_tail hN hG hl, bds, zbit hs (by omega)]
    by_cases b : s.testBit (gtl G l) = true
    · rw [b10t b, idf (fun z : enT G l s => z.2 b)]; exact zo0
    · rw [b10f b, idt (show enT G l s from ⟨a, b⟩)]; exact zo1
  · rw [b10f a, idf (fun z : enT G l s => a z.1)]; exact zo0
theorem OT_change (hN : RN N G) (hG : GOK G) {l : Nat} (hl : l < gL G) (d : Int) (w : Nat → Int) (OT : ZB) : ∃ w', fOT_change N (OT.1, ua OT.2 1 w) (l : Int) d = some (OT.1, ua OT.2 1 w') ∧ ∀ s, 1 ≤ s → s < 2 ^ gn G → w' s = if dc (enT G l s) then w s + d else w s := by
  have hb := hG.1
  have hp := Nat.two_pow_pos (gn G)
  have h10 : 2 ^ gn G ≤ 1024 := Nat.pow_le_pow_right (n := 2) (by omega) hb.1
  have main : wp (fOT_change N (OT.1, ua OT.2 1 w) (l : Int) d) (fun r => ∃ w', r = (OT.1, ua OT.2 1 w') ∧ ∀ s, 1 ≤ s → s < 2 ^ gn G → w' s = if dc (enT G l s) then w s + d else w s) := by
    unfold fOT_change
    refine lop2_w (fun v C => ∃ (k : Nat) (u : Nat → Int), v = (k : Int) ∧ 1 ≤ k ∧ k ≤ 2 ^ gn G ∧ C = (OT.1, ua OT.2 1 u) ∧ (∀ s, 1 ≤ s → s < k → u s = if dc (enT G l s) then w s + d else w s) ∧ ∀ s, k ≤ s → u s = w s) (fun v _ => 2 ^ gn G - v.toNat) ?_ FU _ _ ⟨1, w, rfl, by omega, by omega, rfl, fun s _ _ => by omega, fun s _ => rfl⟩ (by show 2 ^ gn G - _ < 100000; omega)
    intro rec v C hI hrec
    obtain ⟨k, u, rfl, hk1, hk, rfl, hu, hu2⟩ := hI
    rw [N_allPoints hN hG, bds, nmn (by omega), nmn (by omega)]
    by_cases hkn : k < 2 ^ gn G
    · rw [if_neg (by omega), N_enters hN hG hl (by omega), bds, kf1_e]
      by_cases h : enT G l k
      · rw [i10t h]
        have e1 : ((OT.1, ua OT.2 1 u) : ZB).2 1 = u := rfl
        rw [e1, rdn (by omega), ixn (by omega), lt_e, Int.toNat_natCast]
        simp only [ua_up]
        refine hrec _ _ ⟨k+1, up u k (u k + d), by omega, by omega, by omega, rfl, fun s s1 s2 => ?_, fun s s1 => ?_⟩ (by omega)
        · by_cases e : s = k
          · subst e; rw [up_e, hu2 s (by omega), idt h]
          · rw [up_n _ _ e]; exact hu s s1 (by omega)
        · rw [up_n _ _ (by omega)]; exact hu2 s (by omega)
      · rw [i10f h]
        refine hrec _ _ ⟨k+1, u, by omega, by omega, by omega, rfl, fun s s1 s2 => ?_, fun s s1 => hu2 s (by omega)⟩ (by omega)
        by_cases e : s = k
        · subst e; rw [hu2 s (by omega), idf h]
        · exact hu s s1 (by omega)
    · rw [if_pos (by omega)]
      exact ⟨_, rfl, u, rfl, fun s s1 s2 => hu s s1 (by omega)⟩
  obtain ⟨r, h1, w', h2, h3⟩ := main
  exact ⟨w', by rw [h1, h2], h3⟩
theorem OT_count (hN : RN N G) (hG : GOK G) {r : Nat} (hr : r < gn G) (OT : ZB) : ∃ w, fOT_countFrom N OT (r : Int) = some (((mnf (ecn G (snd_ G)) r 24 (2 ^ gn G) : Nat) : Int), (OT.1, ua OT.2 1 w)) ∧ ∀ s, 1 ≤ s → s < 2 ^ gn G → w s = ((ecn G (snd_ G) s : Nat) : Int) := by
  have hb := hG.1
  have hp := Nat.two_pow_pos (gn G)
  have h10 : 2 ^ gn G ≤ 1024 := Nat.pow_le_pow_right (n := 2) (by omega) hb.1
  have main : wp (fOT_countFrom N OT (r : Int)) (fun q => ∃ w, q = (((mnf (ecn G (snd_ G)) r 24 (2 ^ gn G) : Nat) : Int), (OT.1, ua OT.2 1 w)) ∧ ∀ s, 1 ≤ s → s < 2 ^ gn G → w s = ((ecn G (snd_ G) s : Nat) : Int)) := by
    unfold fOT_countFrom
    refine lop2_w (fun v C => ∃ (k : Nat) (u : Nat → Int), v = (k : Int) ∧ k ≤ 2 ^ gn G ∧ C = (OT.1, ua OT.2 1 u) ∧ ∀ s, s < k → u s = 0) (fun v _ => 2 ^ gn G - v.toNat) ?_ FU _ _ ⟨0, OT.2 1, rfl, by omega, by rw [ua_self], fun s h => absurd h (Nat.not_lt_zero s)⟩ (by show 2 ^ gn G - _ < 100000; omega)
    intro rec v C hI hrec
    obtain ⟨k, u, rfl, hk, rfl, hu⟩ := hI
    rw [N_allPoints hN hG, bds, nmn (by omega), nmn (by omega)]
    by_cases hkn : k < 2 ^ gn G
    · rw [if_neg (by omega), ixn (by omega), lt_e, Int.toNat_natCast]
      have e1 : ((OT.1, ua OT.2 1 u) : ZB).2 1 = u := rfl
      rw [e1]
      simp only [ua_up]
      refine hrec _ _ ⟨k+1, up u k 0, by omega, by omega, rfl, fun s hs => ?_⟩ (by omega)
      by_cases e : s = k
      · subst e; rw [up_e]
      · rw [up_n _ _ e]; exact hu s (by omega)
    · rw [if_pos (by omega)]
      refine lop2_w (fun v C => ∃ (m : Nat) (u : Nat → Int), v = (m : Int) ∧ m ≤ gL G ∧ C = (OT.1, ua OT.2 1 u) ∧ ∀ s, 1 ≤ s → s < 2 ^ gn G → u s = ((cnt m (fun l => snd_ G l ∧ enT G l s) : Nat) : Int)) (fun v _ => gL G - v.toNat) ?_ FU _ _ ⟨0, u, rfl, by omega, rfl, fun s s1 s2 => by rw [hu s (by omega)]; rfl⟩ (by show gL G - _ < 100000; omega)
      intro rec2 v C hI2 hrec2
      obtain ⟨m, u2, rfl, hm, rfl, hu2⟩ := hI2
      rw [hN.2.1, nmn (by omega), nmn (by omega)]
      by_cases hmL : m < gL G
      · rw [if_pos (by omega), N_isSound hN (by omega), bds, kf1_e]
        by_cases hs : gbr G m
        · rw [i01t hs]
          refine hrec2 _ _ ⟨m+1, u2, by omega, by omega, rfl, fun s s1 s2 => ?_⟩ (by omega)
          rw [cnt_succ_f (fun z : snd_ G m ∧ enT G m s => z.1 hs)]; exact hu2 s s1 s2
        · obtain ⟨w', c1, c2⟩ := OT_change hN hG hmL 1 u2 OT
          rw [i01f hs, c1, bds]
          refine hrec2 _ _ ⟨m+1, w', by omega, by omega, rfl, fun s s1 s2 => ?_⟩ (by omega)
          rw [c2 s s1 s2, hu2 s s1 s2]
          by_cases h : enT G m s
          · rw [idt h, cnt_succ_t (p := fun l => snd_ G l ∧ enT G l s) ⟨hs, h⟩]; omega
          · rw [idf h, cnt_succ_f (fun z : snd_ G m ∧ enT G m s => h z.2)]
      · rw [if_neg (by omega)]
        have hmm : m = gL G := by omega
        subst hmm
        have hu3 : ∀ s, 1 ≤ s → s < 2 ^ gn G → u2 s = ((ecn G (snd_ G) s : Nat) : Int) := hu2
        refine lop2_w (fun v2 v3 => ∃ s : Nat, v3 = (s : Int) ∧ 1 ≤ s ∧ s ≤ 2 ^ gn G ∧ v2 = ((mnf (ecn G (snd_ G)) r 24 s : Nat) : Int)) (fun _ v3 => 2 ^ gn G - v3.toNat) ?_ FU _ _ ⟨1, rfl, by omega, by omega, by rw [mnf_1]; rfl⟩ (by show 2 ^ gn G - _ < 100000; omega)
        intro rec3 v2 v3 hI3 hrec3
        obtain ⟨s, rfl, hs1, hs, rfl⟩ := hI3
        rw [bds, nmn (by omega), nmn (by omega)]
        by_cases hsn : s < 2 ^ gn G
        · have e1 : ((OT.1, ua OT.2 1 u2) : ZB).2 1 = u2 := rfl
          rw [if_neg (by omega), kf1_e, zbit (by omega) (by omega)]
          by_cases h : s.testBit r = true
          · rw [b10t h]
            exact hrec3 _ _ ⟨s+1, by omega, by omega, by omega, by rw [mnf_f h]⟩ (by omega)
          · have hm24 := (mnf_le (f := ecn G (snd_ G)) (r := r) (b := 24) s).1
            have he := ecn_le G (snd_ G) s
            rw [b10f h, e1, rdn (by omega), hu3 s hs1 hsn, lt_e]
            refine hrec3 _ _ ⟨s+1, by omega, by omega, by omega, ?_⟩ (by omega)
            rw [mnf_t (by omega) h]
            unfold zmin
            rw [nmn (by omega), nmn (by omega)]
            by_cases z : ecn G (snd_ G) s < mnf (ecn G (snd_ G)) r 24 s
            · rw [if_pos (by omega)]; omega
            · rw [if_neg (by omega)]; omega
        · rw [if_pos (by omega)]
          have : s = 2 ^ gn G := by omega
          subst this
          exact ⟨_, rfl, u2, rfl, hu3⟩
  obtain ⟨q, h1, w, h2, h3⟩ := main
  exact ⟨w, by rw [h1, h2], h3⟩
theorem M_rootedBy (hM : RW (M.2 12) G) (hG : GOK G) {r : Nat} (hr : r < gn G) (T : Nat → Prop) : fM_rootedBy M (r : Int) ((bs (gL G) T : Nat) : Int) = some ((mnf (ecn G T) r 1000 (2 ^ gn G) : Nat) : Int) := by
  have hb := hG.1
  have hp := Nat.two_pow_pos (gn G)
  have h10 : 2 ^ gn G ≤ 1024 := Nat.pow_le_pow_right (n := 2) (by omega) hb.1
  have main : wp (fM_rootedBy M (r : Int) ((bs (gL G) T : Nat) : Int)) (fun q => q = ((mnf (ecn G T) r 1000 (2 ^ gn G) : Nat) : Int)) := by
    unfold fM_rootedBy
    refine lop2_w (fun v3 v4 => ∃ s : Nat, v4 = (s : Int) ∧ 1 ≤ s ∧ s ≤ 2 ^ gn G ∧ v3 = ((mnf (ecn G T) r 1000 s : Nat) : Int)) (fun _ v4 => 2 ^ gn G - v4.toNat) ?_ FU _ _ ⟨1, rfl, by omega, by omega, by rw [mnf_1]; rfl⟩ (by show 2 ^ gn G - _ < 100000; omega)
    intro rec v3 v4 hI hrec
    obtain ⟨s, rfl, hs1, hs, rfl⟩ := hI
    rw [M_points hM, bds, zshln (by omega), nmn (show s < 2147483648 by omega)]
    by_cases hsn : s < 2 ^ gn G
    · rw [if_pos (by omega), M_has (by omega) (by omega), bds, kf1_e]
      by_cases h : s.testBit r = true
      · rw [t10t h]
        exact hrec _ _ ⟨s+1, by omega, by omega, by omega, by rw [mnf_f h]⟩ (by omega)
      · rw [t10f h]
        refine lop2_w (fun v5 v6 => ∃ m : Nat, v6 = (m : Int) ∧ m ≤ gL G ∧ v5 = ((cnt m (fun l => T l ∧ enT G l s) : Nat) : Int)) (fun _ v6 => gL G - v6.toNat) ?_ FU _ _ ⟨0, rfl, by omega, rfl⟩ (by show gL G - _ < 100000; omega)
        intro rec2 v5 v6 hI2 hrec2
        obtain ⟨m, rfl, hm, rfl⟩ := hI2
        rw [M_lines hM, bds, nmn (by omega), nmn (by omega)]
        by_cases hmL : m < gL G
        · have g1 := gtl_lt hG hmL
          have g2 := ghd_lt hG hmL
          have nx0 : ¬ (T m ∧ enT G m s) → ∃ q, rec2 ((cnt m (fun l => T l ∧ enT G l s) : Nat) : Int) ((m : Int) + 1) = some q ∧ q = ((mnf (ecn G T) r 1000 (2 ^ gn G) : Nat) : Int) := fun h => hrec2 _ _ ⟨m+1, by omega, by omega, by rw [cnt_succ_f h]⟩ (by omega)
          rw [if_pos (by omega), M_has (bs_lt31 (by omega)) (by omega), bds, kf1_e]
          by_cases h1 : T m
          · rw [t10t ((bs_bit _ T _).mpr ⟨hmL, h1⟩), M_outOf hM hG hmL, bds, M_has (by omega) (by omega), bds]
            by_cases h2 : s.testBit (gtl G m) = true
            · rw [t10t h2]; exact nx0 (fun z => z.2.2 h2)
            · rw [t10f h2, M_towards hM hG hmL, bds, M_has (by omega) (by omega), bds]
              by_cases h3 : s.testBit (ghd G m) = true
              · rw [t10t h3]
                exact hrec2 _ _ ⟨m+1, by omega, by omega, by rw [cnt_succ_t (p := fun l => T l ∧ enT G l s) ⟨h1, h3, h2⟩]; omega⟩ (by omega)
              · rw [t10f h3]; exact nx0 (fun z => h3 z.2.1)
          · rw [t10f (fun z => h1 ((bs_bit _ T _).mp z).2)]; exact nx0 (fun z => h1 z.1)
        · rw [if_neg (by omega)]
          have hmm : m = gL G := by omega
          subst hmm
          have he : cnt (gL G) (fun l => T l ∧ enT G l s) = ecn G T s := rfl
          have he2 := ecn_le G T s
          have hm24 := (mnf_le (f := ecn G T) (r := r) (b := 1000) s).1
          rw [he, nmn (by omega), nmn (by omega)]
          by_cases z : ecn G T s < mnf (ecn G T) r 1000 s
          · rw [if_pos (by omega)]
            exact hrec _ _ ⟨s+1, by omega, by omega, by omega, by rw [mnf_t (by omega) h]; omega⟩ (by omega)
          · rw [if_neg (by omega)]
            exact hrec _ _ ⟨s+1, by omega, by omega, by omega, by rw [mnf_t (by omega) h]; omega⟩ (by omega)
    · rw [if_neg (by omega)]
      have : s = 2 ^ gn G := by omega
      subst this
      exact ⟨_, rfl, rfl⟩
  obtain ⟨q, h1, h2⟩ := main
  rw [h1, h2]
end
theorem sim33 : Sim33 INV := by
  intro X N T Rd Fr Ac Ch PS Ly Pa OT Ea Ga c0 c1 M a1 hI hr1
  have keep0 : INV X N T Rd Fr Ac Ch PS Ly Pa OT Ea Ga c0 c1 (up M.1 0 0, M.2) := hI
  obtain ⟨⟨G, hG, hN, hM⟩, hT, hR, hA, hC, hGa, hi0, hi1, hP⟩ := hI
  have hb := hG.1
  have hM1 : RW (((up M.1 0 0, M.2) : ZB).2 12) G := hM
  unfold fX_rooted fM_rooted
  rw [lt_e, M_isPoint hM1 hG hr1, bds, kf0_e, kf1_e, kf0_e, hN.1, nmn (by omega), nmi hr1]
  by_cases q : gn G < 2
  · rw [if_pos (by omega : (gn G : Int) < 2)]
    refine ⟨(-1, OT), (-1, (up M.1 0 0, M.2)), rfl, ?_, rfl, keep0⟩
    by_cases z : 0 ≤ a1 ∧ a1 < gn G
    · rw [q10t z, M_points hM1, bds, nmn (by omega), if_neg (by omega : ¬ 1 < (gn G : Int))]
    · rw [q10f z]
  rw [if_neg (by omega : ¬ (gn G : Int) < 2)]
  by_cases z : 0 ≤ a1 ∧ a1 < gn G
  · obtain ⟨r, rfl⟩ : ∃ r : Nat, a1 = (r : Int) := ⟨a1.toNat, by omega⟩
    obtain ⟨w, c1, c2⟩ := OT_count hN hG (r := r) (by omega) OT
    rw [q10t z, if_neg (by omega : ¬ (r : Int) < 0), if_pos z.2, c1, bds, M_points hM1, bds, nmn (by omega), if_pos (by omega : 1 < (gn G : Int)), M_sound hM1 hG, bds]
    have hrb := M_rootedBy (M := (up M.1 0 0, M.2)) hM1 hG (r := r) (by omega) (fun l => ¬ gbr G l)
    rw [hrb, bds]
    refine ⟨_, _, rfl, rfl, ?_, ⟨⟨G, hG, hN, hM⟩, hT, hR, hA, hC, hGa, hi0, hi1, hP⟩⟩
    show ((mnf (ecn G (snd_ G)) r 24 (2 ^ gn G) : Nat) : Int) = ((mnf (ecn G (snd_ G)) r 1000 (2 ^ gn G) : Nat) : Int)
    rw [(mnf_small hb.2.1 (by omega)).2]
  · rw [q10f z]
    refine ⟨(-1, OT), _, ?_, rfl, rfl, keep0⟩
    by_cases y : a1 < 0
    · rw [if_pos y]
    · rw [if_neg y, if_neg (by omega)]
