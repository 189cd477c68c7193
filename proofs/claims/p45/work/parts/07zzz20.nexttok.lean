-- needs: 07zzz19.tokens
/-! net: the reader's next token -/
def Bl (x : Int) : Prop := x = 32 ∨ x = 10
theorem kf0_w {β : Type} {X : Option β} {B : Option β → Option β} {Q : β → Prop} (h : ∀ k, k = X → ∃ r, B k = some r ∧ Q r) : ∃ r, kf0 X B = some r ∧ Q r := h X rfl
theorem Rd_isBlank {x : Int} (h : -2147483648 ≤ x ∧ x < 2147483648) : fRd_isBlank x = some (if dc (Bl x) then 1 else 0) := by
  unfold fRd_isBlank
  rw [kf1_e, kf0_e, nmi h]
  by_cases a : x = 32
  · rw [if_pos a, idt (show Bl x from Or.inl a)]; exact zo1
  · rw [if_neg a]
    by_cases b : x = 10
    · rw [if_pos b, idt (show Bl x from Or.inr b)]; exact zo1
    · rw [if_neg b, idf (fun z : Bl x => z.elim a b)]; exact zo0
def RunS (t : Nat → Int) (u q k : Nat) : Prop := q + k ≤ u ∧ (∀ i, i < k → Le (t (q + i)) ∨ Di (t (q + i))) ∧ (q + k < u → ¬ (Le (t (q + k)) ∨ Di (t (q + k))))
theorem RunS_uniq {t : Nat → Int} {u q k k' : Nat} (h : RunS t u q k) (h' : RunS t u q k') : k = k' := by
  rcases Nat.lt_trichotomy k k' with z | z | z
  · exact absurd (h'.2.1 k z) (h.2.2 (by have := h'.1; omega))
  · exact z
  · exact absurd (h.2.1 k' z) (h'.2.2 (by have := h.1; omega))
def SkS (t : Nat → Int) (l p q : Nat) : Prop := p ≤ q ∧ (q ≤ l ∨ q = p) ∧ (∀ i, p ≤ i → i < q → Bl (t i)) ∧ (q < l → ¬ Bl (t q))
def NTc (t : Nat → Int) (u q : Nat) (Rd Rd' : ZB) : Prop := (∀ i, i ≠ 7 → i ≠ 8 → i ≠ 9 → i ≠ 10 → Rd'.1 i = Rd.1 i) ∧ Rd'.2 = Rd.2 ∧ Rd'.1 9 = ((min q (min u 600) : Nat) : Int) ∧ ((min u 600 ≤ q ∧ Rd'.1 8 = 0) ∨ (q < min u 600 ∧ t q = 59 ∧ Rd'.1 8 = 3 ∧ Rd'.1 7 = ((q + 1 : Nat) : Int)) ∨ (q < min u 600 ∧ t q ≠ 59 ∧ ∃ k, RunS t u q k ∧ Rd'.1 7 = ((q + k : Nat) : Int) ∧ Rd'.1 10 = cvf t q k ∧ Rd'.1 8 = kiC (nLf t q k) (nDf t q k)))
theorem Rd_next {T Rd : ZB} {u p : Nat} (hT : T.1 1 = (u : Int)) (hu : u ≤ 640) (hB : Byt (T.2 0) u) (h7 : Rd.1 7 = (p : Int)) (hp : p ≤ u) : ∃ (q : Nat) (Rd' : ZB), fRd_nextToken T Rd = some Rd' ∧ SkS (T.2 0) (min u 600) p q ∧ NTc (T.2 0) u q Rd Rd' := by
  have main : wp (fRd_nextToken T Rd) (fun Rd' => ∃ q, SkS (T.2 0) (min u 600) p q ∧ NTc (T.2 0) u q Rd Rd') := by
    unfold fRd_nextToken fT_size
    have hmin : zmin (u : Int) 600 = ((min u 600 : Nat) : Int) := by
      unfold zmin
      rw [nmn (by omega), nmi (by omega)]
      by_cases h : 600 < u
      · rw [if_pos (by omega)]; omega
      · rw [if_neg (by omega)]; omega
    rw [hT, bds, hmin, lt_e]
    refine lop1_w (fun (R : ZB) => ∃ q : Nat, R.1 7 = (q : Int) ∧ p ≤ q ∧ q ≤ u ∧ (q ≤ min u 600 ∨ q = p) ∧ (∀ i, p ≤ i → i < q → Bl (T.2 0 i)) ∧ (∀ i, i ≠ 7 → R.1 i = Rd.1 i) ∧ R.2 = Rd.2) (fun (R : ZB) => u - (R.1 7).toNat) ?_ FU _ ⟨p, h7, by omega, hp, Or.inr rfl, fun i h1 h2 => by omega, fun _ _ => rfl, rfl⟩ (by show u - _ < 100000; omega)
    intro rec R hI hrec
    obtain ⟨q, r7, hpq, hqu, hql, hbl, rr, r2⟩ := hI
    refine kf0_w (fun k5 hk5 => ?_)
    have tail : (q < min u 600 → ¬ Bl (T.2 0 q)) → ∃ r, k5 = some r ∧ ∃ q, SkS (T.2 0) (min u 600) p q ∧ NTc (T.2 0) u q Rd r := by
      intro hnb
      have hsk : SkS (T.2 0) (min u 600) p q := ⟨hpq, hql, hbl, hnb⟩
      rw [hk5, lt_e, kf1_e]
      have hz : zmin (R.1 7) ((min u 600 : Nat) : Int) = ((min q (min u 600) : Nat) : Int) := by
        unfold zmin
        rw [r7, nmn (by omega), nmn (by omega)]
        by_cases h : min u 600 < q
        · rw [if_pos (by omega)]; omega
        · rw [if_neg (by omega)]; omega
      have e7 : ((up R.1 9 (zmin (R.1 7) ((min u 600 : Nat) : Int)), R.2) : ZB).1 7 = (q : Int) := r7
      have e9 : ((up R.1 9 (zmin (R.1 7) ((min u 600 : Nat) : Int)), R.2) : ZB).1 9 = ((min q (min u 600) : Nat) : Int) := (up_e R.1 9 (zmin (R.1 7) ((min u 600 : Nat) : Int))).trans hz
      have er : ∀ i, i ≠ 7 → i ≠ 9 → ((up R.1 9 (zmin (R.1 7) ((min u 600 : Nat) : Int)), R.2) : ZB).1 i = Rd.1 i := by
        intro i h1 h2
        show up R.1 9 _ i = _
        rw [up_n _ _ h2]; exact rr i h1
      have er2 : ((up R.1 9 (zmin (R.1 7) ((min u 600 : Nat) : Int)), R.2) : ZB).2 = Rd.2 := r2
      generalize ((up R.1 9 (zmin (R.1 7) ((min u 600 : Nat) : Int)), R.2) : ZB) = R6 at e7 e9 er er2 ⊢
      rw [e7, nmn (by omega), nmn (by omega)]
      by_cases hlt : q < min u 600
      · have hqu2 : q < u := by omega
        have hb := hB q hqu2
        rw [if_pos (by omega), T_at hT hu hqu2, bds, nmi (by omega)]
        by_cases h59 : T.2 0 q = 59
        · rw [if_pos h59, lt_e, lt_e]
          refine ⟨_, rfl, q, hsk, fun i h1 h2 h3 _ => ?_, er2, ?_, Or.inr (Or.inl ⟨hlt, h59, ?_, ?_⟩)⟩
          · show up (up R6.1 8 3) 7 _ i = _
            rw [up_n _ _ h1, up_n _ _ h2]; exact er i h1 h3
          · exact e9
          · rfl
          · show up (up R6.1 8 3) 7 (R6.1 7 + 1) 7 = _
            rw [up_e, e7]; omega
        · obtain ⟨k, R', g1, g2, g3, g4, g5, g6, g7, g8, g9⟩ := Rd_run hT hu hB e7 (by omega)
          rw [if_neg h59, g1, bds]
          refine ⟨_, rfl, q, hsk, fun i h1 h2 h3 h4 => ?_, ?_, ?_, Or.inr (Or.inr ⟨hlt, h59, k, ⟨g2, g3, g4⟩, g5, g6, g7⟩)⟩
          · rw [g8 i h1 h2 h4]; exact er i h1 h3
          · rw [g9]; exact er2
          · rw [g8 9 (by decide) (by decide) (by decide)]; exact e9
      · rw [if_neg (by omega), lt_e]
        refine ⟨_, rfl, q, hsk, fun i h1 h2 h3 _ => ?_, er2, ?_, Or.inl ⟨by omega, ?_⟩⟩
        · show up R6.1 8 0 i = _
          rw [up_n _ _ h2]; exact er i h1 h3
        · exact e9
        · exact up_e R6.1 8 0
    clear hk5
    rw [r7, nmn (by omega), nmn (by omega)]
    by_cases hlt : q < min u 600
    · have hqu2 : q < u := by omega
      have hb := hB q hqu2
      rw [if_pos (by omega), T_at hT hu hqu2, bds, Rd_isBlank (by omega), bds]
      by_cases h : Bl (T.2 0 q)
      · rw [i10t h, lt_e]
        refine hrec _ ⟨q+1, ?_, by omega, by omega, Or.inl (by omega), fun i h1 h2 => ?_, fun i h1 => ?_, r2⟩ ?_
        · have e : up R.1 7 ((q : Int) + 1) 7 = ((q + 1 : Nat) : Int) := by rw [up_e]; omega
          exact e
        · by_cases e : i = q
          · subst e; exact h
          · exact hbl i h1 (by omega)
        · show up R.1 7 _ i = _
          rw [up_n _ _ h1]; exact rr i h1
        · have e : up R.1 7 ((q : Int) + 1) 7 = (q : Int) + 1 := up_e _ _ _
          show u - (up R.1 7 ((q : Int) + 1) 7).toNat < u - (R.1 7).toNat
          rw [e, r7]; omega
      · rw [i10f h]; exact tail (fun _ => h)
    · rw [if_neg (by omega)]; exact tail (fun z => absurd z hlt)
  obtain ⟨r, h1, q, h2⟩ := main
  exact ⟨q, r, h1, h2⟩
