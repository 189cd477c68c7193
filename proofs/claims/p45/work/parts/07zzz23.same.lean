-- needs: 07zzz22.gotok
/-! net: both find the same token -/
def TR (u p : Nat) (R M : ZB) : Prop := (∃ pl : Nat, R.1 9 = (pl : Int) ∧ M.1 5 = (pl : Int) ∧ pl ≤ 600) ∧
  ((∃ v p' : Nat, R.1 8 = 1 ∧ M.1 6 = 2 ∧ R.1 10 = (v : Int) ∧ M.1 10 = (v : Int) ∧ v < 10460353203 ∧ R.1 7 = (p' : Int) ∧ M.1 4 = (p' : Int) ∧ p < p' ∧ p' ≤ u) ∨
   (∃ v p' : Nat, R.1 8 = 2 ∧ M.1 6 = 3 ∧ R.1 10 = (v : Int) ∧ M.1 7 = (v : Int) ∧ v ≤ 99 ∧ R.1 7 = (p' : Int) ∧ M.1 4 = (p' : Int) ∧ p < p' ∧ p' ≤ u) ∨
   (∃ p' : Nat, R.1 8 = 3 ∧ M.1 6 = 4 ∧ R.1 7 = (p' : Int) ∧ M.1 4 = (p' : Int) ∧ p < p' ∧ p' ≤ u) ∨
   (R.1 8 = 0 ∧ M.1 6 = 0 ∧ u ≤ 600) ∨ (R.1 8 = 0 ∧ M.1 6 = 1 ∧ 600 < u) ∨ (R.1 8 = 4 ∧ M.1 6 = 1))
theorem nD0 (t : Nat → Int) (q : Nat) : ∀ k, nDf t q k = 0 ↔ ∀ i, i < k → Le (t (q + i)) := by
  intro k
  induction k with
  | zero => exact ⟨fun _ i h => absurd h (Nat.not_lt_zero i), fun _ => rfl⟩
  | succ k ih =>
    have e : nDf t q (k+1) = nDf t q k + (if dc (Le (t (q + k))) then 0 else 1) := rfl
    by_cases h : Le (t (q + k))
    · rw [e, idt h, Nat.add_zero, ih]
      exact ⟨fun z i hi => by
        by_cases y : i = k
        · subst y; exact h
        · exact z i (by omega), fun z i hi => z i (by omega)⟩
    · rw [e, idf h]
      exact ⟨fun z => by omega, fun z => absurd (z k (by omega)) h⟩
theorem nL0 (t : Nat → Int) (q : Nat) : ∀ k, nLf t q k = 0 ↔ ∀ i, i < k → ¬ Le (t (q + i)) := by
  intro k
  induction k with
  | zero => exact ⟨fun _ i h => absurd h (Nat.not_lt_zero i), fun _ => rfl⟩
  | succ k ih =>
    have e : nLf t q (k+1) = nLf t q k + (if dc (Le (t (q + k))) then 1 else 0) := rfl
    by_cases h : Le (t (q + k))
    · rw [e, idt h]
      exact ⟨fun z => by omega, fun z => absurd h (z k (by omega))⟩
    · rw [e, idf h, Nat.add_zero, ih]
      exact ⟨fun z i hi => by
        by_cases y : i = k
        · subst y; exact h
        · exact z i (by omega), fun z i hi => z i (by omega)⟩
theorem word_v {t t' : Nat → Int} {q : Nat} : ∀ k, k ≤ 7 → (∀ i, i < k → Le (t (q + i)) ∧ t (q + i) = t' (q + i)) → ∃ v : Nat, cvf t q k = (v : Int) ∧ wvf t' q k = (v : Int) ∧ v < 27 ^ k := by
  intro k
  induction k with
  | zero => intro _ _; exact ⟨0, rfl, rfl, by decide⟩
  | succ k ih =>
    intro hk h
    obtain ⟨v, h1, h2, h3⟩ := ih (by omega) (fun i hi => h i (by omega))
    obtain ⟨g1, g2⟩ := h k (by omega)
    have gl := g1.1
    have gu := g1.2
    have e1 : cvf t q (k+1) = if dc (Le (t (q + k))) then cvf t q k * 27 + ((t (q + k) - 97) + 1) else (cvf t q k * 10 + t (q + k)) - 48 := rfl
    have e2 : wvf t' q (k+1) = if k < 7 then (27 * wvf t' q k + t' (q + k)) - 96 else wvf t' q k := rfl
    rw [e1, e2, idt g1, if_pos (by omega), h1, h2, ← g2, Nat.pow_succ]
    refine ⟨v * 27 + (t (q + k) - 96).toNat, by omega, by omega, by omega⟩
theorem num_v {t t' : Nat → Int} {q : Nat} : ∀ k, k ≤ 2 → (∀ i, i < k → ¬ Le (t (q + i)) ∧ Di (t (q + i)) ∧ t (q + i) = t' (q + i)) → ∃ v : Nat, cvf t q k = (v : Int) ∧ nvf t' q k = (v : Int) ∧ v < 10 ^ k := by
  intro k
  induction k with
  | zero => intro _ _; exact ⟨0, rfl, rfl, by decide⟩
  | succ k ih =>
    intro hk h
    obtain ⟨v, h1, h2, h3⟩ := ih (by omega) (fun i hi => h i (by omega))
    obtain ⟨g1, g3, g2⟩ := h k (by omega)
    have gl := g3.1
    have gu := g3.2
    have e1 : cvf t q (k+1) = if dc (Le (t (q + k))) then cvf t q k * 27 + ((t (q + k) - 97) + 1) else (cvf t q k * 10 + t (q + k)) - 48 := rfl
    have e2 : nvf t' q (k+1) = if k < 2 then (10 * nvf t' q k + t' (q + k)) - 48 else nvf t' q k := rfl
    rw [e1, e2, idf g1, if_pos (by omega), h1, h2, ← g2, Nat.pow_succ]
    refine ⟨v * 10 + (t (q + k) - 48).toNat, by omega, by omega, by omega⟩
theorem same_tok {t t' : Nat → Int} {u p qc qr : Nat} {Rd R M M' : ZB} (hu : u ≤ 640) (hp : p ≤ u) (ht : ∀ i, i < u → t i = t' i) (hc : SkS t (min u 600) p qc) (hr : SkS t' u p qr) (hru : qr ≤ u) (hC : NTc t u qc Rd R) (hM : NTm t' u qr M M') : TR u p R M' := by
  obtain ⟨c1, c2, c3, c4⟩ := hc
  obtain ⟨r1, r2, r3, r4⟩ := hr
  obtain ⟨_, _, n3, n4⟩ := hC
  obtain ⟨_, _, m3⟩ := hM
  rcases n4 with ⟨a1, a2⟩ | hrest
  · -- the class is at the end
    have hq : min u 600 ≤ qr := by
      by_cases z : min u 600 ≤ qr
      · exact z
      · exact absurd (by rw [← ht qr (by omega)]; exact c3 qr r1 (by omega)) (r4 (by omega))
    have h9 : R.1 9 = ((min u 600 : Nat) : Int) := by rw [n3, Nat.min_eq_right a1]
    refine ⟨⟨min u 600, h9, ?_, by omega⟩, ?_⟩
    · rcases m3 with ⟨b1, b2, b3, b4⟩ | ⟨b1, b2, b3⟩
      · rw [b3]; omega
      · rw [b2]
        by_cases z : 600 < u
        · exact absurd ⟨z, by omega⟩ b1
        · omega
    · rcases m3 with ⟨b1, b2, b3, b4⟩ | ⟨b1, b2, b3⟩
      · exact Or.inr (Or.inr (Or.inr (Or.inr (Or.inl ⟨a2, b4, b1⟩))))
      · have hu6 : ¬ 600 < u := fun z => b1 ⟨z, by omega⟩
        rcases b3 with ⟨d1, d2⟩ | ⟨d1, _⟩ | ⟨d1, _⟩ | ⟨d1, _⟩
        · exact Or.inr (Or.inr (Or.inr (Or.inl ⟨a2, d2, by omega⟩)))
        · omega
        · omega
        · omega
  · have hlt : qc < min u 600 := by rcases hrest with ⟨z, _⟩ | ⟨z, _⟩ <;> exact z
    have hq : qr = qc := by
      rcases Nat.lt_trichotomy qr qc with z | z | z
      · exact absurd (by rw [← ht qr (by omega)]; exact c3 qr r1 z) (r4 (by omega))
      · exact z
      · exact absurd (by rw [ht qc (by omega)]; exact r3 qc c1 z) (c4 hlt)
    subst hq
    have h9 : R.1 9 = ((qr : Nat) : Int) := by rw [n3, Nat.min_eq_left (Nat.le_of_lt hlt)]
    rcases m3 with ⟨b1, b2, _⟩ | ⟨b1, b2, b3⟩
    · omega
    · refine ⟨⟨qr, h9, b2, by omega⟩, ?_⟩
      have htq := ht qr (by omega)
      rcases hrest with ⟨_, s1, s2, s3⟩ | ⟨_, s1, k, s2, s3, s4, s5⟩
      · rw [htq] at s1
        rcases b3 with ⟨d1, _⟩ | ⟨_, d1, d2, d3⟩ | ⟨_, d1, _⟩ | ⟨_, d1, _⟩
        · omega
        · exact Or.inr (Or.inr (Or.inl ⟨qr + 1, s2, d2, s3, d3, by omega, by omega⟩))
        · exact absurd s1 d1
        · exfalso
          rcases d1 with z | z
          · have := z.1; omega
          · have := z.2; omega
      · rcases b3 with ⟨d1, _⟩ | ⟨_, d1, _⟩ | ⟨_, d1, d2, d3⟩ | ⟨_, d1, k', d2, d3, d4, d5, d6⟩
        · omega
        · rw [htq] at s1; exact absurd d1 s1
        · -- no letter, no digit
          have hk0 : k = 0 := by
            by_cases z : k = 0
            · exact z
            · have := s2.2.1 0 (by omega)
              rw [Nat.add_zero, htq] at this
              exact absurd this d2
          subst hk0
          refine Or.inr (Or.inr (Or.inr (Or.inr (Or.inr ⟨?_, d3⟩))))
          rw [s5]; rfl
        · have hk : k' = k := by
            refine RunS_uniq d2 ⟨s2.1, fun i hi => ?_, fun hlt2 => ?_⟩
            · rw [← ht _ (by have := s2.1; omega)]; exact s2.2.1 i hi
            · rw [← ht _ hlt2]; exact s2.2.2 hlt2
          subst hk
          have hle := s2.1
          have hk1 : 1 ≤ k' := by
            by_cases z : 1 ≤ k'
            · exact z
            · have hz : k' = 0 := by omega
              subst hz
              have := d2.2.2 (by omega)
              rw [Nat.add_zero] at this
              exact absurd d1 this
          have hnld := nLD t qr k'
          have hsam : ∀ i, i < k' → t (qr + i) = t' (qr + i) := fun i hi => ht _ (by omega)
          have h0 : t (qr + 0) = t' qr := htq
          by_cases hL : nDf t qr k' = 0
          · have hall := (nD0 t qr k').mp hL
            have hsm : sam t' qr k' := fun i hi => by
              rw [← hsam i hi]
              exact ⟨fun _ => by rw [← h0]; exact hall 0 (by omega), fun _ => hall i hi⟩
            have hLq : Le (t' qr) := by rw [← h0]; exact hall 0 (by omega)
            by_cases h7 : k' ≤ 7
            · obtain ⟨v, v1, v2, v3⟩ := word_v (t := t) (t' := t') (q := qr) k' h7 (fun i hi => ⟨hall i hi, hsam i hi⟩)
              have hpw : 27 ^ k' ≤ 27 ^ 7 := Nat.pow_le_pow_right (by decide) h7
              have hpw2 : 27 ^ 7 = 10460353203 := by decide
              refine Or.inl ⟨v, qr + k', ?_, ?_, by rw [s4, v1], by rw [d5, v2], by omega, s3, d3, by omega, by omega⟩
              · rw [s5]; unfold kiC; rw [if_pos (by omega)]
              · rw [d4]; unfold kiM; rw [idt hsm, idt hLq, if_pos h7]
            · refine Or.inr (Or.inr (Or.inr (Or.inr (Or.inr ⟨?_, ?_⟩))))
              · rw [s5]; unfold kiC; rw [if_neg (by omega), if_neg (by omega)]
              · rw [d4]; unfold kiM; rw [idt hsm, idt hLq, if_neg h7]
          · by_cases hD : nLf t qr k' = 0
            · have hall := (nL0 t qr k').mp hD
              have hnq : ¬ Le (t' qr) := by rw [← h0]; exact hall 0 (by omega)
              have hsm : sam t' qr k' := fun i hi => by
                rw [← hsam i hi]
                exact ⟨fun z => absurd z (hall i hi), fun z => absurd z hnq⟩
              by_cases h2 : k' ≤ 2
              · obtain ⟨v, v1, v2, v3⟩ := num_v (t := t) (t' := t') (q := qr) k' h2 (fun i hi => ⟨hall i hi, (s2.2.1 i hi).resolve_left (hall i hi), hsam i hi⟩)
                have hpw : 10 ^ k' ≤ 10 ^ 2 := Nat.pow_le_pow_right (by decide) h2
                refine Or.inr (Or.inl ⟨v, qr + k', ?_, ?_, by rw [s4, v1], by rw [d6, v2], by omega, s3, d3, by omega, by omega⟩)
                · rw [s5]; unfold kiC; rw [if_neg (by omega), if_pos (by omega)]
                · rw [d4]; unfold kiM; rw [idt hsm, idf hnq, if_pos h2]
              · refine Or.inr (Or.inr (Or.inr (Or.inr (Or.inr ⟨?_, ?_⟩))))
                · rw [s5]; unfold kiC; rw [if_neg (by omega), if_neg (by omega)]
                · rw [d4]; unfold kiM; rw [idt hsm, idf hnq, if_neg h2]
            · have hns : ¬ sam t' qr k' := by
                intro z
                by_cases hq : Le (t' qr)
                · exact hL ((nD0 t qr k').mpr (fun i hi => by rw [hsam i hi]; exact (z i hi).mpr hq))
                · exact hD ((nL0 t qr k').mpr (fun i hi y => hq ((z i hi).mp (by rw [← hsam i hi]; exact y))))
              refine Or.inr (Or.inr (Or.inr (Or.inr (Or.inr ⟨?_, ?_⟩))))
              · rw [s5]; unfold kiC; rw [if_neg (by omega), if_neg (by omega)]
              · rw [d4]; unfold kiM; rw [idf hns]
