-- needs: 07zzz25.small
/-! net: what has been read so far; the row of a point -/
def NR (R F M : ZB) : Prop := ∃ n L k : Nat, n ≤ 10 ∧ L ≤ 24 ∧ 1 ≤ k ∧ k ≤ 5 ∧ F.1 4 = (n : Int) ∧ F.1 5 = (L : Int) ∧ F.1 6 = (k : Int) ∧ F.1 7 = 0 ∧ F.1 8 = 0 ∧ M.2 13 0 = (n : Int) ∧ M.2 13 1 = (L : Int) ∧
  ((R.1 6 = 0 ∧ k = 2 ∧ M.2 13 2 = 0) ∨ (R.1 6 = 1 ∧ M.2 13 2 = (k : Int))) ∧
  (∀ i, i < n → R.2 2 i = M.2 18 i ∧ ∃ v : Nat, R.2 2 i = (v : Int) ∧ v < 10460353203) ∧
  (∀ l, l < L → ∃ a b w : Nat, a < n ∧ b < n ∧ a ≠ b ∧ 1 ≤ w ∧ w ≤ 99 ∧ F.2 0 l = (a : Int) ∧ F.2 1 l = (b : Int) ∧ F.2 2 l = (w : Int) ∧ F.2 3 l = -1 ∧ M.2 13 (3 + l) = (a : Int) ∧ M.2 13 (27 + l) = (b : Int) ∧ M.2 13 (51 + l) = (w : Int) ∧ M.2 13 (75 + l) = -1) ∧
  ∀ j, 99 ≤ j → j < 147 → M.2 13 j = 0
theorem point_of {R F M : ZB} {n v : Nat} (hn : n ≤ 10) (hF : F.1 4 = (n : Int)) (hM : M.2 13 0 = (n : Int)) (hnm : ∀ i, i < n → R.2 2 i = M.2 18 i ∧ ∃ v : Nat, R.2 2 i = (v : Int) ∧ v < 10460353203) (hv : v < 10460353203) (h10 : M.1 10 = (v : Int)) : ∃ r : Int, fRd_pointOf R F (v : Int) = some r ∧ fM_named M = some r ∧ (r = -1 ∨ ∃ i : Nat, i < n ∧ r = (i : Int)) := by
  have zc : ∀ w : Nat, w < 10460353203 → (zlcmp (w : Int) (v : Int) = 0 ↔ w = v) := by
    intro w hw
    rw [zlc (by omega) (by omega)]
    by_cases y : v < w
    · rw [if_pos y]; exact ⟨fun z => absurd z (by decide), fun z => by omega⟩
    · rw [if_neg y]
      by_cases y2 : w = v
      · rw [if_pos y2]; exact ⟨fun _ => y2, fun _ => rfl⟩
      · rw [if_neg y2]; exact ⟨fun z => absurd z (by decide), fun z => absurd z y2⟩
  have cls : ∀ r : Int, ((∃ m : Nat, m < n ∧ R.2 2 m = (v : Int) ∧ (∀ j, j < m → R.2 2 j ≠ (v : Int)) ∧ r = (m : Int)) ∨ ((∀ j, j < n → R.2 2 j ≠ (v : Int)) ∧ r = -1)) → wp (fRd_pointOf R F (v : Int)) (fun x => x = r) ∧ wp (fM_named M) (fun x => x = r) := by
    intro r hr
    have step : ∀ k : Nat, k < n → (∀ j, j < k → R.2 2 j ≠ (v : Int)) → R.2 2 k = (v : Int) → r = (k : Int) := by
      intro k hk hno he
      rcases hr with ⟨m, m1, m2, m3, m4⟩ | ⟨m1, m2⟩
      · rcases Nat.lt_trichotomy m k with z | z | z
        · exact absurd m2 (hno m z)
        · rw [m4, z]
        · exact absurd he (m3 k z)
      · exact absurd he (m1 k hk)
    have fin : (∀ j, j < n → R.2 2 j ≠ (v : Int)) → r = -1 := by
      intro h
      rcases hr with ⟨m, m1, m2, _⟩ | ⟨_, m2⟩
      · exact absurd m2 (h m m1)
      · exact m2
    refine ⟨?_, ?_⟩
    · unfold fRd_pointOf
      refine lop1_w (fun x => ∃ k : Nat, x = (k : Int) ∧ k ≤ n ∧ ∀ j, j < k → R.2 2 j ≠ (v : Int)) (fun x => n - x.toNat) ?_ FU _ ⟨0, rfl, by omega, fun j h => absurd h (Nat.not_lt_zero j)⟩ (by show n - _ < 100000; omega)
      intro rec x hI hrec
      obtain ⟨k, rfl, hk, hno⟩ := hI
      rw [hF, nmn (by omega), nmn (by omega)]
      by_cases hkn : k < n
      · obtain ⟨g1, w, g2, g3⟩ := hnm k hkn
        rw [if_pos (by omega), rdn (by omega), g2]
        by_cases he : w = v
        · rw [if_pos ((zc w g3).mpr he)]
          exact ⟨_, rfl, (step k hkn hno (by rw [g2, he])).symm⟩
        · rw [if_neg (fun z => he ((zc w g3).mp z))]
          refine hrec _ ⟨k+1, by omega, by omega, fun j hj => ?_⟩ (by omega)
          by_cases e : j = k
          · subst e; rw [g2]; omega
          · exact hno j (by omega)
      · rw [if_neg (by omega)]
        exact ⟨_, rfl, (fin (fun j hj => hno j (by omega))).symm⟩
    · unfold fM_named
      refine lop1_w (fun x => ∃ k : Nat, x = (k : Int) ∧ k ≤ n ∧ ∀ j, j < k → R.2 2 j ≠ (v : Int)) (fun x => n - x.toNat) ?_ FU _ ⟨0, rfl, by omega, fun j h => absurd h (Nat.not_lt_zero j)⟩ (by show n - _ < 100000; omega)
      intro rec x hI hrec
      obtain ⟨k, rfl, hk, hno⟩ := hI
      rw [rdi (by omega), show Int.toNat 0 = 0 from rfl, hM, nmn (by omega), nmn (by omega)]
      by_cases hkn : k < n
      · obtain ⟨g1, w, g2, g3⟩ := hnm k hkn
        rw [if_pos (by omega), rdn (by omega), ← g1, g2, h10]
        by_cases he : w = v
        · rw [if_pos ((zc w g3).mpr he)]
          exact ⟨_, rfl, (step k hkn hno (by rw [g2, he])).symm⟩
        · rw [if_neg (fun z => he ((zc w g3).mp z))]
          refine hrec _ ⟨k+1, by omega, by omega, fun j hj => ?_⟩ (by omega)
          by_cases e : j = k
          · subst e; rw [g2]; omega
          · exact hno j (by omega)
      · rw [if_neg (by omega)]
        exact ⟨_, rfl, (fin (fun j hj => hno j (by omega))).symm⟩
  by_cases hex : ∃ m, m < n ∧ R.2 2 m = (v : Int)
  · obtain ⟨m0, h0⟩ := hex
    obtain ⟨m, _, ⟨m1, m2⟩, m3⟩ := least_of (fun m => m < n ∧ R.2 2 m = (v : Int)) h0
    obtain ⟨⟨r, a1, a2⟩, ⟨r', b1, b2⟩⟩ := cls (m : Int) (Or.inl ⟨m, m1, m2, fun j hj z => m3 j hj ⟨by omega, z⟩, rfl⟩)
    exact ⟨(m : Int), by rw [a1, a2], by rw [b1, b2], Or.inr ⟨m, m1, rfl⟩⟩
  · obtain ⟨⟨r, a1, a2⟩, ⟨r', b1, b2⟩⟩ := cls (-1) (Or.inr ⟨fun j hj z => hex ⟨j, hj, z⟩, rfl⟩)
    exact ⟨-1, by rw [a1, a2], by rw [b1, b2], Or.inl rfl⟩
/-- how a row ends: both go on, or both have failed -/
def RowG (T : ZB) (u p : Nat) (M0 : ZB) (R' F' M' : ZB) : Prop := ∃ p', p < p' ∧ Look T u p' R' M' ∧ NR R' F' M' ∧ CsR R' ∧ (∀ i, i ≠ 4 → i ≠ 5 → i ≠ 6 → i ≠ 7 → i ≠ 8 → i ≠ 9 → i ≠ 10 → i ≠ 11 → M'.1 i = M0.1 i) ∧ (∀ i, i ≠ 13 → i ≠ 18 → M'.2 i = M0.2 i) ∧ R'.1 11 = 0 ∧ M'.1 8 = 0
