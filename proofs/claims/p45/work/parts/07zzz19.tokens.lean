-- needs: 07zzz18.strength
/-! net: the tokens -/
def Le (x : Int) : Prop := 97 ≤ x ∧ x ≤ 122
def Di (x : Int) : Prop := 48 ≤ x ∧ x ≤ 57
noncomputable def nLf (t : Nat → Int) (q : Nat) : Nat → Nat
  | 0 => 0
  | k + 1 => nLf t q k + (if dc (Le (t (q + k))) then 1 else 0)
noncomputable def nDf (t : Nat → Int) (q : Nat) : Nat → Nat
  | 0 => 0
  | k + 1 => nDf t q k + (if dc (Le (t (q + k))) then 0 else 1)
noncomputable def cvf (t : Nat → Int) (q : Nat) : Nat → Int
  | 0 => 0
  | k + 1 => if dc (Le (t (q + k))) then cvf t q k * 27 + ((t (q + k) - 97) + 1) else (cvf t q k * 10 + t (q + k)) - 48
def kiC (a b : Nat) : Int := if b = 0 ∧ 1 ≤ a ∧ a ≤ 7 then 1 else if a = 0 ∧ 1 ≤ b ∧ b ≤ 2 then 2 else 4
def Byt (t : Nat → Int) (u : Nat) : Prop := ∀ i, i < u → 0 ≤ t i ∧ t i ≤ 255
theorem kf2_e {α0 α1 β γ : Type} (K : α0 → α1 → Option β) (body : (α0 → α1 → Option β) → γ) : kf2 K body = body K := rfl
theorem kf3_e {α0 α1 α2 β γ : Type} (K : α0 → α1 → α2 → Option β) (body : (α0 → α1 → α2 → Option β) → γ) : kf3 K body = body K := rfl
theorem Rd_isLetter {x : Int} (h : -2147483648 ≤ x ∧ x < 2147483648) : fRd_isLetter x = some (if dc (Le x) then 1 else 0) := by
  unfold fRd_isLetter
  rw [kf1_e, kf0_e, nmi h]
  by_cases a : x < 97
  · rw [if_pos a, idf (fun z : Le x => by have := z.1; omega)]; exact zo0
  · rw [if_neg a]
    by_cases b : 122 < x
    · rw [if_pos b, idf (fun z : Le x => by have := z.2; omega)]; exact zo0
    · rw [if_neg b, idt (show Le x from ⟨by omega, by omega⟩)]; exact zo1
theorem Rd_isDigit {x : Int} (h : -2147483648 ≤ x ∧ x < 2147483648) : fRd_isDigit x = some (if dc (Di x) then 1 else 0) := by
  unfold fRd_isDigit
  rw [kf1_e, kf0_e, nmi h]
  by_cases a : x < 48
  · rw [if_pos a, idf (fun z : Di x => by have := z.1; omega)]; exact zo0
  · rw [if_neg a]
    by_cases b : 57 < x
    · rw [if_pos b, idf (fun z : Di x => by have := z.2; omega)]; exact zo0
    · rw [if_neg b, idt (show Di x from ⟨by omega, by omega⟩)]; exact zo1
theorem T_at {T : ZB} {u i : Nat} (hT : T.1 1 = (u : Int)) (hu : u ≤ 640) (hi : i < u) : fT_byteAt T (i : Int) = some (T.2 0 i) := by
  unfold fT_byteAt
  rw [kf1_e, kf0_e, hT, nmn (by omega), nmn (by omega), if_neg (by omega), if_pos (by omega), rdn (by omega)]
theorem nLD (t : Nat → Int) (q : Nat) : ∀ k, nLf t q k + nDf t q k = k := by
  intro k
  induction k with
  | zero => rfl
  | succ k ih =>
    show nLf t q k + (if dc (Le (t (q + k))) then 1 else 0) + (nDf t q k + (if dc (Le (t (q + k))) then 0 else 1)) = k + 1
    by_cases h : Le (t (q + k))
    · rw [idt h, idt h]; omega
    · rw [idf h, idf h]; omega
theorem Rd_run {T Rd : ZB} {u q : Nat} (hT : T.1 1 = (u : Int)) (hu : u ≤ 640) (hB : Byt (T.2 0) u) (h7 : Rd.1 7 = (q : Int)) (hq : q ≤ u) : ∃ (k : Nat) (Rd' : ZB), fRd_readRun T Rd = some Rd' ∧ q + k ≤ u ∧ (∀ i, i < k → Le (T.2 0 (q + i)) ∨ Di (T.2 0 (q + i))) ∧ (q + k < u → ¬ (Le (T.2 0 (q + k)) ∨ Di (T.2 0 (q + k)))) ∧ Rd'.1 7 = ((q + k : Nat) : Int) ∧ Rd'.1 10 = cvf (T.2 0) q k ∧ Rd'.1 8 = kiC (nLf (T.2 0) q k) (nDf (T.2 0) q k) ∧ (∀ i, i ≠ 7 → i ≠ 8 → i ≠ 10 → Rd'.1 i = Rd.1 i) ∧ Rd'.2 = Rd.2 := by
  have main : wp (fRd_readRun T Rd) (fun Rd' => ∃ k : Nat, q + k ≤ u ∧ (∀ i, i < k → Le (T.2 0 (q + i)) ∨ Di (T.2 0 (q + i))) ∧ (q + k < u → ¬ (Le (T.2 0 (q + k)) ∨ Di (T.2 0 (q + k)))) ∧ Rd'.1 7 = ((q + k : Nat) : Int) ∧ Rd'.1 10 = cvf (T.2 0) q k ∧ Rd'.1 8 = kiC (nLf (T.2 0) q k) (nDf (T.2 0) q k) ∧ (∀ i, i ≠ 7 → i ≠ 8 → i ≠ 10 → Rd'.1 i = Rd.1 i) ∧ Rd'.2 = Rd.2) := by
    unfold fRd_readRun
    rw [lt_e]
    refine lop3_w (fun v1 v2 (R : ZB) => ∃ k : Nat, q + k ≤ u ∧ (∀ i, i < k → Le (T.2 0 (q + i)) ∨ Di (T.2 0 (q + i))) ∧ v1 = ((nLf (T.2 0) q k : Nat) : Int) ∧ v2 = ((nDf (T.2 0) q k : Nat) : Int) ∧ R.1 7 = ((q + k : Nat) : Int) ∧ R.1 10 = cvf (T.2 0) q k ∧ (∀ i, i ≠ 7 → i ≠ 8 → i ≠ 10 → R.1 i = Rd.1 i) ∧ R.2 = Rd.2) (fun _ _ (R : ZB) => u - (R.1 7).toNat) ?_ FU _ _ _ ⟨0, by omega, fun i h => absurd h (Nat.not_lt_zero i), rfl, rfl, h7, up_e Rd.1 10 0, fun i _ _ h => up_n Rd.1 0 h, rfl⟩ (by show u - _ < 100000; omega)
    intro rec v1 v2 R hI hrec
    obtain ⟨k, hk, hal, rfl, rfl, r7, r10, rr, r2⟩ := hI
    have hnld := nLD (T.2 0) q k
    have fin : (q + k < u → ¬ (Le (T.2 0 (q + k)) ∨ Di (T.2 0 (q + k)))) → ∃ r, (if nm ((nDf (T.2 0) q k : Nat) : Int) = 0 then (
      if nm ((nLf (T.2 0) q k : Nat) : Int) < 1 then (if nm ((nLf (T.2 0) q k : Nat) : Int) = 0 then (
      if nm ((nDf (T.2 0) q k : Nat) : Int) < 1 then some (up R.1 8 4, R.2) else if 2 < nm ((nDf (T.2 0) q k : Nat) : Int) then some (up R.1 8 4, R.2) else some (up (up R.1 8 4) 8 2, R.2)) else some (up R.1 8 4, R.2)) else if 7 < nm ((nLf (T.2 0) q k : Nat) : Int) then (if nm ((nLf (T.2 0) q k : Nat) : Int) = 0 then (
      if nm ((nDf (T.2 0) q k : Nat) : Int) < 1 then some (up R.1 8 4, R.2) else if 2 < nm ((nDf (T.2 0) q k : Nat) : Int) then some (up R.1 8 4, R.2) else some (up (up R.1 8 4) 8 2, R.2)) else some (up R.1 8 4, R.2)) else some (up (up R.1 8 4) 8 1, R.2)) else (if nm ((nLf (T.2 0) q k : Nat) : Int) = 0 then (
      if nm ((nDf (T.2 0) q k : Nat) : Int) < 1 then some (up R.1 8 4, R.2) else if 2 < nm ((nDf (T.2 0) q k : Nat) : Int) then some (up R.1 8 4, R.2) else some (up (up R.1 8 4) 8 2, R.2)) else some (up R.1 8 4, R.2))) = some r ∧ ∃ k : Nat, q + k ≤ u ∧ (∀ i, i < k → Le (T.2 0 (q + i)) ∨ Di (T.2 0 (q + i))) ∧ (q + k < u → ¬ (Le (T.2 0 (q + k)) ∨ Di (T.2 0 (q + k)))) ∧ r.1 7 = ((q + k : Nat) : Int) ∧ r.1 10 = cvf (T.2 0) q k ∧ r.1 8 = kiC (nLf (T.2 0) q k) (nDf (T.2 0) q k) ∧ (∀ i, i ≠ 7 → i ≠ 8 → i ≠ 10 → r.1 i = Rd.1 i) ∧ r.2 = Rd.2 := by
      intro hend
      have ok : ∀ (x : Int), x = kiC (nLf (T.2 0) q k) (nDf (T.2 0) q k) → ∃ k : Nat, q + k ≤ u ∧ (∀ i, i < k → Le (T.2 0 (q + i)) ∨ Di (T.2 0 (q + i))) ∧ (q + k < u → ¬ (Le (T.2 0 (q + k)) ∨ Di (T.2 0 (q + k)))) ∧ ((up R.1 8 x, R.2) : ZB).1 7 = ((q + k : Nat) : Int) ∧ ((up R.1 8 x, R.2) : ZB).1 10 = cvf (T.2 0) q k ∧ ((up R.1 8 x, R.2) : ZB).1 8 = kiC (nLf (T.2 0) q k) (nDf (T.2 0) q k) ∧ (∀ i, i ≠ 7 → i ≠ 8 → i ≠ 10 → ((up R.1 8 x, R.2) : ZB).1 i = Rd.1 i) ∧ ((up R.1 8 x, R.2) : ZB).2 = Rd.2 := by
        intro x hx
        refine ⟨k, hk, hal, hend, r7, r10, by show up R.1 8 x 8 = _; rw [up_e, hx], fun i h1 h2 h3 => ?_, r2⟩
        show up R.1 8 x i = _
        rw [up_n _ _ h2]; exact rr i h1 h2 h3
      rw [nmn (show nDf (T.2 0) q k < 2147483648 by omega), nmn (show nLf (T.2 0) q k < 2147483648 by omega), up_up, up_up]
      unfold kiC at ok
      unfold kiC
      by_cases a : nDf (T.2 0) q k = 0
      · rw [if_pos (by omega)]
        by_cases b : nLf (T.2 0) q k < 1
        · rw [if_pos (by omega), if_pos (by omega), if_pos (by omega)]
          exact ⟨_, rfl, ok 4 (by rw [if_neg (by omega), if_neg (by omega)])⟩
        · rw [if_neg (by omega)]
          by_cases c : 7 < nLf (T.2 0) q k
          · rw [if_pos (by omega), if_neg (by omega)]
            exact ⟨_, rfl, ok 4 (by rw [if_neg (by omega), if_neg (by omega)])⟩
          · rw [if_neg (by omega)]
            exact ⟨_, rfl, ok 1 (by rw [if_pos (by omega)])⟩
      · rw [if_neg (by omega)]
        by_cases b : nLf (T.2 0) q k = 0
        · rw [if_pos (by omega), if_neg (by omega)]
          by_cases c : 2 < nDf (T.2 0) q k
          · rw [if_pos (by omega)]
            exact ⟨_, rfl, ok 4 (by rw [if_neg (by omega), if_neg (by omega)])⟩
          · rw [if_neg (by omega)]
            exact ⟨_, rfl, ok 2 (by rw [if_neg (by omega), if_pos (by omega)])⟩
        · rw [if_neg (by omega)]
          exact ⟨_, rfl, ok 4 (by rw [if_neg (by omega), if_neg (by omega)])⟩
    unfold fT_size
    rw [hT, bds, kf0_e, r7, nmn (by omega), nmn (by omega)]
    by_cases hku : q + k < u
    · have hb := hB (q + k) hku
      have hstep : ∀ (x : Int) (a b : Int), (Le (T.2 0 (q + k)) ∨ Di (T.2 0 (q + k))) → x = cvf (T.2 0) q (k+1) → a = ((nLf (T.2 0) q (k+1) : Nat) : Int) → b = ((nDf (T.2 0) q (k+1) : Nat) : Int) → ∃ r, rec a b (up (up R.1 10 x) 7 (((q + k : Nat) : Int) + 1), R.2) = some r ∧ ∃ k : Nat, q + k ≤ u ∧ (∀ i, i < k → Le (T.2 0 (q + i)) ∨ Di (T.2 0 (q + i))) ∧ (q + k < u → ¬ (Le (T.2 0 (q + k)) ∨ Di (T.2 0 (q + k)))) ∧ r.1 7 = ((q + k : Nat) : Int) ∧ r.1 10 = cvf (T.2 0) q k ∧ r.1 8 = kiC (nLf (T.2 0) q k) (nDf (T.2 0) q k) ∧ (∀ i, i ≠ 7 → i ≠ 8 → i ≠ 10 → r.1 i = Rd.1 i) ∧ r.2 = Rd.2 := by
        intro x a b hal2 hx ha hb2
        refine hrec _ _ _ ⟨k+1, by omega, fun i hi => ?_, ha, hb2, ?_, ?_, fun i h1 h2 h3 => ?_, r2⟩ ?_
        · by_cases e : i = k
          · subst e; exact hal2
          · exact hal i (by omega)
        · have e : up (up R.1 10 x) 7 (((q + k : Nat) : Int) + 1) 7 = ((q + (k + 1) : Nat) : Int) := by rw [up_e]; omega
          exact e
        · exact hx
        · show up (up R.1 10 x) 7 _ i = _
          rw [up_n _ _ h1, up_n _ _ h3]; exact rr i h1 h2 h3
        · have e : up (up R.1 10 x) 7 (((q + k : Nat) : Int) + 1) 7 = ((q + k : Nat) : Int) + 1 := up_e _ _ _
          show u - (up (up R.1 10 x) 7 (((q + k : Nat) : Int) + 1) 7).toNat < u - (R.1 7).toNat
          rw [e, r7]; omega
      rw [if_pos (by omega), T_at hT hu hku, bds, Rd_isLetter (by omega), bds, kf3_e]
      by_cases hl : Le (T.2 0 (q + k))
      · rw [i10t hl]
        unfold fRd_letterCode
        rw [bds]
        have := hstep (R.1 10 * 27 + nm ((T.2 0 (q + k) - 97) + 1)) (((nLf (T.2 0) q k : Nat) : Int) + 1) ((nDf (T.2 0) q k : Nat) : Int) (Or.inl hl) (by
          show _ = if dc (Le (T.2 0 (q + k))) then _ else _
          rw [idt hl, r10, nmi (by omega)]) (by
          show _ = ((nLf (T.2 0) q k + (if dc (Le (T.2 0 (q + k))) then 1 else 0) : Nat) : Int)
          rw [idt hl]; omega) (by
          show _ = ((nDf (T.2 0) q k + (if dc (Le (T.2 0 (q + k))) then 0 else 1) : Nat) : Int)
          rw [idt hl]; omega)
        rw [← r7] at this
        exact this
      · rw [i10f hl, Rd_isDigit (by omega), bds]
        by_cases hd : Di (T.2 0 (q + k))
        · rw [i10t hd]
          have := hstep (R.1 10 * 10 + nm (T.2 0 (q + k)) - 48) ((nLf (T.2 0) q k : Nat) : Int) (((nDf (T.2 0) q k : Nat) : Int) + 1) (Or.inr hd) (by
            show _ = if dc (Le (T.2 0 (q + k))) then _ else _
            rw [idf hl, r10, nmi (by omega)]) (by
            show _ = ((nLf (T.2 0) q k + (if dc (Le (T.2 0 (q + k))) then 1 else 0) : Nat) : Int)
            rw [idf hl]; omega) (by
            show _ = ((nDf (T.2 0) q k + (if dc (Le (T.2 0 (q + k))) then 0 else 1) : Nat) : Int)
            rw [idf hl]; omega)
          rw [← r7] at this
          exact this
        · rw [i10f hd]
          exact fin (fun _ z => z.elim hl hd)
    · rw [if_neg (by omega)]
      exact fin (fun z => absurd z hku)
  obtain ⟨r, h1, k, h2⟩ := main
  exact ⟨k, r, h1, h2⟩
