-- needs: 07zzz32.row
/-! net: the loop over rows -/
theorem lopJ42 {α0 α1 α2 α3 γ0 γ1 β δ : Type} {b1 : (α0 → α1 → α2 → α3 → Option β) → α0 → α1 → α2 → α3 → Option β} {b2 : (γ0 → γ1 → Option δ) → γ0 → γ1 → Option δ} (R : α0 → α1 → α2 → α3 → γ0 → γ1 → Prop) (m : α0 → α1 → α2 → α3 → γ0 → γ1 → Nat) (Q : β → δ → Prop)
    (hs : ∀ x0 x1 x2 x3 y0 y1, R x0 x1 x2 x3 y0 y1 → (∃ u0 u1 u2 u3 v0 v1, R u0 u1 u2 u3 v0 v1 ∧ m u0 u1 u2 u3 v0 v1 < m x0 x1 x2 x3 y0 y1 ∧ (∀ rec, b1 rec x0 x1 x2 x3 = rec u0 u1 u2 u3) ∧ (∀ rec, b2 rec y0 y1 = rec v0 v1)) ∨ (∃ r t, (∀ rec, b1 rec x0 x1 x2 x3 = some r) ∧ (∀ rec, b2 rec y0 y1 = some t) ∧ Q r t)) :
    ∀ n x0 x1 x2 x3 y0 y1, R x0 x1 x2 x3 y0 y1 → m x0 x1 x2 x3 y0 y1 < n → ∃ r t, lop4 n b1 x0 x1 x2 x3 = some r ∧ lop2 n b2 y0 y1 = some t ∧ Q r t := by
  intro n
  induction n with
  | zero => intro x0 x1 x2 x3 y0 y1 _ h; omega
  | succ n ih =>
    intro x0 x1 x2 x3 y0 y1 hR hm
    rcases hs _ _ _ _ _ _ hR with ⟨u0, u1, u2, u3, v0, v1, h1, h2, h3, h4⟩ | ⟨r, t, h1, h2, h3⟩
    · obtain ⟨r, t, e1, e2, e3⟩ := ih _ _ _ _ _ _ h1 (by omega)
      exact ⟨r, t, (h3 _).trans e1, (h4 _).trans e2, e3⟩
    · exact ⟨r, t, h1 _, h2 _, h3⟩
/-- what both have at the loop's head -/
def LpH (T : ZB) (u : Nat) (M0 : ZB) (r p : Nat) (v1 v2 : Int) (R F : ZB) (w1 : Int) (M : ZB) : Prop := v1 = (r : Int) ∧ v2 = (r : Int) ∧ w1 = (r : Int) ∧ 2 * r ≤ p ∧ p ≤ u ∧ Tp T u M ∧ Look T u p R M ∧ NR R F M ∧ CsR R ∧ FM3 M0 M ∧ R.1 11 = 0 ∧ M.1 8 = 0
theorem FM3_tp {T M M' : ZB} {u : Nat} (h : Tp T u M) (hF : FM3 M M') : Tp T u M' := by
  obtain ⟨h1, h2, h3, h4, h5⟩ := h
  refine ⟨h1, h2, ?_, h4, ?_⟩
  · rw [hF.1 3 (by decide) (by decide) (by decide) (by decide) (by decide) (by decide) (by decide) (by decide)]; exact h3
  · rw [hF.2 1 (by decide) (by decide)]; exact h5
theorem NR_fr {R R' F M : ZB} (h : NR R F M) (hF : FrR R R') : NR R' F M := by
  unfold NR at h ⊢
  rw [hF.1 6 (by decide) (by decide) (by decide) (by decide), hF.2]; exact h
/-- one turn of the loop -/
theorem turn {T M0 R F M : ZB} {u r p : Nat} {v1 v2 w1 : Int} (h : LpH T u M0 r p v1 v2 R F w1 M) :
    ∃ R1, fRd_nextToken T R = some R1 ∧ TR u p R1 M ∧ NR R1 F M ∧ CsR R1 ∧ R1.1 11 = 0 ∧ (R1.1 8 ≠ 0 → RowO T u (p+1) M (fRd_readRow T R1 F) (RefRow M)) := by
  obtain ⟨_, _, _, _, _, hp, hl, hN, hC, _, h11, h8⟩ := h
  obtain ⟨R1, n1, n2, n3⟩ := hl.2.2 R hl.2.1
  have hN1 := NR_fr hN n3
  have hC1 := CsR_of hC (FrR_2 n3)
  have e11 : R1.1 11 = 0 := by rw [n3.1 11 (by decide) (by decide) (by decide) (by decide)]; exact h11
  exact ⟨R1, n1, n2, hN1, hC1, e11, fun hk => row_any hp n2 hC1 hk hN1 e11 h8⟩
