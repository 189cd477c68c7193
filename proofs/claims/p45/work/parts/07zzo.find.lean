-- needs: 07zzn.free
/-! the class's find: the chain that it lays, the crowd that it sees -/
def gE (G : GV) (x c y : Nat) : Prop := c = y ∧ x < gL G ∧ ¬ gbr G x ∧ gNx G x y
def gT (G : GV) (x : Nat) : Prop := x < gL G ∧ ¬ gbr G x ∧ gTx G x
theorem gE_sound {G : GV} (hG : GOK G) {x y : Nat} (h : gNx G x y) : y < gL G ∧ ¬ gbr G y := by
  have h1 := gNx_lt h
  have h2 := gNx_home h
  refine ⟨h1, fun k => ?_⟩
  have := (hG.2.1 y h1).2.2.2.2.2.2.2 k
  omega
/-- the last step's forest, the others' -/
noncomputable def gInto (G : GV) (d : Nat) (r : Nat → Nat) (t : Nat) : Int := if t < d then gh G (r (t+1)) else gfr G (r d)
def FindOK (G : GV) (l : Nat) (Ch : ZB) (res : Int × ZB) : Prop :=
  res.2.1 10 = Ch.1 10 ∧ res.2.1 11 = Ch.1 11 ∧ res.2.2 8 = Ch.2 8 ∧ res.2.2 9 = Ch.2 9 ∧ res.2.1 6 = res.1 ∧
  ((∃ d r c, d < gL G ∧ RS (gE G) (gT G) d l r c ∧ res.1 = ((d + 1 : Nat) : Int) ∧ ∀ t, t ≤ d → res.2.2 4 t = (r t : Nat) ∧ res.2.2 5 t = gInto G d r t) ∨
   ((∀ k, ¬ DW (gE G) (gT G) k l) ∧ res.1 = 0 ∧ res.2.1 7 = ((bs (gL G) (RC (gE G) l) : Nat) : Int)))
section
variable {N M : ZB} {G : GV}
theorem kf0_e {β γ : Type} (K : Option β) (body : Option β → γ) : kf0 K body = body K := rfl
def wsA (f : Nat → Int) (g : Nat → Int) (d k : Nat) : Nat → Int := fun j => if d < j + k ∧ j ≤ d then g j else f j
theorem wsA_0 (f g : Nat → Int) (d : Nat) : wsA f g d 0 = f := by
  funext j; unfold wsA; rw [if_neg (by omega)]
theorem wsA_s (f g : Nat → Int) {d k : Nat} (h : k ≤ d) : up (wsA f g d k) (d - k) (g (d - k)) = wsA f g d (k+1) := by
  funext j; unfold up wsA
  by_cases e : j = d - k
  · rw [if_pos e, if_pos (by omega), e]
  · rw [if_neg e]
    by_cases q : d < j + k ∧ j ≤ d
    · rw [if_pos q, if_pos (by omega)]
    · rw [if_neg q, if_neg (by omega)]
theorem Ch_writeDown (hN : RN N G) (hG : GOK G) {l m i : Nat} {q pb : Nat → Nat} {Ch : ZB} (hB : BQ (gE G) (gT G) l m i q pb q) (hi : i < m) (hT : gT G (q i)) (hq : ∀ j, j < m → Ch.2 2 j = (q j : Nat) ∧ q j < gL G) (hp0 : Ch.2 3 0 = -1) (hp : ∀ j, 1 ≤ j → j < m → Ch.2 3 j = (pb j : Nat)) (h6 : Ch.1 6 = 0) : ∃ d r c, d < gL G ∧ RS (gE G) (gT G) d l r c ∧ fCh_writeDown N Ch (i : Int) (gfr G (q i)) = some (up Ch.1 6 ((d + 1 : Nat) : Int), ua (ua Ch.2 4 (wsA (Ch.2 4) (fun t => (r t : Nat)) d (d+1))) 5 (wsA (Ch.2 5) (gInto G d r) d (d+1))) := by
  have hb := hG.1
  obtain ⟨d, hd⟩ := BQ_some hB hi hT
  obtain ⟨r, c, hr⟩ := RS_ex d l hd
  obtain ⟨P, p0, pd, pt⟩ := BQ_way hB hi hT hr
  have hdL : d < gL G := DE_lt (n := gL G) (fun x h => h.1) (fun x c y h => h.2.1) hd
  have hmL : m ≤ gL G := inj_le (fun j hj => (hq j hj).2) hB.2.2.1
  refine ⟨d, r, c, hdL, hr, ?_⟩
  have hPd : ∀ t, t ≤ d → P t < m := fun t ht => (pt t ht).1
  have hqP : ∀ t, t ≤ d → Ch.2 2 (P t) = (r t : Nat) := fun t ht => by rw [(hq _ (hPd t ht)).1, (pt t ht).2.1]
  have hrL : ∀ t, t ≤ d → r t < gL G := fun t ht => by rw [← (pt t ht).2.1]; exact (hq _ (hPd t ht)).2
  have hpP : ∀ t, t < d → Ch.2 3 (P (t+1)) = (P t : Nat) := fun t ht => by
    obtain ⟨a1, a2, _⟩ := (pt t (by omega)).2.2 ht
    rw [hp _ a1 (hPd (t+1) (by omega)), a2]
  have hPe : ∀ k, k ≤ d → (if k < d then ((P (d - k - 1) : Nat) : Int) else -1) = Ch.2 3 (P (d - k)) := by
    intro k hk
    by_cases e : k < d
    · rw [if_pos e, show d - k = d - k - 1 + 1 by omega, hpP _ (by omega)]; rfl
    · rw [if_neg e, show d - k = 0 by omega, p0, hp0]
  unfold fCh_writeDown
  refine lop2_s (d + 1) (fun k => if k ≤ d then ((P (d - k) : Nat) : Int) else -1) (fun k => (up Ch.1 6 (k : Int), Ch.2)) ?_ ?_ (by omega) ?_ ?_
  · intro rec k hk hrc
    simp only [kf0, lt_e, up_e]
    have hPk := hPd (d - k) (by omega)
    rw [if_pos (by omega : k ≤ d), nmn (by omega), if_neg (by omega), nmn (by omega), if_pos (by omega), rdn (by omega)]
    have e1 : (if k + 1 ≤ d then ((P (d - (k+1)) : Nat) : Int) else -1) = Ch.2 3 (P (d - k)) := by
      rw [← hPe k (by omega)]
      by_cases e : k < d
      · rw [if_pos e, if_pos (show k + 1 ≤ d from e), show d - (k+1) = d - k - 1 by omega]
      · rw [if_neg e, if_neg (show ¬ k + 1 ≤ d from e)]
    simp only [e1] at hrc
    simp only [up_up]
    rw [show (k : Int) + 1 = ((k + 1 : Nat) : Int) by omega]
    exact hrc
  · intro rec
    rw [kf0_e, lt_e]
    rw [if_neg (by omega : ¬ d + 1 ≤ d), nmi (show -2147483648 ≤ (-1 : Int) ∧ (-1 : Int) < 2147483648 by decide), if_pos (by decide : (-1 : Int) < 0)]
    have e0 : ((up Ch.1 6 ((d + 1 : Nat) : Int), Ch.2) : ZB).1 6 - 1 = (d : Int) := by show ((d + 1 : Nat) : Int) - 1 = d; omega
    rw [e0]
    refine lop4_s (d + 1) (fun k => if k ≤ d then ((P (d - k) : Nat) : Int) else -1) (fun k => if k = 0 then gfr G (q i) else gh G (r (d + 1 - k))) (fun k => (d : Int) - (k : Int)) (fun k => (up Ch.1 6 ((d + 1 : Nat) : Int), ua (ua Ch.2 4 (wsA (Ch.2 4) (fun t => (r t : Nat)) d k)) 5 (wsA (Ch.2 5) (gInto G d r) d k))) ?_ ?_ (by omega) ?_ rfl ?_ ?_
    · intro rec2 k hk hrc
      simp only [kf0, lt_e]
      have hPk := hPd (d - k) (by omega)
      have hrk := hrL (d - k) (by omega)
      rw [if_pos (by omega : k ≤ d), nmi (show -2147483648 ≤ (d : Int) - (k : Int) ∧ (d : Int) - (k : Int) < 2147483648 by omega), if_neg (by omega : ¬ (d : Int) - (k : Int) < 0), nmn (by omega), if_neg (by omega : ¬ ((P (d - k) : Nat) : Int) < 0)]
      have e2 : (d : Int) - (k : Int) = ((d - k : Nat) : Int) := by omega
      rw [e2, rdn (by omega), ixn (by omega), ixn (by omega), rdn (by omega)]
      simp only [Int.toNat_natCast]
      have f2 : ∀ A B : Nat → Int, ua (ua Ch.2 4 A) 5 B 2 = Ch.2 2 := fun _ _ => rfl
      have f3 : ∀ A B : Nat → Int, ua (ua Ch.2 4 A) 5 B 3 = Ch.2 3 := fun _ _ => rfl
      have f4 : ∀ A B : Nat → Int, ua (ua Ch.2 4 A) 5 B 4 = A := fun _ _ => rfl
      have f5 : ∀ A B C : Nat → Int, ua (ua (ua Ch.2 4 A) 5 B) 4 C 5 = B := fun _ _ _ => rfl
      have f6 : ∀ A B C D : Nat → Int, ua (ua (ua (ua Ch.2 4 A) 5 B) 4 C) 5 D = ua (ua Ch.2 4 C) 5 D := by
        intro A B C D; funext j; unfold ua
        by_cases h5 : j = 5
        · rw [if_pos h5, if_pos h5]
        · by_cases h4 : j = 4
          · simp only [if_neg h5, if_pos h4]
          · simp only [if_neg h5, if_neg h4]
      simp only [f2, f4, f5, f6]
      rw [hqP _ (by omega), rdn (by omega), (hN.2.2.2.2.2 _ hrk).2.2.2, rdn (by omega)]
      simp only [f3]
      rw [wsA_s (Ch.2 4) (fun t => ((r t : Nat) : Int)) (by omega)]
      have e3 : (if k = 0 then gfr G (q i) else gh G (r (d + 1 - k))) = gInto G d r (d - k) := by
        unfold gInto
        by_cases e : k = 0
        · subst e; rw [if_pos rfl, if_neg (by omega), ← (pt d (Nat.le_refl d)).2.1, pd]
        · rw [if_neg e, if_pos (by omega), show d + 1 - k = d - k + 1 by omega]
      rw [e3, wsA_s (Ch.2 5) (gInto G d r) (by omega)]
      have e1 : (if k + 1 ≤ d then ((P (d - (k+1)) : Nat) : Int) else -1) = Ch.2 3 (P (d - k)) := by
        rw [← hPe k (by omega)]
        by_cases e : k < d
        · rw [if_pos e, if_pos (show k + 1 ≤ d from e), show d - (k+1) = d - k - 1 by omega]
        · rw [if_neg e, if_neg (show ¬ k + 1 ≤ d from e)]
      simp only [e1, if_neg (show ¬ k + 1 = 0 by omega)] at hrc
      rw [show d + 1 - (k + 1) = d - k by omega] at hrc
      have e4 : ((d - k : Nat) : Int) + (-1) = (d : Int) - ((k + 1 : Nat) : Int) := by omega
      rw [e4]
      exact hrc
    · intro rec2
      rw [kf0_e, nmi (show -2147483648 ≤ (d : Int) - ((d + 1 : Nat) : Int) ∧ (d : Int) - ((d + 1 : Nat) : Int) < 2147483648 by omega), if_pos (by omega)]
    · rw [if_pos (Nat.zero_le d), Nat.sub_zero, pd]
    · show (d : Int) - ((0 : Nat) : Int) = d; omega
    · show (up Ch.1 6 ((d + 1 : Nat) : Int), ua (ua Ch.2 4 (wsA (Ch.2 4) (fun t => (r t : Nat)) d 0)) 5 (wsA (Ch.2 5) (gInto G d r) d 0)) = _
      rw [wsA_0, wsA_0, ua_self]
      have : ua Ch.2 5 (Ch.2 5) = Ch.2 := ua_self _ _
      rw [this]
  · rw [if_pos (Nat.zero_le d), Nat.sub_zero, pd]
  · show (up Ch.1 6 ((0 : Nat) : Int), Ch.2) = Ch
    rw [show ((0 : Nat) : Int) = Ch.1 6 from h6.symm, up_self]
end
