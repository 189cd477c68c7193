-- needs: 07zzl.simacts3
/-! searches by breadth: the first way found is the shortest, and the least of these -/
def DW (E : Nat → Nat → Nat → Prop) (T : Nat → Prop) : Nat → Nat → Prop
  | 0, x => T x
  | k + 1, x => ∃ c y, E x c y ∧ DW E T k y
def DE (E : Nat → Nat → Nat → Prop) (T : Nat → Prop) (k x : Nat) : Prop := DW E T k x ∧ ∀ j, j < k → ¬ DW E T j x
def RS (E : Nat → Nat → Nat → Prop) (T : Nat → Prop) (d l : Nat) (r c : Nat → Nat) : Prop := r 0 = l ∧ DE E T d l ∧ ∀ t, t < d → E (r t) (c t) (r (t+1)) ∧ DE E T (d - t - 1) (r (t+1)) ∧ ∀ c' y, c' < c t → E (r t) c' y → ¬ DE E T (d - t - 1) y
section
variable {E : Nat → Nat → Nat → Prop} {T : Nat → Prop}
theorem DE_ex {k x : Nat} (h : DW E T k x) : ∃ d, d ≤ k ∧ DE E T d x := by
  obtain ⟨m, h1, h2, h3⟩ := least_of (fun j => DW E T j x) h
  exact ⟨m, h1, h2, h3⟩
theorem DE_uniq {j k x : Nat} (h1 : DE E T j x) (h2 : DE E T k x) : j = k := by
  rcases Nat.lt_trichotomy j k with q | q | q
  · exact absurd h1.1 (h2.2 j q)
  · exact q
  · exact absurd h2.1 (h1.2 k q)
theorem DE_step {k x : Nat} (h : DE E T (k+1) x) : ∃ c y, E x c y ∧ DE E T k y := by
  obtain ⟨⟨c, y, h1, h2⟩, h3⟩ := h
  exact ⟨c, y, h1, h2, fun j hj k' => h3 (j+1) (by omega) ⟨c, y, h1, k'⟩⟩
theorem RS_ex (d : Nat) : ∀ l, DE E T d l → ∃ r c, RS E T d l r c := by
  induction d with
  | zero => intro l h; exact ⟨fun _ => l, fun _ => 0, rfl, h, fun t ht => absurd ht (Nat.not_lt_zero t)⟩
  | succ d ih =>
    intro l h
    obtain ⟨c0, y0, h1, h2⟩ := DE_step h
    obtain ⟨c, _, ⟨y, hy1, hy2⟩, hc3⟩ := least_of (fun c => ∃ y, E l c y ∧ DE E T d y) ⟨y0, h1, h2⟩
    obtain ⟨r', c', q1, q2, q3⟩ := ih y hy2
    refine ⟨fun t => match t with | 0 => l | t + 1 => r' t, fun t => match t with | 0 => c | t + 1 => c' t, rfl, h, ?_⟩
    intro t ht
    cases t with
    | zero =>
      refine ⟨?_, ?_, ?_⟩
      · show E l c (r' 0); rw [q1]; exact hy1
      · show DE E T d (r' 0); rw [q1]; exact hy2
      · intro c2 y2 hc2 he hd; exact hc3 c2 hc2 ⟨y2, he, hd⟩
    | succ t =>
      have := q3 t (by omega)
      rw [show d + 1 - (t + 1) - 1 = d - t - 1 by omega]
      exact this
theorem DE_cnt {n : Nat} (hT : ∀ x, T x → x < n) (hE : ∀ x c y, E x c y → x < n) (k : Nat) : ∀ x, DE E T k x → k + 1 ≤ cnt n (fun v => ∃ j, j ≤ k ∧ DE E T j v) := by
  induction k with
  | zero =>
    intro x h
    have := cnt_lt (n := n) (i := x) (p := fun _ => False) (q := fun v => ∃ j, j ≤ 0 ∧ DE E T j v) (fun _ _ k => k.elim) (hT x h.1) ⟨0, Nat.le_refl 0, h⟩ (fun k => k)
    omega
  | succ k ih =>
    intro x h
    obtain ⟨c, y, h1, h2⟩ := DE_step h
    have a := ih y h2
    have := cnt_lt (n := n) (i := x) (p := fun v => ∃ j, j ≤ k ∧ DE E T j v) (q := fun v => ∃ j, j ≤ k + 1 ∧ DE E T j v) (fun _ _ ⟨j, hj, hd⟩ => ⟨j, by omega, hd⟩) (hE _ _ _ h1) ⟨k+1, Nat.le_refl _, h⟩ (fun ⟨j, hj, hd⟩ => by have := DE_uniq h hd; omega)
    omega
theorem DE_lt {n : Nat} (hT : ∀ x, T x → x < n) (hE : ∀ x c y, E x c y → x < n) {k x : Nat} (h : DE E T k x) : k < n := by
  have := DE_cnt hT hE k x h
  have := cnt_le n (fun v => ∃ j, j ≤ k ∧ DE E T j v)
  omega
/-- the state of a search: m are queued, i are done -/
def BQ (E : Nat → Nat → Nat → Prop) (T : Nat → Prop) (l m i : Nat) (q pb lb : Nat → Nat) : Prop :=
  q 0 = l ∧ 1 ≤ m ∧ (∀ j j', j < m → j' < m → q j = q j' → j = j') ∧
  (∀ j, 1 ≤ j → j < m → pb j < j ∧ pb j ≤ i ∧ E (q (pb j)) (lb j) (q j)) ∧
  (∀ j j', 1 ≤ j → j < j' → j' < m → pb j ≤ pb j' ∧ (pb j = pb j' → lb j < lb j')) ∧
  (∀ j, j < i → j < m ∧ ¬ T (q j) ∧ ∀ c y, E (q j) c y → ∃ j', j' < m ∧ q j' = y ∧ (j' = 0 ∨ pb j' < j ∨ (pb j' = j ∧ lb j' ≤ c)))
theorem BQ_way {l m i : Nat} {q pb lb : Nat → Nat} (h : BQ E T l m i q pb lb) (hi : i < m) (hT : T (q i)) {d : Nat} {r c : Nat → Nat} (hr : RS E T d l r c) : ∃ P : Nat → Nat, P 0 = 0 ∧ P d = i ∧ ∀ t, t ≤ d → P t < m ∧ q (P t) = r t ∧ (t < d → 1 ≤ P (t+1) ∧ pb (P (t+1)) = P t ∧ lb (P (t+1)) = c t ∧ P t < P (t+1)) := by
  obtain ⟨h0, h1, h2, h3, h4, h5⟩ := h
  obtain ⟨r0, rd, rs⟩ := hr
  have hdt : ∀ t, t ≤ d → DE E T (d - t) (r t) := by
    intro t ht
    cases t with
    | zero => rw [r0]; exact rd
    | succ t => have := (rs t (by omega)).2.1; rwa [show d - (t+1) = d - t - 1 by omega]
  have key : ∀ t, t ≤ d → ∃ P : Nat → Nat, P 0 = 0 ∧ (∀ s, s ≤ t → P s < m ∧ q (P s) = r s ∧ (s < t → 1 ≤ P (s+1) ∧ pb (P (s+1)) = P s ∧ lb (P (s+1)) = c s ∧ P s < P (s+1))) ∧ ∀ j, j < P t → ∀ e, e ≤ d - t → ¬ DW E T e (q j) := by
    intro t
    induction t with
    | zero =>
      intro _
      refine ⟨fun _ => 0, rfl, fun s hs => ⟨h1, ?_, fun hlt => by omega⟩, fun j hj => absurd hj (Nat.not_lt_zero j)⟩
      rw [show s = 0 by omega, h0, r0]
    | succ t ih =>
      intro ht
      obtain ⟨P, p0, ps, pc⟩ := ih (by omega)
      obtain ⟨b1, b2, _⟩ := ps t (Nat.le_refl t)
      obtain ⟨e1, e2, e3⟩ := rs t (by omega)
      have hDt := hdt t (by omega)
      have hPi : P t < i := by
        rcases Nat.lt_trichotomy i (P t) with z | z | z
        · exact absurd hT (pc i z 0 (by omega))
        · exfalso
          rw [← z] at b2
          rw [b2] at hT
          exact hDt.2 0 (by omega) hT
        · exact z
      have hno : ∀ j, j < m → ∀ e, e ≤ d - t - 1 → DW E T e (q j) → 1 ≤ j := by
        intro j hj e he hw
        rcases Nat.eq_zero_or_pos j with z | z
        · subst z; rw [h0] at hw
          exact absurd hw (rd.2 e (by omega))
        · exact z
      obtain ⟨_, _, hall⟩ := h5 (P t) hPi
      obtain ⟨j', hj1, hj2, hj3⟩ := hall (c t) (r (t+1)) (by rw [b2]; exact e1)
      have hj'1 : 1 ≤ j' := hno j' hj1 (d - t - 1) (Nat.le_refl _) (by rw [hj2]; exact e2.1)
      obtain ⟨g1, g2, g3⟩ := h3 j' hj'1 hj1
      have hpb : pb j' = P t ∧ lb j' ≤ c t := by
        rcases hj3 with z | z | z
        · omega
        · exfalso
          refine pc (pb j') z (d - t) (Nat.le_refl _) ?_
          rw [show d - t = (d - t - 1) + 1 by omega]
          exact ⟨lb j', q j', g3, by rw [hj2]; exact e2.1⟩
        · exact z
      have hlb : lb j' = c t := by
        rcases Nat.lt_or_ge (lb j') (c t) with z | z
        · exfalso
          rw [hpb.1, b2, hj2] at g3
          exact e3 (lb j') (r (t+1)) z g3 e2
        · omega
      refine ⟨fun s => if s ≤ t then P s else j', by simp only []; rw [if_pos (Nat.zero_le t)]; exact p0, ?_, ?_⟩
      · intro s hs
        simp only []
        by_cases z : s ≤ t
        · rw [if_pos z]
          obtain ⟨k1, k2, k3⟩ := ps s z
          refine ⟨k1, k2, fun _ => ?_⟩
          by_cases w : s < t
          · rw [if_pos (show s + 1 ≤ t from w)]; exact k3 w
          · rw [if_neg (by omega)]
            have : s = t := by omega
            subst this
            exact ⟨hj'1, hpb.1, hlb, by omega⟩
        · rw [if_neg z]
          have : s = t + 1 := by omega
          subst this
          exact ⟨hj1, hj2, fun w => by omega⟩
      · intro j hj e he hw
        simp only [] at hj
        rw [if_neg (by omega)] at hj
        have hjm : j < m := by omega
        have hj1' := hno j hjm e (by omega) hw
        obtain ⟨f1, f2, f3⟩ := h3 j hj1' hjm
        obtain ⟨o1, o2⟩ := h4 j j' hj1' hj hj1
        have hup : DW E T (e+1) (q (pb j)) := ⟨lb j, q j, f3, hw⟩
        have hpj : pb j = P t := by
          rcases Nat.lt_or_ge (pb j) (P t) with z | z
          · exact absurd hup (pc (pb j) z (e+1) (by omega))
          · omega
        have hlt := o2 (by omega)
        rw [hpj, b2] at f3 hup
        have hee : e = d - t - 1 := by
          rcases Nat.lt_or_ge e (d - t - 1) with z | z
          · exact absurd hup (hDt.2 (e+1) (by omega))
          · omega
        subst hee
        have hDE : DE E T (d - t - 1) (q j) := ⟨hw, fun x hx hwx => hDt.2 (x+1) (by omega) ⟨lb j, q j, f3, hwx⟩⟩
        exact e3 (lb j) (q j) (by omega) f3 hDE
  obtain ⟨P, p0, ps, pc⟩ := key d (Nat.le_refl d)
  refine ⟨P, p0, ?_, ps⟩
  obtain ⟨b1, b2, _⟩ := ps d (Nat.le_refl d)
  have hD0 := hdt d (Nat.le_refl d)
  rw [Nat.sub_self, ← b2] at hD0
  rcases Nat.lt_trichotomy (P d) i with z | z | z
  · exact absurd hD0.1 (h5 (P d) z).2.1
  · exact z
  · exact absurd hT (pc i z 0 (by omega))
/-- a search that is through finds no way -/
theorem BQ_none {l m : Nat} {q pb lb : Nat → Nat} (h : BQ E T l m m q pb lb) : ∀ k, ∀ j, j < m → ¬ DW E T k (q j) := by
  obtain ⟨h0, h1, h2, h3, h4, h5⟩ := h
  intro k
  induction k with
  | zero => intro j hj hw; exact (h5 j hj).2.1 hw
  | succ k ih =>
    intro j hj hw
    obtain ⟨c, y, e1, e2⟩ := hw
    obtain ⟨j', a1, a2, _⟩ := (h5 j hj).2.2 c y e1
    exact ih j' a1 (by rw [a2]; exact e2)
theorem BQ_some {l m i : Nat} {q pb lb : Nat → Nat} (h : BQ E T l m i q pb lb) (hi : i < m) (hT : T (q i)) : ∃ d, DE E T d l := by
  obtain ⟨h0, h1, h2, h3, h4, h5⟩ := h
  have : ∀ j, j < m → (∃ k, DW E T k (q j)) → ∃ k, DW E T k l := by
    intro j
    induction j using Nat.strongRecOn with
    | ind j ih =>
      intro hj ⟨k, hk⟩
      rcases Nat.eq_zero_or_pos j with z | z
      · subst z; rw [h0] at hk; exact ⟨k, hk⟩
      · obtain ⟨f1, f2, f3⟩ := h3 j z hj
        exact ih (pb j) f1 (by omega) ⟨k+1, lb j, q j, f3, hk⟩
  obtain ⟨k, hk⟩ := this i hi ⟨0, hT⟩
  obtain ⟨d, _, hd⟩ := DE_ex hk
  exact ⟨d, hd⟩
/-- what can be come to -/
def RC (E : Nat → Nat → Nat → Prop) (l y : Nat) : Prop := ∀ C : Nat → Prop, C l → (∀ x c y, C x → E x c y → C y) → C y
theorem BQ_reach {l m : Nat} {q pb lb : Nat → Nat} (h : BQ E T l m m q pb lb) : ∀ y, RC E l y ↔ ∃ j, j < m ∧ q j = y := by
  obtain ⟨h0, h1, h2, h3, h4, h5⟩ := h
  intro y
  constructor
  · intro hr
    apply hr (fun y => ∃ j, j < m ∧ q j = y)
    · exact ⟨0, h1, h0⟩
    · rintro x c y ⟨j, hj, rfl⟩ he
      obtain ⟨j', a1, a2, _⟩ := (h5 j hj).2.2 c y he
      exact ⟨j', a1, a2⟩
  · rintro ⟨j, hj, rfl⟩
    intro C hl hc
    induction j using Nat.strongRecOn with
    | ind j ih =>
      rcases Nat.eq_zero_or_pos j with z | z
      · subst z; rw [h0]; exact hl
      · obtain ⟨f1, f2, f3⟩ := h3 j z hj
        exact hc _ _ _ (ih (pb j) f1 (by omega)) f3
/-- the search begins -/
theorem BQ_begin (l : Nat) {q pb lb : Nat → Nat} (hq : q 0 = l) : BQ E T l 1 0 q pb lb :=
  ⟨hq, Nat.le_refl 1, fun j j' h1 h2 _ => by omega, fun j h1 h2 => by omega, fun j j' h1 h2 h3 => by omega, fun j hj => absurd hj (Nat.not_lt_zero j)⟩
end
