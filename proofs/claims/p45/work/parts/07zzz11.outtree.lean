-- needs: 07zzz10.rooted
/-! out-trees: the argument -/
noncomputable def ec (G : GV) (X s : Nat) : Nat := cnt (gL G) (fun l => X.testBit l = true ∧ enT G l s)
noncomputable def lf (p : Nat → Prop) : Nat := @dite Nat (∃ k, p k ∧ ∀ j, j < k → ¬ p j) (Classical.propDecidable _) (fun h => h.choose) (fun _ => 0)
theorem lf_ok {p : Nat → Prop} {m : Nat} (h : p m) : p (lf p) ∧ ∀ j, j < lf p → ¬ p j := by
  obtain ⟨k, _, h2, h3⟩ := least_of p h
  have hx : ∃ k, p k ∧ ∀ j, j < k → ¬ p j := ⟨k, h2, h3⟩
  unfold lf
  rw [dif_pos hx]
  exact hx.choose_spec
theorem cnt_sub4 {n : Nat} {p q a b : Nat → Prop} (h1 : ∀ i, p i → a i ∨ b i) (h2 : ∀ i, q i → a i ∨ b i) (h3 : ∀ i, p i → q i → a i ∧ b i) : cnt n p + cnt n q ≤ cnt n a + cnt n b := by
  induction n with
  | zero => exact Nat.le_refl _
  | succ n ih =>
    by_cases cp : p n
    · rw [cnt_succ_t cp]
      by_cases cq : q n
      · have := h3 n cp cq
        rw [cnt_succ_t cq, cnt_succ_t this.1, cnt_succ_t this.2]; omega
      · rw [cnt_succ_f cq]
        rcases h1 n cp with z | z
        · rw [cnt_succ_t z]
          have : cnt n b ≤ cnt (n+1) b := Nat.le_add_right _ _
          omega
        · rw [cnt_succ_t z]
          have : cnt n a ≤ cnt (n+1) a := Nat.le_add_right _ _
          omega
    · rw [cnt_succ_f cp]
      by_cases cq : q n
      · rw [cnt_succ_t cq]
        rcases h2 n cq with z | z
        · rw [cnt_succ_t z]
          have : cnt n b ≤ cnt (n+1) b := Nat.le_add_right _ _
          omega
        · rw [cnt_succ_t z]
          have : cnt n a ≤ cnt (n+1) a := Nat.le_add_right _ _
          omega
      · rw [cnt_succ_f cq]
        have : cnt n b ≤ cnt (n+1) b := Nat.le_add_right _ _
        have : cnt n a ≤ cnt (n+1) a := Nat.le_add_right _ _
        omega
theorem cnt_diff {n : Nat} {p q : Nat → Prop} (h : cnt n q < cnt n p) : ∃ i, i < n ∧ p i ∧ ¬ q i := by
  by_cases k : ∃ i, i < n ∧ p i ∧ ¬ q i
  · exact k
  · exfalso
    have := cnt_mono (n := n) (p := p) (q := q) (fun i hi hp => by
      by_cases z : q i
      · exact z
      · exact absurd ⟨i, hi, hp, z⟩ k)
    omega
theorem ndf_b {x y i : Nat} : (ndf x y).testBit i = true ↔ x.testBit i = true ∧ ¬ y.testBit i = true := by
  rw [ndf_bit, Bool.and_eq_true, Bool.not_eq_true', ← Bool.not_eq_true]
theorem or_b {x y i : Nat} : (x ||| y).testBit i = true ↔ x.testBit i = true ∨ y.testBit i = true := by
  rw [Nat.testBit_or, Bool.or_eq_true]
theorem and_b {x y i : Nat} : (x &&& y).testBit i = true ↔ x.testBit i = true ∧ y.testBit i = true := by
  rw [Nat.testBit_and, Bool.and_eq_true]
theorem two_b {q i : Nat} : (2 ^ q).testBit i = true ↔ q = i := by
  rw [Nat.testBit_two_pow, decide_eq_true_iff]
theorem bit_ne {s i : Nat} (h : s.testBit i = true) : s ≠ 0 := by
  intro e; subst e; rw [Nat.zero_testBit] at h; exact absurd h (by decide)
def Fit (G : GV) (r c L C T l : Nat) : Prop := l < gL G ∧ L.testBit l = true ∧ C.testBit (gtl G l) = true ∧ ¬ C.testBit (ghd G l) = true ∧ ∀ s, s < 2 ^ gn G → ¬ s.testBit r = true → enT G l s → c < ec G (ndf L T) s
def TI (G : GV) (r c L C T : Nat) : Prop := C < 2 ^ gn G ∧ C.testBit r = true ∧ T < 2 ^ gL G ∧ (∀ l, T.testBit l = true → L.testBit l = true ∧ C.testBit (ghd G l) = true) ∧ ∀ s, s < 2 ^ gn G → s ≠ 0 → ¬ s.testBit r = true → c ≤ ec G (ndf L T) s
def LI (G : GV) (r c L : Nat) : Prop := L < 2 ^ gL G ∧ ∀ s, s < 2 ^ gn G → s ≠ 0 → ¬ s.testBit r = true → c + 1 ≤ ec G L s
section
variable {G : GV} {r c L C T : Nat}
theorem fit_ex (hG : GOK G) (hLI : LI G r c L) (hTI : TI G r c L C T) {q : Nat} (hq : q < gn G) (hqC : ¬ C.testBit q = true) : ∃ l, Fit G r c L C T l := by
  obtain ⟨hL24, hLI⟩ := hLI
  obtain ⟨hC, hCr, hT24, hT, hd⟩ := hTI
  have disj : ∀ s, s < 2 ^ gn G → s ≠ 0 → ¬ s.testBit r = true → (∀ i, s.testBit i = true → ¬ C.testBit i = true) → c + 1 ≤ ec G (ndf L T) s := by
    intro s h1 h2 h3 h4
    have e : ec G (ndf L T) s = ec G L s := by
      apply cnt_ext
      intro l hl
      rw [ndf_b]
      constructor
      · rintro ⟨⟨z1, z2⟩, z3⟩; exact ⟨z1, z3⟩
      · rintro ⟨z1, z2⟩
        exact ⟨⟨z1, fun z => h4 _ z2.1 (hT l z).2⟩, z2⟩
    rw [e]; exact hLI s h1 h2 h3
  by_cases crit : ∃ W, W < 2 ^ gn G ∧ ¬ W.testBit r = true ∧ (∃ i, W.testBit i = true ∧ ¬ C.testBit i = true) ∧ ec G (ndf L T) W ≤ c
  · obtain ⟨W0, hW0⟩ := crit
    obtain ⟨W, _, ⟨w1, w2, ⟨i, w3, w4⟩, w5⟩, wmin⟩ := least_of (fun W => W < 2 ^ gn G ∧ ¬ W.testBit r = true ∧ (∃ i, W.testBit i = true ∧ ¬ C.testBit i = true) ∧ ec G (ndf L T) W ≤ c) hW0
    have hDlt : ndf W C < 2 ^ gn G := Nat.lt_of_le_of_lt (ndf_le _ _) w1
    have hDi : (ndf W C).testBit i = true := ndf_b.mpr ⟨w3, w4⟩
    have hD := disj (ndf W C) hDlt (bit_ne hDi) (fun z => w2 (ndf_b.mp z).1) (fun i z => (ndf_b.mp z).2)
    obtain ⟨l, hl, ⟨l1, l2⟩, l3⟩ := cnt_diff (n := gL G) (p := fun l => (ndf L T).testBit l = true ∧ enT G l (ndf W C)) (q := fun l => (ndf L T).testBit l = true ∧ enT G l W) (Nat.lt_of_le_of_lt w5 hD)
    obtain ⟨l4, l5⟩ := l2
    rw [ndf_b] at l4 l5
    have htW : W.testBit (gtl G l) = true := by
      by_cases z : W.testBit (gtl G l) = true
      · exact z
      · exact absurd ⟨l1, l4.1, z⟩ l3
    have htC : C.testBit (gtl G l) = true := by
      by_cases z : C.testBit (gtl G l) = true
      · exact z
      · exact absurd ⟨htW, z⟩ l5
    refine ⟨l, hl, (ndf_b.mp l1).1, htC, l4.2, fun s s1 s2 s3 => ?_⟩
    by_cases hs : c < ec G (ndf L T) s
    · exact hs
    · exfalso
      have hIb : (s &&& W).testBit (ghd G l) = true := and_b.mpr ⟨s3.1, l4.1⟩
      have hIlt : s &&& W < 2 ^ gn G := Nat.and_lt_two_pow _ w1
      have hIr : ¬ (s &&& W).testBit r = true := fun z => w2 (and_b.mp z).2
      have hUlt : s ||| W < 2 ^ gn G := Nat.or_lt_two_pow s1 w1
      have hUr : ¬ (s ||| W).testBit r = true := fun z => (or_b.mp z).elim s2 w2
      have hUb : (s ||| W).testBit (ghd G l) = true := or_b.mpr (Or.inl s3.1)
      have d1 := hd _ hIlt (bit_ne hIb) hIr
      have d2 := hd _ hUlt (bit_ne hUb) hUr
      have d3 : ec G (ndf L T) (s &&& W) + ec G (ndf L T) (s ||| W) ≤ ec G (ndf L T) s + ec G (ndf L T) W := by
        apply cnt_sub4
        · rintro x ⟨x1, x2, x3⟩
          rw [and_b] at x2 x3
          by_cases z : s.testBit (gtl G x) = true
          · exact Or.inr ⟨x1, x2.2, fun y => x3 ⟨z, y⟩⟩
          · exact Or.inl ⟨x1, x2.1, z⟩
        · rintro x ⟨x1, x2, x3⟩
          rw [or_b] at x2 x3
          rcases x2 with z | z
          · exact Or.inl ⟨x1, z, fun y => x3 (Or.inl y)⟩
          · exact Or.inr ⟨x1, z, fun y => x3 (Or.inr y)⟩
        · rintro x ⟨x1, x2, x3⟩ ⟨_, y2, y3⟩
          rw [and_b] at x2
          rw [or_b] at y3
          exact ⟨⟨x1, x2.1, fun z => y3 (Or.inl z)⟩, x1, x2.2, fun z => y3 (Or.inr z)⟩
      have hIle : s &&& W ≤ W := sub_le (fun i z => (and_b.mp z).2)
      have hIne : s &&& W ≠ W := by
        intro e
        have := htW
        rw [← e] at this
        exact s3.2 (and_b.mp this).1
      exact wmin (s &&& W) (by omega) ⟨hIlt, hIr, ⟨ghd G l, hIb, l4.2⟩, by omega⟩
  · have hDlt : ndf (2 ^ gn G - 1) C < 2 ^ gn G := by
      have := ndf_le (2 ^ gn G - 1) C
      have := Nat.two_pow_pos (gn G)
      omega
    have hDq : (ndf (2 ^ gn G - 1) C).testBit q = true := ndf_b.mpr ⟨full_bit.mpr hq, hqC⟩
    have hD := disj _ hDlt (bit_ne hDq) (fun z => (ndf_b.mp z).2 hCr) (fun i z => (ndf_b.mp z).2)
    obtain ⟨l, hl, ⟨l1, l2⟩, _⟩ := cnt_diff (n := gL G) (p := fun l => (ndf L T).testBit l = true ∧ enT G l (ndf (2 ^ gn G - 1) C)) (q := fun _ => False) (by
      rw [cnt_zero (fun _ _ h => h)]
      exact Nat.lt_of_lt_of_le (by omega) hD)
    obtain ⟨l4, l5⟩ := l2
    rw [ndf_b] at l4 l5
    have htC : C.testBit (gtl G l) = true := by
      by_cases z : C.testBit (gtl G l) = true
      · exact z
      · exact absurd ⟨full_bit.mpr (gtl_lt hG hl), z⟩ l5
    refine ⟨l, hl, (ndf_b.mp l1).1, htC, l4.2, fun s s1 s2 s3 => ?_⟩
    by_cases hs : c < ec G (ndf L T) s
    · exact hs
    · exact absurd ⟨s, s1, s2, ⟨ghd G l, s3.1, l4.2⟩, by omega⟩ crit
theorem ec_del {l : Nat} (hl : l < gL G) (h : (ndf L T).testBit l = true) (s : Nat) : ec G (ndf L T) s = ec G (ndf L (T ||| 2 ^ l)) s + (if dc (enT G l s) then 1 else 0) := by
  by_cases e : enT G l s
  · rw [idt e]
    have := cnt_del (n := gL G) (r := l) (p := fun x => (ndf L T).testBit x = true ∧ enT G x s) hl ⟨h, e⟩
    show cnt _ _ = cnt _ _ + 1
    rw [← this]
    congr 1
    apply cnt_ext
    intro x _
    rw [ndf_b, ndf_b, or_b, two_b]
    constructor
    · rintro ⟨⟨⟨a1, a2⟩, a3⟩, a4⟩
      exact ⟨⟨a1, fun z => z.elim a2 (fun z => a4 z.symm)⟩, a3⟩
    · rintro ⟨⟨a1, a2⟩, a3⟩
      exact ⟨⟨⟨a1, fun z => a2 (Or.inl z)⟩, a3⟩, fun z => a2 (Or.inr z.symm)⟩
  · rw [idf e]
    show cnt _ _ = cnt _ _ + 0
    rw [Nat.add_zero]
    apply cnt_ext
    intro x _
    rw [ndf_b, ndf_b, or_b, two_b]
    constructor
    · rintro ⟨⟨a1, a2⟩, a3⟩
      exact ⟨⟨a1, fun z => z.elim a2 (fun z => e (by rw [z]; exact a3))⟩, a3⟩
    · rintro ⟨⟨a1, a2⟩, a3⟩
      exact ⟨⟨a1, fun z => a2 (Or.inl z)⟩, a3⟩
theorem fit_step (hG : GOK G) (hTI : TI G r c L C T) {l : Nat} (hF : Fit G r c L C T l) : TI G r c L (C ||| 2 ^ ghd G l) (T ||| 2 ^ l) ∧ (ndf L T).testBit l = true ∧ cnt (gn G) (fun i => (C ||| 2 ^ ghd G l).testBit i = true) = cnt (gn G) (fun i => C.testBit i = true) + 1 := by
  obtain ⟨hC, hCr, hT24, hT, hd⟩ := hTI
  obtain ⟨f1, f2, f3, f4, f5⟩ := hF
  have hh := ghd_lt hG f1
  have hn : (ndf L T).testBit l = true := ndf_b.mpr ⟨f2, fun z => f4 (hT l z).2⟩
  refine ⟨⟨Nat.or_lt_two_pow hC (one_set hh).1, or_b.mpr (Or.inl hCr), Nat.or_lt_two_pow hT24 (one_set f1).1, fun x hx => ?_, fun s s1 s2 s3 => ?_⟩, hn, ?_⟩
  · rcases or_b.mp hx with z | z
    · exact ⟨(hT x z).1, or_b.mpr (Or.inl (hT x z).2)⟩
    · rw [two_b] at z; subst z
      exact ⟨f2, or_b.mpr (Or.inr (two_b.mpr rfl))⟩
  · have e := ec_del (s := s) f1 hn
    have d := hd s s1 s2 s3
    by_cases z : enT G l s
    · rw [idt z] at e
      have := f5 s s1 s3 z
      omega
    · rw [idf z] at e; omega
  · have := cnt_del (n := gn G) (r := ghd G l) (p := fun i => (C ||| 2 ^ ghd G l).testBit i = true) hh (or_b.mpr (Or.inr (two_b.mpr rfl)))
    rw [← this]
    congr 1
    apply cnt_ext
    intro i _
    rw [or_b, two_b]
    constructor
    · rintro ⟨a | a, b⟩
      · exact a
      · exact absurd a.symm b
    · intro a
      exact ⟨Or.inl a, fun z => f4 (by rw [← z]; exact a)⟩
theorem fit_iff (hb : gL G ≤ 24) (hTI : TI G r c L C T) (hc : c ≤ 24) {l : Nat} (hl : l < gL G) : Fit G r c L C T l ↔ (ndf L T).testBit l = true ∧ C.testBit (gtl G l) = true ∧ ¬ C.testBit (ghd G l) = true ∧ (c = 0 ∨ c ≤ mnf (ec G (ndf (ndf L T) (2 ^ l))) r 1000 (2 ^ gn G)) := by
  obtain ⟨hC, hCr, hT24, hT, hd⟩ := hTI
  have e2 : ndf (ndf L T) (2 ^ l) = ndf L (T ||| 2 ^ l) := by
    apply nat_ext; intro i
    rw [ndf_b, ndf_b, ndf_b, or_b]
    exact ⟨fun h => ⟨h.1.1, fun z => z.elim h.1.2 h.2⟩, fun h => ⟨⟨h.1, fun z => h.2 (Or.inl z)⟩, fun z => h.2 (Or.inr z)⟩⟩
  rw [e2]
  constructor
  · rintro ⟨f1, f2, f3, f4, f5⟩
    have hn : (ndf L T).testBit l = true := ndf_b.mpr ⟨f2, fun z => f4 (hT l z).2⟩
    refine ⟨hn, f3, f4, Or.inr ?_⟩
    rcases mnf_at (f := ec G (ndf L (T ||| 2 ^ l))) (r := r) (b := 1000) (2 ^ gn G) with z | ⟨s, s1, s2, s3, s4⟩
    · omega
    · rw [s4]
      have e := ec_del (s := s) hl hn
      have d := hd s s1 s2 s3
      by_cases z : enT G l s
      · rw [idt z] at e
        have := f5 s s1 s3 z
        omega
      · rw [idf z] at e; omega
  · rintro ⟨hn, f3, f4, h⟩
    refine ⟨hl, (ndf_b.mp hn).1, f3, f4, fun s s1 s3 z => ?_⟩
    have e := ec_del (s := s) hl hn
    rw [idt z] at e
    rcases h with h | h
    · omega
    · have := (mnf_le (f := ec G (ndf L (T ||| 2 ^ l))) (r := r) (b := 1000) (2 ^ gn G)).2 s s1 (bit_ne z.1) s3
      omega
noncomputable def st (G : GV) (r c L : Nat) : Nat → Nat × Nat
  | 0 => (2 ^ r, 0)
  | i + 1 => ((st G r c L i).1 ||| 2 ^ ghd G (lf (Fit G r c L (st G r c L i).1 (st G r c L i).2)), (st G r c L i).2 ||| 2 ^ lf (Fit G r c L (st G r c L i).1 (st G r c L i).2))
noncomputable def slf (G : GV) (r c L i : Nat) : Nat := lf (Fit G r c L (st G r c L i).1 (st G r c L i).2)
theorem ndf_0 (x : Nat) : ndf x 0 = x := by
  apply nat_ext; intro i
  rw [ndf_b]
  exact ⟨fun h => h.1, fun h => ⟨h, fun z => by rw [Nat.zero_testBit] at z; exact absurd z (by decide)⟩⟩
theorem not_all {C n : Nat} (h : cnt n (fun i => C.testBit i = true) < n) : ∃ q, q < n ∧ ¬ C.testBit q = true := by
  obtain ⟨i, h1, _, h3⟩ := cnt_diff (n := n) (p := fun _ => True) (q := fun i => C.testBit i = true) (by rw [cnt_all (fun _ _ => trivial)]; exact h)
  exact ⟨i, h1, h3⟩
theorem st_ok (hG : GOK G) (hr : r < gn G) (hLI : LI G r c L) : ∀ i, i < gn G → (TI G r c L (st G r c L i).1 (st G r c L i).2 ∧ cnt (gn G) (fun p => (st G r c L i).1.testBit p = true) = i + 1) := by
  intro i
  induction i with
  | zero =>
    intro _
    refine ⟨⟨(one_set hr).1, two_b.mpr rfl, Nat.two_pow_pos _, fun l z => by rw [show (st G r c L 0).2 = 0 from rfl, Nat.zero_testBit] at z; exact absurd z (by decide), fun s s1 s2 s3 => ?_⟩, ?_⟩
    · have := hLI.2 s s1 s2 s3
      show c ≤ ec G (ndf L 0) s
      rw [ndf_0]; omega
    · have := cnt_del (n := gn G) (r := r) (p := fun p => (2 ^ r).testBit p = true) hr (two_b.mpr rfl)
      show cnt (gn G) (fun p => (2 ^ r).testBit p = true) = 1
      rw [← this, cnt_zero (fun i _ h => h.2 (two_b.mp h.1).symm)]
  | succ i ih =>
    intro hi
    obtain ⟨h1, h2⟩ := ih (by omega)
    obtain ⟨q, hq, hqC⟩ := not_all (n := gn G) (C := (st G r c L i).1) (by omega)
    obtain ⟨l, hl⟩ := fit_ex hG hLI h1 hq hqC
    have hf := (lf_ok hl).1
    obtain ⟨g1, g2, g3⟩ := fit_step hG h1 hf
    exact ⟨g1, g3.trans (by rw [h2])⟩
theorem st_fit (hG : GOK G) (hr : r < gn G) (hLI : LI G r c L) {i : Nat} (hi : i + 1 < gn G) : Fit G r c L (st G r c L i).1 (st G r c L i).2 (slf G r c L i) ∧ ∀ j, j < slf G r c L i → ¬ Fit G r c L (st G r c L i).1 (st G r c L i).2 j := by
  obtain ⟨h1, h2⟩ := st_ok hG hr hLI i (by omega)
  obtain ⟨q, hq, hqC⟩ := not_all (n := gn G) (C := (st G r c L i).1) (by omega)
  obtain ⟨l, hl⟩ := fit_ex hG hLI h1 hq hqC
  exact lf_ok hl
end
