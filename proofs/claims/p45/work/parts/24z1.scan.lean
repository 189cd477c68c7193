-- needs: 24.start
/-! the drawn text, read by the reference's scanner: tokens -/
theorem BAt_l {g : Nat → Int} : ∀ (S S' : List Int) (p : Nat), BAt g p (S ++ S') → BAt g p S ∧ BAt g (p + S.length) S' := by
  intro S
  induction S with
  | nil => intro S' p h; exact ⟨trivial, h⟩
  | cons x xs ih =>
    intro S' p h
    obtain ⟨h1, h2⟩ := ih S' (p + 1) h.2
    rw [List.length_cons, show p + (xs.length + 1) = p + 1 + xs.length by omega]
    exact ⟨⟨h.1, h1⟩, h2⟩
theorem dig_len {v : Nat} : (dig v).length = if 9 < v then 2 else 1 := by
  unfold dig
  by_cases h : 9 < v
  · rw [if_pos h, if_pos h]; rfl
  · rw [if_neg h, if_neg h]; rfl
def rowP (i : Nat) : List Int := [112, 111, 105, 110, 116, 32, 97 + (i : Int), 59]
def rowL (a b w : Nat) : List Int := [108, 105, 110, 101, 32, 97 + (a : Int), 32, 97 + (b : Int), 32] ++ dig w ++ [59]
def rowF (k : Nat) : List Int := [102, 111, 114, 101, 115, 116, 115, 32] ++ dig k ++ [59]
theorem rowL_len {a b w : Nat} : (rowL a b w).length = 10 + (dig w).length := by
  unfold rowL
  rw [List.length_append, List.length_append]
  show 9 + (dig w).length + 1 = _
  omega
theorem rowF_len {k : Nat} : (rowF k).length = 9 + (dig k).length := by
  unfold rowF
  rw [List.length_append, List.length_append]
  show 8 + (dig k).length + 1 = _
  omega
section
variable {g : Nat → Int} {u : Nat} {M : ZB}
theorem nBl59 : ¬ Bl 59 := fun h => h.elim (by decide) (by decide)
theorem nAn59 : ¬ An 59 := fun h => h.elim (fun z => absurd z.1 (by decide)) (fun z => absurd z.2 (by decide))
theorem nAn32 : ¬ An 32 := fun h => h.elim (fun z => absurd z.1 (by decide)) (fun z => absurd z.1 (by decide))
theorem An_nBl {x : Int} (h : An x) : ¬ Bl x := by
  intro b
  rcases h with ⟨h1, h2⟩ | ⟨h1, h2⟩
  · rcases b with b | b <;> omega
  · rcases b with b | b <;> omega
theorem go_semi {p : Nat} (hu : u ≤ 600) (hB : Byt g u) (h3 : M.1 3 = (u : Int)) (ht : M.2 1 = g) (h4 : M.1 4 = (p : Int)) (hp : p < u) (hs : g p = 59) : ∃ M', fM_go M = some M' ∧ FrM M M' ∧ M'.1 6 = 4 ∧ M'.1 4 = ((p + 1 : Nat) : Int) := by
  subst ht
  obtain ⟨q, M', h1, h2, h5, h6⟩ := M_go (by omega) hB h3 h4 (by omega)
  have hq : q = p := by
    rcases Nat.lt_or_ge p q with z | z
    · have := h5.2.2.1 p (Nat.le_refl _) z
      rw [hs] at this; exact absurd this nBl59
    · have := h5.1; omega
  subst hq
  obtain ⟨f1, f2, f3⟩ := h6
  refine ⟨M', h1, ⟨f1, f2⟩, ?_⟩
  rcases f3 with ⟨z, -⟩ | ⟨-, -, c⟩
  · omega
  · rcases c with ⟨z, -⟩ | ⟨-, -, z1, z2⟩ | ⟨-, z, -⟩ | ⟨-, z, -⟩
    · omega
    · exact ⟨z1, z2⟩
    · exact absurd hs z
    · rw [hs] at z; exact absurd z nAn59
theorem go_end (hu : u ≤ 600) (hB : Byt g u) (h3 : M.1 3 = (u : Int)) (ht : M.2 1 = g) (h4 : M.1 4 = (u : Int)) : ∃ M', fM_go M = some M' ∧ FrM M M' ∧ M'.1 6 = 0 := by
  subst ht
  obtain ⟨q, M', h1, h2, h5, h6⟩ := M_go (by omega) hB h3 h4 (by omega)
  have hq : q = u := by have := h5.1; omega
  subst hq
  obtain ⟨f1, f2, f3⟩ := h6
  refine ⟨M', h1, ⟨f1, f2⟩, ?_⟩
  rcases f3 with ⟨z, -⟩ | ⟨-, -, c⟩
  · omega
  · rcases c with ⟨-, z⟩ | ⟨z, -⟩ | ⟨z, -⟩ | ⟨z, -⟩
    · exact z
    · omega
    · omega
    · omega
/-- a word or a number, perhaps behind a blank -/
theorem go_run {p q k : Nat} (hu : u ≤ 600) (hB : Byt g u) (h3 : M.1 3 = (u : Int)) (ht : M.2 1 = g) (h4 : M.1 4 = (p : Int)) (hq : q = p ∨ (q = p + 1 ∧ g p = 32)) (hk : 1 ≤ k) (hR : RunS g u q k) : ∃ M', fM_go M = some M' ∧ FrM M M' ∧ M'.1 4 = ((q + k : Nat) : Int) ∧ M'.1 6 = kiM g q k ∧ M'.1 10 = wvf g q k ∧ M'.1 7 = nvf g q k := by
  subst ht
  have hqu := hR.1
  have hA : An (M.2 1 q) := hR.2.1 0 (by omega)
  obtain ⟨q', M', h1, h2, h5, h6⟩ := M_go (by omega) hB h3 h4 (by omega)
  have hqq : q' = q := by
    rcases Nat.lt_trichotomy q' q with z | z | z
    · have h7 := h5.1
      rcases hq with rfl | ⟨rfl, hb⟩
      · omega
      · have : q' = p := by omega
        subst this
        exact absurd (show Bl (M.2 1 q') by rw [hb]; exact Or.inl rfl) (h5.2.2.2 (by omega))
    · exact z
    · exact absurd (h5.2.2.1 q (by rcases hq with rfl | ⟨rfl, -⟩ <;> omega) z) (An_nBl hA)
  subst hqq
  obtain ⟨f1, f2, f3⟩ := h6
  refine ⟨M', h1, ⟨f1, f2⟩, ?_⟩
  rcases f3 with ⟨z, -⟩ | ⟨-, -, c⟩
  · omega
  · rcases c with ⟨z, -⟩ | ⟨-, z, -⟩ | ⟨-, -, z, -⟩ | ⟨-, -, k', z1, z2, z3, z4, z5⟩
    · omega
    · rw [z] at hA; exact absurd hA nAn59
    · exact absurd hA z
    · rw [RunS_uniq z1 hR] at z2 z3 z4 z5
      exact ⟨z2, z3, z4, z5⟩
theorem kiM_w {q k : Nat} (h7 : k ≤ 7) (hk : 1 ≤ k) (h : ∀ i, i < k → Le (g (q + i))) : kiM g q k = 2 := by
  have h0 : Le (g q) := h 0 (by omega)
  unfold kiM
  rw [idt (show sam g q k from fun i hi => ⟨fun _ => h0, fun _ => h i hi⟩), idt h0, if_pos h7]
theorem kiM_n {q k : Nat} (h2 : k ≤ 2) (hk : 1 ≤ k) (h : ∀ i, i < k → ¬ Le (g (q + i))) : kiM g q k = 3 := by
  have h0 : ¬ Le (g q) := h 0 (by omega)
  unfold kiM
  rw [idt (show sam g q k from fun i hi => ⟨fun z => absurd z (h i hi), fun z => absurd z h0⟩), idf h0, if_pos h2]
theorem wvf_s {q k : Nat} (h : k < 7) : wvf g q (k + 1) = (27 * wvf g q k + g (q + k)) - 96 := by
  show (if k < 7 then _ else _) = _
  rw [if_pos h]
theorem nvf_s {q k : Nat} (h : k < 2) : nvf g q (k + 1) = (10 * nvf g q k + g (q + k)) - 48 := by
  show (if k < 2 then _ else _) = _
  rw [if_pos h]
theorem lt_i {k i : Nat} (h : i < k) : i = 0 ∨ (1 ≤ i ∧ i < k) := by omega
/-- the words -/
theorem w_point {q : Nat} (h : g q = 112 ∧ g (q+1) = 111 ∧ g (q+2) = 105 ∧ g (q+3) = 110 ∧ g (q+4) = 116) (he : g (q+5) = 32) (hu : q + 6 ≤ u) : RunS g u q 5 ∧ kiM g q 5 = 2 ∧ wvf g q 5 = ((wPoint : Nat) : Int) := by
  obtain ⟨b0, b1, b2, b3, b4⟩ := h
  have hL : ∀ i, i < 5 → Le (g (q + i)) := by
    intro i hi
    rcases (show i = 0 ∨ i = 1 ∨ i = 2 ∨ i = 3 ∨ i = 4 by omega) with rfl | rfl | rfl | rfl | rfl
    · rw [Nat.add_zero, b0]; exact ⟨by decide, by decide⟩
    · rw [b1]; exact ⟨by decide, by decide⟩
    · rw [b2]; exact ⟨by decide, by decide⟩
    · rw [b3]; exact ⟨by decide, by decide⟩
    · rw [b4]; exact ⟨by decide, by decide⟩
  refine ⟨⟨by omega, fun i hi => Or.inl (hL i hi), fun _ => by rw [he]; exact nAn32⟩, kiM_w (by omega) (by omega) hL, ?_⟩
  have z0 : wvf g q 0 = 0 := rfl
  have z1 : wvf g q 1 = (27 * wvf g q 0 + g q) - 96 := wvf_s (k := 0) (by omega)
  have z2 : wvf g q 2 = (27 * wvf g q 1 + g (q+1)) - 96 := wvf_s (k := 1) (by omega)
  have z3 : wvf g q 3 = (27 * wvf g q 2 + g (q+2)) - 96 := wvf_s (k := 2) (by omega)
  have z4 : wvf g q 4 = (27 * wvf g q 3 + g (q+3)) - 96 := wvf_s (k := 3) (by omega)
  have z5 : wvf g q 5 = (27 * wvf g q 4 + g (q+4)) - 96 := wvf_s (k := 4) (by omega)
  show wvf g q 5 = 8805260
  omega
theorem w_line {q : Nat} (h : g q = 108 ∧ g (q+1) = 105 ∧ g (q+2) = 110 ∧ g (q+3) = 101) (he : g (q+4) = 32) (hu : q + 5 ≤ u) : RunS g u q 4 ∧ kiM g q 4 = 2 ∧ wvf g q 4 = ((wLine : Nat) : Int) := by
  obtain ⟨b0, b1, b2, b3⟩ := h
  have hL : ∀ i, i < 4 → Le (g (q + i)) := by
    intro i hi
    rcases (show i = 0 ∨ i = 1 ∨ i = 2 ∨ i = 3 by omega) with rfl | rfl | rfl | rfl
    · rw [Nat.add_zero, b0]; exact ⟨by decide, by decide⟩
    · rw [b1]; exact ⟨by decide, by decide⟩
    · rw [b2]; exact ⟨by decide, by decide⟩
    · rw [b3]; exact ⟨by decide, by decide⟩
  refine ⟨⟨by omega, fun i hi => Or.inl (hL i hi), fun _ => by rw [he]; exact nAn32⟩, kiM_w (by omega) (by omega) hL, ?_⟩
  have z0 : wvf g q 0 = 0 := rfl
  have z1 : wvf g q 1 = (27 * wvf g q 0 + g q) - 96 := wvf_s (k := 0) (by omega)
  have z2 : wvf g q 2 = (27 * wvf g q 1 + g (q+1)) - 96 := wvf_s (k := 1) (by omega)
  have z3 : wvf g q 3 = (27 * wvf g q 2 + g (q+2)) - 96 := wvf_s (k := 2) (by omega)
  have z4 : wvf g q 4 = (27 * wvf g q 3 + g (q+3)) - 96 := wvf_s (k := 3) (by omega)
  show wvf g q 4 = 243140
  omega
theorem w_forests {q : Nat} (h : g q = 102 ∧ g (q+1) = 111 ∧ g (q+2) = 114 ∧ g (q+3) = 101 ∧ g (q+4) = 115 ∧ g (q+5) = 116 ∧ g (q+6) = 115) (he : g (q+7) = 32) (hu : q + 8 ≤ u) : RunS g u q 7 ∧ kiM g q 7 = 2 ∧ wvf g q 7 = ((wForests : Nat) : Int) := by
  obtain ⟨b0, b1, b2, b3, b4, b5, b6⟩ := h
  have hL : ∀ i, i < 7 → Le (g (q + i)) := by
    intro i hi
    rcases (show i = 0 ∨ i = 1 ∨ i = 2 ∨ i = 3 ∨ i = 4 ∨ i = 5 ∨ i = 6 by omega) with rfl | rfl | rfl | rfl | rfl | rfl | rfl
    · rw [Nat.add_zero, b0]; exact ⟨by decide, by decide⟩
    · rw [b1]; exact ⟨by decide, by decide⟩
    · rw [b2]; exact ⟨by decide, by decide⟩
    · rw [b3]; exact ⟨by decide, by decide⟩
    · rw [b4]; exact ⟨by decide, by decide⟩
    · rw [b5]; exact ⟨by decide, by decide⟩
    · rw [b6]; exact ⟨by decide, by decide⟩
  refine ⟨⟨by omega, fun i hi => Or.inl (hL i hi), fun _ => by rw [he]; exact nAn32⟩, kiM_w (by omega) (by omega) hL, ?_⟩
  have z0 : wvf g q 0 = 0 := rfl
  have z1 : wvf g q 1 = (27 * wvf g q 0 + g q) - 96 := wvf_s (k := 0) (by omega)
  have z2 : wvf g q 2 = (27 * wvf g q 1 + g (q+1)) - 96 := wvf_s (k := 1) (by omega)
  have z3 : wvf g q 3 = (27 * wvf g q 2 + g (q+2)) - 96 := wvf_s (k := 2) (by omega)
  have z4 : wvf g q 4 = (27 * wvf g q 3 + g (q+3)) - 96 := wvf_s (k := 3) (by omega)
  have z5 : wvf g q 5 = (27 * wvf g q 4 + g (q+4)) - 96 := wvf_s (k := 4) (by omega)
  have z6 : wvf g q 6 = (27 * wvf g q 5 + g (q+5)) - 96 := wvf_s (k := 5) (by omega)
  have z7 : wvf g q 7 = (27 * wvf g q 6 + g (q+6)) - 96 := wvf_s (k := 6) (by omega)
  show wvf g q 7 = 2549435302
  omega
theorem w_letter {q i : Nat} (hi : i < 10) (h : g q = 97 + (i : Int)) (he : ¬ An (g (q+1))) (hu : q + 2 ≤ u) : RunS g u q 1 ∧ kiM g q 1 = 2 ∧ wvf g q 1 = ((i + 1 : Nat) : Int) := by
  have hL : ∀ j, j < 1 → Le (g (q + j)) := by
    intro j hj
    rw [show j = 0 by omega, Nat.add_zero, h]; exact ⟨by omega, by omega⟩
  refine ⟨⟨by omega, fun j hj => Or.inl (hL j hj), fun _ => he⟩, kiM_w (by omega) (by omega) hL, ?_⟩
  have z0 : wvf g q 0 = 0 := rfl
  have z1 : wvf g q 1 = (27 * wvf g q 0 + g q) - 96 := wvf_s (k := 0) (by omega)
  omega
theorem w_number {q v : Nat} (hv : v ≤ 99) (h : BAt g q (dig v)) (he : g (q + (dig v).length) = 59) (hu : q + (dig v).length + 1 ≤ u) : RunS g u q (dig v).length ∧ 1 ≤ (dig v).length ∧ kiM g q (dig v).length = 3 ∧ nvf g q (dig v).length = (v : Int) := by
  have z0 : nvf g q 0 = 0 := rfl
  have z1 : nvf g q 1 = (10 * nvf g q 0 + g q) - 48 := nvf_s (k := 0) (by omega)
  by_cases h9 : 9 < v
  · have e : dig v = [48 + ((v / 10 : Nat) : Int), 48 + ((v % 10 : Nat) : Int)] := by unfold dig; rw [if_pos h9]
    rw [e] at h he hu ⊢
    have hl : ([48 + ((v / 10 : Nat) : Int), 48 + ((v % 10 : Nat) : Int)] : List Int).length = 2 := rfl
    rw [hl] at he hu ⊢
    obtain ⟨b0, b1, -⟩ := h
    have hD : ∀ i, i < 2 → Di (g (q + i)) := by
      intro i hi
      rcases (show i = 0 ∨ i = 1 by omega) with rfl | rfl
      · rw [Nat.add_zero, b0]; exact ⟨by omega, by omega⟩
      · rw [b1]; exact ⟨by omega, by omega⟩
    refine ⟨⟨by omega, fun i hi => Or.inr (hD i hi), fun _ => by rw [he]; exact nAn59⟩, by omega, kiM_n (by omega) (by omega) (fun i hi z => by have := (hD i hi).2; have := z.1; omega), ?_⟩
    have z2 : nvf g q 2 = (10 * nvf g q 1 + g (q+1)) - 48 := nvf_s (k := 1) (by omega)
    omega
  · have e : dig v = [48 + (v : Int)] := by unfold dig; rw [if_neg h9]
    rw [e] at h he hu ⊢
    have hl : ([48 + (v : Int)] : List Int).length = 1 := rfl
    rw [hl] at he hu ⊢
    obtain ⟨b0, -⟩ := h
    have hD : ∀ i, i < 1 → Di (g (q + i)) := by
      intro i hi
      rw [show i = 0 by omega, Nat.add_zero, b0]; exact ⟨by omega, by omega⟩
    refine ⟨⟨by omega, fun i hi => Or.inr (hD i hi), fun _ => by rw [he]; exact nAn59⟩, by omega, kiM_n (by omega) (by omega) (fun i hi z => by have := (hD i hi).2; have := z.1; omega), ?_⟩
    omega
end
