-- needs: 07zzz54.lawplaced
/-! partings, sparse sets: so many trees as the strength, rounded down -/
theorem smn_cnt {n : Nat} {p : Nat → Prop} : smn n (fun i => if dc (p i) then 1 else 0) = cnt n p := by
  induction n with
  | zero => rfl
  | succ n ih =>
    show smn n _ + (if dc (p n) then 1 else 0) = cnt n p + (if dc (p n) then 1 else 0)
    rw [ih]
theorem smn_ext {n : Nat} {f g : Nat → Nat} (h : ∀ i, i < n → f i = g i) : smn n f = smn n g := Nat.le_antisymm (smn_le (fun i hi => Nat.le_of_eq (h i hi))) (smn_le (fun i hi => Nat.le_of_eq (h i hi).symm))
theorem smn_mul {n k : Nat} {f : Nat → Nat} : smn n (fun i => k * f i) = k * smn n f := by
  induction n with
  | zero => rfl
  | succ n ih =>
    show smn n (fun i => k * f i) + k * f n = k * (smn n f + f n)
    rw [ih, Nat.mul_add]
/-- the first point of a point's piece -/
noncomputable def fst_ (n : Nat) (c : Nat → Nat) (x : Nat) : Nat := lst n (fun y => c y = c x)
section
variable {n : Nat} {c : Nat → Nat}
theorem fst_sp {x : Nat} (hx : x < n) : fst_ n c x < n ∧ c (fst_ n c x) = c x ∧ ∀ j, j < fst_ n c x → ¬ c j = c x := lst_sp (n := n) (p := fun y => c y = c x) ⟨x, hx, rfl⟩
theorem fst_eq {x y : Nat} (h : c x = c y) : fst_ n c x = fst_ n c y := by unfold fst_; rw [h]
theorem fst_iff {x y : Nat} (hx : x < n) (hy : y < n) : fst_ n c x = fst_ n c y ↔ c x = c y := by
  constructor
  · intro h
    rw [← (fst_sp (c := c) hx).2.1, h, (fst_sp (c := c) hy).2.1]
  · exact fst_eq
theorem fst_fst {x : Nat} (hx : x < n) : fst_ n c (fst_ n c x) = fst_ n c x := fst_eq (fst_sp hx).2.1
theorem fst_fo {x : Nat} (hx : x < n) : fst_ n c x = x ↔ fo c x := by
  have h := fst_sp (c := c) hx
  constructor
  · intro e y hy
    exact h.2.2 y (by omega)
  · intro hf
    rcases Nat.lt_trichotomy (fst_ n c x) x with q | q | q
    · exact absurd h.2.1 (hf _ q)
    · exact q
    · exact absurd rfl (h.2.2 x q)
theorem pcs_sum (hn : n ≤ 24) : smn n (fun r => ppc (bs n (fun x => fst_ n c x = r)) - 1) + pcsn n c = n := by
  have h1 : smn n (fun r => ppc (bs n (fun x => fst_ n c x = r))) = n := by
    have h2 := cnt_fib (L := n) (n := n) (P := fun _ => True) (c := fst_ n c) (fun x hx => (fst_sp hx).1)
    rw [cnt_all (fun _ _ => trivial)] at h2
    refine Eq.trans (smn_ext (fun r _ => ?_)) h2.symm
    rw [ppc_bs hn]
    exact cnt_ext (fun x _ => ⟨fun h => ⟨trivial, h⟩, fun h => h.2⟩)
  unfold pcsn
  rw [← smn_cnt, ← smn_add]
  refine Eq.trans (smn_ext (fun r hr => ?_)) h1
  by_cases hf : fo c r
  · have h3 : 1 ≤ ppc (bs n (fun x => fst_ n c x = r)) := by
      rw [ppc_bs hn, ← cnt_del (n := n) (r := r) (p := fun x => fst_ n c x = r) hr ((fst_fo hr).mpr hf)]
      omega
    rw [idt hf]; omega
  · have h3 : ppc (bs n (fun x => fst_ n c x = r)) = 0 := by
      rw [ppc_bs hn]
      exact cnt_zero (fun x hx e => hf ((fst_fo hr).mp (by rw [← e]; exact fst_fst hx)))
    rw [idf hf, h3]
end
section
variable {G : GV} {k : Nat} {T : Nat → Prop} {c : Nat → Nat}
theorem part_sum (hG : GOK G) : cnt (gL G) T = smn (gn G) (fun r => inn G T (bs (gn G) (fun x => fst_ (gn G) c x = r))) + cnt (gL G) (fun l => T l ∧ c (ga G l) ≠ c (gb G l)) := by
  have h1 := cnt_add (n := gL G) (p := fun l => T l ∧ c (ga G l) = c (gb G l)) (q := fun l => T l ∧ c (ga G l) ≠ c (gb G l)) (r := T) (fun l _ => ⟨fun h => by
    by_cases z : c (ga G l) = c (gb G l)
    · exact Or.inl ⟨h, z⟩
    · exact Or.inr ⟨h, z⟩, fun h => h.elim (fun z => z.1) (fun z => z.1)⟩) (fun l _ h z => z.2 h.2)
  rw [h1]
  congr 1
  rw [cnt_fib (P := fun l => T l ∧ c (ga G l) = c (gb G l)) (n := gn G) (c := fun l => fst_ (gn G) c (ga G l)) (fun l hl => (fst_sp (hG.2.1 l hl).1).1)]
  refine smn_ext (fun r _ => cnt_ext (fun l hl => ?_))
  have hv := hG.2.1 l hl
  unfold inE
  rw [bs_bit, bs_bit]
  constructor
  · rintro ⟨⟨x1, x2⟩, x3⟩
    exact ⟨x1, ⟨hv.1, x3⟩, hv.2.1, by rw [← fst_eq x2]; exact x3⟩
  · rintro ⟨x1, ⟨_, x2⟩, _, x3⟩
    exact ⟨⟨x1, (fst_iff hv.1 hv.2.1).mp (x2.trans x3.symm)⟩, x2⟩
theorem bcn_all (hG : GOK G) : bcn G (gn G) c = cnt (gL G) (fun l => snd_ G l ∧ c (ga G l) ≠ c (gb G l)) := cnt_ext (fun l hl => by
  have hv := hG.2.1 l hl
  exact ⟨fun h => ⟨h.1, h.2.2.2⟩, fun h => ⟨h.1, hv.1, hv.2.1, h.2⟩⟩)
theorem Sp_le (hT : Sp G k T) {s : Nat} (hs : s < 2 ^ gn G) : inn G T s ≤ k * (ppc s - 1) := by
  by_cases e : s = 0
  · have : inn G T s = 0 := by
      subst e
      exact cnt_zero (fun l _ h => by have := h.2.1; rw [Nat.zero_testBit] at this; exact absurd this (by decide))
    omega
  · exact hT s hs e
/-- sparse lines between the pieces of a parting -/
theorem part_ge (hG : GOK G) (hT : Sp G k T) (hTs : ∀ l, l < gL G → T l → snd_ G l) : cnt (gL G) T + k * pcsn (gn G) c ≤ k * gn G + bcn G (gn G) c := by
  have hb := hG.1
  have h1 := part_sum (T := T) (c := c) hG
  have h2 := pcs_sum (n := gn G) (c := c) (by omega)
  have h3 : smn (gn G) (fun r => inn G T (bs (gn G) (fun x => fst_ (gn G) c x = r))) ≤ k * smn (gn G) (fun r => ppc (bs (gn G) (fun x => fst_ (gn G) c x = r)) - 1) := by
    rw [← smn_mul]
    exact smn_le (fun r _ => Sp_le hT (bs_lt _ _))
  have h4 : cnt (gL G) (fun l => T l ∧ c (ga G l) ≠ c (gb G l)) ≤ bcn G (gn G) c := by
    rw [bcn_all hG]
    exact cnt_mono (fun l hl h => ⟨hTs l hl h.1, h.2⟩)
  have h5 : k * gn G = k * smn (gn G) (fun r => ppc (bs (gn G) (fun x => fst_ (gn G) c x = r)) - 1) + k * pcsn (gn G) c := by
    rw [← Nat.mul_add, h2]
  omega
/-- the parting into full pieces -/
theorem part_le (hG : GOK G) (hT : Sp G k T) (hmax : ∀ l, l < gL G → snd_ G l → ¬ T l → ∃ s, s < 2 ^ gn G ∧ inE G l s ∧ Ful G k T s) : k * gn G + bcn G (gn G) (rep G k T) ≤ cnt (gL G) T + k * pcsn (gn G) (rep G k T) := by
  have hb := hG.1
  have h1 := part_sum (T := T) (c := rep G k T) hG
  have h2 := pcs_sum (n := gn G) (c := rep G k T) (by omega)
  have h3 : k * smn (gn G) (fun r => ppc (bs (gn G) (fun x => fst_ (gn G) (rep G k T) x = r)) - 1) ≤ smn (gn G) (fun r => inn G T (bs (gn G) (fun x => fst_ (gn G) (rep G k T) x = r))) := by
    rw [← smn_mul]
    refine smn_le (fun r hr => ?_)
    by_cases hf : fst_ (gn G) (rep G k T) r = r
    · have e : bs (gn G) (fun x => fst_ (gn G) (rep G k T) x = r) = bs (gn G) (Cx G k T r) := bs_ext (fun x hx => ⟨fun h => (rep_eq hG hT hr hx).mp ((fst_iff (c := rep G k T) hr hx).mp (hf.trans h.symm)), fun h => ((fst_iff (c := rep G k T) hx hr).mpr ((rep_eq hG hT hr hx).mpr h).symm).trans hf⟩)
      rw [e]
      exact cls_ful hG hT hr
    · have e : ppc (bs (gn G) (fun x => fst_ (gn G) (rep G k T) x = r)) = 0 := by
        rw [ppc_bs (by omega)]
        exact cnt_zero (fun x hx h => hf (by rw [← h]; exact fst_fst hx))
      rw [e]; exact Nat.zero_le _
  have h4 : bcn G (gn G) (rep G k T) ≤ cnt (gL G) (fun l => T l ∧ rep G k T (ga G l) ≠ rep G k T (gb G l)) := by
    rw [bcn_all hG]
    refine cnt_mono (fun l hl h => ⟨?_, h.2⟩)
    have hv := hG.2.1 l hl
    by_cases z : T l
    · exact z
    · obtain ⟨s, s1, s2, s3⟩ := hmax l hl h.1 z
      exact absurd ((rep_eq hG hT hv.1 hv.2.1).mpr ⟨s, s1, s3, s2.1, s2.2⟩) h.2
  have h5 : k * gn G = k * smn (gn G) (fun r => ppc (bs (gn G) (fun x => fst_ (gn G) (rep G k T) x = r)) - 1) + k * pcsn (gn G) (rep G k T) := by
    rw [← Nat.mul_add, h2]
  omega
theorem Tk_s (l : Nat) (h : Tk G k (snd_ G) (gL G) l) : snd_ G l := (Tk_lt (gL G) l h).2
/-- never more than k less than each point's -/
theorem Tk_cnt (hG : GOK G) (hn : 1 ≤ gn G) (A : Nat → Prop) : cnt (gL G) (Tk G k A (gL G)) ≤ k * (gn G - 1) := by
  have hb := hG.1
  have hp := Nat.two_pow_pos (gn G)
  have h1 := Sp_le (Tk_sp (k := k) hG A (gL G) (Nat.le_refl _)) (s := 2 ^ gn G - 1) (by omega)
  have h2 : ppc (2 ^ gn G - 1) = gn G := by rw [bs_full, ppc_bs (by omega), cnt_all (fun _ _ => trivial)]
  have h3 : inn G (Tk G k A (gL G)) (2 ^ gn G - 1) = cnt (gL G) (Tk G k A (gL G)) := by
    rw [bs_full]
    refine cnt_ext (fun l hl => ⟨fun h => h.1, fun h => ⟨h, (bs_bit _ _ _).mpr ⟨(hG.2.1 l hl).1, trivial⟩, (bs_bit _ _ _).mpr ⟨(hG.2.1 l hl).2.1, trivial⟩⟩⟩)
  rw [h2, h3] at h1
  exact h1
theorem fin_lt {B P b p m : Nat} (h : b < (m+1) * (p-1)) (hl : B * (p-1) ≤ b * (P-1)) (hP : 2 ≤ P) : B < (m+1) * (P-1) := by
  rcases Nat.lt_or_ge B ((m+1) * (P-1)) with z | z
  · exact z
  · exfalso
    have y1 : (m+1) * (P-1) * (p-1) ≤ B * (p-1) := Nat.mul_le_mul_right _ z
    have y3 : (b+1) * (P-1) ≤ (m+1) * (p-1) * (P-1) := Nat.mul_le_mul_right _ h
    have y4 : (m+1) * (p-1) * (P-1) = (m+1) * (P-1) * (p-1) := by rw [Nat.mul_assoc, Nat.mul_comm (p-1) (P-1), ← Nat.mul_assoc]
    have y5 : (b+1) * (P-1) = b * (P-1) + (P-1) := Nat.succ_mul _ _
    omega
/-- k trees and no more: the least parting's quotient lies between -/
theorem trees_strength (hG : GOK G) (hn : 2 ≤ gn G) {m B P : Nat} (hB : Bst G B P) (h1 : cnt (gL G) (Tk G m (snd_ G) (gL G)) = m * (gn G - 1)) (h2 : cnt (gL G) (Tk G (m+1) (snd_ G) (gL G)) < (m+1) * (gn G - 1)) : m * (P - 1) ≤ B ∧ B < (m+1) * (P - 1) := by
  obtain ⟨hP, ⟨c, hc1, hc2⟩, hmin⟩ := hB
  constructor
  · have h := part_ge (c := c) hG (Tk_sp (k := m) hG (snd_ G) (gL G) (Nat.le_refl _)) (fun l _ z => Tk_s l z)
    rw [hc1, hc2, h1] at h
    have e1 : m * gn G = m * (gn G - 1) + m := by rw [← Nat.mul_succ]; congr 1; omega
    have e2 : m * P = m * (P - 1) + m := by rw [← Nat.mul_succ]; congr 1; omega
    omega
  · have hT := Tk_sp (k := m+1) hG (snd_ G) (gL G) (Nat.le_refl _)
    have h := part_le hG hT (fun l hl hs hn => Tk_max hG (snd_ G) hl hs hn)
    have hpos : 1 ≤ pcsn (gn G) (rep G (m+1) (Tk G (m+1) (snd_ G) (gL G))) := by
      unfold pcsn
      rw [← cnt_del (n := gn G) (r := 0) (p := fo (rep G (m+1) (Tk G (m+1) (snd_ G) (gL G)))) (by omega) (fun y hy => absurd hy (Nat.not_lt_zero y))]
      omega
    have e1 : (m+1) * gn G = (m+1) * (gn G - 1) + (m+1) := by rw [← Nat.mul_succ]; congr 1; omega
    have e2 : (m+1) * pcsn (gn G) (rep G (m+1) (Tk G (m+1) (snd_ G) (gL G))) = (m+1) * (pcsn (gn G) (rep G (m+1) (Tk G (m+1) (snd_ G) (gL G))) - 1) + (m+1) := by rw [← Nat.mul_succ]; congr 1; omega
    have hb2 : bcn G (gn G) (rep G (m+1) (Tk G (m+1) (snd_ G) (gL G))) < (m+1) * (pcsn (gn G) (rep G (m+1) (Tk G (m+1) (snd_ G) (gL G))) - 1) := by omega
    have hp2 : 2 ≤ pcsn (gn G) (rep G (m+1) (Tk G (m+1) (snd_ G) (gL G))) := by
      rcases Nat.lt_or_ge 1 (pcsn (gn G) (rep G (m+1) (Tk G (m+1) (snd_ G) (gL G)))) with z | z
      · exact z
      · rw [show pcsn (gn G) (rep G (m+1) (Tk G (m+1) (snd_ G) (gL G))) - 1 = 0 by omega, Nat.mul_zero] at hb2
        exact absurd hb2 (Nat.not_lt_zero _)
    refine fin_lt hb2 ?_ hP
    rcases hmin _ hp2 with w | w
    · exact Nat.le_of_lt w
    · exact Nat.le_of_eq w.1
end
