-- needs: 07zzz14.simvital
/-! strength: the reference -/
def fo (c : Nat → Nat) (x : Nat) : Prop := ∀ y, y < x → c y ≠ c x
noncomputable def pcsn (i : Nat) (c : Nat → Nat) : Nat := cnt i (fo c)
noncomputable def bcn (G : GV) (i : Nat) (c : Nat → Nat) : Nat := cnt (gL G) (fun l => snd_ G l ∧ ga G l < i ∧ gb G l < i ∧ c (ga G l) ≠ c (gb G l))
def lq (B P b p : Nat) : Prop := B * (p - 1) < b * (P - 1) ∨ (B * (p - 1) = b * (P - 1) ∧ P ≤ p)
theorem lq_mul {B' P' B P b p : Nat} (hx : B' * P < B * P' ∨ (B' * P = B * P' ∧ P' ≤ P)) (hy : B * p < b * P ∨ (B * p = b * P ∧ P ≤ p)) (hP : 0 < P) (hP' : 0 < P') (hp : 0 < p) : B' * p < b * P' ∨ (B' * p = b * P' ∧ P' ≤ p) := by
  have e1 : B' * p * P = B' * P * p := by rw [Nat.mul_assoc, Nat.mul_comm p P, ← Nat.mul_assoc]
  have e2 : B * P' * p = B * p * P' := by rw [Nat.mul_assoc, Nat.mul_comm P' p, ← Nat.mul_assoc]
  have e3 : b * P * P' = b * P' * P := by rw [Nat.mul_assoc, Nat.mul_comm P P', ← Nat.mul_assoc]
  have h1 : B' * P * p ≤ B * P' * p := Nat.mul_le_mul_right p (by omega)
  have h2 : B * p * P' ≤ b * P * P' := Nat.mul_le_mul_right P' (by omega)
  have h3 : B' * p * P ≤ b * P' * P := by omega
  have h4 : B' * p ≤ b * P' := Nat.le_of_mul_le_mul_right h3 hP
  by_cases h5 : B' * p < b * P'
  · exact Or.inl h5
  · have h6 : B' * p = b * P' := by omega
    have h7 : B' * P * p = B * P' * p := by rw [h6] at e1; omega
    have h8 : B * p * P' = b * P * P' := by rw [h6] at e1; omega
    have h9 := Nat.eq_of_mul_eq_mul_right hp h7
    have h10 := Nat.eq_of_mul_eq_mul_right hP' h8
    refine Or.inr ⟨h6, ?_⟩
    omega
theorem lq_tr {B' P' B P b p : Nat} (hx : lq B' P' B P) (hy : lq B P b p) (hP : 2 ≤ P) (hP' : 2 ≤ P') (hp : 2 ≤ p) : lq B' P' b p := by
  unfold lq at hx hy ⊢
  have := lq_mul (B' := B') (P' := P' - 1) (B := B) (P := P - 1) (b := b) (p := p - 1) (by omega) (by omega) (by omega) (by omega) (by omega)
  omega
def StP (G : GV) (M : ZB) : Prop := M.1 38 = 0 ∨ ∃ c, M.1 37 = ((bcn G (gn G) c : Nat) : Int) ∧ M.1 38 = ((pcsn (gn G) c : Nat) : Int) ∧ 2 ≤ pcsn (gn G) c
def CovP (G : GV) (M : ZB) (d : Nat → Nat) : Prop := ∃ B P : Nat, M.1 37 = (B : Int) ∧ M.1 38 = (P : Int) ∧ 2 ≤ P ∧ lq B P (bcn G (gn G) d) (pcsn (gn G) d)
def MFp (M M' : ZB) : Prop := (∀ i, i ≠ 37 → i ≠ 38 → M'.1 i = M.1 i) ∧ ∀ i, i ≠ 36 → M'.2 i = M.2 i
def Kn (i : Nat) (c d : Nat → Nat) : Prop := ∀ x y, x < i → y < i → (d x = d y ↔ c x = c y)
def cu (c : Nat → Nat) (i v : Nat) : Nat → Nat := fun x => if x = i then v else c x
theorem cu_e (c : Nat → Nat) (i v : Nat) : cu c i v i = v := by unfold cu; rw [if_pos rfl]
theorem cu_n {c : Nat → Nat} {i v x : Nat} (h : x ≠ i) : cu c i v x = c x := by unfold cu; rw [if_neg h]
def Gr (i a2 : Nat) (c : Nat → Nat) : Prop := (∀ x, x < i → c x < a2) ∧ (∀ j, j < a2 → ∃ x, x < i ∧ c x = j) ∧ a2 = pcsn i c
theorem Gr_step {i a2 v : Nat} {c : Nat → Nat} (h : Gr i a2 c) (hv : v ≤ a2) : Gr (i+1) (if v = a2 then a2 + 1 else a2) (cu c i v) := by
  obtain ⟨h1, h2, h3⟩ := h
  have e : pcsn i (cu c i v) = pcsn i c := cnt_ext (fun x hx => by
    unfold fo
    rw [cu_n (by omega)]
    exact ⟨fun z y hy => by have := z y hy; rw [cu_n (by omega)] at this; exact this, fun z y hy => by rw [cu_n (by omega)]; exact z y hy⟩)
  by_cases hv2 : v = a2
  · rw [if_pos hv2]
    subst hv2
    refine ⟨fun x hx => ?_, fun j hj => ?_, ?_⟩
    · by_cases q : x = i
      · subst q; rw [cu_e]; omega
      · rw [cu_n q]; have := h1 x (by omega); omega
    · by_cases q : j = v
      · subst q; exact ⟨i, by omega, cu_e _ _ _⟩
      · obtain ⟨x, x1, x2⟩ := h2 j (by omega)
        exact ⟨x, by omega, by rw [cu_n (by omega)]; exact x2⟩
    · have : fo (cu c i v) i := fun y hy z => by rw [cu_n (by omega), cu_e] at z; have := h1 y hy; omega
      unfold pcsn
      rw [cnt_succ_t this]
      unfold pcsn at e h3
      rw [e]; omega
  · rw [if_neg hv2]
    obtain ⟨x0, x1, x2⟩ := h2 v (by omega)
    refine ⟨fun x hx => ?_, fun j hj => ?_, ?_⟩
    · by_cases q : x = i
      · subst q; rw [cu_e]; omega
      · rw [cu_n q]; exact h1 x (by omega)
    · obtain ⟨x, y1, y2⟩ := h2 j hj
      exact ⟨x, by omega, by rw [cu_n (by omega)]; exact y2⟩
    · have : ¬ fo (cu c i v) i := fun z => z x0 x1 (by rw [cu_n (by omega), cu_e]; exact x2)
      unfold pcsn
      rw [cnt_succ_f this]
      unfold pcsn at e h3
      rw [e]; exact h3
def lat (G : GV) (l i : Nat) : Prop := (ga G l = i ∧ gb G l ≤ i) ∨ (gb G l = i ∧ ga G l ≤ i)
theorem bcn_step {G : GV} (hG : GOK G) {i v : Nat} {c : Nat → Nat} : bcn G (i+1) (cu c i v) = bcn G i c + cnt (gL G) (fun l => snd_ G l ∧ lat G l i ∧ cu c i v (ga G l) ≠ cu c i v (gb G l)) := by
  refine cnt_add (fun l hl => ?_) (fun l hl h z => ?_)
  · have hv := hG.2.1 l hl
    constructor
    · rintro ⟨a, b, d, e⟩
      by_cases q : ga G l < i ∧ gb G l < i
      · rw [cu_n (by omega), cu_n (by omega)] at e
        exact Or.inl ⟨a, q.1, q.2, e⟩
      · refine Or.inr ⟨a, ?_, e⟩
        unfold lat
        omega
    · rintro (⟨a, b, d, e⟩ | ⟨a, b, e⟩)
      · exact ⟨a, by omega, by omega, by rw [cu_n (by omega), cu_n (by omega)]; exact e⟩
      · unfold lat at b
        exact ⟨a, by omega, by omega, e⟩
  · have := z.2.1
    unfold lat at this
    omega
theorem gen_lat {G : GV} (hG : GOK G) {l i : Nat} (hl : l < gL G) : (gen G l).testBit i = true ∧ gen G l < 2 ^ (i+1) ↔ lat G l i := by
  have hv := hG.2.1 l hl
  rw [gen_bit hG]
  constructor
  · rintro ⟨h1, h2⟩
    have b1 := bit_lt h2 ((gen_bit hG (l := l)).mpr (Or.inl rfl))
    have b2 := bit_lt h2 ((gen_bit hG (l := l)).mpr (Or.inr rfl))
    unfold lat
    omega
  · intro h
    unfold lat at h
    refine ⟨by omega, ?_⟩
    exact Nat.or_lt_two_pow (Nat.pow_lt_pow_right (by omega) (by omega)) (Nat.pow_lt_pow_right (by omega) (by omega))
section
variable {M : ZB} {G : GV}
theorem M_isLatest (hM : RW (M.2 12) G) (hG : GOK G) {l i : Nat} (hl : l < gL G) (hi : i < 10) : fM_isLatest M (l : Int) (i : Int) = some (if dc (lat G l i) then 1 else 0) := by
  have hge := gen_lt31 hG hl
  unfold fM_isLatest
  rw [M_ends hM hG hl, bds, M_has hge (by omega), bds, kf1_e, kf0_e]
  have hp : 2 ^ (i+1) < 2147483648 := p2_lt31 (by omega)
  by_cases h : (gen G l).testBit i = true
  · rw [t10t h, bds, zshl2n (by omega), nmn hge]
    by_cases h2 : gen G l < 2 ^ (i+1)
    · rw [if_pos (by omega), idt ((gen_lat hG hl).mp ⟨h, h2⟩)]; exact zo1
    · rw [if_neg (by omega), idf (fun z => h2 ((gen_lat hG hl).mpr z).2)]; exact zo0
  · rw [t10f h, idf (fun z => h ((gen_lat hG hl).mpr z).1)]; exact zo0
end
