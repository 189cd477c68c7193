-- needs: 07zzz12.simtree
/-! vital: the argument -/
def Sp (G : GV) (k : Nat) (T : Nat → Prop) : Prop := ∀ s, s < 2 ^ gn G → s ≠ 0 → inn G T s ≤ k * (ppc s - 1)
def Ful (G : GV) (k : Nat) (T : Nat → Prop) (s : Nat) : Prop := k * (ppc s - 1) ≤ inn G T s
def Cx (G : GV) (k : Nat) (T : Nat → Prop) (p q : Nat) : Prop := ∃ s, s < 2 ^ gn G ∧ Ful G k T s ∧ s.testBit p = true ∧ s.testBit q = true
def smn : Nat → (Nat → Nat) → Nat
  | 0, _ => 0
  | n + 1, f => smn n f + f n
theorem smn_le {n : Nat} {f g : Nat → Nat} (h : ∀ i, i < n → f i ≤ g i) : smn n f ≤ smn n g := by
  induction n with
  | zero => exact Nat.le_refl _
  | succ n ih =>
    have := h n (by omega)
    have := ih (fun i hi => h i (by omega))
    show smn n f + f n ≤ smn n g + g n
    omega
theorem smn_add {n : Nat} {f g : Nat → Nat} : smn n (fun i => f i + g i) = smn n f + smn n g := by
  induction n with
  | zero => rfl
  | succ n ih =>
    show smn n (fun i => f i + g i) + (f n + g n) = smn n f + f n + (smn n g + g n)
    omega
theorem smn_one {n r : Nat} {P : Prop} (hr : r < n) : smn n (fun i => if dc (P ∧ r = i) then 1 else 0) = if dc P then 1 else 0 := by
  have low : ∀ m, m ≤ r → smn m (fun i => if dc (P ∧ r = i) then 1 else 0) = 0 := by
    intro m
    induction m with
    | zero => intro _; rfl
    | succ m ih =>
      intro hm
      show smn m _ + (if dc (P ∧ r = m) then 1 else 0) = 0
      have hz : ¬ (P ∧ r = m) := fun z => by have := z.2; omega
      rw [ih (by omega), idf hz]
  have hi : ∀ j, smn (r + 1 + j) (fun i => if dc (P ∧ r = i) then 1 else 0) = if dc P then 1 else 0 := by
    intro j
    induction j with
    | zero =>
      show smn r _ + (if dc (P ∧ r = r) then 1 else 0) = _
      rw [low r (Nat.le_refl _)]
      by_cases h : P
      · rw [idt (show P ∧ r = r from ⟨h, rfl⟩), idt h]
      · rw [idf (fun z : P ∧ r = r => h z.1), idf h]
    | succ j ih =>
      show smn (r + 1 + j) _ + (if dc (P ∧ r = r + 1 + j) then 1 else 0) = _
      have hz : ¬ (P ∧ r = r + 1 + j) := fun z => by have := z.2; omega
      rw [ih, idf hz]; rfl
  have := hi (n - (r + 1))
  rw [show r + 1 + (n - (r + 1)) = n by omega] at this
  exact this
theorem smn_zero {n : Nat} {f : Nat → Nat} (h : ∀ i, i < n → f i = 0) : smn n f = 0 := by
  induction n with
  | zero => rfl
  | succ n ih =>
    show smn n f + f n = 0
    rw [ih (fun i hi => h i (by omega)), h n (by omega)]
theorem cnt_fib {L n : Nat} {P : Nat → Prop} {c : Nat → Nat} (h : ∀ l, l < L → c l < n) : cnt L P = smn n (fun r => cnt L (fun l => P l ∧ c l = r)) := by
  induction L with
  | zero => exact (smn_zero (fun i _ => rfl)).symm
  | succ L ih =>
    show cnt L P + (if dc (P L) then 1 else 0) = smn n (fun r => cnt L (fun l => P l ∧ c l = r) + (if dc (P L ∧ c L = r) then 1 else 0))
    rw [smn_add, ih (fun l hl => h l (by omega)), smn_one (h L (by omega))]
section
variable {G : GV} {k : Nat} {T : Nat → Prop}
theorem inn_mono {A B : Nat → Prop} (h : ∀ l, A l → B l) (s : Nat) : inn G A s ≤ inn G B s := cnt_mono (fun l _ z => ⟨h l z.1, z.2⟩)
theorem Ful_or (hG : GOK G) (hT : Sp G k T) {X Y p : Nat} (hX : X < 2 ^ gn G) (hY : Y < 2 ^ gn G) (fX : Ful G k T X) (fY : Ful G k T Y) (pX : X.testBit p = true) (pY : Y.testBit p = true) : Ful G k T (X ||| Y) := by
  have hb := hG.1
  have hU : X ||| Y < 2 ^ gn G := Nat.or_lt_two_pow hX hY
  have hI : X &&& Y < 2 ^ gn G := Nat.and_lt_two_pow _ hY
  have hIp : (X &&& Y).testBit p = true := and_b.mpr ⟨pX, pY⟩
  have sI := hT _ hI (bit_ne hIp)
  have e1 : inn G T X + inn G T Y ≤ inn G T (X ||| Y) + inn G T (X &&& Y) := by
    apply cnt_sub4
    · rintro l ⟨a, b, c⟩; exact Or.inl ⟨a, or_b.mpr (Or.inl b), or_b.mpr (Or.inl c)⟩
    · rintro l ⟨a, b, c⟩; exact Or.inl ⟨a, or_b.mpr (Or.inr b), or_b.mpr (Or.inr c)⟩
    · rintro l ⟨a, b, c⟩ ⟨_, d, e⟩
      exact ⟨⟨a, or_b.mpr (Or.inl b), or_b.mpr (Or.inl c)⟩, a, and_b.mpr ⟨b, d⟩, and_b.mpr ⟨c, e⟩⟩
  have e2 : ppc (X ||| Y) + ppc (X &&& Y) ≤ ppc X + ppc Y := by
    rw [ppc_cnt (n := gn G) (by omega) hU, ppc_cnt (n := gn G) (by omega) hI, ppc_cnt (n := gn G) (by omega) hX, ppc_cnt (n := gn G) (by omega) hY]
    apply cnt_sub4
    · intro i z; exact or_b.mp z
    · intro i z; exact Or.inl (and_b.mp z).1
    · intro i _ z; exact and_b.mp z
  have p1 := ppc_pos (n := gn G) (by omega) hI (Nat.pos_of_ne_zero (bit_ne hIp))
  have p2 := ppc_pos (n := gn G) (by omega) hX (Nat.pos_of_ne_zero (bit_ne pX))
  have p3 := ppc_pos (n := gn G) (by omega) hY (Nat.pos_of_ne_zero (bit_ne pY))
  have p4 := ppc_pos (n := gn G) (by omega) hU (Nat.pos_of_ne_zero (bit_ne (or_b.mpr (Or.inl pX))))
  have m1 : k * ((ppc (X ||| Y) - 1) + (ppc (X &&& Y) - 1)) ≤ k * ((ppc X - 1) + (ppc Y - 1)) := Nat.mul_le_mul_left k (by omega)
  rw [Nat.mul_add, Nat.mul_add] at m1
  unfold Ful at fX fY ⊢
  omega
theorem Cx_refl (hG : GOK G) {p : Nat} (hp : p < gn G) : Cx G k T p p := by
  have hb := hG.1
  obtain ⟨o1, o2, o3⟩ := one_set hp
  refine ⟨2 ^ p, o1, ?_, (o3 p).mpr rfl, (o3 p).mpr rfl⟩
  unfold Ful
  have : ppc (2 ^ p) = 1 := by
    rw [ppc_cnt (n := gn G) (by omega) o1]
    have := cnt_del (n := gn G) (r := p) (p := fun i => (2 ^ p).testBit i = true) hp ((o3 p).mpr rfl)
    rw [← this, cnt_zero (fun i _ h => h.2 ((o3 i).mp h.1).symm)]
  rw [this]; simp
theorem Cx_symm {p q : Nat} (h : Cx G k T p q) : Cx G k T q p := by
  obtain ⟨s, a, b, c, d⟩ := h; exact ⟨s, a, b, d, c⟩
theorem Cx_trans (hG : GOK G) (hT : Sp G k T) {p q r : Nat} (h1 : Cx G k T p q) (h2 : Cx G k T q r) : Cx G k T p r := by
  obtain ⟨s, a, b, c, d⟩ := h1
  obtain ⟨t, a', b', c', d'⟩ := h2
  exact ⟨s ||| t, Nat.or_lt_two_pow a a', Ful_or hG hT a a' b b' d c', or_b.mpr (Or.inl c), or_b.mpr (Or.inr d')⟩
theorem Cx_lt {p q : Nat} (h : Cx G k T p q) : q < gn G := by
  obtain ⟨s, a, b, c, d⟩ := h; exact bit_lt a d
theorem Cx_eq (hG : GOK G) (hT : Sp G k T) {p q : Nat} (h : Cx G k T p q) : Cx G k T p = Cx G k T q := by
  funext x
  exact propext ⟨fun z => Cx_trans hG hT (Cx_symm h) z, fun z => Cx_trans hG hT h z⟩
noncomputable def rep (G : GV) (k : Nat) (T : Nat → Prop) (p : Nat) : Nat := lf (Cx G k T p)
theorem rep_ok (hG : GOK G) {p : Nat} (hp : p < gn G) : Cx G k T p (rep G k T p) := (lf_ok (Cx_refl hG hp)).1
theorem rep_eq (hG : GOK G) (hT : Sp G k T) {p q : Nat} (hp : p < gn G) (hq : q < gn G) : rep G k T p = rep G k T q ↔ Cx G k T p q := by
  constructor
  · intro h
    have a := rep_ok (k := k) (T := T) hG hp
    have b := rep_ok (k := k) (T := T) hG hq
    rw [h] at a
    exact Cx_trans hG hT a (Cx_symm b)
  · intro h
    unfold rep
    rw [Cx_eq hG hT h]
theorem cls_ful (hG : GOK G) (hT : Sp G k T) {p : Nat} (hp : p < gn G) : Ful G k T (bs (gn G) (Cx G k T p)) := by
  have hb := hG.1
  have step : ∀ m, m ≤ gn G → ∃ s, s < 2 ^ gn G ∧ Ful G k T s ∧ s.testBit p = true ∧ (∀ q, s.testBit q = true → Cx G k T p q) ∧ ∀ q, q < m → Cx G k T p q → s.testBit q = true := by
    intro m
    induction m with
    | zero =>
      intro _
      obtain ⟨s, a, b, c, _⟩ := Cx_refl (k := k) (T := T) hG hp
      exact ⟨s, a, b, c, fun q hq => ⟨s, a, b, c, hq⟩, fun q h => absurd h (Nat.not_lt_zero q)⟩
    | succ m ih =>
      intro hm
      obtain ⟨s, a, b, c, d, e⟩ := ih (by omega)
      by_cases h : Cx G k T p m
      · obtain ⟨t, a', b', c', d'⟩ := h
        refine ⟨s ||| t, Nat.or_lt_two_pow a a', Ful_or hG hT a a' b b' c c', or_b.mpr (Or.inl c), fun q hq => ?_, fun q hq z => ?_⟩
        · rcases or_b.mp hq with z | z
          · exact d q z
          · exact ⟨t, a', b', c', z⟩
        · by_cases y : q = m
          · subst y; exact or_b.mpr (Or.inr d')
          · exact or_b.mpr (Or.inl (e q (by omega) z))
      · refine ⟨s, a, b, c, d, fun q hq z => ?_⟩
        by_cases y : q = m
        · subst y; exact absurd z h
        · exact e q (by omega) z
  obtain ⟨s, a, b, c, d, e⟩ := step (gn G) (Nat.le_refl _)
  have : s = bs (gn G) (Cx G k T p) := by
    apply nat_ext; intro q
    rw [bs_bit]
    exact ⟨fun z => ⟨bit_lt a z, d q z⟩, fun z => e q z.1 z.2⟩
  rw [← this]; exact b
/-- what is sparse inside of A is at most as large as what is sparse and cannot grow in A -/
theorem sp_max (hG : GOK G) {B A I : Nat → Prop} (hB : Sp G k B) (hI : Sp G k I) (hIA : ∀ l, l < gL G → I l → A l) (hBmax : ∀ l, l < gL G → A l → ¬ B l → ∃ s, s < 2 ^ gn G ∧ inE G l s ∧ Ful G k B s) : cnt (gL G) I ≤ cnt (gL G) B := by
  have hb := hG.1
  have split : ∀ X : Nat → Prop, cnt (gL G) X = cnt (gL G) (fun l => X l ∧ Cx G k B (ga G l) (gb G l)) + cnt (gL G) (fun l => X l ∧ ¬ Cx G k B (ga G l) (gb G l)) := by
    intro X
    refine cnt_add (fun l _ => ?_) (fun l _ h z => z.2 h.2)
    constructor
    · intro h
      by_cases z : Cx G k B (ga G l) (gb G l)
      · exact Or.inl ⟨h, z⟩
      · exact Or.inr ⟨h, z⟩
    · rintro (h | h) <;> exact h.1
  have cross : cnt (gL G) (fun l => I l ∧ ¬ Cx G k B (ga G l) (gb G l)) ≤ cnt (gL G) (fun l => B l ∧ ¬ Cx G k B (ga G l) (gb G l)) := by
    refine cnt_mono (fun l hl h => ⟨?_, h.2⟩)
    by_cases z : B l
    · exact z
    · obtain ⟨s, s1, s2, s3⟩ := hBmax l hl (hIA l hl h.1) z
      exact absurd ⟨s, s1, s3, s2.1, s2.2⟩ h.2
  have hrep : ∀ l, l < gL G → rep G k B (ga G l) < gn G := fun l hl => Cx_lt (rep_ok hG (hG.2.1 l hl).1)
  have inside : cnt (gL G) (fun l => I l ∧ Cx G k B (ga G l) (gb G l)) ≤ cnt (gL G) (fun l => B l ∧ Cx G k B (ga G l) (gb G l)) := by
    rw [cnt_fib (P := fun l => I l ∧ Cx G k B (ga G l) (gb G l)) hrep, cnt_fib (P := fun l => B l ∧ Cx G k B (ga G l) (gb G l)) hrep]
    apply smn_le
    intro r hr
    have fib : ∀ X : Nat → Prop, rep G k B r = r → cnt (gL G) (fun l => (X l ∧ Cx G k B (ga G l) (gb G l)) ∧ rep G k B (ga G l) = r) = inn G X (bs (gn G) (Cx G k B r)) := by
      intro X hrr
      apply cnt_ext
      intro l hl
      have hv := hG.2.1 l hl
      unfold inE
      rw [bs_bit, bs_bit]
      constructor
      · rintro ⟨⟨x1, x2⟩, x3⟩
        have h1 : Cx G k B (ga G l) r := by have := rep_ok (k := k) (T := B) hG hv.1; rw [x3] at this; exact this
        exact ⟨x1, ⟨hv.1, Cx_symm h1⟩, hv.2.1, Cx_trans hG hB (Cx_symm h1) x2⟩
      · rintro ⟨x1, ⟨_, x2⟩, ⟨_, x3⟩⟩
        refine ⟨⟨x1, Cx_trans hG hB (Cx_symm x2) x3⟩, ?_⟩
        rw [(rep_eq hG hB hv.1 hr).mpr (Cx_symm x2)]
        exact hrr
    by_cases hrr : rep G k B r = r
    · show cnt (gL G) (fun l => (I l ∧ Cx G k B (ga G l) (gb G l)) ∧ rep G k B (ga G l) = r) ≤ cnt (gL G) (fun l => (B l ∧ Cx G k B (ga G l) (gb G l)) ∧ rep G k B (ga G l) = r)
      rw [fib I hrr, fib B hrr]
      have f := cls_ful hG hB hr
      have s := hI (bs (gn G) (Cx G k B r)) (bs_lt _ _) (bit_ne ((bs_bit _ _ r).mpr ⟨hr, Cx_refl hG hr⟩))
      unfold Ful at f
      omega
    · show cnt (gL G) (fun l => (I l ∧ Cx G k B (ga G l) (gb G l)) ∧ rep G k B (ga G l) = r) ≤ _
      rw [cnt_zero (fun l hl h => hrr ?_)]
      · exact Nat.zero_le _
      · have hv := hG.2.1 l hl
        have h1 : Cx G k B (ga G l) r := by have := rep_ok (k := k) (T := B) hG hv.1; rw [h.2] at this; exact this
        rw [← (rep_eq hG hB hv.1 hr).mpr h1]; exact h.2
  rw [split I, split B]
  omega
theorem Tk_sp (hG : GOK G) (A : Nat → Prop) : ∀ m, m ≤ gL G → Sp G k (Tk G k A m) := by
  intro m
  induction m with
  | zero =>
    intro _ s _ _
    have : inn G (Tk G k A 0) s = 0 := cnt_zero (fun l _ h => h.1)
    omega
  | succ m ih =>
    intro hm s hs hs0
    have i0 := ih (by omega) s hs hs0
    have hTm : ¬ Tk G k A m m := fun h => by have := (Tk_lt m m h).1; omega
    by_cases h : A m ∧ canT G k (Tk G k A m) m
    · have e : inn G (Tk G k A (m+1)) s = inn G (fun x => Tk G k A m x ∨ x = m) s := by
        apply cnt_ext
        intro x _
        exact ⟨fun z => ⟨z.1.elim Or.inl (fun y => Or.inr y.1), z.2⟩, fun z => ⟨z.1.elim Or.inl (fun y => Or.inr ⟨y, h⟩), z.2⟩⟩
      rw [e, inn_add (by omega) hTm]
      by_cases z : inE G m s
      · rw [idt z]
        have := h.2 s hs z
        omega
      · rw [idf z]; omega
    · have e : inn G (Tk G k A (m+1)) s = inn G (Tk G k A m) s := by
        apply cnt_ext
        intro x _
        exact ⟨fun z => ⟨z.1.resolve_right (fun y => h y.2), z.2⟩, fun z => ⟨Or.inl z.1, z.2⟩⟩
      rw [e]; exact i0
theorem Tk_sub (A : Nat → Prop) {m m' : Nat} (h : m ≤ m') : ∀ x, Tk G k A m x → Tk G k A m' x := by
  induction m' with
  | zero => intro x z; rw [show m = 0 by omega] at z; exact z
  | succ m' ih =>
    intro x z
    by_cases e : m = m' + 1
    · rw [← e]; exact z
    · exact Or.inl (ih (by omega) x z)
theorem Tk_max (hG : GOK G) (A : Nat → Prop) {l : Nat} (hl : l < gL G) (hA : A l) (hn : ¬ Tk G k A (gL G) l) : ∃ s, s < 2 ^ gn G ∧ inE G l s ∧ Ful G k (Tk G k A (gL G)) s := by
  have hc : ¬ canT G k (Tk G k A l) l := fun z => hn (Tk_sub A (show l + 1 ≤ gL G from hl) l (Or.inr ⟨rfl, hA, z⟩))
  by_cases h : ∃ s, s < 2 ^ gn G ∧ inE G l s ∧ k * (ppc s - 1) ≤ inn G (Tk G k A l) s
  · obtain ⟨s, a, b, c⟩ := h
    refine ⟨s, a, b, ?_⟩
    have := inn_mono (G := G) (Tk_sub A (k := k) (G := G) (show l ≤ gL G by omega)) s
    unfold Ful; omega
  · exfalso
    apply hc
    intro s hs he
    by_cases z : inn G (Tk G k A l) s < k * (ppc s - 1)
    · exact z
    · exact absurd ⟨s, hs, he, by omega⟩ h
def inAll (G : GV) (k : Nat) (B : Nat → Prop) (e l : Nat) : Prop := ∀ s, s < 2 ^ gn G → inE G e s → Ful G k B s → inE G l s
theorem vital_iff (hG : GOK G) {A : Nat → Prop} {l : Nat} (hl : l < gL G) (hA : A l) : cnt (gL G) (Tk G k (fun x => A x ∧ x ≠ l) (gL G)) < cnt (gL G) (Tk G k A (gL G)) ↔ Tk G k A (gL G) l ∧ ∀ e, e < gL G → A e → ¬ Tk G k A (gL G) e → ¬ inAll G k (Tk G k A (gL G)) e l := by
  have hspB := Tk_sp (k := k) hG A (gL G) (Nat.le_refl _)
  have hspD := Tk_sp (k := k) hG (fun x => A x ∧ x ≠ l) (gL G) (Nat.le_refl _)
  have hmaxD : ∀ x, x < gL G → (A x ∧ x ≠ l) → ¬ Tk G k (fun x => A x ∧ x ≠ l) (gL G) x → ∃ s, s < 2 ^ gn G ∧ inE G x s ∧ Ful G k (Tk G k (fun x => A x ∧ x ≠ l) (gL G)) s := fun x hx hAx hn => Tk_max hG _ hx hAx hn
  constructor
  · intro h
    have hBl : Tk G k A (gL G) l := by
      by_cases z : Tk G k A (gL G) l
      · exact z
      · have := sp_max hG hspD hspB (A := fun x => A x ∧ x ≠ l) (fun x hx y => ⟨(Tk_lt _ x y).2, fun e => z (by rw [← e]; exact y)⟩) hmaxD
        omega
    refine ⟨hBl, fun e he hAe hne hin => ?_⟩
    have hel : e ≠ l := fun z => hne (by rw [z]; exact hBl)
    have hspI : Sp G k (fun x => (Tk G k A (gL G) x ∧ x ≠ l) ∨ x = e) := by
      intro s hs hs0
      have hI := inn_add (G := G) (T := fun x => Tk G k A (gL G) x ∧ x ≠ l) (l := e) (s := s) he (fun z => hne z.1)
      rw [hI]
      have i0 := hspB s hs hs0
      by_cases z : inE G e s
      · rw [idt z]
        by_cases f : Ful G k (Tk G k A (gL G)) s
        · have hls := hin s hs z f
          have e2 : inn G (fun x => Tk G k A (gL G) x ∧ x ≠ l) s + 1 = inn G (Tk G k A (gL G)) s := by
            have := cnt_del (n := gL G) (r := l) (p := fun x => Tk G k A (gL G) x ∧ inE G x s) hl ⟨hBl, hls⟩
            show cnt _ _ + 1 = cnt _ _
            rw [← this]
            congr 1
            exact cnt_ext (fun x _ => ⟨fun y => ⟨⟨y.1.1, y.2⟩, y.1.2⟩, fun y => ⟨⟨y.1.1, y.2⟩, y.1.2⟩⟩)
          omega
        · have e2 := inn_mono (G := G) (A := fun x => Tk G k A (gL G) x ∧ x ≠ l) (B := Tk G k A (gL G)) (fun x y => y.1) s
          unfold Ful at f
          omega
      · rw [idf z]
        have e2 := inn_mono (G := G) (A := fun x => Tk G k A (gL G) x ∧ x ≠ l) (B := Tk G k A (gL G)) (fun x y => y.1) s
        omega
    have hcI : cnt (gL G) (fun x => (Tk G k A (gL G) x ∧ x ≠ l) ∨ x = e) = cnt (gL G) (Tk G k A (gL G)) := by
      have d1 := cnt_del (n := gL G) (r := e) (p := fun x => (Tk G k A (gL G) x ∧ x ≠ l) ∨ x = e) he (Or.inr rfl)
      have d2 := cnt_del (n := gL G) (r := l) (p := Tk G k A (gL G)) hl hBl
      rw [← d1, ← d2]
      congr 1
      apply cnt_ext
      intro x _
      exact ⟨fun y => y.1.resolve_right y.2, fun y => ⟨Or.inl y, fun z => hne (by rw [← z]; exact y.1)⟩⟩
    have := sp_max hG hspD hspI (A := fun x => A x ∧ x ≠ l) (fun x hx y => by
      rcases y with y | y
      · exact ⟨(Tk_lt _ x y.1).2, y.2⟩
      · subst y; exact ⟨hAe, hel⟩) hmaxD
    omega
  · rintro ⟨hBl, hno⟩
    have d2 := cnt_del (n := gL G) (r := l) (p := Tk G k A (gL G)) hl hBl
    have hspB' : Sp G k (fun x => Tk G k A (gL G) x ∧ x ≠ l) := by
      intro s hs hs0
      have i0 := hspB s hs hs0
      have e2 := inn_mono (G := G) (A := fun x => Tk G k A (gL G) x ∧ x ≠ l) (B := Tk G k A (gL G)) (fun x y => y.1) s
      omega
    have := sp_max hG hspB' hspD (A := fun x => A x ∧ x ≠ l) (fun x hx y => (Tk_lt _ x y).2) (fun x hx hAx hn => by
      have hnx : ¬ Tk G k A (gL G) x := fun z => hn ⟨z, hAx.2⟩
      have hni := hno x hx hAx.1 hnx
      by_cases h : ∃ s, s < 2 ^ gn G ∧ inE G x s ∧ Ful G k (Tk G k A (gL G)) s ∧ ¬ inE G l s
      · obtain ⟨s, a, b, c, d⟩ := h
        refine ⟨s, a, b, ?_⟩
        have e : inn G (fun x => Tk G k A (gL G) x ∧ x ≠ l) s = inn G (Tk G k A (gL G)) s := by
          apply cnt_ext
          intro y _
          exact ⟨fun z => ⟨z.1.1, z.2⟩, fun z => ⟨⟨z.1, fun q => d (by rw [← q]; exact z.2)⟩, z.2⟩⟩
        unfold Ful at c ⊢
        rw [e]; exact c
      · exfalso
        apply hni
        intro s a b c
        by_cases z : inE G l s
        · exact z
        · exact absurd ⟨s, a, b, c, z⟩ h)
    omega
end
