-- needs: 07zzz01.game
/-! sets of points: what lies inside, what is taken -/
theorem cnt_add {n : Nat} {p q r : Nat → Prop} (h : ∀ i, i < n → (r i ↔ p i ∨ q i)) (hd : ∀ i, i < n → p i → ¬ q i) : cnt n r = cnt n p + cnt n q := by
  induction n with
  | zero => rfl
  | succ n ih =>
    have e := ih (fun i hi => h i (by omega)) (fun i hi => hd i (by omega))
    by_cases h1 : p n
    · have h2 := hd n (by omega) h1
      rw [cnt_succ_t h1, cnt_succ_f h2, cnt_succ_t ((h n (by omega)).mpr (Or.inl h1))]; omega
    · by_cases h2 : q n
      · rw [cnt_succ_f h1, cnt_succ_t h2, cnt_succ_t ((h n (by omega)).mpr (Or.inr h2))]; omega
      · rw [cnt_succ_f h1, cnt_succ_f h2, cnt_succ_f (fun k => by rcases (h n (by omega)).mp k with z | z; exact h1 z; exact h2 z)]; omega
theorem sup_next : ∀ s e t : Nat, (∀ i, e.testBit i = true → s.testBit i = true) → (∀ i, e.testBit i = true → t.testBit i = true) → s < t → (s + 1) ||| e ≤ t := by
  intro s
  induction s using Nat.strongRecOn with
  | ind s ih =>
    intro e t hs ht hlt
    have hsub : ∀ {x : Nat}, (∀ i, e.testBit i = true → x.testBit i = true) → ∀ i, (e/2).testBit i = true → (x/2).testBit i = true := by
      intro x hx i hi
      rw [← Nat.testBit_succ] at hi ⊢
      exact hx (i+1) hi
    have hbit0 : ∀ {x : Nat}, (∀ i, e.testBit i = true → x.testBit i = true) → e % 2 ≤ x % 2 := by
      intro x hx
      have := hx 0
      rw [Nat.testBit_zero, Nat.testBit_zero, decide_eq_true_iff, decide_eq_true_iff] at this
      omega
    have hor : ∀ x y : Nat, x ||| y = 2 * ((x/2) ||| (y/2)) + (x ||| y) % 2 := by
      intro x y
      have := Nat.or_div_two (a := x) (b := y)
      omega
    by_cases h0 : s % 2 = 0
    · have he0 := hbit0 hs
      have : (s + 1) ||| e = s + 1 := by
        apply nat_ext; intro i
        rw [Nat.testBit_or, Bool.or_eq_true]
        constructor
        · rintro (h | h)
          · exact h
          · cases i with
            | zero => rw [Nat.testBit_zero, decide_eq_true_iff]; omega
            | succ i =>
              rw [Nat.testBit_succ, show (s+1)/2 = s/2 by omega, ← Nat.testBit_succ]
              exact hs (i+1) h
        · exact Or.inl
      omega
    · have h1 : s % 2 = 1 := by omega
      have ih' := ih (s/2) (by omega) (e/2) (t/2) (hsub hs) (hsub ht) (by omega)
      have hm : ((s+1) ||| e) % 2 = e % 2 := by
        have b1 : ((s+1) ||| e).testBit 0 = e.testBit 0 := by
          rw [Nat.testBit_or]
          have : (s+1).testBit 0 = false := by rw [Nat.testBit_zero]; simp; omega
          rw [this]; rfl
        rw [Nat.testBit_zero, Nat.testBit_zero] at b1
        have := Nat.mod_two_eq_zero_or_one ((s+1) ||| e)
        have := Nat.mod_two_eq_zero_or_one e
        simp only [decide_eq_decide] at b1
        omega
      have := hor (s+1) e
      have he := hbit0 ht
      rw [show (s+1)/2 = s/2 + 1 by omega] at this
      omega
def inE (G : GV) (l s : Nat) : Prop := s.testBit (ga G l) = true ∧ s.testBit (gb G l) = true
noncomputable def inn (G : GV) (T : Nat → Prop) (s : Nat) : Nat := cnt (gL G) (fun l => T l ∧ inE G l s)
def ppc (s : Nat) : Nat := pcn 24 s
def snd_ (G : GV) : Nat → Prop := fun l => ¬ gbr G l
theorem ppc_cnt {n s : Nat} (hn : n ≤ 24) (hs : s < 2 ^ n) : ppc s = cnt n (fun i => s.testBit i = true) := by
  unfold ppc
  have := pcn_bs hn (fun i => s.testBit i = true)
  rw [← eq_bs hs] at this; exact this
theorem ppc_two {n s a b : Nat} (hn : n ≤ 24) (hs : s < 2 ^ n) (ha : s.testBit a = true) (hb : s.testBit b = true) (hab : a ≠ b) : 2 ≤ ppc s := by
  rw [ppc_cnt hn hs]
  have h1 := cnt_del (n := n) (p := fun i => s.testBit i = true) (bit_lt hs ha) ha
  have h2 := cnt_del (n := n) (p := fun i => s.testBit i = true ∧ i ≠ a) (bit_lt hs hb) ⟨hb, fun e => hab e.symm⟩
  omega
theorem ppc_le {n s : Nat} (hn : n ≤ 24) (hs : s < 2 ^ n) : ppc s ≤ n := by
  rw [ppc_cnt hn hs]; exact cnt_le _ _
theorem ppc_pos {n s : Nat} (hn : n ≤ 24) (hs : s < 2 ^ n) (h0 : 0 < s) : 1 ≤ ppc s := by
  rw [ppc_cnt hn hs]
  obtain ⟨i, hi, _⟩ := bits_ne (x := 0) (y := s) (by omega) (fun i hi => by simp at hi)
  have := cnt_lt (n := n) (i := i) (p := fun _ => False) (q := fun i => s.testBit i = true) (fun _ _ k => k.elim) (bit_lt hs hi) hi (fun k => k)
  omega
theorem inn_le (G : GV) (T : Nat → Prop) (s : Nat) : inn G T s ≤ gL G := cnt_le _ _
theorem gen_sub {G : GV} (hG : GOK G) {l s : Nat} : (∀ i, (gen G l).testBit i = true → s.testBit i = true) ↔ inE G l s := by
  constructor
  · intro h; exact ⟨h _ ((gen_bit hG).mpr (Or.inl rfl)), h _ ((gen_bit hG).mpr (Or.inr rfl))⟩
  · rintro ⟨h1, h2⟩ i hi
    rcases (gen_bit hG).mp hi with rfl | rfl
    · exact h1
    · exact h2
theorem ndf_zero {x y : Nat} : ndf x y = 0 ↔ ∀ i, x.testBit i = true → y.testBit i = true := by
  constructor
  · intro h i hx
    by_cases hy : y.testBit i = true
    · exact hy
    · exfalso
      have : (ndf x y).testBit i = true := by rw [ndf_bit, hx]; simp [hy]
      rw [h] at this; simp at this
  · intro h
    apply nat_ext; intro i
    rw [ndf_bit, Nat.zero_testBit]
    cases hx : x.testBit i
    · simp
    · rw [h i hx]; simp
def canT (G : GV) (k : Nat) (T : Nat → Prop) (l : Nat) : Prop := ∀ s, s < 2 ^ gn G → inE G l s → inn G T s < k * (ppc s - 1)
noncomputable def Tk (G : GV) (k : Nat) (A : Nat → Prop) : Nat → (Nat → Prop)
  | 0 => fun _ => False
  | m + 1 => fun x => Tk G k A m x ∨ (x = m ∧ A m ∧ canT G k (Tk G k A m) m)
theorem Tk_lt {G : GV} {k : Nat} {A : Nat → Prop} (m : Nat) : ∀ x, Tk G k A m x → x < m ∧ A x := by
  induction m with
  | zero => intro x h; exact h.elim
  | succ m ih =>
    rintro x (h | ⟨rfl, h, _⟩)
    · have := ih x h; exact ⟨by omega, this.2⟩
    · exact ⟨by omega, h⟩
section
variable {N M PS : ZB} {G : GV}
theorem bitCount_p {s : Nat} (hs : s < 2 ^ 10) : fJI_bitCount (s : Int) = some ((ppc s : Nat) : Int) := bitCount_n (Nat.lt_trans hs (by decide))
theorem bits_p {s : Nat} (hs : s < 2 ^ 10) : fM_bits (s : Int) = some ((ppc s : Nat) : Int) := bits_n (Nat.lt_trans hs (by decide))
theorem p2_10 (hG : GOK G) {s : Nat} (hs : s < 2 ^ gn G) : s < 2 ^ 10 := Nat.lt_of_lt_of_le hs (Nat.pow_le_pow_right (by omega) hG.1.1)
theorem N_allPoints (hN : RN N G) (hG : GOK G) : fN_allPoints N = some ((2 ^ gn G - 1 : Nat) : Int) := by
  have hb := hG.1
  have := Nat.two_pow_pos (gn G)
  unfold fN_allPoints
  rw [hN.1, zshln (by omega)]; congr 1; omega
theorem inn_add {T : Nat → Prop} {l s : Nat} (hl : l < gL G) (hT : ¬ T l) : inn G (fun x => T x ∨ x = l) s = inn G T s + (if dc (inE G l s) then 1 else 0) := by
  unfold inn
  by_cases h : inE G l s
  · rw [dc_t.mpr h, if_pos rfl]
    rw [← cnt_del (n := gL G) (r := l) (p := fun x => (T x ∨ x = l) ∧ inE G x s) hl ⟨Or.inr rfl, h⟩]
    congr 1
    apply cnt_ext; intro x _
    constructor
    · rintro ⟨⟨h1, h2⟩, h3⟩; exact ⟨h1.resolve_right h3, h2⟩
    · rintro ⟨h1, h2⟩; exact ⟨⟨Or.inl h1, h2⟩, fun e => hT (e ▸ h1)⟩
  · rw [dc_f.mpr h, if_neg (by decide), Nat.add_zero]
    apply cnt_ext; intro x _
    constructor
    · rintro ⟨h1 | h1, h2⟩
      · exact ⟨h1, h2⟩
      · subst h1; exact absurd h2 h
    · rintro ⟨h1, h2⟩; exact ⟨Or.inl h1, h2⟩
def PT (G : GV) (T : Nat → Prop) (w : Nat → Int) : Prop := ∀ s, s < 2 ^ gn G → w s = ((inn G T s : Nat) : Int)
theorem PS_takeNone (hN : RN N G) (hG : GOK G) (PS : ZB) : ∃ w, fPS_takeNone N PS = some (PS.1, ua PS.2 2 w) ∧ PT G (fun _ => False) w := by
  have hb := hG.1
  have hp := Nat.two_pow_pos (gn G)
  have h10 : 2 ^ gn G ≤ 1024 := Nat.pow_le_pow_right (n := 2) (by omega) hb.1
  have main : wp (fPS_takeNone N PS) (fun r => ∃ w, r = (PS.1, ua PS.2 2 w) ∧ PT G (fun _ => False) w) := by
    unfold fPS_takeNone
    refine lop2_w (fun v1 C => ∃ (s : Nat) (w : Nat → Int), v1 = (s : Int) ∧ C = (PS.1, ua PS.2 2 w) ∧ s ≤ 2 ^ gn G ∧ ∀ t, t < s → w t = 0) (fun v1 _ => 2 ^ gn G - v1.toNat) ?_ FU _ _ ⟨0, PS.2 2, rfl, by rw [ua_self], by omega, fun t h => absurd h (Nat.not_lt_zero t)⟩ (by show 2 ^ gn G - _ < 100000; omega)
    intro rec v1 C hI hrec
    obtain ⟨s, w, rfl, rfl, hs, hw⟩ := hI
    rw [N_allPoints hN hG, bds, nmn (by omega), nmn (by omega)]
    by_cases h : s < 2 ^ gn G
    · rw [if_neg (by omega), ixn (by omega), lt_e, Int.toNat_natCast]
      simp only [ua_e, ua_up]
      refine hrec _ _ ⟨s+1, up w s 0, by omega, rfl, by omega, fun t ht => ?_⟩ (by omega)
      by_cases e : t = s
      · subst e; rw [up_e]
      · rw [up_n _ _ e]; exact hw t (by omega)
    · rw [if_pos (by omega)]
      refine ⟨_, rfl, w, rfl, fun t ht => ?_⟩
      rw [hw t (by omega)]
      have : inn G (fun _ => False) t = 0 := cnt_zero (fun _ _ k => k.1)
      rw [this]; rfl
  obtain ⟨r, h1, w, h2, h3⟩ := main
  exact ⟨w, by rw [h1, h2], h3⟩
theorem PS_isFull (hG : GOK G) {T : Nat → Prop} {s k : Nat} (hs : s < 2 ^ gn G) (h0 : 0 < s) (hk : k ≤ 100) (hw : PT G T (PS.2 2)) : fPS_isFull PS (s : Int) (k : Int) = some (if dc (k * (ppc s - 1) ≤ inn G T s) then 1 else 0) := by
  have hb := hG.1
  have hs10 := p2_10 hG hs
  have h10 : s < 1024 := hs10
  have hp := ppc_le (n := gn G) (by omega) hs
  have hp1 := ppc_pos (n := gn G) (by omega) hs h0
  have hi := inn_le G T s
  unfold fPS_isFull
  simp only [kf1]
  rw [rdn (by omega), hw s hs, bitCount_p hs10, bds, nmn (by omega)]
  have e : (k : Int) * (((ppc s : Nat) : Int) - 1) = ((k * (ppc s - 1) : Nat) : Int) := by
    have hpe : ((ppc s : Nat) : Int) - 1 = ((ppc s - 1 : Nat) : Int) := by omega
    rw [hpe, ← Int.natCast_mul]
  have hm : k * (ppc s - 1) ≤ 100 * 10 := Nat.mul_le_mul hk (by omega)
  rw [e, nmn (by omega)]
  by_cases h : k * (ppc s - 1) ≤ inn G T s
  · rw [if_neg (by omega), idt h]; exact zo1
  · rw [if_pos (by omega), idf h]; exact zo0
theorem PS_take (hN : RN N G) (hG : GOK G) {T : Nat → Prop} {l k : Nat} (hl : l < gL G) (hT : ¬ T l) (hk : k ≤ 100) {w : Nat → Int} (hw : PT G T w) (PS : ZB) : ∃ w', fPS_take N (PS.1, ua PS.2 2 w) (l : Int) (k : Int) = some ((if dc (canT G k T l) then 1 else 0), (PS.1, ua PS.2 2 w')) ∧ PT G (fun x => T x ∨ (x = l ∧ canT G k T l)) w' := by
  have hb := hG.1
  have hv := hG.2.1 l hl
  have hp := Nat.two_pow_pos (gn G)
  have h10 : 2 ^ gn G ≤ 1024 := Nat.pow_le_pow_right (n := 2) (by omega) hb.1
  have hgl : gen G l < 2 ^ gn G := Nat.or_lt_two_pow (Nat.pow_lt_pow_right (by omega) hv.1) (Nat.pow_lt_pow_right (by omega) hv.2.1)
  have hg0 : 0 < gen G l := by
    rcases Nat.eq_zero_or_pos (gen G l) with z | z
    · have := (gen_bit hG (l := l)).mpr (Or.inl rfl)
      rw [z] at this; simp at this
    · exact z
  have hnext : ∀ s : Nat, (∀ i, (gen G l).testBit i = true → s.testBit i = true) → s < 2 ^ gn G → zor ((s : Int) + 1) ((gen G l : Nat) : Int) = (((s + 1) ||| gen G l : Nat) : Int) ∧ s < ((s + 1) ||| gen G l) ∧ ((s + 1) ||| gen G l) < 2048 ∧ (∀ i, (gen G l).testBit i = true → ((s + 1) ||| gen G l).testBit i = true) := by
    intro s hs hs2
    refine ⟨?_, ?_, ?_, fun i hi => by rw [Nat.testBit_or, hi]; simp⟩
    · rw [show (s : Int) + 1 = ((s + 1 : Nat) : Int) by omega, zorn (by omega) (by omega)]
    · have : s + 1 ≤ (s + 1) ||| gen G l := Nat.left_le_or
      omega
    · exact Nat.or_lt_two_pow (n := 11) (by show s + 1 < 2048; omega) (by show gen G l < 2048; omega)
  have main : wp (fPS_take N (PS.1, ua PS.2 2 w) (l : Int) (k : Int)) (fun r => ∃ w', r = ((if dc (canT G k T l) then 1 else 0), (PS.1, ua PS.2 2 w')) ∧ PT G (fun x => T x ∨ (x = l ∧ canT G k T l)) w') := by
    unfold fPS_take
    rw [N_ends hN hG hl, bds, hN.1, zshln (by omega), lt_e]
    refine lop1_w (fun v5 => ∃ s : Nat, v5 = (s : Int) ∧ s < 2048 ∧ (∀ i, (gen G l).testBit i = true → s.testBit i = true) ∧ ∀ t, t < s → t < 2 ^ gn G → inE G l t → inn G T t < k * (ppc t - 1)) (fun v5 => 2048 - v5.toNat) ?_ FU _ ⟨gen G l, rfl, by omega, fun i h => h, fun t ht _ he => ?_⟩ (by show 2048 - _ < 100000; omega)
    · intro rec v5 hI hrec
      obtain ⟨s, rfl, hs, hsub, hno⟩ := hI
      rw [nmn (by omega), nmn (by omega)]
      by_cases hsn : s < 2 ^ gn G
      · have hs0 : 0 < s := by
          rcases Nat.eq_zero_or_pos s with z | z
          · subst z
            have := hsub _ ((gen_bit hG (l := l)).mpr (Or.inl rfl))
            simp at this
          · exact z
        rw [if_pos (by omega), PS_isFull (PS := (PS.1, ua PS.2 2 w)) hG hsn hs0 hk (by show PT G T (ua PS.2 2 w 2); rw [ua_e]; exact hw), bds]
        by_cases hf : k * (ppc s - 1) ≤ inn G T s
        · have hnc : ¬ canT G k T l := fun h => by have := h s hsn ((gen_sub hG).mp hsub); omega
          rw [i10t hf]
          refine ⟨_, rfl, w, by rw [idf hnc], fun t ht => ?_⟩
          rw [hw t ht]
          congr 1
          unfold inn
          exact cnt_ext (fun x _ => ⟨fun h => ⟨Or.inl h.1, h.2⟩, fun h => ⟨h.1.resolve_right (fun z => hnc z.2), h.2⟩⟩)
        · obtain ⟨n1, n2, n3, n4⟩ := hnext s hsub hsn
          rw [i10f hf, lt_e, n1]
          refine hrec _ ⟨_, rfl, n3, n4, fun t ht ht2 he => ?_⟩ (by omega)
          rcases Nat.lt_trichotomy t s with z | z | z
          · exact hno t z ht2 he
          · subst z; omega
          · have := sup_next s (gen G l) t hsub ((gen_sub hG).mpr he) z
            omega
      · rw [if_neg (by omega)]
        have hcan : canT G k T l := fun t ht he => hno t (by omega) ht he
        refine lop2_w (fun v5 C => ∃ (s : Nat) (w' : Nat → Int), v5 = (s : Int) ∧ C = (PS.1, ua PS.2 2 w') ∧ s < 2048 ∧ (∀ i, (gen G l).testBit i = true → s.testBit i = true) ∧ ∀ t, t < 2 ^ gn G → w' t = ((inn G T t : Nat) : Int) + (if dc (inE G l t ∧ t < s) then 1 else 0)) (fun v5 _ => 2048 - v5.toNat) ?_ FU _ _ ⟨gen G l, w, rfl, rfl, by omega, fun i h => h, fun t ht => ?_⟩ (by show 2048 - _ < 100000; omega)
        · intro rec2 v5 C hI2 hrec2
          obtain ⟨s, w', rfl, rfl, hs, hsub, hv'⟩ := hI2
          rw [nmn (by omega)]
          by_cases hsn2 : s < 2 ^ gn G
          · obtain ⟨n1, n2, n3, n4⟩ := hnext s hsub hsn2
            rw [if_pos (by omega), rdn (by omega), ixn (by omega), lt_e, lt_e, n1, Int.toNat_natCast]
            simp only [ua_e, ua_up]
            refine hrec2 _ _ ⟨_, up w' s (w' s + 1), rfl, rfl, n3, n4, fun t ht => ?_⟩ (by omega)
            by_cases e : t = s
            · subst e
              rw [up_e, hv' t ht, dc_f.mpr (fun z => by omega), dc_t.mpr ⟨(gen_sub hG).mp hsub, n2⟩]; rfl
            · rw [up_n _ _ e, hv' t ht]
              have : (inE G l t ∧ t < s) ↔ (inE G l t ∧ t < (s + 1) ||| gen G l) := by
                constructor
                · rintro ⟨h1, h2⟩; exact ⟨h1, by omega⟩
                · rintro ⟨h1, h2⟩
                  refine ⟨h1, ?_⟩
                  rcases Nat.lt_trichotomy t s with z | z | z
                  · exact z
                  · exact absurd z e
                  · have := sup_next s (gen G l) t hsub ((gen_sub hG).mpr h1) z
                    omega
              rw [propext this]
          · rw [if_neg (by omega)]
            refine ⟨_, rfl, w', by rw [idt hcan], fun t ht => ?_⟩
            rw [hv' t ht]
            have e1 : inn G (fun x => T x ∨ (x = l ∧ canT G k T l)) t = inn G (fun x => T x ∨ x = l) t := by
              unfold inn
              exact cnt_ext (fun x _ => ⟨fun h => ⟨by rcases h.1 with z | z; exact Or.inl z; exact Or.inr z.1, h.2⟩, fun h => ⟨by rcases h.1 with z | z; exact Or.inl z; exact Or.inr ⟨z, hcan⟩, h.2⟩⟩)
            rw [e1, inn_add hl hT]
            by_cases h : inE G l t
            · rw [dc_t.mpr h, dc_t.mpr ⟨h, by omega⟩]; rfl
            · rw [dc_f.mpr h, dc_f.mpr (fun z => h z.1)]; rfl
        · rw [hw t ht, dc_f.mpr (fun z => ?_)]
          · simp
          · have : gen G l ≤ t := by
              apply Nat.le_of_testBit
              exact (gen_sub hG).mpr z.1
            omega
    · have : gen G l ≤ t := by
        apply Nat.le_of_testBit
        exact (gen_sub hG).mpr he
      omega
  obtain ⟨r, h1, w', h2, h3⟩ := main
  exact ⟨w', by rw [h1, h2], h3⟩
theorem PS_byNumber (hN : RN N G) (hG : GOK G) {k : Nat} (hk : k ≤ 100) (PS : ZB) : ∃ w, fPS_takeByNumber N PS (k : Int) = some (((bs (gL G) (Tk G k (snd_ G) (gL G)) : Nat) : Int), (PS.1, ua PS.2 2 w)) ∧ PT G (Tk G k (snd_ G) (gL G)) w := by
  have hb := hG.1
  obtain ⟨w0, h1, h2⟩ := PS_takeNone hN hG PS
  have main : wp (fPS_takeByNumber N PS (k : Int)) (fun r => ∃ w, r = (((bs (gL G) (Tk G k (snd_ G) (gL G)) : Nat) : Int), (PS.1, ua PS.2 2 w)) ∧ PT G (Tk G k (snd_ G) (gL G)) w) := by
    unfold fPS_takeByNumber
    rw [h1, bds]
    refine lop3_w (fun v2 v3 C => ∃ (m : Nat) (w : Nat → Int), v2 = ((bs (gL G) (Tk G k (snd_ G) m) : Nat) : Int) ∧ v3 = (m : Int) ∧ C = (PS.1, ua PS.2 2 w) ∧ m ≤ gL G ∧ PT G (Tk G k (snd_ G) m) w) (fun _ v3 _ => gL G - v3.toNat) ?_ FU _ _ _ ⟨0, w0, ?_, rfl, rfl, by omega, h2⟩ (by show gL G - _ < 100000; omega)
    · intro rec v2 v3 C hI hrec
      obtain ⟨m, w, rfl, rfl, rfl, hm, hw⟩ := hI
      rw [hN.2.1, nmn (by omega), nmn (by omega)]
      by_cases hmL : m < gL G
      · rw [if_pos (by omega), N_isSound hN (by omega), bds]
        simp only [kf2]
        have hTm : ¬ Tk G k (snd_ G) m m := fun h => by have := (Tk_lt m m h).1; omega
        by_cases hs : gbr G m
        · rw [i01t hs]
          have hTe : Tk G k (snd_ G) (m+1) = Tk G k (snd_ G) m := by
            funext x; apply propext
            exact ⟨fun h => h.resolve_right (fun z => z.2.1 hs), Or.inl⟩
          exact hrec _ _ _ ⟨m+1, w, by rw [hTe], by omega, rfl, by omega, by rw [hTe]; exact hw⟩ (by omega)
        · obtain ⟨w', t1, t2⟩ := PS_take hN hG hmL hTm hk hw PS
          have hTe : (fun x => Tk G k (snd_ G) m x ∨ (x = m ∧ canT G k (Tk G k (snd_ G) m) m)) = Tk G k (snd_ G) (m+1) := by
            funext x; apply propext
            exact ⟨fun h => by rcases h with z | z; exact Or.inl z; exact Or.inr ⟨z.1, hs, z.2⟩, fun h => by rcases h with z | z; exact Or.inl z; exact Or.inr ⟨z.1, z.2.2⟩⟩
          rw [hTe] at t2
          rw [i01f hs, t1, bds]
          by_cases hc : canT G k (Tk G k (snd_ G) m) m
          · rw [i10t hc, zshln (by omega), zorn (bs_lt31 (by omega)) (p2_lt31 (by omega)), lt_e]
            refine hrec _ _ _ ⟨m+1, w', ?_, by omega, rfl, by omega, t2⟩ (by omega)
            rw [bs_one hmL, bs_or]
            congr 1
            exact bs_ext (fun x _ => ⟨fun h => by rcases h with z | z; exact Or.inl z; exact Or.inr ⟨z, hs, hc⟩, fun h => by rcases h with z | z; exact Or.inl z; exact Or.inr z.1⟩)
          · rw [i10f hc]
            refine hrec _ _ _ ⟨m+1, w', ?_, by omega, rfl, by omega, t2⟩ (by omega)
            congr 1
            exact bs_ext (fun x _ => ⟨Or.inl, fun h => h.resolve_right (fun z => hc z.2.2)⟩)
      · rw [if_neg (by omega)]
        have : m = gL G := by omega
        subst this
        exact ⟨_, rfl, w, rfl, hw⟩
    · have : bs (gL G) (Tk G k (snd_ G) 0) = 0 := bs_zero.mpr (fun _ _ h => h)
      rw [this]; rfl
  obtain ⟨r, e1, w, e2, e3⟩ := main
  exact ⟨w, by rw [e1, e2], e3⟩
/-! the reference -/
theorem M_inner (hM : RW (M.2 12) G) (hG : GOK G) {s : Nat} (hs : s < 2 ^ gn G) (T : Nat → Prop) : fM_inner M (s : Int) ((bs (gL G) T : Nat) : Int) = some ((inn G T s : Nat) : Int) := by
  have hb := hG.1
  have hs10 := p2_10 hG hs
  have h10 : s < 1024 := hs10
  unfold fM_inner inn
  refine lop2_s (gL G) (fun i => ((cnt i (fun l => T l ∧ inE G l s) : Nat) : Int)) (fun i => (i : Int)) ?_ ?_ (by omega) rfl rfl
  · intro rec k hk hr
    simp only [kf1]
    rw [M_lines hM, bds, nmn (by omega), nmn (by omega), if_pos (by omega), M_has (bs_lt31 (by omega)) (by omega), bds]
    by_cases hT : T k
    · rw [t10t ((bs_bit _ _ _).mpr ⟨hk, hT⟩), M_ends hM hG hk, bds, zcompn (gen_lt31 hG hk) (by omega)]
      by_cases hE : inE G k s
      · rw [if_pos (by rw [ndf_zero.mpr ((gen_sub hG).mpr hE)]; rfl)]
        rw [cnt_succ_t (p := fun l => T l ∧ inE G l s) ⟨hT, hE⟩, Int.natCast_add] at hr
        exact hr
      · rw [if_neg (fun z => hE ((gen_sub hG).mp (ndf_zero.mp (by omega))))]
        rw [cnt_succ_f (p := fun l => T l ∧ inE G l s) (fun z => hE z.2)] at hr
        exact hr
    · rw [t10f (fun z => hT ((bs_bit _ _ _).mp z).2)]
      rw [cnt_succ_f (p := fun l => T l ∧ inE G l s) (fun z => hT z.1)] at hr
      exact hr
  · intro rec
    rw [M_lines hM, bds, nmn (by omega), if_neg (by omega)]
theorem M_canJoin (hM : RW (M.2 12) G) (hG : GOK G) {l k : Nat} (hl : l < gL G) (hk : k ≤ 100) {T : Nat → Prop} (hT : ¬ T l) : fM_canJoin M (l : Int) ((bs (gL G) T : Nat) : Int) (k : Int) = some (if dc (canT G k T l) then 1 else 0) := by
  have hb := hG.1
  have hp := Nat.two_pow_pos (gn G)
  have h10 : 2 ^ gn G ≤ 1024 := Nat.pow_le_pow_right (n := 2) (by omega) hb.1
  have main : wp (fM_canJoin M (l : Int) ((bs (gL G) T : Nat) : Int) (k : Int)) (fun r => r = if dc (canT G k T l) then 1 else 0) := by
    unfold fM_canJoin
    refine lop1_w (fun v4 => ∃ s : Nat, v4 = (s : Int) ∧ 1 ≤ s ∧ s ≤ 2 ^ gn G ∧ ∀ t, t < s → t < 2 ^ gn G → inE G l t → inn G T t < k * (ppc t - 1)) (fun v4 => 2 ^ gn G - v4.toNat) ?_ FU _ ⟨1, rfl, by omega, by omega, fun t ht _ he => ?_⟩ (by show 2 ^ gn G - _ < 100000; omega)
    · intro rec v4 hI hrec
      obtain ⟨s, rfl, hs1, hs, hno⟩ := hI
      rw [M_points hM, bds, zshln (by omega), nmn (by omega)]
      by_cases hsn : s < 2 ^ gn G
      · have hs10 := p2_10 hG hsn
        have hpl := ppc_le (n := gn G) (by omega) hsn
        have hpp := ppc_pos (n := gn G) (by omega) hsn (by omega)
        have goOn : (inE G l s → inn G T s < k * (ppc s - 1)) → ∃ r, rec ((s : Int) + 1) = some r ∧ r = if dc (canT G k T l) then 1 else 0 := by
          intro h
          refine hrec _ ⟨s+1, by omega, by omega, by omega, fun t ht ht2 he => ?_⟩ (by omega)
          by_cases e : t = s
          · subst e; exact h he
          · exact hno t (by omega) ht2 he
        simp only [kf0]
        rw [if_pos (by omega), M_ends hM hG hl, bds, zcompn (gen_lt31 hG hl) (by omega)]
        by_cases hE : inE G l s
        · have hby : zor ((bs (gL G) T : Nat) : Int) (zshl 1 (l : Int)) = ((bs (gL G) (fun x => T x ∨ x = l) : Nat) : Int) := by
            rw [zshln (by omega), zorn (bs_lt31 (by omega)) (p2_lt31 (by omega)), bs_one hl, bs_or]
          have hia := inn_add (G := G) (s := s) hl hT
          rw [dc_t.mpr hE, if_pos rfl] at hia
          have hil := inn_le G (fun x => T x ∨ x = l) s
          have e : (k : Int) * (((ppc s : Nat) : Int) - 1) = ((k * (ppc s - 1) : Nat) : Int) := by
            have hpe : ((ppc s : Nat) : Int) - 1 = ((ppc s - 1 : Nat) : Int) := by omega
            rw [hpe, ← Int.natCast_mul]
          have hm : k * (ppc s - 1) ≤ 100 * 10 := Nat.mul_le_mul hk (by omega)
          rw [if_pos (by rw [ndf_zero.mpr ((gen_sub hG).mpr hE)]; rfl), hby, M_inner hM hG hsn, bds, bits_p hs10, bds, e, nmn (by omega), nmn (by omega), hia]
          by_cases hf : k * (ppc s - 1) ≤ inn G T s
          · rw [if_pos (by omega)]
            exact ⟨_, rfl, by rw [idf (fun h => by have := h s hsn hE; omega)]⟩
          · rw [if_neg (by omega)]; exact goOn (fun _ => by omega)
        · rw [if_neg (fun z => hE ((gen_sub hG).mp (ndf_zero.mp (by omega))))]
          exact goOn (fun h => absurd h hE)
      · rw [if_neg (by omega)]
        exact ⟨_, rfl, by rw [idt (show canT G k T l from fun t ht he => hno t (by omega) ht he)]⟩
    · have : t = 0 := by omega
      subst this
      have := he.1; simp at this
  obtain ⟨r, h1, h2⟩ := main
  rw [h1, h2]
theorem M_chosen (hM : RW (M.2 12) G) (hG : GOK G) {k : Nat} (hk : k ≤ 100) (A : Nat → Prop) : fM_chosen M ((bs (gL G) A : Nat) : Int) (k : Int) = some ((bs (gL G) (Tk G k A (gL G)) : Nat) : Int) := by
  have hb := hG.1
  unfold fM_chosen
  refine lop2_s (gL G) (fun m => ((bs (gL G) (Tk G k A m) : Nat) : Int)) (fun i => (i : Int)) ?_ ?_ (by omega) ?_ rfl
  · intro rec m hm hr
    have hTm : ¬ Tk G k A m m := fun h => by have := (Tk_lt m m h).1; omega
    simp only [kf1]
    rw [M_lines hM, bds, nmn (by omega), nmn (by omega), if_pos (by omega), M_has (bs_lt31 (by omega)) (by omega), bds]
    by_cases hA : A m
    · rw [t10t ((bs_bit _ _ _).mpr ⟨hm, hA⟩), M_canJoin hM hG hm hk hTm, bds]
      by_cases hc : canT G k (Tk G k A m) m
      · rw [i10t hc, zshln (by omega), zorn (bs_lt31 (by omega)) (p2_lt31 (by omega)), lt_e, bs_one hm, bs_or]
        rw [bs_ext (q := Tk G k A (m+1))]
        · exact hr
        · exact fun x _ => ⟨fun h => by rcases h with z | z; exact Or.inl z; exact Or.inr ⟨z, hA, hc⟩, fun h => by rcases h with z | z; exact Or.inl z; exact Or.inr z.1⟩
      · rw [i10f hc]
        rw [bs_ext (q := Tk G k A (m+1))]
        · exact hr
        · exact fun x _ => ⟨Or.inl, fun h => h.resolve_right (fun z => hc z.2.2)⟩
    · rw [t10f (fun z => hA ((bs_bit _ _ _).mp z).2)]
      rw [bs_ext (q := Tk G k A (m+1))]
      · exact hr
      · exact fun x _ => ⟨Or.inl, fun h => h.resolve_right (fun z => hA z.2.1)⟩
  · intro rec
    rw [M_lines hM, bds, nmn (by omega), if_neg (by omega)]
  · have : bs (gL G) (Tk G k A 0) = 0 := bs_zero.mpr (fun _ _ h => h)
    rw [this]; rfl
end
