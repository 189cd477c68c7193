-- needs: 07zzz16.partsrec
/-! strength: pieces of a set -/
noncomputable def pS (G : GV) (s : Nat) (c : Nat → Nat) : Nat := cnt (gn G) (fun x => s.testBit x = true ∧ ∀ y, y < x → s.testBit y = true → c y ≠ c x)
noncomputable def iS (G : GV) (s : Nat) (c : Nat → Nat) : Nat := cnt (gL G) (fun l => snd_ G l ∧ inE G l s ∧ c (ga G l) = c (gb G l))
def BIn (G : GV) (s p : Nat) (r : Int) : Prop := (r = -1 ∧ ∀ c, pS G s c ≠ p) ∨ ∃ c, pS G s c = p ∧ r = ((iS G s c : Nat) : Int) ∧ ∀ d, pS G s d = p → iS G s d ≤ iS G s c
theorem comp_b {K x i : Nat} (hx : x < 2 ^ K) : (2 ^ K - (x + 1)).testBit i = true ↔ i < K ∧ ¬ x.testBit i = true := by
  rw [Nat.testBit_two_pow_sub_succ hx, Bool.and_eq_true, decide_eq_true_iff, Bool.not_eq_true', ← Bool.not_eq_true]
theorem sub_prev {K t v m : Nat} (hm : m < 2 ^ K) (h1 : ∀ i, t.testBit i = true → m.testBit i = true) (h2 : ∀ i, v.testBit i = true → m.testBit i = true) (h : t < v) : t ≤ (v - 1) &&& m := by
  have htm := sub_le h1
  have hvm := sub_le h2
  have hv1 : v - 1 < 2 ^ K := by omega
  have ha : (v - 1) &&& m < 2 ^ K := Nat.and_lt_two_pow _ hm
  have hn := sup_next (2 ^ K - (v + 1)) (2 ^ K - (m + 1)) (2 ^ K - (t + 1)) (fun i hi => by
    rw [comp_b (by omega)] at hi ⊢
    exact ⟨hi.1, fun z => hi.2 (h2 i z)⟩) (fun i hi => by
    rw [comp_b (by omega)] at hi ⊢
    exact ⟨hi.1, fun z => hi.2 (h1 i z)⟩) (by omega)
  have e1 : 2 ^ K - (v + 1) + 1 = 2 ^ K - ((v - 1) + 1) := by omega
  have e2 : (2 ^ K - ((v - 1) + 1)) ||| (2 ^ K - (m + 1)) = 2 ^ K - (((v - 1) &&& m) + 1) := by
    apply nat_ext; intro i
    rw [or_b, comp_b hv1, comp_b hm, comp_b ha, and_b]
    constructor
    · rintro (⟨a, b⟩ | ⟨a, b⟩)
      · exact ⟨a, fun z => b z.1⟩
      · exact ⟨a, fun z => b z.2⟩
    · rintro ⟨a, b⟩
      by_cases q : (v - 1).testBit i = true
      · exact Or.inr ⟨a, fun z => b ⟨q, z⟩⟩
      · exact Or.inl ⟨a, q⟩
  rw [e1, e2] at hn
  omega
def jc (t : Nat) (d : Nat → Nat) : Nat → Nat := fun x => if t.testBit x = true then d x + 1 else 0
theorem jc_t {t x : Nat} {d : Nat → Nat} (h : t.testBit x = true) : jc t d x = d x + 1 := by unfold jc; rw [if_pos h]
theorem jc_f {t x : Nat} {d : Nat → Nat} (h : ¬ t.testBit x = true) : jc t d x = 0 := by unfold jc; rw [if_neg h]
section
variable {G : GV} {s p : Nat}
theorem low_one {n l : Nat} (h : l < n) : cnt n (fun x => x = l) = 1 := by
  have := cnt_del (n := n) (r := l) (p := fun x => x = l) h rfl
  rw [← this, cnt_zero (fun i _ h => h.2 h.1)]
/-- putting the piece of the least point before the others -/
theorem join_p (hG : GOK G) {l t : Nat} (hs : s < 2 ^ gn G) (hl : s.testBit l = true) (hlow : ∀ j, j < l → ¬ s.testBit j = true) (ht : ∀ i, t.testBit i = true → s.testBit i = true ∧ i ≠ l) (d : Nat → Nat) : ∃ c, pS G s c = pS G t d + 1 ∧ iS G s c = iS G t d + inn G (snd_ G) (s ^^^ t) := by
  have xb : ∀ i, (s ^^^ t).testBit i = true ↔ s.testBit i = true ∧ ¬ t.testBit i = true := by
    intro i
    rw [Nat.testBit_xor]
    have := ht i
    cases h1 : s.testBit i <;> cases h2 : t.testBit i <;> simp_all
  refine ⟨jc t d, ?_, ?_⟩
  · rw [← low_one (bit_lt hs hl)]
    refine cnt_add (fun x hx => ?_) (fun x hx h z => (ht x h.1).2 z)
    constructor
    · rintro ⟨h1, h2⟩
      by_cases q : t.testBit x = true
      · refine Or.inl ⟨q, fun y hy hyt z => ?_⟩
        have := h2 y hy (ht y hyt).1
        rw [jc_t hyt, jc_t q] at this
        omega
      · refine Or.inr ?_
        by_cases e : x = l
        · exact e
        · exfalso
          have hlx : l < x := by
            by_cases z : l < x
            · exact z
            · exact absurd h1 (hlow x (by omega))
          have := h2 l hlx hl
          rw [jc_f (fun z => (ht l z).2 rfl), jc_f q] at this
          exact this rfl
    · rintro (⟨h1, h2⟩ | h)
      · refine ⟨(ht x h1).1, fun y hy hys => ?_⟩
        rw [jc_t h1]
        by_cases q : t.testBit y = true
        · rw [jc_t q]
          have := h2 y hy q
          omega
        · rw [jc_f q]; omega
      · subst h
        exact ⟨hl, fun y hy hys => absurd hys (hlow y hy)⟩
  · refine cnt_add (fun x hx => ?_) (fun x hx h z => ((xb _).mp z.2.1).2 h.2.1.1)
    unfold inE
    rw [xb, xb]
    constructor
    · rintro ⟨a, ⟨b, b'⟩, e⟩
      by_cases q : t.testBit (ga G x) = true
      · rw [jc_t q] at e
        by_cases q' : t.testBit (gb G x) = true
        · rw [jc_t q'] at e
          exact Or.inl ⟨a, ⟨q, q'⟩, by omega⟩
        · rw [jc_f q'] at e; omega
      · rw [jc_f q] at e
        by_cases q' : t.testBit (gb G x) = true
        · rw [jc_t q'] at e; omega
        · exact Or.inr ⟨a, ⟨b, q⟩, b', q'⟩
    · rintro (⟨a, ⟨b, b'⟩, e⟩ | ⟨a, ⟨b, q⟩, b', q'⟩)
      · exact ⟨a, ⟨(ht _ b).1, (ht _ b').1⟩, by rw [jc_t b, jc_t b', e]⟩
      · exact ⟨a, ⟨b, b'⟩, by rw [jc_f q, jc_f q']⟩
theorem part_p (hG : GOK G) {l : Nat} (hs : s < 2 ^ gn G) (hl : s.testBit l = true) (hlow : ∀ j, j < l → ¬ s.testBit j = true) (c : Nat → Nat) : ∃ t, (∀ i, t.testBit i = true → s.testBit i = true ∧ i ≠ l) ∧ pS G s c = pS G t c + 1 ∧ iS G s c = iS G t c + inn G (snd_ G) (s ^^^ t) := by
  obtain ⟨t, htd⟩ : ∃ t, t = bs (gn G) (fun x => s.testBit x = true ∧ c x ≠ c l) := ⟨_, rfl⟩
  have tb : ∀ i, t.testBit i = true ↔ s.testBit i = true ∧ c i ≠ c l := by
    intro i
    rw [htd, bs_bit]
    exact ⟨fun z => z.2, fun z => ⟨bit_lt hs z.1, z⟩⟩
  have ht : ∀ i, t.testBit i = true → s.testBit i = true ∧ i ≠ l := fun i hi => ⟨((tb i).mp hi).1, fun z => ((tb i).mp hi).2 (by rw [z])⟩
  have xb : ∀ i, (s ^^^ t).testBit i = true ↔ s.testBit i = true ∧ c i = c l := by
    intro i
    rw [Nat.testBit_xor]
    have := tb i
    by_cases q : c i = c l
    · have q2 : ¬ t.testBit i = true := fun z => (this.mp z).2 q
      rw [Bool.not_eq_true] at q2
      rw [q2]; simp [q]
    · by_cases w : s.testBit i = true
      · have q2 : t.testBit i = true := this.mpr ⟨w, q⟩
        rw [q2, w]; simp [q]
      · have q2 : ¬ t.testBit i = true := fun z => w (this.mp z).1
        rw [Bool.not_eq_true] at q2 w
        rw [q2, w]; simp
  refine ⟨t, ht, ?_, ?_⟩
  · rw [← low_one (bit_lt hs hl)]
    refine cnt_add (fun x hx => ?_) (fun x hx h z => (ht x h.1).2 z)
    constructor
    · rintro ⟨h1, h2⟩
      by_cases q : c x = c l
      · refine Or.inr ?_
        by_cases e : x = l
        · exact e
        · exfalso
          have hlx : l < x := by
            by_cases z : l < x
            · exact z
            · exact absurd h1 (hlow x (by omega))
          exact h2 l hlx hl q.symm
      · exact Or.inl ⟨(tb x).mpr ⟨h1, q⟩, fun y hy hyt => h2 y hy (ht y hyt).1⟩
    · rintro (⟨h1, h2⟩ | h)
      · refine ⟨(ht x h1).1, fun y hy hys => ?_⟩
        by_cases q : c y = c l
        · rw [q]; exact fun z => ((tb x).mp h1).2 z.symm
        · exact h2 y hy ((tb y).mpr ⟨hys, q⟩)
      · subst h
        exact ⟨hl, fun y hy hys => absurd hys (hlow y hy)⟩
  · refine cnt_add (fun x hx => ?_) (fun x hx h z => ((tb _).mp h.2.1.1).2 ((xb _).mp z.2.1).2)
    unfold inE
    rw [xb, xb, tb, tb]
    constructor
    · rintro ⟨a, ⟨b, b'⟩, e⟩
      by_cases q : c (ga G x) = c l
      · exact Or.inr ⟨a, ⟨b, q⟩, b', by rw [← e]; exact q⟩
      · exact Or.inl ⟨a, ⟨⟨b, q⟩, b', by rw [← e]; exact q⟩, e⟩
    · rintro (⟨a, ⟨⟨b, _⟩, b', _⟩, e⟩ | ⟨a, ⟨b, q⟩, b', q'⟩)
      · exact ⟨a, ⟨b, b'⟩, e⟩
      · exact ⟨a, ⟨b, b'⟩, by rw [q, q']⟩
theorem iS_le (G : GV) (s : Nat) (c : Nat → Nat) : iS G s c ≤ gL G := cnt_le _ _
theorem pS_zero (c : Nat → Nat) : pS G 0 c = 0 := cnt_zero (fun i _ h => by have := h.1; rw [Nat.zero_testBit] at this; exact absurd this (by decide))
end
section
variable {PS : ZB} {G : GV}
theorem PS_innerOf (hG : GOK G) {s : Nat} (hs : s < 2 ^ gn G) (hw : ∀ s, s < 2 ^ gn G → PS.2 1 s = ((inn G (snd_ G) s : Nat) : Int)) : fPS_innerOf PS (s : Int) = some ((inn G (snd_ G) s : Nat) : Int) := by
  have hb := hG.1
  have h10 : 2 ^ gn G ≤ 1024 := Nat.pow_le_pow_right (n := 2) (by omega) hb.1
  unfold fPS_innerOf
  rw [kf1_e, kf0_e, nmn (by omega), if_neg (by omega), if_pos (by omega), rdn (by omega), hw s hs]
theorem Pa_most (hG : GOK G) {Pa : ZQ} {s p : Nat} (hs : s < 2 ^ gn G) (hs0 : s ≠ 0) (hp : 1 ≤ p) (hw : ∀ s, s < 2 ^ gn G → PS.2 1 s = ((inn G (snd_ G) s : Nat) : Int)) (hA : ∀ t, t < 2 ^ gn G → t ≠ 0 → ¬ t.testBit 0 = true → BIn G t p (Pa.1.2 2 t)) : ∃ r, fPa_mostInside PS Pa (s : Int) = some r ∧ BIn G s (p+1) r := by
  have hb := hG.1
  have h10 : 2 ^ gn G ≤ 1024 := Nat.pow_le_pow_right (n := 2) (by omega) hb.1
  obtain ⟨l1, l2, l3, l4, l5⟩ := lsb_ok hs hb.1 hs0
  have hm : s ^^^ 2 ^ lsb s < 2 ^ gn G := Nat.xor_lt_two_pow hs (one_set l2).1
  have mb : ∀ i, (s ^^^ 2 ^ lsb s).testBit i = true ↔ s.testBit i = true ∧ i ≠ lsb s := by
    intro i
    rw [xor_bit]
    exact ⟨fun z => z.elim id (fun y => absurd (y.2 ▸ l3) y.1), Or.inl⟩
  have main : wp (fPa_mostInside PS Pa (s : Int)) (fun r => BIn G s (p+1) r) := by
    unfold fPa_mostInside
    rw [l1, lt_e, zxorn (by omega) (p2_lt31 (by omega)), lt_e]
    refine lop2_w (fun v4 v5 => ∃ v : Nat, v5 = (v : Int) ∧ (∀ i, v.testBit i = true → (s ^^^ 2 ^ lsb s).testBit i = true) ∧ ((v4 = -1 ∧ ∀ t c, (∀ i, t.testBit i = true → (s ^^^ 2 ^ lsb s).testBit i = true) → v < t → pS G t c ≠ p) ∨ ∃ c, pS G s c = p + 1 ∧ v4 = ((iS G s c : Nat) : Int) ∧ ∀ t d, (∀ i, t.testBit i = true → (s ^^^ 2 ^ lsb s).testBit i = true) → v < t → pS G t d = p → iS G t d + inn G (snd_ G) (s ^^^ t) ≤ iS G s c)) (fun _ v5 => v5.toNat) ?_ FU _ _ ⟨s ^^^ 2 ^ lsb s, rfl, fun i h => h, Or.inl ⟨rfl, fun t c ht hlt => ?_⟩⟩ (by show (((s ^^^ 2 ^ lsb s : Nat) : Int)).toNat < 100000; omega)
    · intro rec v4 v5 hI hrec
      obtain ⟨v, rfl, hv, hbest⟩ := hI
      have hvm := sub_le hv
      rw [nmn (by omega)]
      by_cases hv0 : 0 < v
      · have hvn : v < 2 ^ gn G := by omega
        have hve : ¬ v.testBit 0 = true := fun z => by
          have := (mb 0).mp (hv 0 z)
          have hz : lsb s ≠ 0 := fun q => this.2 q.symm
          exact l5 0 (by omega) this.1
        have hpr : zand ((v : Int) - 1) ((s ^^^ 2 ^ lsb s : Nat) : Int) = (((v - 1) &&& (s ^^^ 2 ^ lsb s) : Nat) : Int) := by
          rw [show (v : Int) - 1 = ((v - 1 : Nat) : Int) by omega, zandn (by omega) (by omega)]
        have hnl : (v - 1) &&& (s ^^^ 2 ^ lsb s) ≤ v - 1 := Nat.and_le_left
        have hnm : ∀ i, ((v - 1) &&& (s ^^^ 2 ^ lsb s)).testBit i = true → (s ^^^ 2 ^ lsb s).testBit i = true := fun i z => (and_b.mp z).2
        have later : ∀ t, (∀ i, t.testBit i = true → (s ^^^ 2 ^ lsb s).testBit i = true) → (v - 1) &&& (s ^^^ 2 ^ lsb s) < t → ¬ v < t → t = v := by
          intro t h1 h2 h3
          rcases Nat.lt_trichotomy t v with z | z | z
          · have := sub_prev hm h1 hv z; omega
          · exact z
          · exact absurd z h3
        rw [if_pos (by omega), rdn (by omega), kf1_e, hpr]
        rcases hA v hvn (by omega) hve with ⟨a1, a2⟩ | ⟨c1, a1, a2, a3⟩
        · rw [a1, if_pos (by decide)]
          refine hrec _ _ ⟨_, rfl, hnm, ?_⟩ (by omega)
          rcases hbest with ⟨b1, b2⟩ | ⟨c, b1, b2, b3⟩
          · refine Or.inl ⟨b1, fun t d ht hlt => ?_⟩
            by_cases q : v < t
            · exact b2 t d ht q
            · rw [later t ht hlt q]; exact a2 d
          · refine Or.inr ⟨c, b1, b2, fun t d ht hlt hd => ?_⟩
            by_cases q : v < t
            · exact b3 t d ht q hd
            · rw [later t ht hlt q] at hd; exact absurd hd (a2 d)
        · have hi1 := iS_le G v c1
          have hxl : s ^^^ v < 2 ^ gn G := Nat.xor_lt_two_pow hs hvn
          have hil := inn_le G (snd_ G) (s ^^^ v)
          rw [a2, nmn (by omega), if_neg (by omega), zxorn (by omega) (by omega), PS_innerOf hG hxl hw, rdn (by omega), a2, bds]
          obtain ⟨cj, j1, j2⟩ := join_p hG hs l3 l5 (t := v) (fun i hi => (mb i).mp (hv i hi)) c1
          have hij := iS_le G s cj
          unfold zmax
          rcases hbest with ⟨b1, b2⟩ | ⟨c, b1, b2, b3⟩
          · rw [b1, nm_m1, nmi (by omega), if_pos (by omega), lt_e]
            refine hrec _ _ ⟨_, rfl, hnm, Or.inr ⟨cj, by omega, by omega, fun t d ht hlt hd => ?_⟩⟩ (by omega)
            by_cases q : v < t
            · exact absurd hd (b2 t d ht q)
            · rw [later t ht hlt q] at hd ⊢
              have := a3 d hd
              omega
          · have hic := iS_le G s c
            rw [b2, nmn (by omega), nmi (by omega)]
            by_cases z : iS G s c < iS G v c1 + inn G (snd_ G) (s ^^^ v)
            · rw [if_pos (by omega), lt_e]
              refine hrec _ _ ⟨_, rfl, hnm, Or.inr ⟨cj, by omega, by omega, fun t d ht hlt hd => ?_⟩⟩ (by omega)
              by_cases q : v < t
              · have := b3 t d ht q hd; omega
              · rw [later t ht hlt q] at hd ⊢
                have := a3 d hd
                omega
            · rw [if_neg (by omega), lt_e]
              refine hrec _ _ ⟨_, rfl, hnm, Or.inr ⟨c, b1, rfl, fun t d ht hlt hd => ?_⟩⟩ (by omega)
              by_cases q : v < t
              · exact b3 t d ht q hd
              · rw [later t ht hlt q] at hd ⊢
                have := a3 d hd
                omega
      · rw [if_neg (by omega)]
        refine ⟨_, rfl, ?_⟩
        have dec : ∀ d, pS G s d = p + 1 → ∃ t, (∀ i, t.testBit i = true → (s ^^^ 2 ^ lsb s).testBit i = true) ∧ v < t ∧ pS G t d = p ∧ iS G s d = iS G t d + inn G (snd_ G) (s ^^^ t) := by
          intro d hd
          obtain ⟨t, t1, t2, t3⟩ := part_p hG hs l3 l5 d
          refine ⟨t, fun i hi => (mb i).mpr (t1 i hi), ?_, by omega, t3⟩
          have : t ≠ 0 := by
            intro e
            subst e
            rw [pS_zero] at t2
            omega
          omega
        rcases hbest with ⟨b1, b2⟩ | ⟨c, b1, b2, b3⟩
        · refine Or.inl ⟨b1, fun c hc => ?_⟩
          obtain ⟨t, t1, t2, t3, _⟩ := dec c hc
          exact b2 t c t1 t2 t3
        · refine Or.inr ⟨c, b1, b2, fun d hd => ?_⟩
          obtain ⟨t, t1, t2, t3, t4⟩ := dec d hd
          rw [t4]
          exact b3 t d t1 t2 t3
    · have := sub_le ht
      omega
  exact main
end
