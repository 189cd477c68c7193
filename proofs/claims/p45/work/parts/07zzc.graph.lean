-- needs: 07zzb.bits
/-! lines between points: being joined, forests, rings -/
def Cn (a b : Nat → Nat) (E : Nat → Prop) (p q : Nat) : Prop := ∀ C : Nat → Prop, C p → (∀ l, E l → (C (a l) ↔ C (b l))) → C q
def Em (E : Nat → Prop) (e : Nat) : Nat → Prop := fun l => E l ∧ l ≠ e
def Ep (E : Nat → Prop) (e : Nat) : Nat → Prop := fun l => E l ∨ l = e
def Fo (a b : Nat → Nat) (E : Nat → Prop) : Prop := ∀ e, E e → ¬ Cn a b (Em E e) (a e) (b e)
def Jn (a b : Nat → Nat) (l x y : Nat) : Prop := (x = a l ∧ y = b l) ∨ (x = b l ∧ y = a l)
def Rg (a b : Nat → Nat) (E : Nat → Prop) (p q : Nat) : Nat → Prop := fun e => E e ∧ ¬ Cn a b (Em E e) p q
section
variable {a b : Nat → Nat} {E F W : Nat → Prop}
theorem Cn_refl (p : Nat) : Cn a b E p p := fun _ h _ => h
theorem Cn_trans {p q r : Nat} (h1 : Cn a b E p q) (h2 : Cn a b E q r) : Cn a b E p r := fun C hp hc => h2 C (h1 C hp hc) hc
theorem Cn_mono {p q : Nat} (h : ∀ l, E l → F l) (h1 : Cn a b E p q) : Cn a b F p q := fun C hp hc => h1 C hp (fun l hl => hc l (h l hl))
theorem Cn_edge {l : Nat} (h : E l) : Cn a b E (a l) (b l) := fun C hp hc => (hc l h).mp hp
theorem Cn_edge' {l : Nat} (h : E l) : Cn a b E (b l) (a l) := fun C hp hc => (hc l h).mpr hp
theorem Cn_jn {l x y : Nat} (h : E l) (j : Jn a b l x y) : Cn a b E x y := by
  rcases j with ⟨rfl, rfl⟩ | ⟨rfl, rfl⟩
  · exact Cn_edge h
  · exact Cn_edge' h
theorem Cn_symm {p q : Nat} (h : Cn a b E p q) : Cn a b E q p :=
  h (fun x => Cn a b E x p) (Cn_refl p) (fun _ hl => ⟨fun k => Cn_trans (Cn_edge' hl) k, fun k => Cn_trans (Cn_edge hl) k⟩)
theorem Cn_congr {p q : Nat} (h : ∀ l, E l ↔ F l) : Cn a b E p q ↔ Cn a b F p q := ⟨Cn_mono (fun l => (h l).mp), Cn_mono (fun l => (h l).mpr)⟩
theorem Jn_symm {l x y : Nat} (j : Jn a b l x y) : Jn a b l y x := by
  rcases j with ⟨h1, h2⟩ | ⟨h1, h2⟩
  · exact Or.inr ⟨h2, h1⟩
  · exact Or.inl ⟨h2, h1⟩
theorem Cn_add {e p q x y : Nat} (j : Jn a b e x y) (h : Cn a b (Ep E e) p q) : Cn a b E p q ∨ (Cn a b E p x ∧ Cn a b E y q) ∨ (Cn a b E p y ∧ Cn a b E x q) := by
  apply h (fun z => Cn a b E p z ∨ (Cn a b E p x ∧ Cn a b E y z) ∨ (Cn a b E p y ∧ Cn a b E x z))
  · exact Or.inl (Cn_refl p)
  · have hx : (Cn a b E p x ∨ (Cn a b E p x ∧ Cn a b E y x) ∨ (Cn a b E p y ∧ Cn a b E x x)) ↔ (Cn a b E p y ∨ (Cn a b E p x ∧ Cn a b E y y) ∨ (Cn a b E p y ∧ Cn a b E x y)) := by
      constructor
      · rintro (h1 | ⟨h1, h2⟩ | ⟨h1, h2⟩)
        · exact Or.inr (Or.inl ⟨h1, Cn_refl y⟩)
        · exact Or.inr (Or.inl ⟨h1, Cn_refl y⟩)
        · exact Or.inl h1
      · rintro (h1 | ⟨h1, h2⟩ | ⟨h1, h2⟩)
        · exact Or.inr (Or.inr ⟨h1, Cn_refl x⟩)
        · exact Or.inl h1
        · exact Or.inr (Or.inr ⟨h1, Cn_refl x⟩)
    intro l hl
    rcases hl with hl | hl
    · constructor
      · rintro (h1 | ⟨h1, h2⟩ | ⟨h1, h2⟩)
        · exact Or.inl (Cn_trans h1 (Cn_edge hl))
        · exact Or.inr (Or.inl ⟨h1, Cn_trans h2 (Cn_edge hl)⟩)
        · exact Or.inr (Or.inr ⟨h1, Cn_trans h2 (Cn_edge hl)⟩)
      · rintro (h1 | ⟨h1, h2⟩ | ⟨h1, h2⟩)
        · exact Or.inl (Cn_trans h1 (Cn_edge' hl))
        · exact Or.inr (Or.inl ⟨h1, Cn_trans h2 (Cn_edge' hl)⟩)
        · exact Or.inr (Or.inr ⟨h1, Cn_trans h2 (Cn_edge' hl)⟩)
    · subst hl
      rcases j with ⟨rfl, rfl⟩ | ⟨rfl, rfl⟩
      · exact hx
      · exact hx.symm
theorem Ep_Em {e : Nat} : ∀ l, E l → Ep (Em E e) e l := by
  intro l h
  by_cases q : l = e
  · exact Or.inr q
  · exact Or.inl ⟨h, q⟩
theorem Cn_del {e p q x y : Nat} (j : Jn a b e x y) (h : Cn a b E p q) : Cn a b (Em E e) p q ∨ (Cn a b (Em E e) p x ∧ Cn a b (Em E e) y q) ∨ (Cn a b (Em E e) p y ∧ Cn a b (Em E e) x q) := Cn_add j (Cn_mono Ep_Em h)
theorem Em_sub {e : Nat} : ∀ l, Em E e l → E l := fun _ h => h.1
theorem Em_mono {e : Nat} (h : ∀ l, E l → F l) : ∀ l, Em E e l → Em F e l := fun l q => ⟨h l q.1, q.2⟩
theorem Em_of {e : Nat} (h : ∀ l, E l → F l) (he : ¬ E e) : ∀ l, E l → Em F e l := fun l q => ⟨h l q, fun k => he (k ▸ q)⟩
theorem Fo_mono (h : ∀ l, E l → F l) (hf : Fo a b F) : Fo a b E := fun e he hc => hf e (h e he) (Cn_mono (Em_mono h) hc)
theorem Fo_congr (h : ∀ l, E l ↔ F l) : Fo a b E ↔ Fo a b F := ⟨Fo_mono (fun l => (h l).mpr), Fo_mono (fun l => (h l).mp)⟩
theorem Fo_jn {e x y : Nat} (hf : Fo a b E) (he : E e) (j : Jn a b e x y) : ¬ Cn a b (Em E e) x y := by
  rcases j with ⟨rfl, rfl⟩ | ⟨rfl, rfl⟩
  · exact hf e he
  · exact fun k => hf e he (Cn_symm k)
theorem Jn_self (l : Nat) : Jn a b l (a l) (b l) := Or.inl ⟨rfl, rfl⟩
theorem Fo_add {e : Nat} (hf : Fo a b E) (hn : ¬ Cn a b E (a e) (b e)) : Fo a b (Ep E e) := by
  intro l hl hc
  by_cases hle : l = e
  · subst hle
    exact hn (Cn_mono (fun k hk => hk.1.resolve_right hk.2) hc)
  · have hE : E l := hl.resolve_right hle
    have hc2 : Cn a b (Ep (Em E l) e) (a l) (b l) := Cn_mono (fun k hk => by
      rcases hk.1 with h1 | h1
      · exact Or.inl ⟨h1, hk.2⟩
      · exact Or.inr h1) hc
    rcases Cn_add (Jn_self e) hc2 with h1 | ⟨h1, h2⟩ | ⟨h1, h2⟩
    · exact hf l hE h1
    · apply hn
      have q1 := Cn_mono (F := E) (Em_sub) h1
      have q2 := Cn_mono (F := E) (Em_sub) h2
      exact Cn_trans (Cn_symm q1) (Cn_trans (Cn_edge hE) (Cn_symm q2))
    · apply hn
      have q1 := Cn_mono (F := E) (Em_sub) h1
      have q2 := Cn_mono (F := E) (Em_sub) h2
      exact Cn_trans q2 (Cn_trans (Cn_edge' hE) q1)
/-- what of a forest joins two points and can't be spared is their ring -/
theorem Rg_sub {p q : Nat} (hf : Fo a b F) (hW : ∀ l, W l → F l) (hc : Cn a b W p q) (hm : ∀ e, W e → ¬ Cn a b (Em W e) p q) : ∀ e, W e ↔ Rg a b F p q e := by
  intro e
  constructor
  · intro he
    refine ⟨hW e he, fun hcon => ?_⟩
    have hn := hm e he
    apply hf e (hW e he)
    rcases Cn_del (Jn_self e) hc with h | ⟨h1, h2⟩ | ⟨h1, h2⟩
    · exact absurd h hn
    · have q1 := Cn_mono (Em_mono hW) h1
      have q2 := Cn_mono (Em_mono hW) h2
      exact Cn_trans (Cn_symm q1) (Cn_trans hcon (Cn_symm q2))
    · have q1 := Cn_mono (Em_mono hW) h1
      have q2 := Cn_mono (Em_mono hW) h2
      exact Cn_trans q2 (Cn_trans (Cn_symm hcon) q1)
  · rintro ⟨h1, h2⟩
    by_cases he : W e
    · exact he
    · exact absurd (Cn_mono (Em_of hW he) hc) h2
/-- what joins two points and is needed for it is their ring -/
theorem Rg_of {p q : Nat} (hW : ∀ l, W l → F l) (hc : Cn a b W p q) (hm : ∀ e, W e → ¬ Cn a b (Em F e) p q) : ∀ e, W e ↔ Rg a b F p q e := by
  intro e
  constructor
  · intro he; exact ⟨hW e he, hm e he⟩
  · rintro ⟨h1, h2⟩
    by_cases he : W e
    · exact he
    · exact absurd (Cn_mono (Em_of hW he) hc) h2
theorem Rg_step {p x y l : Nat} (hf : Fo a b F) (hl : F l) (j : Jn a b l x y) (hF : Cn a b F p x) (h : Cn a b (Rg a b F p x) p x) : Cn a b (Rg a b F p y) p y := by
  by_cases hs : Cn a b (Em F l) p x
  · have hl2 : Rg a b F p y l := ⟨hl, fun k => Fo_jn hf hl j (Cn_trans (Cn_symm hs) k)⟩
    have hsub : ∀ e, Rg a b F p x e → Rg a b F p y e := by
      rintro e ⟨h1, h2⟩
      refine ⟨h1, fun k => h2 (Cn_trans k ?_)⟩
      have : l ≠ e := fun q => h2 (q ▸ hs)
      exact Cn_symm (Cn_jn ⟨hl, this⟩ j)
    exact Cn_trans (Cn_mono hsub h) (Cn_jn hl2 j)
  · have hsub : ∀ e, Rg a b F p x e → Ep (Rg a b F p y) l e := by
      rintro e ⟨h1, h2⟩
      by_cases q : e = l
      · exact Or.inr q
      · refine Or.inl ⟨h1, fun k => h2 (Cn_trans k ?_)⟩
        exact Cn_symm (Cn_jn ⟨hl, fun r => q r.symm⟩ j)
    have hy : Cn a b (Em F l) p y := by
      rcases Cn_del j hF with h1 | ⟨h1, h2⟩ | ⟨h1, h2⟩
      · exact absurd h1 hs
      · exact absurd h1 hs
      · exact h1
    have hnl : ¬ Rg a b F p y l := fun k => k.2 hy
    have hin : ∀ e, Rg a b F p y e → Em F l e := fun e k => ⟨k.1, fun q => hnl (q ▸ k)⟩
    rcases Cn_add j (Cn_mono hsub h) with h1 | ⟨h1, h2⟩ | ⟨h1, h2⟩
    · exact absurd (Cn_mono hin h1) hs
    · exact absurd (Cn_mono hin h1) hs
    · exact h1
theorem Rg_conn {p q : Nat} (hf : Fo a b F) (h : Cn a b F p q) : Cn a b (Rg a b F p q) p q := by
  have := h (fun x => Cn a b F p x ∧ Cn a b (Rg a b F p x) p x) ⟨Cn_refl p, Cn_refl p⟩ (fun l hl => ⟨fun k => ⟨Cn_trans k.1 (Cn_edge hl), Rg_step hf hl (Jn_self l) k.1 k.2⟩, fun k => ⟨Cn_trans k.1 (Cn_edge' hl), Rg_step hf hl (Jn_symm (Jn_self l)) k.1 k.2⟩⟩)
  exact this.2
theorem Rg_min {p q e : Nat} (h : Rg a b F p q e) : ¬ Cn a b (Em (Rg a b F p q) e) p q := fun k => h.2 (Cn_mono (Em_mono (fun _ r => r.1)) k)
theorem Rg_ne {p q : Nat} (hf : Fo a b F) (h : Cn a b F p q) (hn : p ≠ q) : ∃ e, Rg a b F p q e := by
  by_cases k : ∃ e, Rg a b F p q e
  · exact k
  · exfalso
    have := Rg_conn hf h (fun x => x = p) rfl (fun l hl => absurd ⟨l, hl⟩ k)
    exact hn this.symm
theorem Cn_none {p q : Nat} (h : ∀ l, ¬ E l) (hc : Cn a b E p q) : p = q := (hc (fun x => x = p) rfl (fun l hl => absurd hl (h l))).symm
end
/-! how many pieces -/
def Rp (a b : Nat → Nat) (E : Nat → Prop) (p : Nat) : Prop := ∀ q, q < p → ¬ Cn a b E q p
theorem least_of (P : Nat → Prop) {n : Nat} (h : P n) : ∃ m, m ≤ n ∧ P m ∧ ∀ k, k < m → ¬ P k := by
  induction n using Nat.strongRecOn with
  | ind n ih =>
    by_cases q : ∃ k, k < n ∧ P k
    · obtain ⟨k, hk, hp⟩ := q
      obtain ⟨m, h1, h2, h3⟩ := ih k hk hp
      exact ⟨m, by omega, h2, h3⟩
    · exact ⟨n, Nat.le_refl n, h, fun k hk hp => q ⟨k, hk, hp⟩⟩
theorem Rp_ex (a b : Nat → Nat) (E : Nat → Prop) (p : Nat) : ∃ r, r ≤ p ∧ Rp a b E r ∧ Cn a b E r p := by
  obtain ⟨m, h1, h2, h3⟩ := least_of (fun r => Cn a b E r p) (Cn_refl p)
  exact ⟨m, h1, fun q hq k => h3 q hq (Cn_trans k h2), h2⟩
theorem Rp_uniq {a b : Nat → Nat} {E : Nat → Prop} {r s : Nat} (h1 : Rp a b E r) (h2 : Rp a b E s) (h : Cn a b E r s) : r = s := by
  rcases Nat.lt_trichotomy r s with q | q | q
  · exact absurd h (h2 r q)
  · exact q
  · exact absurd (Cn_symm h) (h1 s q)
theorem cnt_del {n r : Nat} {p : Nat → Prop} (hr : r < n) (hp : p r) : cnt n (fun i => p i ∧ i ≠ r) + 1 = cnt n p := by
  induction n with
  | zero => omega
  | succ n ih =>
    by_cases e : r = n
    · subst e
      rw [cnt_succ_t hp, cnt_succ_f (fun k => k.2 rfl)]
      rw [cnt_ext (p := fun i => p i ∧ i ≠ r) (q := p) (fun i hi => ⟨fun k => k.1, fun k => ⟨k, by omega⟩⟩)]
    · have := ih (by omega)
      by_cases hn : p n
      · rw [cnt_succ_t hn, cnt_succ_t (p := fun i => p i ∧ i ≠ r) ⟨hn, fun k => e k.symm⟩]; omega
      · rw [cnt_succ_f hn, cnt_succ_f (p := fun i => p i ∧ i ≠ r) (fun k => hn k.1)]; omega
theorem Rp_add {a b : Nat → Nat} {E : Nat → Prop} {e n : Nat} (ha : a e < n) (hb : b e < n) (hn : ¬ Cn a b E (a e) (b e)) : cnt n (Rp a b (Ep E e)) + 1 = cnt n (Rp a b E) := by
  obtain ⟨r1, l1, p1, c1⟩ := Rp_ex a b E (a e)
  obtain ⟨r2, l2, p2, c2⟩ := Rp_ex a b E (b e)
  have hne : r1 ≠ r2 := fun k => hn (Cn_trans (Cn_symm c1) (k ▸ c2))
  have gen : ∀ x y r s, Jn a b e x y → Rp a b E r → Rp a b E s → Cn a b E r x → Cn a b E s y → s < r → r < n → cnt n (Rp a b (Ep E e)) + 1 = cnt n (Rp a b E) := by
    intro x y r s j hr hs cr cs hlt hrn
    rw [← cnt_del hrn hr]
    congr 1
    apply cnt_ext
    intro p _
    have hsr : Cn a b (Ep E e) s r := Cn_trans (Cn_mono (fun _ => Or.inl) cs) (Cn_trans (Cn_jn (Or.inr rfl) (Jn_symm j)) (Cn_mono (fun _ => Or.inl) (Cn_symm cr)))
    constructor
    · intro hp
      refine ⟨fun q hq k => hp q hq (Cn_mono (fun _ => Or.inl) k), fun k => ?_⟩
      subst k
      exact hp s hlt hsr
    · rintro ⟨hp, hpr⟩ q hq k
      rcases Cn_add j k with h | ⟨h1, h2⟩ | ⟨h1, h2⟩
      · exact hp q hq h
      · have e1 : s = p := Rp_uniq hs hp (Cn_trans cs h2)
        have : Cn a b E r q := Cn_trans cr (Cn_symm h1)
        have hrq : r ≤ q := by
          rcases Nat.lt_or_ge q r with z | z
          · exact absurd (Cn_symm this) (hr q z)
          · exact z
        omega
      · have e1 : r = p := Rp_uniq hr hp (Cn_trans cr h2)
        exact hpr e1.symm
  rcases Nat.lt_or_gt_of_ne hne with q | q
  · exact gen (b e) (a e) r2 r1 (Jn_symm (Jn_self e)) p2 p1 c2 c1 q (by omega)
  · exact gen (a e) (b e) r1 r2 (Jn_self e) p1 p2 c1 c2 q (by omega)
theorem cnt_all {n : Nat} {p : Nat → Prop} (h : ∀ i, i < n → p i) : cnt n p = n := by
  induction n with
  | zero => rfl
  | succ n ih => rw [cnt_succ_t (h n (by omega)), ih (fun i hi => h i (by omega))]
theorem cnt_zero {n : Nat} {p : Nat → Prop} (h : ∀ i, i < n → ¬ p i) : cnt n p = 0 := by
  induction n with
  | zero => rfl
  | succ n ih => rw [cnt_succ_f (h n (by omega)), ih (fun i hi => h i (by omega))]
theorem Rp_count {a b : Nat → Nat} {n : Nat} (L : Nat) : ∀ (E : Nat → Prop), (∀ l, E l → l < L ∧ a l < n ∧ b l < n) → Fo a b E → cnt n (Rp a b E) + cnt L E = n := by
  induction L with
  | zero =>
    intro E hE _
    have : cnt n (Rp a b E) = n := cnt_all (fun i _ q hq k => by
      have := Cn_none (fun l hl => by have := (hE l hl).1; omega) k
      omega)
    rw [this]; rfl
  | succ L ih =>
    intro E hE hf
    by_cases hL : E L
    · have h1 := ih (Em E L) (fun l hl => by
        have := hE l hl.1
        have := hl.2
        exact ⟨by omega, (hE l hl.1).2⟩) (Fo_mono Em_sub hf)
      have h2 := Rp_add (a := a) (b := b) (E := Em E L) (e := L) (hE L hL).2.1 (hE L hL).2.2 (hf L hL)
      have h3 : cnt n (Rp a b (Ep (Em E L) L)) = cnt n (Rp a b E) := by
        apply cnt_ext
        intro i _
        have hc : ∀ l, Ep (Em E L) L l ↔ E l := fun l => ⟨fun k => by
          rcases k with k | k
          · exact k.1
          · exact k ▸ hL, Ep_Em l⟩
        exact ⟨fun k q hq c => k q hq ((Cn_congr hc).mpr c), fun k q hq c => k q hq ((Cn_congr hc).mp c)⟩
      have h4 : cnt L (Em E L) = cnt L E := cnt_ext (fun i hi => ⟨fun k => k.1, fun k => ⟨k, by omega⟩⟩)
      rw [cnt_succ_t hL]
      omega
    · rw [cnt_succ_f hL]
      exact ih E (fun l hl => by
        have := hE l hl
        have : l ≠ L := fun k => hL (k ▸ hl)
        exact ⟨by omega, (hE l hl).2⟩) hf
theorem Rp_one {a b : Nat → Nat} {E : Nat → Prop} {n : Nat} (hn : 0 < n) : cnt n (Rp a b E) = 1 ↔ ∀ p q, p < n → q < n → Cn a b E p q := by
  have h0 : Rp a b E 0 := fun q hq => by omega
  have hd := cnt_del hn h0
  constructor
  · intro h
    have hz : ∀ i, i < n → ¬ (Rp a b E i ∧ i ≠ 0) := by
      intro i hi hp
      have := cnt_del (p := fun i => Rp a b E i ∧ i ≠ 0) hi hp
      omega
    have key : ∀ p, p < n → Cn a b E 0 p := by
      intro p hp
      obtain ⟨r, h1, h2, h3⟩ := Rp_ex a b E p
      have : r = 0 := by
        by_cases k : r = 0
        · exact k
        · exact absurd ⟨h2, k⟩ (hz r (by omega))
      exact this ▸ h3
    exact fun p q hp hq => Cn_trans (Cn_symm (key p hp)) (key q hq)
  · intro h
    have : cnt n (fun i => Rp a b E i ∧ i ≠ 0) = 0 := cnt_zero (fun i hi k => k.1 0 (by omega) (h 0 i (by omega) hi))
    omega
