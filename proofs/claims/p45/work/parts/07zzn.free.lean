-- needs: 07zzm.bfs
/-! free forests, rings of a line: both; the class's search for a chain -/
noncomputable def lst (n : Nat) (p : Nat → Prop) : Nat := cnt n (fun i => ∀ j, j ≤ i → ¬ p j)
theorem cnt_lo (n m : Nat) (h : m ≤ n) (p : Nat → Prop) (h1 : ∀ i, i < m → p i) (h2 : ∀ i, m ≤ i → i < n → ¬ p i) : cnt n p = m := by
  induction n with
  | zero => have : m = 0 := by omega
            subst this; rfl
  | succ n ih =>
    by_cases e : m = n + 1
    · subst e; exact cnt_all h1
    · rw [cnt_succ_f (h2 n (by omega) (by omega)), ih (by omega) (fun i a b => h2 i a (by omega))]
theorem lst_at {n m : Nat} {p : Nat → Prop} (h : m < n) (hp : p m) (hl : ∀ j, j < m → ¬ p j) : lst n p = m :=
  cnt_lo n m (by omega) _ (fun i hi j hj => hl j (by omega)) (fun i hi _ k => k m hi hp)
theorem lst_no {n : Nat} {p : Nat → Prop} (hl : ∀ j, j < n → ¬ p j) : lst n p = n :=
  cnt_lo n n (Nat.le_refl n) _ (fun i hi j hj => hl j (by omega)) (fun i hi h => by omega)
theorem lst_sp {n : Nat} {p : Nat → Prop} (h : ∃ m, m < n ∧ p m) : lst n p < n ∧ p (lst n p) ∧ ∀ j, j < lst n p → ¬ p j := by
  obtain ⟨m, hm, hp⟩ := h
  obtain ⟨k, k1, k2, k3⟩ := least_of p hp
  rw [lst_at (by omega) k2 k3]
  exact ⟨by omega, k2, k3⟩
def gFf (G : GV) (x f : Nat) : Prop := gh G x ≠ (f : Int) ∧ grf G x f = 0
def gTx (G : GV) (x : Nat) : Prop := ∃ f, f < gk G ∧ gFf G x f
noncomputable def gfr (G : GV) (x : Nat) : Int := if dc (gTx G x) then ((lst (gk G) (gFf G x) : Nat) : Int) else -1
def gNx (G : GV) (x y : Nat) : Prop := ∃ f : Nat, f < gk G ∧ gh G x ≠ (f : Int) ∧ (grf G x f).testBit y = true
theorem gNx_lt {G : GV} {x y : Nat} (h : gNx G x y) : y < gL G := by
  obtain ⟨f, _, _, h3⟩ := h
  rw [grf_bit] at h3
  exact h3.2.1.1
theorem gNx_home {G : GV} {x y : Nat} (h : gNx G x y) : 0 ≤ gh G y := by
  obtain ⟨f, _, _, h3⟩ := h
  rw [grf_bit] at h3
  have : gh G y = (f : Int) := h3.2.1.2
  omega
theorem gfr_r {G : GV} (hG : GOK G) (x : Nat) : -1 ≤ gfr G x ∧ gfr G x < gk G ∧ (gfr G x = -1 ↔ ¬ gTx G x) := by
  unfold gfr
  by_cases h : gTx G x
  · rw [idt h]
    have := (lst_sp (n := gk G) (p := gFf G x) h).1
    exact ⟨by omega, by omega, ⟨fun k => by omega, fun k => absurd h k⟩⟩
  · rw [idf h]
    have := hG.1
    exact ⟨by omega, by omega, ⟨fun _ => h, fun _ => rfl⟩⟩
section
variable {N M : ZB} {G : GV}
theorem Ch_freeForest (hN : RN N G) (hG : GOK G) {x : Nat} (hx : x < gL G) (Ch : ZB) : ∃ w, fCh_freeForest N Ch (x : Int) = some (gfr G x, (Ch.1, ua Ch.2 1 w)) := by
  have hb := hG.1
  have hv := hG.2.1 x hx
  have main : wp (fCh_freeForest N Ch (x : Int)) (fun r => ∃ w, r = (gfr G x, (Ch.1, ua Ch.2 1 w))) := by
    unfold fCh_freeForest
    refine lop2_w (fun v2 C => ∃ (f : Nat) (w : Nat → Int), v2 = (f : Int) ∧ C = (Ch.1, ua Ch.2 1 w) ∧ f ≤ gk G ∧ ∀ j, j < f → ¬ gFf G x j) (fun v2 _ => gk G - v2.toNat) ?_ FU _ _ ⟨0, Ch.2 1, rfl, by rw [ua_self], by omega, fun j hj => absurd hj (Nat.not_lt_zero j)⟩ (by show gk G - _ < 100000; omega)
    intro rec v2 C hI hrec
    obtain ⟨f, w, rfl, rfl, hf, hno⟩ := hI
    simp only [kf1, hN.2.2.1]
    rw [nmn (by omega), nmn (by omega)]
    by_cases hfk : f < gk G
    · obtain ⟨w2, hw2⟩ := Ch_ringOf hN hG hx (f := (f : Int)) (by omega) (by omega) (Ch.1, ua Ch.2 1 w)
      rw [if_pos (by omega), rdn (by omega), (hN.2.2.2.2.2 x hx).2.2.2, nmh hG hx, hw2, bds, nmn (grf_lt hG)]
      simp only [ua_up]
      by_cases e : gh G x = (f : Int)
      · rw [if_pos e]
        refine hrec _ _ ⟨f+1, w, by omega, rfl, by omega, fun j hj => ?_⟩ (by omega)
        by_cases q : j = f
        · subst q; exact fun k => k.1 e
        · exact hno j (by omega)
      · rw [if_neg e]
        by_cases z : grf G x f = 0
        · rw [if_pos (by omega)]
          refine ⟨_, rfl, w2, ?_⟩
          unfold gfr
          rw [idt (p := gTx G x) ⟨f, hfk, e, z⟩, lst_at hfk ⟨e, z⟩ hno]
        · rw [if_neg (by omega)]
          refine hrec _ _ ⟨f+1, w2, by omega, rfl, by omega, fun j hj => ?_⟩ (by omega)
          by_cases q : j = f
          · subst q; exact fun k => z k.2
          · exact hno j (by omega)
    · rw [if_neg (by omega)]
      refine ⟨_, rfl, w, ?_⟩
      unfold gfr
      rw [idf (p := gTx G x) (fun ⟨j, hj, hp⟩ => hno j (by omega) hp)]
  obtain ⟨r, h1, w, h2⟩ := main
  exact ⟨w, by rw [h1, h2]⟩
theorem Ch_allRings (hN : RN N G) (hG : GOK G) {x : Nat} (hx : x < gL G) (Ch : ZB) : ∃ w, fCh_allRings N Ch (x : Int) = some (((bs (gL G) (gNx G x) : Nat) : Int), (Ch.1, ua Ch.2 1 w)) := by
  have hb := hG.1
  have hv := hG.2.1 x hx
  have main : wp (fCh_allRings N Ch (x : Int)) (fun r => ∃ w, r = (((bs (gL G) (gNx G x) : Nat) : Int), (Ch.1, ua Ch.2 1 w))) := by
    unfold fCh_allRings
    refine lop3_w (fun v2 v3 C => ∃ (f : Nat) (w : Nat → Int), v2 = ((bs (gL G) (fun y => ∃ g : Nat, g < f ∧ gh G x ≠ (g : Int) ∧ (grf G x g).testBit y = true) : Nat) : Int) ∧ v3 = (f : Int) ∧ C = (Ch.1, ua Ch.2 1 w) ∧ f ≤ gk G) (fun _ v3 _ => gk G - v3.toNat) ?_ FU _ _ _ ⟨0, Ch.2 1, ?_, rfl, by rw [ua_self], by omega⟩ (by show gk G - _ < 100000; omega)
    · intro rec v2 v3 C hI hrec
      obtain ⟨f, w, rfl, rfl, rfl, hf⟩ := hI
      simp only [kf2, hN.2.2.1]
      rw [nmn (by omega), nmn (by omega)]
      by_cases hfk : f < gk G
      · obtain ⟨w2, hw2⟩ := Ch_ringOf hN hG hx (f := (f : Int)) (by omega) (by omega) (Ch.1, ua Ch.2 1 w)
        rw [if_pos (by omega), rdn (by omega), (hN.2.2.2.2.2 x hx).2.2.2, nmh hG hx, hw2, bds]
        simp only [ua_up]
        by_cases e : gh G x = (f : Int)
        · rw [if_pos e]
          refine hrec _ _ _ ⟨f+1, w, ?_, by omega, rfl, by omega⟩ (by omega)
          congr 1
          apply bs_ext; intro y _
          constructor
          · rintro ⟨g, h1, h2⟩; exact ⟨g, by omega, h2⟩
          · rintro ⟨g, h1, h2⟩
            refine ⟨g, ?_, h2⟩
            by_cases q : g = f
            · subst q; exact absurd e h2.1
            · omega
        · rw [if_neg e, lt_e, zorn (bs_lt31 (by omega)) (grf_lt hG)]
          refine hrec _ _ _ ⟨f+1, w2, ?_, by omega, rfl, by omega⟩ (by omega)
          congr 1
          apply nat_ext; intro y
          rw [Nat.testBit_or, Bool.or_eq_true, bs_bit, bs_bit]
          constructor
          · rintro (⟨h0, g, h1, h2⟩ | h)
            · exact ⟨h0, g, by omega, h2⟩
            · exact ⟨by rw [grf_bit] at h; exact h.2.1.1, f, by omega, e, h⟩
          · rintro ⟨h0, g, h1, h2⟩
            by_cases q : g = f
            · subst q; exact Or.inr h2.2
            · exact Or.inl ⟨h0, g, by omega, h2⟩
      · rw [if_neg (by omega)]
        refine ⟨_, rfl, w, ?_⟩
        have : f = gk G := by omega
        subst this; rfl
    · have : bs (gL G) (fun y => ∃ g : Nat, g < 0 ∧ gh G x ≠ (g : Int) ∧ (grf G x g).testBit y = true) = 0 := bs_zero.mpr (fun i _ ⟨g, h, _⟩ => by omega)
      rw [this]; rfl
  obtain ⟨r, h1, w, h2⟩ := main
  exact ⟨w, by rw [h1, h2]⟩
end
theorem inj_cnt {L : Nat} {q : Nat → Nat} (m : Nat) (h1 : ∀ j, j < m → q j < L) (h2 : ∀ j j', j < m → j' < m → q j = q j' → j = j') : cnt L (fun z => ∃ j, j < m ∧ q j = z) = m := by
  induction m with
  | zero => exact cnt_zero (fun i _ ⟨j, h, _⟩ => by omega)
  | succ m ih =>
    have a := ih (fun j hj => h1 j (by omega)) (fun j j' a b => h2 j j' (by omega) (by omega))
    have hd := cnt_del (n := L) (r := q m) (p := fun z => ∃ j, j < m + 1 ∧ q j = z) (h1 m (by omega)) ⟨m, by omega, rfl⟩
    rw [← hd]
    congr 1
    refine Eq.trans ?_ a
    apply cnt_ext
    intro z _
    constructor
    · rintro ⟨⟨j, hj, hz⟩, hne⟩
      refine ⟨j, ?_, hz⟩
      by_cases e : j = m
      · subst e; exact absurd hz.symm hne
      · omega
    · rintro ⟨j, hj, hz⟩
      refine ⟨⟨j, by omega, hz⟩, fun e => ?_⟩
      have := h2 j m (by omega) (by omega) (by rw [hz, e])
      omega
theorem cnt_full {n : Nat} {p : Nat → Prop} (h : cnt n p = n) : ∀ i, i < n → p i := by
  intro i hi
  by_cases k : p i
  · exact k
  · exfalso
    have := cnt_lt (n := n) (i := i) (p := p) (q := fun _ => True) (fun _ _ _ => trivial) hi trivial k
    have := cnt_le n (fun _ => True)
    omega
theorem inj_le {L m : Nat} {q : Nat → Nat} (h1 : ∀ j, j < m → q j < L) (h2 : ∀ j j', j < m → j' < m → q j = q j' → j = j') : m ≤ L := by
  have := inj_cnt m h1 h2
  have := cnt_le L (fun z => ∃ j, j < m ∧ q j = z)
  omega
