-- needs: 07zzz52.lawacts
/-! a blocked line's crowd: in each forest its points hang together, so there lie too many lines -/
theorem cnt_one {n : Nat} {p : Nat → Prop} (h : ∀ i j, i < n → j < n → p i → p j → i = j) : cnt n p ≤ 1 := by
  by_cases q : ∃ i, i < n ∧ p i
  · obtain ⟨i, hi, hp⟩ := q
    have h1 := cnt_del hi hp
    have h2 : cnt n (fun j => p j ∧ j ≠ i) = 0 := cnt_zero (fun j hj k => k.2 (h j i hj hi k.1 hp))
    omega
  · rw [cnt_zero (fun i hi k => q ⟨i, hi, k⟩)]; omega
/-- points that hang together by lines W: at least so many lines as points, less one -/
theorem join_cnt {a b : Nat → Nat} {n L : Nat} {W C : Nat → Prop} (hW : ∀ l, W l → l < L ∧ a l < n ∧ b l < n) (hC : ∀ x y, x < n → y < n → C x → C y → Cn a b W x y) : cnt n C ≤ cnt L W + 1 := by
  have h1 := Rp_ge L W hW
  have h2 : cnt n (Rp a b W) ≤ cnt n (fun x => Rp a b W x ∧ C x) + cnt n (fun x => ¬ C x) := by
    have h3 := cnt_add (n := n) (p := fun x => Rp a b W x ∧ C x) (q := fun x => Rp a b W x ∧ ¬ C x) (r := Rp a b W) (fun i _ => ⟨fun h => (Classical.em (C i)).elim (fun k => Or.inl ⟨h, k⟩) (fun k => Or.inr ⟨h, k⟩), fun h => h.elim (fun k => k.1) (fun k => k.1)⟩) (fun i _ h k => k.2 h.2)
    have h4 : cnt n (fun x => Rp a b W x ∧ ¬ C x) ≤ cnt n (fun x => ¬ C x) := cnt_mono (fun i _ h => h.2)
    omega
  have h3 : cnt n (fun x => Rp a b W x ∧ C x) ≤ 1 := cnt_one (fun i j hi hj p q => Rp_uniq p.1 q.1 (hC i j hi hj p.2 q.2))
  have h4 := cnt_compl n C
  omega
section
variable {G : GV}
theorem RC_self {E : Nat → Nat → Nat → Prop} {l : Nat} : RC E l l := fun _ h _ => h
theorem RC_step {E : Nat → Nat → Nat → Prop} {l x c y : Nat} (h : RC E l x) (e : E x c y) : RC E l y := fun C h1 h2 => h2 x c y (h C h1 h2) e
/-- the lines that a blocked line comes to: sound, blocked themselves -/
theorem RC_block (hG : GOK G) {l : Nat} (hl : l < gL G) (hls : ¬ gbr G l) (hb : ∀ k, ¬ DW (gE G) (gT G) k l) {x : Nat} (h : RC (gE G) l x) : x < gL G ∧ ¬ gbr G x ∧ ∀ k, ¬ DW (gE G) (gT G) k x :=
  h (fun x => x < gL G ∧ ¬ gbr G x ∧ ∀ k, ¬ DW (gE G) (gT G) k x) ⟨hl, hls, hb⟩ (fun x c y hx e => ⟨(gE_sound hG e.2.2.2).1, (gE_sound hG e.2.2.2).2, fun k hk => hx.2.2 (k+1) ⟨c, y, e, hk⟩⟩)
/-- in each forest the lines that are come to join each one's ends -/
theorem RC_ends (hG : GOK G) {l : Nat} (hl : l < gL G) (hls : ¬ gbr G l) (hb : ∀ k, ¬ DW (gE G) (gT G) k l) {f : Nat} (hf : f < gk G) {x : Nat} (h : RC (gE G) l x) : Cn (ga G) (gb G) (fun e => RC (gE G) l e ∧ InF G (f : Int) e) (ga G x) (gb G x) := by
  obtain ⟨h1, h2, h3⟩ := RC_block hG hl hls hb h
  by_cases e : gh G x = (f : Int)
  · exact Cn_edge (E := fun e => RC (gE G) l e ∧ InF G (f : Int) e) ⟨h, h1, e⟩
  · have hz : ¬ grf G x (f : Int) = 0 := fun z => h3 0 ⟨h1, h2, f, hf, e, z⟩
    have hc : Cn (ga G) (gb G) (InF G (f : Int)) (ga G x) (gb G x) := by
      by_cases q : Cn (ga G) (gb G) (InF G (f : Int)) (ga G x) (gb G x)
      · exact q
      · exact absurd ((grf_zero hG h1 (by omega)).mpr q) hz
    refine Cn_mono ?_ (Rg_conn (hG.2.2.2 f (by omega)) hc)
    intro y hy
    exact ⟨RC_step h (c := y) ⟨rfl, h1, h2, f, hf, e, grf_bit.mpr ⟨hc, hy⟩⟩, hy.1⟩
theorem Rg_first {a b : Nat → Nat} {F : Nat → Prop} {p q y : Nat} (hf : Fo a b F) (hc : Cn a b F p q) (hy : Rg a b F p q y) : Cn a b (Rg a b F p q) p (a y) := by
  have h1 := Rg_conn hf hc
  rcases Cn_del (Jn_self y) h1 with z | ⟨z, _⟩ | ⟨z, _⟩
  · exact absurd z (Rg_min hy)
  · exact Cn_mono Em_sub z
  · exact Cn_trans (Cn_mono Em_sub z) (Cn_edge' (E := Rg a b F p q) hy)
/-- all that is come to hangs together, in each forest -/
theorem RC_join (hG : GOK G) {l : Nat} (hl : l < gL G) (hls : ¬ gbr G l) (hb : ∀ k, ¬ DW (gE G) (gT G) k l) {f : Nat} (hf : f < gk G) {x : Nat} (h : RC (gE G) l x) : Cn (ga G) (gb G) (fun e => RC (gE G) l e ∧ InF G (f : Int) e) (ga G l) (ga G x) := by
  have lift : ∀ p q, Cn (ga G) (gb G) (RC (gE G) l) p q → Cn (ga G) (gb G) (fun e => RC (gE G) l e ∧ InF G (f : Int) e) p q := by
    intro p q hc
    refine hc (fun z => Cn (ga G) (gb G) (fun e => RC (gE G) l e ∧ InF G (f : Int) e) p z) (Cn_refl p) (fun e he => ?_)
    have h1 := RC_ends hG hl hls hb hf he
    exact ⟨fun k => Cn_trans k h1, fun k => Cn_trans k (Cn_symm h1)⟩
  apply lift
  refine (h (fun x => RC (gE G) l x ∧ Cn (ga G) (gb G) (RC (gE G) l) (ga G l) (ga G x)) ⟨RC_self, Cn_refl _⟩ ?_).2
  rintro x c y ⟨hx, hxc⟩ ⟨rfl, g1, g2, g, g3, g4, g5⟩
  have hy : RC (gE G) l c := RC_step hx (c := c) ⟨rfl, g1, g2, g, g3, g4, g5⟩
  refine ⟨hy, Cn_trans hxc ?_⟩
  obtain ⟨k1, k2⟩ := grf_bit.mp g5
  refine Cn_mono ?_ (Rg_first (hG.2.2.2 g (by omega)) k1 k2)
  intro z hz
  exact RC_step hx (c := z) ⟨rfl, g1, g2, g, g3, g4, grf_bit.mpr ⟨k1, hz⟩⟩
theorem crw_bit {k x : Nat} {p : Nat → Prop} : (crw G k p).testBit x = true ↔ x < gn G ∧ ∃ e, e < k ∧ p e ∧ (x = ga G e ∨ x = gb G e) := bs_bit _ _ _
theorem crw_lt (G : GV) (k : Nat) (p : Nat → Prop) : crw G k p < 2 ^ gn G := bs_lt _ _
/-- a blocked line's crowd is full of lines that lie -/
theorem crowd_ful (hG : GOK G) {l : Nat} (hl : l < gL G) (hls : ¬ gbr G l) (hb : ∀ k, ¬ DW (gE G) (gT G) k l) : gk G * (ppc (crw G (gL G) (RC (gE G) l)) - 1) ≤ cnt (gL G) (fun e => RC (gE G) l e ∧ lieS G e) := by
  have hbd := hG.1
  have hlt := crw_lt G (gL G) (RC (gE G) l)
  have hpp := ppc_cnt (n := gn G) (by omega) hlt
  have one : ∀ f : Nat, f < gk G → ppc (crw G (gL G) (RC (gE G) l)) - 1 ≤ cnt (gL G) (fun e => RC (gE G) l e ∧ gh G e = (f : Int)) := by
    intro f hf
    have hend : ∀ x, (crw G (gL G) (RC (gE G) l)).testBit x = true → Cn (ga G) (gb G) (fun e => RC (gE G) l e ∧ InF G (f : Int) e) (ga G l) x := by
      intro x hx
      obtain ⟨_, e, e1, e2, e3⟩ := crw_bit.mp hx
      have j1 := RC_join hG hl hls hb hf e2
      rcases e3 with rfl | rfl
      · exact j1
      · exact Cn_trans j1 (RC_ends hG hl hls hb hf e2)
    have h := join_cnt (a := ga G) (b := gb G) (n := gn G) (L := gL G) (W := fun e => RC (gE G) l e ∧ InF G (f : Int) e) (C := fun x => (crw G (gL G) (RC (gE G) l)).testBit x = true) (fun e he => ⟨he.2.1, (hG.2.1 e he.2.1).1, (hG.2.1 e he.2.1).2.1⟩) (fun x y _ _ hx hy => Cn_trans (Cn_symm (hend x hx)) (hend y hy))
    rw [hpp]
    have h2 : cnt (gL G) (fun e => RC (gE G) l e ∧ InF G (f : Int) e) = cnt (gL G) (fun e => RC (gE G) l e ∧ gh G e = (f : Int)) := cnt_ext (fun i hi => ⟨fun h => ⟨h.1, h.2.2⟩, fun h => ⟨h.1, hi, h.2⟩⟩)
    omega
  have all : ∀ f : Nat, f ≤ gk G → f * (ppc (crw G (gL G) (RC (gE G) l)) - 1) ≤ cnt (gL G) (fun e => RC (gE G) l e ∧ (0 ≤ gh G e ∧ gh G e < (f : Int))) := by
    intro f
    induction f with
    | zero => intro _; rw [Nat.zero_mul]; exact Nat.zero_le _
    | succ f ih =>
      intro hf
      have h1 := ih (by omega)
      have h2 := one f (by omega)
      have h3 := cnt_add (n := gL G) (p := fun e => RC (gE G) l e ∧ (0 ≤ gh G e ∧ gh G e < (f : Int))) (q := fun e => RC (gE G) l e ∧ gh G e = (f : Int)) (r := fun e => RC (gE G) l e ∧ (0 ≤ gh G e ∧ gh G e < ((f + 1 : Nat) : Int))) (fun i _ => ⟨fun h => by
        by_cases z : gh G i = (f : Int)
        · exact Or.inr ⟨h.1, z⟩
        · exact Or.inl ⟨h.1, by omega⟩, fun h => by
        rcases h with h | h
        · exact ⟨h.1, by omega⟩
        · exact ⟨h.1, by omega⟩⟩) (fun i _ h k => by have := h.2; have := k.2; omega)
      rw [Nat.succ_mul]
      omega
  have h := all (gk G) (Nat.le_refl _)
  refine Nat.le_trans h (cnt_mono (fun i hi k => ⟨k.1, ?_⟩))
  unfold lieS
  omega
theorem RC_in (hG : GOK G) {l : Nat} (hl : l < gL G) (hls : ¬ gbr G l) (hb : ∀ k, ¬ DW (gE G) (gT G) k l) {x : Nat} (h : RC (gE G) l x) : inE G x (crw G (gL G) (RC (gE G) l)) := by
  have h1 := (RC_block hG hl hls hb h).1
  have hv := hG.2.1 x h1
  exact ⟨crw_bit.mpr ⟨hv.1, x, h1, h, Or.inl rfl⟩, crw_bit.mpr ⟨hv.2.1, x, h1, h, Or.inr rfl⟩⟩
/-- .. of lines that lie; with the line itself there are too many -/
theorem crowd_lie (hG : GOK G) {l : Nat} (hl : l < gL G) (hls : ¬ gbr G l) (hb : ∀ k, ¬ DW (gE G) (gT G) k l) : Ful G (gk G) (lieS G) (crw G (gL G) (RC (gE G) l)) :=
  Nat.le_trans (crowd_ful hG hl hls hb) (cnt_mono (fun i _ k => ⟨k.2, RC_in hG hl hls hb k.1⟩))
theorem crowd_many (hG : GOK G) {l : Nat} (hl : l < gL G) (hls : ¬ gbr G l) (hh : gh G l = -1) (hb : ∀ k, ¬ DW (gE G) (gT G) k l) : gk G * (ppc (crw G (gL G) (RC (gE G) l)) - 1) < inn G (snd_ G) (crw G (gL G) (RC (gE G) l)) := by
  refine Nat.lt_of_le_of_lt (crowd_ful hG hl hls hb) (cnt_lt (i := l) (fun i hi k => ⟨(RC_block hG hl hls hb k.1).2.1, RC_in hG hl hls hb k.1⟩) hl ⟨hls, RC_in hG hl hls hb RC_self⟩ (fun k => k.2 hh))
end
