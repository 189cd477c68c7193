-- needs: 07zze.reach
/-! the reference's joined, ringIn; pieces of both -/
def rpv (G : GV) (S R : Nat) : Nat → Nat
  | 0 => 0
  | t + 1 => rit G S R t
section
variable {N M : ZB} {G : GV}
theorem M_joined (hR : RW (M.2 12) G) (hG : GOK G) {p S : Nat} (hp : p < gn G) (hS : S < 2147483648) : fM_joined M (p : Int) (S : Int) = some ((bs (gn G) (Ca G S p) : Nat) : Int) := by
  have hb := hG.1
  obtain ⟨m, hm1, hm2, hm3, hm4⟩ := rit_ex hG S hp
  rw [← hm3]
  unfold fM_joined
  rw [zshln (by omega), lt_e]
  have hlt := rit_lt hG (S := S) hp
  have hlt31 : ∀ t, rit G S (2 ^ p) t < 2147483648 := fun t => Nat.lt_trans (hlt t) (p2_lt31 (by omega))
  refine lop2_s (m+1) (fun t => ((rit G S (2 ^ p) t : Nat) : Int)) (fun t => ((rpv G S (2 ^ p) t : Nat) : Int)) ?_ ?_ (by omega) rfl rfl
  · intro rec t ht hr
    have hne : rit G S (2 ^ p) t ≠ rpv G S (2 ^ p) t := by
      cases t with
      | zero => show 2 ^ p ≠ 0; have := Nat.two_pow_pos p; omega
      | succ t => exact hm4 t (by omega)
    have hl2 : rpv G S (2 ^ p) t < 2147483648 := by
      cases t with
      | zero => exact (by decide : 0 < 2147483648)
      | succ t => exact hlt31 t
    simp only [kf1]
    rw [nmn (hlt31 t), nmn hl2, if_neg (by omega)]
    refine lop2_s (gL G) (fun k => ((rps G S (rit G S (2 ^ p) t) k : Nat) : Int)) (fun k => (k : Int)) ?_ ?_ (by omega) rfl rfl
    · intro rec2 k hk hr2
      have hq := rps_lt31 hG (S := S) (hlt t) (k := k) (by omega)
      rw [M_lines hR, bds, nmn (by omega), nmn (by omega), if_pos (by omega), M_has hS (by omega), bds, M_ends hR hG hk, bds, zandn (gen_lt31 hG hk) hq]
      simp only [bds]
      rw [lt_e, zorn hq (gen_lt31 hG hk)]
      unfold rps at hr2
      by_cases hs : S.testBit k = true
      · rw [hs, if_neg (by decide)]
        by_cases hz : gen G k &&& rps G S (rit G S (2 ^ p) t) k = 0
        · rw [if_pos (by omega)]
          rw [if_neg (fun z => z.2 hz)] at hr2
          exact hr2
        · rw [if_neg (by omega)]
          rw [if_pos ⟨hs, hz⟩] at hr2
          exact hr2
      · rw [if_neg (fun z => hs z.1)] at hr2
        have : S.testBit k = false := by simp [hs]
        rw [this, if_pos (by decide)]
        exact hr2
    · intro rec2
      rw [M_lines hR, bds, nmn (by omega), if_neg (by omega)]
      exact hr
  · intro rec
    show (if nm ((rit G S (2 ^ p) (m+1) : Nat) : Int) = nm ((rit G S (2 ^ p) m : Nat) : Int) then some ((rit G S (2 ^ p) (m+1) : Nat) : Int) else _) = _
    rw [hm2, if_pos rfl]
noncomputable def grg (G : GV) (S p q : Nat) : Nat := bs (gL G) (fun e => Ca G S p q ∧ S.testBit e = true ∧ ¬ Ca G (ndf S (2 ^ e)) p q)
theorem M_ringIn (hR : RW (M.2 12) G) (hG : GOK G) {l S : Nat} (hl : l < gL G) (hS : S < 2147483648) : fM_ringIn M (l : Int) (S : Int) = some ((grg G S (ga G l) (gb G l) : Nat) : Int) := by
  have hb := hG.1
  have hv := hG.2.1 l hl
  have ha := hR.2.2.2 l hl
  unfold fM_ringIn
  rw [rd3 (by omega), rd27 (by omega), ha.1, ha.2.1, M_joined hR hG hv.1 hS, bds, M_has (bs_lt31 (by omega)) (by omega), bds]
  by_cases hc : Ca G S (ga G l) (gb G l)
  · rw [(bs_bit _ _ _).mpr ⟨hv.2.1, hc⟩, if_neg (by decide)]
    have hrw : grg G S (ga G l) (gb G l) = bs (gL G) (fun e => S.testBit e = true ∧ ¬ Ca G (ndf S (2 ^ e)) (ga G l) (gb G l)) := bs_ext (fun i _ => ⟨fun k => k.2, fun k => ⟨hc, k⟩⟩)
    rw [hrw]
    refine lop2_s (gL G) (fun k => ((bs k (fun e => S.testBit e = true ∧ ¬ Ca G (ndf S (2 ^ e)) (ga G l) (gb G l)) : Nat) : Int)) (fun k => (k : Int)) ?_ ?_ (by omega) rfl rfl
    · intro rec k hk hr
      simp only [kf1]
      rw [M_lines hR, bds, nmn (by omega), nmn (by omega), if_pos (by omega), M_has hS (by omega), bds]
      by_cases hs : S.testBit k = true
      · have hS2 : ndf S (2 ^ k) < 2147483648 := Nat.lt_of_le_of_lt (ndf_le _ _) hS
        rw [hs, if_neg (by decide), zshln (by omega), zcompn hS (p2_lt31 (by omega)), M_joined hR hG hv.1 hS2, bds, M_has (bs_lt31 (by omega)) (by omega), bds]
        by_cases hq : Ca G (ndf S (2 ^ k)) (ga G l) (gb G l)
        · rw [(bs_bit _ _ _).mpr ⟨hv.2.1, hq⟩, if_neg (by decide)]
          rw [bs_succ_f (p := fun e => S.testBit e = true ∧ ¬ Ca G (ndf S (2 ^ e)) (ga G l) (gb G l)) (fun z => z.2 hq)] at hr
          exact hr
        · have : (bs (gn G) (Ca G (ndf S (2 ^ k)) (ga G l))).testBit (gb G l) = false := by
            rw [← Bool.not_eq_true, bs_bit]; exact fun z => hq z.2
          rw [this, if_pos (by decide), lt_e, zorn (bs_lt31 (by omega)) (p2_lt31 (by omega)), ← bs_succ_t (p := fun e => S.testBit e = true ∧ ¬ Ca G (ndf S (2 ^ e)) (ga G l) (gb G l)) ⟨hs, hq⟩]
          exact hr
      · have : S.testBit k = false := by simp [hs]
        rw [this, if_pos (by decide)]
        rw [bs_succ_f (p := fun e => S.testBit e = true ∧ ¬ Ca G (ndf S (2 ^ e)) (ga G l) (gb G l)) (fun z => hs z.1)] at hr
        exact hr
    · intro rec
      rw [M_lines hR, bds, nmn (by omega), if_neg (by omega)]
  · have : (bs (gn G) (Ca G S (ga G l))).testBit (gb G l) = false := by
      rw [← Bool.not_eq_true, bs_bit]; exact fun z => hc z.2
    rw [this, if_pos (by decide)]
    have : grg G S (ga G l) (gb G l) = 0 := bs_zero.mpr (fun i _ k => hc k.1)
    rw [this]; rfl
theorem Eb_forest {f : Int} : ∀ l, Eb G (bs (gL G) (fun l => gh G l = f)) l ↔ InF G f l := by
  intro l
  unfold Eb InF
  rw [bs_bit]
  exact ⟨fun k => k.2, fun k => ⟨k.1, k⟩⟩
theorem Eb_ndf {S e : Nat} : ∀ l, Eb G (ndf S (2 ^ e)) l ↔ Em (Eb G S) e l := by
  intro l
  unfold Eb Em
  rw [ndf_bit, Bool.and_eq_true, Bool.not_eq_true', ← Bool.not_eq_true, Nat.testBit_two_pow, decide_eq_true_iff]
  exact ⟨fun k => ⟨⟨k.1, k.2.1⟩, fun z => k.2.2 z.symm⟩, fun k => ⟨k.1.1, k.1.2, fun z => k.2 z.symm⟩⟩
/-- the ring of a line in a forest -/
noncomputable def grf (G : GV) (l : Nat) (f : Int) : Nat := bs (gL G) (fun e => Cn (ga G) (gb G) (InF G f) (ga G l) (gb G l) ∧ Rg (ga G) (gb G) (InF G f) (ga G l) (gb G l) e)
theorem grg_forest {f : Int} {l : Nat} : grg G (bs (gL G) (fun l => gh G l = f)) (ga G l) (gb G l) = grf G l f := by
  apply bs_ext
  intro e he
  unfold Ca Rg
  rw [Cn_congr (Eb_forest (G := G) (f := f)), bs_bit]
  have h2 : ∀ x, Eb G (ndf (bs (gL G) (fun l => gh G l = f)) (2 ^ e)) x ↔ Em (InF G f) e x := by
    intro x
    rw [Eb_ndf]
    exact ⟨fun k => ⟨(Eb_forest x).mp k.1, k.2⟩, fun k => ⟨(Eb_forest x).mpr k.1, k.2⟩⟩
  rw [Cn_congr h2]
  rfl
theorem M_ringF (hR : RW (M.2 12) G) (hG : GOK G) {l : Nat} (hl : l < gL G) {f : Int} (hf : -2147483648 ≤ f ∧ f < 2147483648) : bd (fM_inForest M f) (fun s => fM_ringIn M (l : Int) s) = some ((grf G l f : Nat) : Int) := by
  have hb := hG.1
  rw [M_inForest hR hG hf, bds, M_ringIn hR hG hl (bs_lt31 (by omega)), grg_forest]
theorem M_ringF' (hR : RW (M.2 12) G) (hG : GOK G) {l : Nat} (hl : l < gL G) {f : Int} : fM_ringIn M (l : Int) ((bs (gL G) (fun l => gh G l = f) : Nat) : Int) = some ((grf G l f : Nat) : Int) := by
  have hb := hG.1
  rw [M_ringIn hR hG hl (bs_lt31 (by omega)), grg_forest]
theorem grf_lt (hG : GOK G) {l : Nat} {f : Int} : grf G l f < 2147483648 := bs_lt31 (by have := hG.1; omega)
theorem grf_zero (hG : GOK G) {l : Nat} (hl : l < gL G) {f : Int} (hf : 0 ≤ f) : grf G l f = 0 ↔ ¬ Cn (ga G) (gb G) (InF G f) (ga G l) (gb G l) := by
  have hv := hG.2.1 l hl
  unfold grf
  rw [bs_zero]
  constructor
  · intro h hc
    obtain ⟨e, he⟩ := Rg_ne (hG.2.2.2 f hf) hc hv.2.2.1
    exact h e he.1.1 ⟨hc, he⟩
  · intro h i _ k; exact h k.1
theorem grf_bit {l e : Nat} {f : Int} : (grf G l f).testBit e = true ↔ Cn (ga G) (gb G) (InF G f) (ga G l) (gb G l) ∧ Rg (ga G) (gb G) (InF G f) (ga G l) (gb G l) e := by
  unfold grf
  rw [bs_bit]
  exact ⟨fun k => k.2, fun k => ⟨k.2.1.1, k⟩⟩
/-! pieces -/
noncomputable def gpc (G : GV) (S : Nat) : Nat := cnt (gn G) (Rp (ga G) (gb G) (Eb G S))
theorem N_pieces (hR : RN N G) (hG : GOK G) {S : Nat} (hS : S < 2147483648) : fN_pieces N (S : Int) = some ((gpc G S : Nat) : Int) := by
  have hb := hG.1
  have h4 := hR.1
  unfold fN_pieces gpc
  refine lop3_s (gn G) (fun i => ((cnt i (Rp (ga G) (gb G) (Eb G S)) : Nat) : Int)) (fun i => ((bs (gn G) (fun x => ∃ q, q < i ∧ Ca G S q x) : Nat) : Int)) (fun i => (i : Int)) ?_ ?_ (by omega) rfl ?_ rfl
  · intro rec k hk hr
    simp only [h4, kf2]
    rw [nmn (by omega), nmn (by omega), if_pos (by omega), zbit (bs_lt31 (by omega)) (by omega)]
    by_cases hq : Rp (ga G) (gb G) (Eb G S) k
    · have : (bs (gn G) (fun x => ∃ q, q < k ∧ Ca G S q x)).testBit k = false := by
        rw [← Bool.not_eq_true, bs_bit]; rintro ⟨_, q, h1, h2⟩; exact hq q h1 h2
      rw [this, if_pos (by decide), N_reach hR hG hk hS, bds, lt_e, zorn (bs_lt31 (by omega)) (bs_lt31 (by omega)), bs_or]
      rw [cnt_succ_t hq, Int.natCast_add] at hr
      rw [bs_ext (q := fun x => ∃ q, q < k + 1 ∧ Ca G S q x)]
      · exact hr
      · intro i _
        constructor
        · rintro (⟨q, h1, h2⟩ | h)
          · exact ⟨q, by omega, h2⟩
          · exact ⟨k, by omega, h⟩
        · rintro ⟨q, h1, h2⟩
          by_cases e : q = k
          · exact Or.inr (e ▸ h2)
          · exact Or.inl ⟨q, by omega, h2⟩
    · have hex : ∃ q, q < k ∧ Ca G S q k := by
        by_cases z : ∃ q, q < k ∧ Ca G S q k
        · exact z
        · exact absurd (fun q h1 h2 => z ⟨q, h1, h2⟩) hq
      have : (bs (gn G) (fun x => ∃ q, q < k ∧ Ca G S q x)).testBit k = true := (bs_bit _ _ _).mpr ⟨hk, hex⟩
      rw [this, if_neg (by decide)]
      rw [cnt_succ_f hq] at hr
      rw [bs_ext (q := fun x => ∃ q, q < k + 1 ∧ Ca G S q x)]
      · exact hr
      · intro i _
        constructor
        · rintro ⟨q, h1, h2⟩; exact ⟨q, by omega, h2⟩
        · rintro ⟨q, h1, h2⟩
          by_cases e : q = k
          · obtain ⟨q0, h3, h4⟩ := hex
            exact ⟨q0, h3, Cn_trans h4 (e ▸ h2)⟩
          · exact ⟨q, by omega, h2⟩
  · intro rec
    simp only [h4]
    rw [nmn (by omega), if_neg (by omega)]
  · have : bs (gn G) (fun x => ∃ q, q < 0 ∧ Ca G S q x) = 0 := bs_zero.mpr (fun i _ ⟨q, h, _⟩ => by omega)
    show ((bs (gn G) (fun x => ∃ q, q < 0 ∧ Ca G S q x) : Nat) : Int) = 0
    rw [this]; rfl
theorem M_pieces (hR : RW (M.2 12) G) (hG : GOK G) {S : Nat} (hS : S < 2147483648) : fM_pieces M (S : Int) = some ((gpc G S : Nat) : Int) := by
  have hb := hG.1
  unfold fM_pieces gpc
  have e : zshl 1 ((gn G : Nat) : Int) - 1 = ((2 ^ gn G - 1 : Nat) : Int) := by
    have := Nat.two_pow_pos (gn G)
    rw [zshln (by omega)]; omega
  rw [M_points hR, bds, e, lt_e, bs_full]
  refine lop3_s (gn G) (fun i => ((bs (gn G) (fun x => ¬ ∃ q, q < i ∧ Ca G S q x) : Nat) : Int)) (fun i => ((cnt i (Rp (ga G) (gb G) (Eb G S)) : Nat) : Int)) (fun i => (i : Int)) ?_ ?_ (by omega) ?_ rfl rfl
  · intro rec k hk hr
    simp only [kf2]
    rw [bds, nmn (by omega), nmn (by omega), if_pos (by omega), M_has (bs_lt31 (by omega)) (by omega), bds]
    by_cases hq : Rp (ga G) (gb G) (Eb G S) k
    · have : (bs (gn G) (fun x => ¬ ∃ q, q < k ∧ Ca G S q x)).testBit k = true := by
        rw [bs_bit]; refine ⟨hk, ?_⟩; rintro ⟨q, h1, h2⟩; exact hq q h1 h2
      rw [this, if_neg (by decide), M_joined hR hG hk hS, bds, lt_e, zcompn (bs_lt31 (by omega)) (bs_lt31 (by omega)), bs_ndf]
      rw [cnt_succ_t hq, Int.natCast_add] at hr
      rw [bs_ext (q := fun x => ¬ ∃ q, q < k + 1 ∧ Ca G S q x)]
      · exact hr
      · intro i _
        constructor
        · rintro ⟨h1, h2⟩ ⟨q, h3, h4⟩
          by_cases e : q = k
          · exact h2 (e ▸ h4)
          · exact h1 ⟨q, by omega, h4⟩
        · intro h
          exact ⟨fun ⟨q, h1, h2⟩ => h ⟨q, by omega, h2⟩, fun z => h ⟨k, by omega, z⟩⟩
    · have hex : ∃ q, q < k ∧ Ca G S q k := by
        by_cases z : ∃ q, q < k ∧ Ca G S q k
        · exact z
        · exact absurd (fun q h1 h2 => z ⟨q, h1, h2⟩) hq
      have : (bs (gn G) (fun x => ¬ ∃ q, q < k ∧ Ca G S q x)).testBit k = false := by
        rw [← Bool.not_eq_true, bs_bit]; exact fun z => z.2 hex
      rw [this, if_pos (by decide)]
      rw [cnt_succ_f hq] at hr
      rw [bs_ext (q := fun x => ¬ ∃ q, q < k + 1 ∧ Ca G S q x)]
      · exact hr
      · intro i _
        constructor
        · rintro h ⟨q, h1, h2⟩
          by_cases e : q = k
          · obtain ⟨q0, h3, h4⟩ := hex
            exact h ⟨q0, h3, Cn_trans h4 (e ▸ h2)⟩
          · exact h ⟨q, by omega, h2⟩
        · rintro h ⟨q, h1, h2⟩; exact h ⟨q, by omega, h2⟩
  · intro rec
    rw [bds, nmn (by omega), if_neg (by omega)]
  · show ((bs (gn G) (fun x => ¬ ∃ q, q < 0 ∧ Ca G S q x) : Nat) : Int) = _
    rw [bs_ext (q := fun _ => True)]
    intro i _
    exact ⟨fun _ => trivial, fun _ ⟨q, h, _⟩ => by omega⟩
end
