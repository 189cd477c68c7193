-- needs: 07zzz40.sim2 07x.law
/-! the law's small methods: bits, has, ends, joined, pieces, isForest, inner -/
/-- the law's own row of a drawn net -/
def LV (G : GV) (f : Nat → Int) : Prop := f 0 = (gn G : Nat) ∧ f 1 = (gL G : Nat) ∧ f 2 = (gk G : Nat) ∧ ∀ l, l < gL G → f (4 + l) = (ga G l : Nat) ∧ f (30 + l) = (gb G l : Nat)
theorem rv0 {β : Type} {f : Nat → Int} {k : Int → Option β} : rd f 96 0 k = k (f 0) := rdn (i := 0) (by decide)
theorem rv1 {β : Type} {f : Nat → Int} {k : Int → Option β} : rd f 96 1 k = k (f 1) := rdn (i := 1) (by decide)
theorem rv2 {β : Type} {f : Nat → Int} {k : Int → Option β} : rd f 96 2 k = k (f 2) := rdn (i := 2) (by decide)
theorem rv4 {β : Type} {f : Nat → Int} {l : Nat} {k : Int → Option β} (h : l < 24) : rd f 96 (4 + (l : Int)) k = k (f (4 + l)) := rdp (c := 4) (by omega)
theorem rv30 {β : Type} {f : Nat → Int} {l : Nat} {k : Int → Option β} (h : l < 24) : rd f 96 (30 + (l : Int)) k = k (f (30 + l)) := rdp (c := 30) (by omega)
theorem rv56 {β : Type} {f : Nat → Int} {l : Nat} {k : Int → Option β} (h : l < 24) : rd f 96 (56 + (l : Int)) k = k (f (56 + l)) := rdp (c := 56) (by omega)
theorem L_bits {x : Nat} (hx : x < 2 ^ 24) : fL_bits (x : Int) = some ((ppc x : Nat) : Int) := by
  have hx31 : x < 2147483648 := Nat.lt_trans hx (by decide)
  unfold fL_bits
  refine lop2_s 24 (fun k => ((cnt k (fun i => x.testBit i = true) : Nat) : Int)) (fun k => (k : Int)) ?_ ?_ (by decide) rfl rfl
  · intro rec k hk hr
    rw [nmn (by omega), if_pos (by omega), zbit hx31 (by omega), lt_e]
    by_cases q : x.testBit k = true
    · rw [cnt_succ_t (p := fun i => x.testBit i = true) q, Int.natCast_add] at hr
      rw [if_pos q]; exact hr
    · rw [cnt_succ_f (p := fun i => x.testBit i = true) q] at hr
      rw [if_neg q, Int.add_zero]; exact hr
  · intro rec
    rw [nmn (by omega), if_neg (by omega)]
    unfold ppc
    rw [pcn_cnt]
theorem L_has {x l : Nat} (hx : x < 2147483648) (hl : l < 31) : fL_has (x : Int) (l : Int) = some (if x.testBit l then 1 else 0) := by
  unfold fL_has
  simp only [kf1]
  rw [zbit hx hl]
  cases x.testBit l
  · exact zo0
  · exact zo1
section
variable {G : GV} {N La : ZB}
theorem L_ends (hG : GOK G) (hv : LV G (La.2 1)) {l : Nat} (hl : l < gL G) : fL_ends La (l : Int) = some ((gen G l : Nat) : Int) := by
  have hb := hG.1
  have h := hG.2.1 l hl
  have ha := hv.2.2.2 l hl
  unfold fL_ends
  rw [rv4 (by omega), rv30 (by omega), ha.1, ha.2, zshln (by omega), zshln (by omega), zorn (p2_lt31 (by omega)) (p2_lt31 (by omega))]
  rfl
theorem rit_all (hG : GOK G) {S p : Nat} (hp : p < gn G) : rit G S (2 ^ p) (gn G) = bs (gn G) (Ca G S p) := by
  obtain ⟨m, hm1, hm2, hm3, -⟩ := rit_ex hG S hp
  have key : ∀ j, rit G S (2 ^ p) (m + j) = rit G S (2 ^ p) m := by
    intro j
    induction j with
    | zero => rfl
    | succ j ih =>
      show rps G S (rit G S (2 ^ p) (m + j)) (gL G) = _
      rw [ih]; exact hm2
  rw [← hm3, ← key (gn G - m), show m + (gn G - m) = gn G by omega]
theorem L_joined (hG : GOK G) (hv : LV G (La.2 1)) {p S : Nat} (hp : p < gn G) (hS : S < 2147483648) : fL_joined La (p : Int) (S : Int) = some ((bs (gn G) (Ca G S p) : Nat) : Int) := by
  have hb := hG.1
  rw [← rit_all hG hp]
  unfold fL_joined
  rw [zshln (by omega), lt_e]
  have hlt := rit_lt hG (S := S) hp
  have hlt31 : ∀ t, rit G S (2 ^ p) t < 2147483648 := fun t => Nat.lt_trans (hlt t) (p2_lt31 (by omega))
  refine lop2_s (gn G) (fun t => ((rit G S (2 ^ p) t : Nat) : Int)) (fun t => (t : Int)) ?_ ?_ (by omega) rfl rfl
  · intro rec t ht hr
    simp only [kf1]
    rw [rv0, hv.1, nmn (by omega), nmn (by omega), if_pos (by omega)]
    refine lop2_s (gL G) (fun k => ((rps G S (rit G S (2 ^ p) t) k : Nat) : Int)) (fun k => (k : Int)) ?_ ?_ (by omega) rfl rfl
    · intro rec2 k hk hr2
      have hq := rps_lt31 hG (S := S) (hlt t) (k := k) (by omega)
      rw [rv1, hv.2.1, nmn (by omega), nmn (by omega), if_pos (by omega), L_has hS (by omega), bds, L_ends hG hv hk, bds, zandn (gen_lt31 hG hk) hq]
      simp only [bds]
      rw [lt_e, zorn hq (gen_lt31 hG hk)]
      unfold rps at hr2
      by_cases hs : S.testBit k = true
      · rw [t10t hs]
        by_cases hz : gen G k &&& rps G S (rit G S (2 ^ p) t) k = 0
        · rw [if_pos (by omega)]
          rw [if_neg (fun z => z.2 hz)] at hr2
          exact hr2
        · rw [if_neg (by omega)]
          rw [if_pos ⟨hs, hz⟩] at hr2
          exact hr2
      · rw [if_neg (fun z => hs z.1)] at hr2
        rw [t10f hs]
        exact hr2
    · intro rec2
      rw [rv1, hv.2.1, nmn (by omega), if_neg (by omega)]
      exact hr
  · intro rec
    rw [rv0, hv.1, nmn (by omega), if_neg (by omega)]
theorem L_pieces (hG : GOK G) (hv : LV G (La.2 1)) {S : Nat} (hS : S < 2147483648) : fL_pieces La (S : Int) = some ((gpc G S : Nat) : Int) := by
  have hb := hG.1
  unfold fL_pieces gpc
  rw [rv0, hv.1, zshln (by omega), lt_e]
  refine lop3_s (gn G) (fun i => ((bs (gn G) (fun x => ∀ q, q < i → ¬ Ca G S q x) : Nat) : Int)) (fun i => ((cnt i (Rp (ga G) (gb G) (Eb G S)) : Nat) : Int)) (fun i => (i : Int)) ?_ ?_ (by omega) ?_ rfl rfl
  · intro rec k hk hr
    simp only [kf2]
    rw [rv0, hv.1, nmn (by omega), nmn (by omega), if_pos (by omega), L_has (bs_lt31 (by omega)) (by omega), bds]
    by_cases hq : Rp (ga G) (gb G) (Eb G S) k
    · have hbit : (bs (gn G) (fun x => ∀ q, q < k → ¬ Ca G S q x)).testBit k = true := (bs_bit _ _ _).mpr ⟨hk, hq⟩
      rw [t10t hbit, L_joined hG hv hk hS, bds, lt_e, zcompn (bs_lt31 (by omega)) (bs_lt31 (by omega)), bs_ndf]
      rw [cnt_succ_t hq, Int.natCast_add] at hr
      rw [bs_ext (q := fun x => ∀ q, q < k + 1 → ¬ Ca G S q x)]
      · exact hr
      · intro i _
        constructor
        · rintro ⟨h1, h2⟩ q hq9
          by_cases e : q = k
          · exact e ▸ h2
          · exact h1 q (by omega)
        · intro h; exact ⟨fun q hq9 => h q (by omega), h k (by omega)⟩
    · have hbit : ¬ (bs (gn G) (fun x => ∀ q, q < k → ¬ Ca G S q x)).testBit k = true := fun z => hq ((bs_bit _ _ _).mp z).2
      have hex : ∃ q, q < k ∧ Ca G S q k := by
        by_cases z : ∃ q, q < k ∧ Ca G S q k
        · exact z
        · exact absurd (fun q h1 h2 => z ⟨q, h1, h2⟩) hq
      rw [t10f hbit]
      rw [cnt_succ_f hq] at hr
      rw [bs_ext (q := fun x => ∀ q, q < k + 1 → ¬ Ca G S q x)]
      · exact hr
      · intro i _
        constructor
        · intro h q hq9
          by_cases e : q = k
          · obtain ⟨q0, h3, h4⟩ := hex
            intro h5
            exact h q0 h3 (Cn_trans h4 (e ▸ h5))
          · exact h q (by omega)
        · intro h q hq9; exact h q (by omega)
  · intro rec
    rw [rv0, hv.1, nmn (by omega), if_neg (by omega)]
  · have h1 : bs (gn G) (fun x => ∀ q, q < 0 → ¬ Ca G S q x) = 2 ^ gn G - 1 := by
      rw [bs_full]; exact bs_ext (fun i _ => ⟨fun _ => trivial, fun _ q h => absurd h (Nat.not_lt_zero q)⟩)
    have h2 := Nat.two_pow_pos (gn G)
    show ((bs (gn G) (fun x => ∀ q, q < 0 → ¬ Ca G S q x) : Nat) : Int) = ((2 ^ gn G : Nat) : Int) - 1
    rw [h1]; omega
/-! pieces and rings -/
theorem Rp_same {a b : Nat → Nat} {E : Nat → Prop} {e n : Nat} (h : Cn a b E (a e) (b e)) : cnt n (Rp a b (Ep E e)) = cnt n (Rp a b E) := by
  have key : ∀ p q, Cn a b (Ep E e) p q → Cn a b E p q := by
    intro p q hc
    rcases Cn_add (Jn_self e) hc with z | ⟨z1, z2⟩ | ⟨z1, z2⟩
    · exact z
    · exact Cn_trans z1 (Cn_trans h z2)
    · exact Cn_trans z1 (Cn_trans (Cn_symm h) z2)
  exact cnt_ext (fun i _ => ⟨fun k q hq c => k q hq (Cn_mono (fun _ => Or.inl) c), fun k q hq c => k q hq (key _ _ c)⟩)
theorem Rp_ge {a b : Nat → Nat} {n : Nat} (L : Nat) : ∀ (E : Nat → Prop), (∀ l, E l → l < L ∧ a l < n ∧ b l < n) → n ≤ cnt n (Rp a b E) + cnt L E := by
  induction L with
  | zero =>
    intro E hE
    have : cnt n (Rp a b E) = n := cnt_all (fun i _ q hq k => by
      have := Cn_none (fun l hl => by have := (hE l hl).1; omega) k
      omega)
    rw [this]; exact Nat.le_add_right _ _
  | succ L ih =>
    intro E hE
    by_cases hL : E L
    · have h1 := ih (Em E L) (fun l hl => by
        have := hE l hl.1
        have := hl.2
        exact ⟨by omega, (hE l hl.1).2⟩)
      have h3 : cnt n (Rp a b (Ep (Em E L) L)) = cnt n (Rp a b E) := by
        apply cnt_ext
        intro i _
        have hc : ∀ l, Ep (Em E L) L l ↔ E l := fun l => ⟨fun k => by
          rcases k with k | k
          · exact k.1
          · exact k ▸ hL, Ep_Em l⟩
        exact ⟨fun k q hq c => k q hq ((Cn_congr hc).mpr c), fun k q hq c => k q hq ((Cn_congr hc).mp c)⟩
      have h4 : cnt L (Em E L) = cnt L E := cnt_ext (fun i hi => ⟨fun k => k.1, fun k => ⟨k, by omega⟩⟩)
      rw [cnt_succ_t hL]
      by_cases hc : Cn a b (Em E L) (a L) (b L)
      · have h2 := Rp_same (n := n) hc
        omega
      · have h2 := Rp_add (a := a) (b := b) (E := Em E L) (e := L) (hE L hL).2.1 (hE L hL).2.2 hc
        omega
    · rw [cnt_succ_f hL]
      exact ih E (fun l hl => by
        have := hE l hl
        have : l ≠ L := fun k => hL (k ▸ hl)
        exact ⟨by omega, (hE l hl).2⟩)
theorem Fo_iff {a b : Nat → Nat} {n L : Nat} {E : Nat → Prop} (hE : ∀ l, E l → l < L ∧ a l < n ∧ b l < n) : Fo a b E ↔ cnt n (Rp a b E) + cnt L E = n := by
  constructor
  · exact Rp_count L E hE
  · intro h e he hc
    have h1 := Rp_ge L (Em E e) (fun l hl => hE l hl.1)
    have h2 := Rp_same (n := n) hc
    have h3 : cnt n (Rp a b (Ep (Em E e) e)) = cnt n (Rp a b E) := by
      apply cnt_ext
      intro i _
      have hc : ∀ l, Ep (Em E e) e l ↔ E l := fun l => ⟨fun k => by
        rcases k with k | k
        · exact k.1
        · exact k ▸ he, Ep_Em l⟩
      exact ⟨fun k q hq c => k q hq ((Cn_congr hc).mpr c), fun k q hq c => k q hq ((Cn_congr hc).mp c)⟩
    have h4 : cnt L (Em E e) + 1 = cnt L E := cnt_del (hE e he).1 he
    omega
theorem Eb_cnt (hG : GOK G) {S : Nat} (hS : S < 2 ^ gL G) : cnt (gL G) (Eb G S) = ppc S := by
  have hb := hG.1
  rw [ppc_cnt (n := gL G) (by omega) hS]
  exact cnt_ext (fun i hi => ⟨fun h => h.2, fun h => ⟨hi, h⟩⟩)
theorem p2L24 (hG : GOK G) {S : Nat} (hS : S < 2 ^ gL G) : S < 2 ^ 24 := Nat.lt_of_lt_of_le hS (Nat.pow_le_pow_right (by omega) hG.1.2.1)
theorem L_isForest (hG : GOK G) (hv : LV G (La.2 1)) {S : Nat} (hS : S < 2 ^ gL G) : fL_isForest La (S : Int) = some (if dc (Fo (ga G) (gb G) (Eb G S)) then 1 else 0) := by
  have hb := hG.1
  have h24 := p2L24 hG hS
  have h31 : S < 2147483648 := Nat.lt_trans h24 (by decide)
  have hc := Eb_cnt hG hS
  have hle : ppc S ≤ gL G := by rw [← hc]; exact cnt_le _ _
  have hgp : gpc G S ≤ gn G := cnt_le _ _
  have hi : Fo (ga G) (gb G) (Eb G S) ↔ gpc G S + ppc S = gn G := by
    rw [← hc]
    exact Fo_iff (fun l hl => ⟨hl.1, (hG.2.1 l hl.1).1, (hG.2.1 l hl.1).2.1⟩)
  unfold fL_isForest
  simp only [kf1]
  rw [L_pieces hG hv h31, bds, rv0, hv.1, L_bits h24, bds, nmn (by omega), nmi (by omega)]
  by_cases q : Fo (ga G) (gb G) (Eb G S)
  · have := hi.mp q
    rw [idt q, if_pos (by omega)]; exact zo1
  · have h9 : ¬ gpc G S + ppc S = gn G := fun z => q (hi.mpr z)
    rw [idf q, if_neg (by omega)]; exact zo0
theorem L_inner (hG : GOK G) (hv : LV G (La.2 1)) {s B : Nat} (hs : s < 2147483648) (hB : B < 2147483648) : fL_inner La (s : Int) (B : Int) = some ((inn G (fun l => B.testBit l = true) s : Nat) : Int) := by
  have hb := hG.1
  unfold fL_inner inn
  refine lop2_s (gL G) (fun i => ((cnt i (fun l => B.testBit l = true ∧ inE G l s) : Nat) : Int)) (fun i => (i : Int)) ?_ ?_ (by omega) rfl rfl
  · intro rec k hk hr
    simp only [kf1]
    rw [rv1, hv.2.1, nmn (by omega), nmn (by omega), if_pos (by omega), L_has hB (by omega), bds, L_ends hG hv hk, bds, zcompn (gen_lt31 hG hk) hs]
    have hz : (ndf (gen G k) s = 0) ↔ inE G k s := ndf_zero.trans (gen_sub hG)
    by_cases h1 : B.testBit k = true
    · rw [t10t h1]
      by_cases h2 : inE G k s
      · rw [if_pos (by rw [hz.mpr h2]; rfl)]
        rw [cnt_succ_t (p := fun l => B.testBit l = true ∧ inE G l s) ⟨h1, h2⟩, Int.natCast_add] at hr
        exact hr
      · have h3 : ¬ ndf (gen G k) s = 0 := fun z => h2 (hz.mp z)
        rw [if_neg (by omega)]
        rw [cnt_succ_f (p := fun l => B.testBit l = true ∧ inE G l s) (fun z => h2 z.2)] at hr
        exact hr
    · rw [t10f h1]
      rw [cnt_succ_f (p := fun l => B.testBit l = true ∧ inE G l s) (fun z => h1 z.1)] at hr
      exact hr
  · intro rec
    rw [rv1, hv.2.1, nmn (by omega), if_neg (by omega)]
end
