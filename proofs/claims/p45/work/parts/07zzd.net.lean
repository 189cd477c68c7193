-- needs: 07zzc.graph
/-! a net, told apart from how class and reference hold it; the small methods -/
abbrev GV : Type := (Nat × Nat × Nat) × (Nat → Nat) × (Nat → Nat) × (Nat → Nat) × (Nat → Int) × (Nat → Prop) × (Nat → Prop)
def gn (G : GV) : Nat := G.1.1
def gL (G : GV) : Nat := G.1.2.1
def gk (G : GV) : Nat := G.1.2.2
def ga (G : GV) : Nat → Nat := G.2.1
def gb (G : GV) : Nat → Nat := G.2.2.1
def gw (G : GV) : Nat → Nat := G.2.2.2.1
def gh (G : GV) : Nat → Int := G.2.2.2.2.1
def gbr (G : GV) : Nat → Prop := G.2.2.2.2.2.1
def gtu (G : GV) : Nat → Prop := G.2.2.2.2.2.2
def RN (N : ZB) (G : GV) : Prop := N.1 4 = (gn G : Nat) ∧ N.1 5 = (gL G : Nat) ∧ N.1 6 = (gk G : Nat) ∧ N.1 7 = ((bs 24 (gbr G) : Nat) : Int) ∧ N.1 8 = ((bs 24 (gtu G) : Nat) : Int) ∧ ∀ l, l < gL G → N.2 0 l = (ga G l : Nat) ∧ N.2 1 l = (gb G l : Nat) ∧ N.2 2 l = (gw G l : Nat) ∧ N.2 3 l = gh G l
def RW (g : Nat → Int) (G : GV) : Prop := g 0 = (gn G : Nat) ∧ g 1 = (gL G : Nat) ∧ g 2 = (gk G : Nat) ∧ ∀ l, l < gL G → g (3 + l) = (ga G l : Nat) ∧ g (27 + l) = (gb G l : Nat) ∧ g (51 + l) = (gw G l : Nat) ∧ g (75 + l) = gh G l ∧ g (99 + l) = (if dc (gbr G l) then 1 else 0) ∧ g (123 + l) = (if dc (gtu G l) then 1 else 0)
def InF (G : GV) (f : Int) : Nat → Prop := fun l => l < gL G ∧ gh G l = f
def GOK (G : GV) : Prop := (gn G ≤ 10 ∧ gL G ≤ 24 ∧ 1 ≤ gk G ∧ gk G ≤ 5) ∧ (∀ l, l < gL G → ga G l < gn G ∧ gb G l < gn G ∧ ga G l ≠ gb G l ∧ 1 ≤ gw G l ∧ gw G l ≤ 99 ∧ -1 ≤ gh G l ∧ gh G l < gk G ∧ (gbr G l → gh G l = -1)) ∧ (∀ l, gL G ≤ l → ¬ gbr G l ∧ ¬ gtu G l) ∧ ∀ f : Int, 0 ≤ f → Fo (ga G) (gb G) (InF G f)
section
variable {N M : ZB} {G : GV}
/-! the class -/
theorem N_hasLine (hR : RN N G) (hG : GOK G) {x : Int} (hx : -2147483648 ≤ x ∧ x < 2147483648) : fN_hasLine N x = some (if 0 ≤ x ∧ x < gL G then 1 else 0) := by
  obtain ⟨h4, h5, h6, h7, h8, ha⟩ := hR
  have hb := hG.1
  unfold fN_hasLine
  simp only [kf1, kf0, h5]
  rw [nmi hx, nmn (by omega)]
  by_cases q : x < 0
  · rw [if_pos q, if_neg (by omega)]; exact zo0
  · rw [if_neg q]
    by_cases r : x < gL G
    · rw [if_pos r, if_pos ⟨by omega, r⟩]; exact zo1
    · rw [if_neg r, if_neg (by omega)]; exact zo0
theorem N_hasForest (hR : RN N G) (hG : GOK G) {x : Int} (hx : -2147483648 ≤ x ∧ x < 2147483648) : fN_hasForest N x = some (if 0 ≤ x ∧ x < gk G then 1 else 0) := by
  obtain ⟨h4, h5, h6, h7, h8, ha⟩ := hR
  have hb := hG.1
  unfold fN_hasForest
  simp only [kf1, kf0, h6]
  rw [nmi hx, nmn (by omega)]
  by_cases q : x < 0
  · rw [if_pos q, if_neg (by omega)]; exact zo0
  · rw [if_neg q]
    by_cases r : x < gk G
    · rw [if_pos r, if_pos ⟨by omega, r⟩]; exact zo1
    · rw [if_neg r, if_neg (by omega)]; exact zo0
theorem N_isSound (hR : RN N G) {l : Nat} (hl : l < 24) : fN_isSound N (l : Int) = some (if dc (gbr G l) then 0 else 1) := by
  obtain ⟨h4, h5, h6, h7, h8, ha⟩ := hR
  unfold fN_isSound
  simp only [kf1, h7]
  rw [zbit (bs_lt31 (by omega)) (by omega)]
  by_cases q : gbr G l
  · rw [(bs_bit 24 (gbr G) l).mpr ⟨hl, q⟩, dc_t.mpr q]; exact zo0
  · have : (bs 24 (gbr G)).testBit l = false := by
      rw [← Bool.not_eq_true, bs_bit]; exact fun k => q k.2
    rw [this, dc_f.mpr q]; exact zo1
theorem N_forestSet (hR : RN N G) (hG : GOK G) {f : Int} (hf : -2147483648 ≤ f ∧ f < 2147483648) : fN_forestSet N f = some ((bs (gL G) (fun l => gh G l = f) : Nat) : Int) := by
  obtain ⟨h4, h5, h6, h7, h8, ha⟩ := hR
  have hb := hG.1
  unfold fN_forestSet
  refine lop2_s (gL G) (fun i => ((bs i (fun l => gh G l = f) : Nat) : Int)) (fun i => (i : Int)) ?_ ?_ (by omega) rfl rfl
  · intro rec k hk hr
    have hv := hG.2.1 k hk
    simp only [h5, kf1]
    rw [nmn (by omega), nmn (by omega), if_pos (by omega), rdn (by omega), (ha k hk).2.2.2, nmi (by omega), nmi hf]
    by_cases q : gh G k = f
    · rw [if_pos q, lt_e, zshln (by omega), zorn (bs_lt31 (by omega)) (p2_lt31 (by omega)), ← bs_succ_t (p := fun l => gh G l = f) q]
      exact hr
    · rw [if_neg q, ← bs_succ_f (p := fun l => gh G l = f) q]
      exact hr
  · intro rec
    simp only [h5]
    rw [nmn (by omega), if_neg (by omega)]
def gen (G : GV) (l : Nat) : Nat := 2 ^ ga G l ||| 2 ^ gb G l
theorem gen_lt (hG : GOK G) {l : Nat} (hl : l < gL G) : gen G l < 2 ^ 10 := by
  have hv := hG.2.1 l hl
  have hb := hG.1
  exact Nat.or_lt_two_pow (Nat.pow_lt_pow_right (by omega) (by omega)) (Nat.pow_lt_pow_right (by omega) (by omega))
theorem gen_lt31 (hG : GOK G) {l : Nat} (hl : l < gL G) : gen G l < 2147483648 := Nat.lt_trans (gen_lt hG hl) (by decide)
theorem gen_bit (hG : GOK G) {l i : Nat} : (gen G l).testBit i = true ↔ i = ga G l ∨ i = gb G l := by
  unfold gen
  rw [Nat.testBit_or, Bool.or_eq_true, Nat.testBit_two_pow, Nat.testBit_two_pow, decide_eq_true_iff, decide_eq_true_iff]
  constructor
  · rintro (h | h)
    · exact Or.inl h.symm
    · exact Or.inr h.symm
  · rintro (h | h)
    · exact Or.inl h.symm
    · exact Or.inr h.symm
theorem N_ends (hR : RN N G) (hG : GOK G) {l : Nat} (hl : l < gL G) : fN_ends N (l : Int) = some ((gen G l : Nat) : Int) := by
  have hv := hG.2.1 l hl
  have hb := hG.1
  have ha := hR.2.2.2.2.2 l hl
  unfold fN_ends
  rw [rdn (by omega), rdn (by omega), ha.1, ha.2.1, zshln (by omega), zshln (by omega), zorn (p2_lt31 (by omega)) (p2_lt31 (by omega))]
  rfl
theorem N_soundSet (hR : RN N G) (hG : GOK G) : fN_soundSet N = some ((bs (gL G) (fun l => ¬ gbr G l) : Nat) : Int) := by
  obtain ⟨h4, h5, h6, h7, h8, ha⟩ := hR
  have hb := hG.1
  unfold fN_soundSet
  rw [h5, h7, zshln (by omega)]
  have e : ((2 ^ gL G : Nat) : Int) - 1 = ((2 ^ gL G - 1 : Nat) : Int) := by
    have := Nat.two_pow_pos (gL G); omega
  rw [e, bs_full, zcompn (bs_lt31 (by omega)) (bs_lt31 (by omega))]
  congr 2
  apply nat_ext; intro i
  rw [ndf_bit, Bool.and_eq_true, bs_bit, Bool.not_eq_true', ← Bool.not_eq_true, bs_bit, bs_bit]
  constructor
  · rintro ⟨⟨h1, _⟩, h2⟩; exact ⟨h1, fun k => h2 ⟨by omega, k⟩⟩
  · rintro ⟨h1, h2⟩; exact ⟨⟨h1, trivial⟩, fun k => h2 k.2⟩
noncomputable def gtl (G : GV) (l : Nat) : Nat := if dc (gtu G l) then gb G l else ga G l
noncomputable def ghd (G : GV) (l : Nat) : Nat := if dc (gtu G l) then ga G l else gb G l
theorem N_tail (hR : RN N G) (hG : GOK G) {l : Nat} (hl : l < gL G) : fN_tail N (l : Int) = some ((gtl G l : Nat) : Int) := by
  obtain ⟨h4, h5, h6, h7, h8, ha⟩ := hR
  have hb := hG.1
  unfold fN_tail gtl
  simp only [kf1, h8]
  rw [zbit (bs_lt31 (by omega)) (by omega), rdn (by omega), rdn (by omega), (ha l hl).1, (ha l hl).2.1]
  by_cases q : gtu G l
  · rw [(bs_bit 24 (gtu G) l).mpr ⟨by omega, q⟩, dc_t.mpr q]; rfl
  · have : (bs 24 (gtu G)).testBit l = false := by
      rw [← Bool.not_eq_true, bs_bit]; exact fun k => q k.2
    rw [this, dc_f.mpr q]; rfl
theorem N_head (hR : RN N G) (hG : GOK G) {l : Nat} (hl : l < gL G) : fN_head N (l : Int) = some ((ghd G l : Nat) : Int) := by
  obtain ⟨h4, h5, h6, h7, h8, ha⟩ := hR
  have hb := hG.1
  unfold fN_head ghd
  simp only [kf1, h8]
  rw [zbit (bs_lt31 (by omega)) (by omega), rdn (by omega), rdn (by omega), (ha l hl).1, (ha l hl).2.1]
  by_cases q : gtu G l
  · rw [(bs_bit 24 (gtu G) l).mpr ⟨by omega, q⟩, dc_t.mpr q]; rfl
  · have : (bs 24 (gtu G)).testBit l = false := by
      rw [← Bool.not_eq_true, bs_bit]; exact fun k => q k.2
    rw [this, dc_f.mpr q]; rfl
theorem gtl_lt (hG : GOK G) {l : Nat} (hl : l < gL G) : gtl G l < gn G := by
  have hv := hG.2.1 l hl
  unfold gtl; split
  · exact hv.2.1
  · exact hv.1
theorem ghd_lt (hG : GOK G) {l : Nat} (hl : l < gL G) : ghd G l < gn G := by
  have hv := hG.2.1 l hl
  unfold ghd; split
  · exact hv.1
  · exact hv.2.1
noncomputable def gload (G : GV) (p : Nat) : Nat := cnt (gL G) (fun l => ¬ gbr G l ∧ gtl G l = p)
theorem N_loadOf (hR : RN N G) (hG : GOK G) {p : Nat} (hp : p < 2147483648) : fN_loadOf N (p : Int) = some ((gload G p : Nat) : Int) := by
  have h5 := hR.2.1
  have hb := hG.1
  unfold fN_loadOf gload
  refine lop2_s (gL G) (fun i => ((cnt i (fun l => ¬ gbr G l ∧ gtl G l = p) : Nat) : Int)) (fun i => (i : Int)) ?_ ?_ (by omega) rfl rfl
  · intro rec k hk hr
    have hv := hG.2.1 k hk
    have htl := gtl_lt hG hk
    simp only [h5, kf1]
    rw [nmn (by omega), nmn (by omega), if_pos (by omega), N_isSound hR (by omega), bds]
    by_cases q : gbr G k
    · rw [dc_t.mpr q, if_pos (by decide)]
      rw [cnt_succ_f (p := fun l => ¬ gbr G l ∧ gtl G l = p) (fun k => k.1 q)] at hr
      exact hr
    · rw [dc_f.mpr q, if_neg (by decide), N_tail hR hG hk, bds, nmn (by omega), nmn hp]
      by_cases r : gtl G k = p
      · rw [if_pos (by omega)]
        rw [cnt_succ_t (p := fun l => ¬ gbr G l ∧ gtl G l = p) ⟨q, r⟩, Int.natCast_add] at hr
        exact hr
      · rw [if_neg (by omega)]
        rw [cnt_succ_f (p := fun l => ¬ gbr G l ∧ gtl G l = p) (fun k => r k.2)] at hr
        exact hr
  · intro rec
    simp only [h5]
    rw [nmn (by omega), if_neg (by omega)]
/-! the reference -/
theorem M_lines (hR : RW (M.2 12) G) : fM_lines M = some ((gL G : Nat) : Int) := by
  unfold fM_lines; rw [rdi (by omega)]; show some (M.2 12 1) = _; rw [hR.2.1]
theorem M_points (hR : RW (M.2 12) G) : fM_points M = some ((gn G : Nat) : Int) := by
  unfold fM_points; rw [rdi (by omega)]; show some (M.2 12 0) = _; rw [hR.1]
theorem M_many (hR : RW (M.2 12) G) : fM_many M = some ((gk G : Nat) : Int) := by
  unfold fM_many; rw [rdi (by omega)]; show some (M.2 12 2) = _; rw [hR.2.2.1]
theorem rdp {β : Type} {f : Nat → Int} {n c l : Nat} {k : Int → Option β} (h : c + l < n) : rd f n ((c : Int) + (l : Int)) k = k (f (c + l)) := by
  rw [← Int.natCast_add]; exact rdn h
theorem rd3 {β : Type} {f : Nat → Int} {l : Nat} {k : Int → Option β} (h : l < 24) : rd f 147 (3 + (l : Int)) k = k (f (3 + l)) := rdp (c := 3) (by omega)
theorem rd27 {β : Type} {f : Nat → Int} {l : Nat} {k : Int → Option β} (h : l < 24) : rd f 147 (27 + (l : Int)) k = k (f (27 + l)) := rdp (c := 27) (by omega)
theorem rd51 {β : Type} {f : Nat → Int} {l : Nat} {k : Int → Option β} (h : l < 24) : rd f 147 (51 + (l : Int)) k = k (f (51 + l)) := rdp (c := 51) (by omega)
theorem rd75 {β : Type} {f : Nat → Int} {l : Nat} {k : Int → Option β} (h : l < 24) : rd f 147 (75 + (l : Int)) k = k (f (75 + l)) := rdp (c := 75) (by omega)
theorem rd99 {β : Type} {f : Nat → Int} {l : Nat} {k : Int → Option β} (h : l < 24) : rd f 147 (99 + (l : Int)) k = k (f (99 + l)) := rdp (c := 99) (by omega)
theorem rd123 {β : Type} {f : Nat → Int} {l : Nat} {k : Int → Option β} (h : l < 24) : rd f 147 (123 + (l : Int)) k = k (f (123 + l)) := rdp (c := 123) (by omega)
theorem M_lies (hR : RW (M.2 12) G) (hG : GOK G) {l : Nat} (hl : l < gL G) : fM_lies M (l : Int) = some (gh G l) := by
  have hb := hG.1
  unfold fM_lies; rw [rd75 (by omega), (hR.2.2.2 l hl).2.2.2.1]
theorem M_isBroken (hR : RW (M.2 12) G) (hG : GOK G) {l : Nat} (hl : l < gL G) : fM_isBroken M (l : Int) = some (if dc (gbr G l) then 1 else 0) := by
  have hb := hG.1
  unfold fM_isBroken; rw [rd99 (by omega), (hR.2.2.2 l hl).2.2.2.2.1]
  simp only [kf1]
  by_cases q : gbr G l
  · rw [dc_t.mpr q, if_pos rfl, if_pos (by decide)]; exact zo1
  · rw [dc_f.mpr q, if_neg (by decide), if_neg (by decide)]; exact zo0
theorem M_isIn {x : Int} {m n : Int} (hx : -2147483648 ≤ x ∧ x < 2147483648) (hm : -2147483648 ≤ m ∧ m < 2147483648) (hn : -2147483648 ≤ n ∧ n < 2147483648) : fM_isIn x m n = some (if m ≤ x ∧ x ≤ n then 1 else 0) := by
  unfold fM_isIn
  simp only [kf1, kf0]
  rw [nmi hx, nmi hm, nmi hn]
  by_cases q : x < m
  · rw [if_pos q, if_neg (by omega)]; exact zo0
  · rw [if_neg q]
    by_cases r : n < x
    · rw [if_pos r, if_neg (by omega)]; exact zo0
    · rw [if_neg r, if_pos (by omega)]; exact zo1
theorem M_isLine (hR : RW (M.2 12) G) (hG : GOK G) {x : Int} (hx : -2147483648 ≤ x ∧ x < 2147483648) : fM_isLine M x = some (if 0 ≤ x ∧ x < gL G then 1 else 0) := by
  have hb := hG.1
  unfold fM_isLine
  rw [M_lines hR, bds, M_isIn hx (by omega) (by omega), bds, zob]
  have : (0 ≤ x ∧ x ≤ (gL G : Int) - 1) ↔ (0 ≤ x ∧ x < gL G) := by omega
  simp only [this]
theorem M_isForest (hR : RW (M.2 12) G) (hG : GOK G) {x : Int} (hx : -2147483648 ≤ x ∧ x < 2147483648) : fM_isForest M x = some (if 0 ≤ x ∧ x < gk G then 1 else 0) := by
  have hb := hG.1
  unfold fM_isForest
  rw [M_many hR, bds, M_isIn hx (by omega) (by omega), bds, zob]
  have : (0 ≤ x ∧ x ≤ (gk G : Int) - 1) ↔ (0 ≤ x ∧ x < gk G) := by omega
  simp only [this]
theorem M_isPoint (hR : RW (M.2 12) G) (hG : GOK G) {x : Int} (hx : -2147483648 ≤ x ∧ x < 2147483648) : fM_isPoint M x = some (if 0 ≤ x ∧ x < gn G then 1 else 0) := by
  have hb := hG.1
  unfold fM_isPoint
  rw [M_points hR, bds, M_isIn hx (by omega) (by omega), bds, zob]
  have : (0 ≤ x ∧ x ≤ (gn G : Int) - 1) ↔ (0 ≤ x ∧ x < gn G) := by omega
  simp only [this]
theorem M_inForest (hR : RW (M.2 12) G) (hG : GOK G) {f : Int} (hf : -2147483648 ≤ f ∧ f < 2147483648) : fM_inForest M f = some ((bs (gL G) (fun l => gh G l = f) : Nat) : Int) := by
  have hb := hG.1
  unfold fM_inForest
  refine lop2_s (gL G) (fun i => ((bs i (fun l => gh G l = f) : Nat) : Int)) (fun i => (i : Int)) ?_ ?_ (by omega) rfl rfl
  · intro rec k hk hr
    have hv := hG.2.1 k hk
    simp only [kf1]
    rw [M_lines hR, bds, nmn (by omega), nmn (by omega), if_pos (by omega), M_lies hR hG hk, bds, nmi (by omega), nmi hf]
    by_cases q : gh G k = f
    · rw [if_pos q, lt_e, zshln (by omega), zorn (bs_lt31 (by omega)) (p2_lt31 (by omega)), ← bs_succ_t (p := fun l => gh G l = f) q]
      exact hr
    · rw [if_neg q, ← bs_succ_f (p := fun l => gh G l = f) q]
      exact hr
  · intro rec
    rw [M_lines hR, bds, nmn (by omega), if_neg (by omega)]
theorem M_has {x l : Nat} (hx : x < 2147483648) (hl : l < 31) : fM_has (x : Int) (l : Int) = some (if x.testBit l then 1 else 0) := by
  unfold fM_has
  simp only [kf1]
  rw [zbit hx hl]
  cases x.testBit l
  · exact zo0
  · exact zo1
theorem M_ends (hR : RW (M.2 12) G) (hG : GOK G) {l : Nat} (hl : l < gL G) : fM_ends M (l : Int) = some ((gen G l : Nat) : Int) := by
  have hv := hG.2.1 l hl
  have hb := hG.1
  have ha := hR.2.2.2 l hl
  unfold fM_ends
  rw [rd3 (by omega), rd27 (by omega), ha.1, ha.2.1, zshln (by omega), zshln (by omega), zorn (p2_lt31 (by omega)) (p2_lt31 (by omega))]
  rfl
theorem M_sound (hR : RW (M.2 12) G) (hG : GOK G) : fM_sound M = some ((bs (gL G) (fun l => ¬ gbr G l) : Nat) : Int) := by
  have hb := hG.1
  unfold fM_sound
  refine lop2_s (gL G) (fun i => ((bs i (fun l => ¬ gbr G l) : Nat) : Int)) (fun i => (i : Int)) ?_ ?_ (by omega) rfl rfl
  · intro rec k hk hr
    have hv := hG.2.1 k hk
    simp only [kf1]
    rw [M_lines hR, bds, nmn (by omega), nmn (by omega), if_pos (by omega), M_isBroken hR hG hk, bds]
    by_cases q : gbr G k
    · rw [dc_t.mpr q, if_neg (by decide)]
      rw [bs_succ_f (p := fun l => ¬ gbr G l) (fun k => k q)] at hr
      exact hr
    · rw [dc_f.mpr q, if_pos (by decide), lt_e, zshln (by omega), zorn (bs_lt31 (by omega)) (p2_lt31 (by omega)), ← bs_succ_t (p := fun l => ¬ gbr G l) q]
      exact hr
  · intro rec
    rw [M_lines hR, bds, nmn (by omega), if_neg (by omega)]
theorem M_outOf (hR : RW (M.2 12) G) (hG : GOK G) {l : Nat} (hl : l < gL G) : fM_outOf M (l : Int) = some ((gtl G l : Nat) : Int) := by
  have hb := hG.1
  have ha := hR.2.2.2 l hl
  unfold fM_outOf gtl
  rw [rd123 (by omega), ha.2.2.2.2.2]
  simp only [kf1]
  by_cases q : gtu G l
  · rw [dc_t.mpr q, if_pos rfl, if_pos (by decide), rd27 (by omega), ha.2.1, if_pos rfl]
  · rw [dc_f.mpr q, if_neg (by decide), if_neg (by decide), rd3 (by omega), ha.1]
theorem M_towards (hR : RW (M.2 12) G) (hG : GOK G) {l : Nat} (hl : l < gL G) : fM_towards M (l : Int) = some ((ghd G l : Nat) : Int) := by
  have hb := hG.1
  have ha := hR.2.2.2 l hl
  unfold fM_towards ghd
  rw [rd123 (by omega), ha.2.2.2.2.2]
  simp only [kf1]
  by_cases q : gtu G l
  · rw [dc_t.mpr q, if_pos rfl, if_pos (by decide), rd3 (by omega), ha.1, if_pos rfl]
  · rw [dc_f.mpr q, if_neg (by decide), if_neg (by decide), rd27 (by omega), ha.2.1]
theorem M_loadOf (hR : RW (M.2 12) G) (hG : GOK G) {p : Nat} (hp : p < 2147483648) : fM_loadOf M (p : Int) = some ((gload G p : Nat) : Int) := by
  have hb := hG.1
  unfold fM_loadOf gload
  refine lop2_s (gL G) (fun i => ((cnt i (fun l => ¬ gbr G l ∧ gtl G l = p) : Nat) : Int)) (fun i => (i : Int)) ?_ ?_ (by omega) rfl rfl
  · intro rec k hk hr
    have hv := hG.2.1 k hk
    have htl := gtl_lt hG hk
    simp only [kf1]
    rw [M_lines hR, bds, nmn (by omega), nmn (by omega), if_pos (by omega), M_isBroken hR hG hk, bds]
    by_cases q : gbr G k
    · rw [dc_t.mpr q, if_neg (by decide)]
      rw [cnt_succ_f (p := fun l => ¬ gbr G l ∧ gtl G l = p) (fun k => k.1 q)] at hr
      exact hr
    · rw [dc_f.mpr q, if_pos (by decide), M_outOf hR hG hk, bds, nmn (by omega), nmn hp]
      by_cases r : gtl G k = p
      · rw [if_pos (by omega)]
        rw [cnt_succ_t (p := fun l => ¬ gbr G l ∧ gtl G l = p) ⟨q, r⟩, Int.natCast_add] at hr
        exact hr
      · rw [if_neg (by omega)]
        rw [cnt_succ_f (p := fun l => ¬ gbr G l ∧ gtl G l = p) (fun k => r k.2)] at hr
        exact hr
  · intro rec
    rw [M_lines hR, bds, nmn (by omega), if_neg (by omega)]
end
