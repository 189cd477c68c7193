-- needs: 07zzi.acts
/-! the acts that need no ring: forests, lift, breaks, mend, weigh, turn, undo, image, restore; line, forest, load -/
def sh_ (G : GV) (h : Nat → Int) : GV := (G.1, G.2.1, G.2.2.1, G.2.2.2.1, h, G.2.2.2.2.2.1, G.2.2.2.2.2.2)
theorem dcc (p : Prop) : (if dc p then (1 : Int) else 0) = 1 ↔ p := by
  by_cases h : p
  · rw [dc_t.mpr h]; simp [h]
  · rw [dc_f.mpr h]; simp [h]
section
variable {N M : ZB} {G : GV} {Ac : ZA}
theorem GOK_h (hG : GOK G) {h : Nat → Int} (h1 : ∀ l, l < gL G → -1 ≤ h l ∧ h l < gk G ∧ (gbr G l → h l = -1)) (h2 : ∀ f : Int, 0 ≤ f → Fo (ga G) (gb G) (fun l => l < gL G ∧ h l = f)) : GOK (sh_ G h) := by
  refine ⟨hG.1, fun l hl => ?_, hG.2.2.1, h2⟩
  obtain ⟨a1, a2, a3, a4, a5, a6⟩ := hG.2.1 l hl
  exact ⟨a1, a2, a3, a4, a5, h1 l hl⟩
/-- to lift some lines keeps a net -/
theorem GOK_less (hG : GOK G) {h : Nat → Int} (h1 : ∀ l, l < gL G → h l = -1 ∨ h l = gh G l) : GOK (sh_ G h) := by
  have hb := hG.1
  refine GOK_h hG (fun l hl => ?_) (fun f hf => Fo_mono ?_ (hG.2.2.2 f hf))
  · obtain ⟨a1, a2, a3, a4, a5, a6, a7, a8⟩ := hG.2.1 l hl
    rcases h1 l hl with e | e
    · rw [e]; exact ⟨by omega, by omega, fun _ => rfl⟩
    · rw [e]; exact ⟨a6, a7, a8⟩
  · intro l hl
    refine ⟨hl.1, ?_⟩
    rcases h1 l hl.1 with e | e
    · have := hl.2; omega
    · rw [← e]; exact hl.2
theorem RN_h (hR : RN N G) {h : Nat → Int} {g : Nat → Int} (hh : ∀ l, l < gL G → g l = h l) : RN (N.1, ua N.2 3 g) (sh_ G h) := by
  obtain ⟨h4, h5, h6, h7, h8, ha⟩ := hR
  refine ⟨h4, h5, h6, h7, h8, fun l hl => ?_⟩
  obtain ⟨a0, a1, a2, a3⟩ := ha l hl
  exact ⟨a0, a1, a2, hh l hl⟩
theorem RW_h {g g' : Nat → Int} (hb : gL G ≤ 24) (hR : RW g G) {h : Nat → Int} (hh : ∀ l, l < gL G → g' (75 + l) = h l) (hk : ∀ j, j < 75 ∨ 99 ≤ j → g' j = g j) : RW g' (sh_ G h) := by
  obtain ⟨h1, h2, h3, h4⟩ := hR
  refine ⟨by rw [hk _ (by omega)]; exact h1, by rw [hk _ (by omega)]; exact h2, by rw [hk _ (by omega)]; exact h3, fun l hl => ?_⟩
  have hl' : l < gL G := hl
  obtain ⟨q1, q2, q3, q4, q5, q6⟩ := h4 l hl
  exact ⟨by rw [hk _ (by omega)]; exact q1, by rw [hk _ (by omega)]; exact q2, by rw [hk _ (by omega)]; exact q3, hh l hl, by rw [hk _ (by omega)]; exact q5, by rw [hk _ (by omega)]; exact q6⟩
theorem ix75 {β : Type} {l : Nat} {k : Option β} (h : l < 24) : ix 147 (75 + (l : Int)) k = k := ixi (by omega)
theorem tn75 (l : Nat) : (75 + (l : Int)).toNat = 75 + l := by omega
theorem tn51 (l : Nat) : (51 + (l : Int)).toNat = 51 + l := by omega
theorem tn99 (l : Nat) : (99 + (l : Int)).toNat = 99 + l := by omega
theorem tn123 (l : Nat) : (123 + (l : Int)).toNat = 123 + l := by omega
/-- one line's place is changed in both -/
theorem RN_put (hR : RN N G) {l : Nat} {f : Int} : RN (N.1, ua N.2 3 (up (N.2 3) l f)) (sh_ G (up (gh G) l f)) := by
  refine RN_h hR (fun i hi => ?_)
  unfold up
  split
  · rfl
  · exact (hR.2.2.2.2.2 i hi).2.2.2
theorem RW_put (hG : GOK G) (hR : RW (M.2 12) G) {l : Nat} {f : Int} (hl : l < gL G) : RW (up (M.2 12) (75 + l) f) (sh_ G (up (gh G) l f)) := by
  have hb := hG.1
  refine RW_h (by omega) hR (fun i hi => ?_) (fun j hj => ?_)
  · by_cases e : i = l
    · subst e; rw [up_e, up_e]
    · rw [up_n _ _ (by omega), up_n _ _ e]; exact (hR.2.2.2 i hi).2.2.2.1
  · rw [up_n _ _ (by omega)]
end
theorem sim5 : Sim5 INV := by
  intro X N T Rd Fr Ac Ch PS Ly Pa OT Ea Ga c0 c1 M a1 a2 hI hr1 hr2
  have keep : ∀ x, INV X N T Rd Fr Ac Ch PS Ly Pa OT Ea Ga c0 c1 (up M.1 0 x, M.2) := fun _ => hI
  obtain ⟨⟨G, hG, hN, hM⟩, hT, hR, hA, hC, hGa, hi0, hi1, hP⟩ := hI
  have hb := hG.1
  have hM' : RW (((up M.1 0 0, M.2) : ZB).2 12) G := hM
  unfold fX_line fM_line
  simp only [kf0, kf1, lt_e]
  rw [N_hasLine hN hG hr1, M_isLine hM' hG hr1, bds, bds]
  have refuse : ∀ (e : Int × ZB) (x : Option (Int × Int)), x = some (1, 0) → bd (fM_refuse (up M.1 0 0, M.2)) (fun u => some (u.1, u.2)) = some e → ∃ r t, x = some r ∧ some e = some t ∧ (r.1 = 0 ∨ r.1 = 1) ∧ fM_thrown t.2 = some r.1 ∧ (r.1 = 0 → nm r.2 = nm t.1) ∧ INV X N T Rd Fr Ac Ch PS Ly Pa OT Ea Ga c0 c1 t.2 := by
    intro e x hx he
    unfold fM_refuse at he
    simp only [lt_e, bds, up_up, Option.some.injEq] at he
    subst he
    exact ⟨_, _, hx, rfl, Or.inr rfl, rfl, fun h => absurd h (by decide), keep 1⟩
  have good : ∀ v : Int, ∃ r t, (some ((0 : Int), v)) = some r ∧ some (v, ((up M.1 0 0, M.2) : ZB)) = some t ∧ (r.1 = 0 ∨ r.1 = 1) ∧ fM_thrown t.2 = some r.1 ∧ (r.1 = 0 → nm r.2 = nm t.1) ∧ INV X N T Rd Fr Ac Ch PS Ly Pa OT Ea Ga c0 c1 t.2 := fun v => ⟨_, _, rfl, rfl, Or.inl rfl, rfl, fun _ => rfl, keep 0⟩
  by_cases q : 0 ≤ a1 ∧ a1 < gL G
  · obtain ⟨l, rfl⟩ : ∃ l : Nat, a1 = l := ⟨a1.toNat, by omega⟩
    have hl : l < gL G := by omega
    have hv := hG.2.1 l hl
    obtain ⟨n0, n1, n2, n3⟩ := hN.2.2.2.2.2 l hl
    obtain ⟨m0, m1, m2, m3, m4, m5⟩ := hM.2.2.2 l hl
    rw [if_pos q, if_neg (by decide : ¬ nm 1 = 0), if_neg (by decide : ¬ nm 1 = 0), nmi hr2]
    by_cases z : 0 ≤ a2 ∧ a2 ≤ 4
    · rw [if_neg (by omega : ¬ a2 < 0), if_neg (by omega : ¬ 4 < a2)]
      rw [rdn (by omega), rdn (by omega), rdn (by omega), rdn (by omega), rd3 (by omega), rd27 (by omega), rd51 (by omega), rd99 (by omega), N_isSound hN (by omega), M_lies hM' hG hl, bds, bds]
      simp only [n0, n1, n2, n3, m0, m1, m2, m4]
      by_cases z0 : a2 = 0
      · rw [if_pos z0, if_pos z0]; exact good _
      rw [if_neg z0, if_neg z0]
      by_cases z1 : a2 = 1
      · rw [if_pos z1, if_pos z1]; exact good _
      rw [if_neg z1, if_neg z1]
      by_cases z2 : a2 = 2
      · rw [if_pos z2, if_pos z2]; exact good _
      rw [if_neg z2, if_neg z2]
      by_cases z3 : a2 = 3
      · rw [if_pos z3, if_pos z3]; exact good _
      rw [if_neg z3, if_neg z3, if_pos (by omega : a2 = 4)]
      by_cases s : gbr G l
      · rw [dc_t.mpr s]; exact good _
      · rw [dc_f.mpr s]; exact good _
    · simp only [if_neg (by omega : ¬ a2 = 0), if_neg (by omega : ¬ a2 = 1), if_neg (by omega : ¬ a2 = 2), if_neg (by omega : ¬ a2 = 3), if_neg (by omega : ¬ a2 = 4)]
      refine refuse _ _ ?_ rfl
      by_cases s : a2 < 0
      · rw [if_pos s]
      · rw [if_neg s, if_pos (by omega)]
  · rw [if_neg q, if_pos (by decide), if_pos (by decide)]
    exact refuse _ _ rfl rfl
theorem sim7 : Sim7 INV := by
  intro X N T Rd Fr Ac Ch PS Ly Pa OT Ea Ga c0 c1 M a1 hI hr1
  have keep : INV X N T Rd Fr Ac Ch PS Ly Pa OT Ea Ga c0 c1 (up M.1 0 0, M.2) := hI
  obtain ⟨⟨G, hG, hN, hM⟩, hT, hR, hA, hC, hGa, hi0, hi1, hP⟩ := hI
  have hM' : RW (((up M.1 0 0, M.2) : ZB).2 12) G := hM
  unfold fX_forest fM_forest
  simp only [kf1, lt_e]
  rw [N_hasForest hN hG hr1, M_isForest hM' hG hr1, bds, bds, N_forestSet hN hG hr1, M_inForest hM' hG hr1, bds, bds]
  by_cases q : 0 ≤ a1 ∧ a1 < gk G
  · rw [if_pos q, if_neg (by decide), if_neg (by decide)]; exact ⟨_, _, rfl, rfl, rfl, keep⟩
  · rw [if_neg q, if_pos (by decide), if_pos (by decide)]; exact ⟨_, _, rfl, rfl, rfl, keep⟩
theorem sim21 : Sim21 INV := by
  intro X N T Rd Fr Ac Ch PS Ly Pa OT Ea Ga c0 c1 M a1 hI hr1
  have keep : INV X N T Rd Fr Ac Ch PS Ly Pa OT Ea Ga c0 c1 (up M.1 0 0, M.2) := hI
  obtain ⟨⟨G, hG, hN, hM⟩, hT, hR, hA, hC, hGa, hi0, hi1, hP⟩ := hI
  have hb := hG.1
  have hM' : RW (((up M.1 0 0, M.2) : ZB).2 12) G := hM
  unfold fX_load fM_load
  simp only [kf1, kf0, lt_e]
  rw [M_isPoint hM' hG hr1, bds, nmi hr1, hN.1, nmn (by omega)]
  by_cases q : 0 ≤ a1 ∧ a1 < gn G
  · obtain ⟨p, rfl⟩ : ∃ p : Nat, a1 = p := ⟨a1.toNat, by omega⟩
    rw [if_pos q, if_neg (by omega), if_pos (by omega), if_neg (by decide), N_loadOf hN hG (by omega), M_loadOf hM' hG (by omega), bds, bds]
    exact ⟨_, _, rfl, rfl, rfl, keep⟩
  · rw [if_neg q, if_pos (by decide : nm 0 = 0)]
    refine ⟨-1, _, ?_, rfl, rfl, keep⟩
    by_cases r : a1 < 0
    · rw [if_pos r]
    · rw [if_neg r, if_neg (by omega)]
theorem sim10 : Sim10 INV := by
  intro X N T Rd Fr Ac Ch PS Ly Pa OT Ea Ga c0 c1 M a1 hI hr1
  have keep : INV X N T Rd Fr Ac Ch PS Ly Pa OT Ea Ga c0 c1 (up M.1 0 0, M.2) := hI
  obtain ⟨⟨G, hG, hN, hM⟩, hT, hR, hA, hC, hGa, hi0, hi1, hP⟩ := hI
  have hb := hG.1
  have hM' : RW (((up M.1 0 0, M.2) : ZB).2 12) G := hM
  obtain ⟨B, hB, hBA, E, hE, hS⟩ := act hA hN hG
  unfold fX_lift fM_lift
  simp only [kf0, lt_e]
  rw [N_hasLine hN hG hr1, M_isLine hM' hG hr1, bds, bds]
  by_cases q : 0 ≤ a1 ∧ a1 < gL G
  · obtain ⟨l, rfl⟩ : ∃ l : Nat, a1 = l := ⟨a1.toNat, by omega⟩
    have hl : l < gL G := by omega
    have hv := hG.2.1 l hl
    rw [if_pos q, if_neg (by decide), if_neg (by decide), rdn (by omega), M_lies hM' hG hl, bds, (hN.2.2.2.2.2 l hl).2.2.2, nmi (by omega)]
    by_cases s : gh G l = -1
    · rw [if_pos s, if_pos s]; exact ⟨_, _, rfl, rfl, rfl, keep⟩
    · obtain ⟨x, t, hx, hxA⟩ := hS (up M.1 0 0, M.2) rfl rfl hM'
      rw [if_neg s, if_neg s, hB, bds, rdn (by omega), ixn (by omega), hE, bds, hx, bds]
      have hM2 : RW (((up (up M.1 0 0) 20 x, ua M.2 15 t) : ZB).2 12) G := hM
      rw [M_lies hM2 hG hl, bds, ix75 (by omega), (hN.2.2.2.2.2 l hl).2.2.2, tn75]
      refine ⟨_, _, rfl, rfl, rfl, ⟨sh_ G (up (gh G) l (-1)), ?_, RN_put hN, RW_put hG hM hl⟩, hT, hR, hxA, hC, hGa, hi0, hi1, hP⟩
      refine GOK_less hG (fun i _ => ?_)
      unfold up; split
      · exact Or.inl rfl
      · exact Or.inr rfl
  · rw [if_neg q, if_pos (by decide), if_pos (by decide)]
    exact ⟨_, _, rfl, rfl, rfl, keep⟩

def sw_ (G : GV) (w : Nat → Nat) : GV := (G.1, G.2.1, G.2.2.1, w, G.2.2.2.2.1, G.2.2.2.2.2.1, G.2.2.2.2.2.2)
def sb_ (G : GV) (h : Nat → Int) (b : Nat → Prop) : GV := (G.1, G.2.1, G.2.2.1, G.2.2.2.1, h, b, G.2.2.2.2.2.2)
def st_ (G : GV) (t : Nat → Prop) : GV := (G.1, G.2.1, G.2.2.1, G.2.2.2.1, G.2.2.2.2.1, G.2.2.2.2.2.1, t)
def sk_ (G : GV) (k : Nat) (h : Nat → Int) : GV := ((G.1.1, G.1.2.1, k), G.2.1, G.2.2.1, G.2.2.2.1, h, G.2.2.2.2.2.1, G.2.2.2.2.2.2)
def upn (f : Nat → Nat) (k x : Nat) : Nat → Nat := fun j => if j = k then x else f j
def upp (f : Nat → Prop) (k : Nat) (x : Prop) : Nat → Prop := fun j => if j = k then x else f j
theorem upp_e (f : Nat → Prop) (k : Nat) (x : Prop) : upp f k x k = x := by unfold upp; rw [if_pos rfl]
theorem upp_n (f : Nat → Prop) {j k : Nat} (x : Prop) (h : j ≠ k) : upp f k x j = f j := by unfold upp; rw [if_neg h]
theorem upn_e (f : Nat → Nat) (k x : Nat) : upn f k x k = x := by unfold upn; rw [if_pos rfl]
theorem upn_n (f : Nat → Nat) {j k : Nat} (x : Nat) (h : j ≠ k) : upn f k x j = f j := by unfold upn; rw [if_neg h]
section
variable {N M : ZB} {G : GV} {Ac : ZA}
theorem dci (p : Prop) : (0 : Int) ≤ (if dc p then (1 : Int) else 0) ∧ (if dc p then (1 : Int) else 0) ≤ 1 := by
  by_cases h : p
  · rw [dc_t.mpr h]; decide
  · rw [dc_f.mpr h]; decide
theorem dcn {p q : Prop} (h : p ↔ ¬ q) : (1 : Int) - (if dc q then (1 : Int) else 0) = (if dc p then (1 : Int) else 0) := by
  by_cases k : q
  · rw [dc_t.mpr k, dc_f.mpr (fun z => h.mp z k)]; rfl
  · rw [dc_f.mpr k, dc_t.mpr (h.mpr k)]; rfl
/-- a line broken or mended, in both -/
theorem flip_ok (hG : GOK G) {l : Nat} (hl : l < gL G) (x : Prop) : GOK (sb_ G (up (gh G) l (-1)) (upp (gbr G) l x)) := by
  have hb := hG.1
  refine ⟨hG.1, fun i hi => ?_, fun i hi => ?_, fun f hf => Fo_mono ?_ (hG.2.2.2 f hf)⟩
  · obtain ⟨a1, a2, a3, a4, a5, a6, a7, a8⟩ := hG.2.1 i hi
    refine ⟨a1, a2, a3, a4, a5, ?_⟩
    show -1 ≤ up (gh G) l (-1) i ∧ up (gh G) l (-1) i < gk G ∧ (upp (gbr G) l x i → up (gh G) l (-1) i = -1)
    by_cases e : i = l
    · subst e; rw [up_e]; exact ⟨by omega, by omega, fun _ => rfl⟩
    · rw [up_n _ _ e, upp_n _ _ e]; exact ⟨a6, a7, a8⟩
  · have hi' : gL G ≤ i := hi
    have := hG.2.2.1 i hi'
    refine ⟨?_, this.2⟩
    show ¬ upp (gbr G) l x i
    rw [upp_n _ _ (by omega)]; exact this.1
  · intro i hi
    refine ⟨hi.1, ?_⟩
    have h2 : up (gh G) l (-1) i = f := hi.2
    by_cases e : i = l
    · subst e; rw [up_e] at h2; omega
    · rw [up_n _ _ e] at h2; exact h2
theorem RN_break (hR : RN N G) (hG : GOK G) {l : Nat} (hl : l < gL G) : ∃ N', fN_breakLine N (l : Int) = some N' ∧ RN N' (sb_ G (up (gh G) l (-1)) (upp (gbr G) l True)) := by
  have hb := hG.1
  have hp := RN_put (l := l) (f := -1) hR
  unfold fN_breakLine
  simp only [lt_e]
  rw [ixn (by omega), Int.toNat_natCast]
  refine ⟨_, rfl, hp.1, hp.2.1, hp.2.2.1, ?_, hp.2.2.2.2.1, hp.2.2.2.2.2⟩
  show zor (N.1 7) (zshl 1 (l : Int)) = ((bs 24 (upp (gbr G) l True) : Nat) : Int)
  rw [hR.2.2.2.1, zshln (by omega), zorn (bs_lt31 (by omega)) (p2_lt31 (by omega)), bs_one (n := 24) (by omega), bs_or]
  congr 1
  apply bs_ext; intro i _
  by_cases e : i = l
  · subst e; rw [upp_e]; exact ⟨fun _ => trivial, fun _ => Or.inr rfl⟩
  · rw [upp_n _ _ e]; exact ⟨fun k => k.resolve_right e, Or.inl⟩
theorem RN_mend (hR : RN N G) (hG : GOK G) {l : Nat} (hl : l < gL G) (hbr : gbr G l) : ∃ N', fN_mendLine N (l : Int) = some N' ∧ RN N' (sb_ G (up (gh G) l (-1)) (upp (gbr G) l False)) := by
  have hb := hG.1
  unfold fN_mendLine
  simp only [lt_e]
  refine ⟨_, rfl, hR.1, hR.2.1, hR.2.2.1, ?_, hR.2.2.2.2.1, fun i hi => ?_⟩
  · show zand (N.1 7) (zxor (zshl 1 (l : Int)) (-1)) = ((bs 24 (upp (gbr G) l False) : Nat) : Int)
    rw [hR.2.2.2.1, zshln (by omega), zcompn (bs_lt31 (by omega)) (p2_lt31 (by omega)), bs_one (n := 24) (by omega), bs_ndf]
    congr 1
    apply bs_ext; intro i _
    by_cases e : i = l
    · subst e; rw [upp_e]; exact ⟨fun k => k.2 rfl, fun k => k.elim⟩
    · rw [upp_n _ _ e]; exact ⟨fun k => k.1, fun k => ⟨k, e⟩⟩
  · obtain ⟨n0, n1, n2, n3⟩ := hR.2.2.2.2.2 i hi
    refine ⟨n0, n1, n2, ?_⟩
    show N.2 3 i = up (gh G) l (-1) i
    by_cases e : i = l
    · subst e; rw [up_e, n3]; exact (hG.2.1 i hl).2.2.2.2.2.2.2 hbr
    · rw [up_n _ _ e]; exact n3
theorem M_flips (hR : RW (M.2 12) G) (hG : GOK G) {l : Nat} (hl : l < gL G) : ∃ g, fM_flips M (l : Int) = some (M.1, ua M.2 12 g) ∧ RW g (sb_ G (up (gh G) l (-1)) (upp (gbr G) l (¬ gbr G l))) := by
  have hb := hG.1
  have hv := hR.2.2.2 l hl
  unfold fM_flips
  simp only [lt_e]
  rw [rd99 (by omega), ixi (by omega), ixi (by omega), tn75, tn99]
  simp only [ua_e, ua_up]
  refine ⟨_, rfl, ?_⟩
  obtain ⟨h1, h2, h3, h4⟩ := hR
  refine ⟨?_, ?_, ?_, fun i hi => ?_⟩
  · rw [up_n _ _ (by omega), up_n _ _ (by omega)]; exact h1
  · rw [up_n _ _ (by omega), up_n _ _ (by omega)]; exact h2
  · rw [up_n _ _ (by omega), up_n _ _ (by omega)]; exact h3
  · have hi' : i < gL G := hi
    obtain ⟨q1, q2, q3, q4, q5, q6⟩ := h4 i hi
    refine ⟨?_, ?_, ?_, ?_, ?_, ?_⟩
    · rw [up_n _ _ (by omega), up_n _ _ (by omega)]; exact q1
    · rw [up_n _ _ (by omega), up_n _ _ (by omega)]; exact q2
    · rw [up_n _ _ (by omega), up_n _ _ (by omega)]; exact q3
    · show _ = up (gh G) l (-1) i
      by_cases e : i = l
      · subst e; rw [up_e, up_e]
      · rw [up_n _ _ (by omega), up_n _ _ (by omega), up_n _ _ e]; exact q4
    · show _ = (if dc (upp (gbr G) l (¬ gbr G l) i) then (1 : Int) else 0)
      by_cases e : i = l
      · subst e; rw [up_n _ _ (by omega), up_e, upp_e, q5]; exact dcn Iff.rfl
      · rw [up_n _ _ (by omega), up_n _ _ (by omega), upp_n _ _ e]; exact q5
    · rw [up_n _ _ (by omega), up_n _ _ (by omega)]; exact q6
theorem upp_eq {f : Nat → Prop} {k : Nat} {x y : Prop} (h : x ↔ y) : upp f k x = upp f k y := by rw [propext h]
end
theorem sim17 : Sim17 INV := by
  intro X N T Rd Fr Ac Ch PS Ly Pa OT Ea Ga c0 c1 M a1 hI hr1
  have keep : INV X N T Rd Fr Ac Ch PS Ly Pa OT Ea Ga c0 c1 (up M.1 0 0, M.2) := hI
  obtain ⟨⟨G, hG, hN, hM⟩, hT, hR, hA, hC, hGa, hi0, hi1, hP⟩ := hI
  have hb := hG.1
  have hM' : RW (((up M.1 0 0, M.2) : ZB).2 12) G := hM
  obtain ⟨B, hB, hBA, E, hE, hS⟩ := act hA hN hG
  unfold fX_breaks fM_breaks fM_flipsIf
  simp only [lt_e]
  rw [N_hasLine hN hG hr1, M_isLine hM' hG hr1, bds, bds]
  by_cases q : 0 ≤ a1 ∧ a1 < gL G
  · obtain ⟨l, rfl⟩ : ∃ l : Nat, a1 = l := ⟨a1.toNat, by omega⟩
    have hl : l < gL G := by omega
    rw [if_pos q, if_neg (by decide : ¬ nm 1 = 0), if_neg (by decide : ¬ nm 1 = 0), N_isSound hN (by omega), M_isBroken hM' hG hl, bds, bds]
    by_cases s : gbr G l
    · rw [dc_t.mpr s, if_pos (by decide), if_neg (by decide), bds]; exact ⟨_, _, rfl, rfl, rfl, keep⟩
    · obtain ⟨x, t, hx, hxA⟩ := hS (up M.1 0 0, M.2) rfl rfl hM'
      have hM2 : RW (((up (up M.1 0 0) 20 x, ua M.2 15 t) : ZB).2 12) G := hM
      obtain ⟨N', n1, n2⟩ := RN_break hN hG hl
      obtain ⟨g, m1, m2⟩ := M_flips hM2 hG hl
      rw [dc_f.mpr s, if_neg (by decide), if_pos (by decide), hB, bds, n1, bds, hE, bds, hx, bds, m1, bds, bds]
      rw [upp_eq (show (¬ gbr G l) ↔ True from ⟨fun _ => trivial, fun _ => s⟩)] at m2
      exact ⟨_, _, rfl, rfl, rfl, ⟨_, flip_ok hG hl True, n2, m2⟩, hT, hR, hxA, hC, hGa, hi0, hi1, hP⟩
  · rw [if_neg q, if_pos (by decide), if_pos (by decide), bds]
    exact ⟨_, _, rfl, rfl, rfl, keep⟩
theorem sim18 : Sim18 INV := by
  intro X N T Rd Fr Ac Ch PS Ly Pa OT Ea Ga c0 c1 M a1 hI hr1
  have keep : INV X N T Rd Fr Ac Ch PS Ly Pa OT Ea Ga c0 c1 (up M.1 0 0, M.2) := hI
  obtain ⟨⟨G, hG, hN, hM⟩, hT, hR, hA, hC, hGa, hi0, hi1, hP⟩ := hI
  have hb := hG.1
  have hM' : RW (((up M.1 0 0, M.2) : ZB).2 12) G := hM
  obtain ⟨B, hB, hBA, E, hE, hS⟩ := act hA hN hG
  unfold fX_mend fM_mend fM_flipsIf
  simp only [lt_e]
  rw [N_hasLine hN hG hr1, M_isLine hM' hG hr1, bds, bds]
  by_cases q : 0 ≤ a1 ∧ a1 < gL G
  · obtain ⟨l, rfl⟩ : ∃ l : Nat, a1 = l := ⟨a1.toNat, by omega⟩
    have hl : l < gL G := by omega
    rw [if_pos q, if_neg (by decide : ¬ nm 1 = 0), if_neg (by decide : ¬ nm 1 = 0), N_isSound hN (by omega), M_isBroken hM' hG hl, bds, bds]
    by_cases s : gbr G l
    · obtain ⟨x, t, hx, hxA⟩ := hS (up M.1 0 0, M.2) rfl rfl hM'
      have hM2 : RW (((up (up M.1 0 0) 20 x, ua M.2 15 t) : ZB).2 12) G := hM
      obtain ⟨N', n1, n2⟩ := RN_mend hN hG hl s
      obtain ⟨g, m1, m2⟩ := M_flips hM2 hG hl
      rw [dc_t.mpr s, if_pos (by decide), if_pos (by decide), hB, bds, n1, bds, hE, bds, hx, bds, m1, bds, bds]
      rw [upp_eq (show (¬ gbr G l) ↔ False from ⟨fun k => k s, fun k => k.elim⟩)] at m2
      exact ⟨_, _, rfl, rfl, rfl, ⟨_, flip_ok hG hl False, n2, m2⟩, hT, hR, hxA, hC, hGa, hi0, hi1, hP⟩
    · rw [dc_f.mpr s, if_neg (by decide), if_neg (by decide), bds]; exact ⟨_, _, rfl, rfl, rfl, keep⟩
  · rw [if_neg q, if_pos (by decide), if_pos (by decide), bds]
    exact ⟨_, _, rfl, rfl, rfl, keep⟩
theorem sim19 : Sim19 INV := by
  intro X N T Rd Fr Ac Ch PS Ly Pa OT Ea Ga c0 c1 M a1 a2 hI hr1 hr2
  have keep : INV X N T Rd Fr Ac Ch PS Ly Pa OT Ea Ga c0 c1 (up M.1 0 0, M.2) := hI
  obtain ⟨⟨G, hG, hN, hM⟩, hT, hR, hA, hC, hGa, hi0, hi1, hP⟩ := hI
  have hb := hG.1
  have hM' : RW (((up M.1 0 0, M.2) : ZB).2 12) G := hM
  obtain ⟨B, hB, hBA, E, hE, hS⟩ := act hA hN hG
  unfold fX_weigh fM_weigh
  simp only [lt_e, kf0]
  rw [N_hasLine hN hG hr1, M_isLine hM' hG hr1, M_isIn hr2 (by omega) (by omega), bds, bds, bds, nmi hr2]
  by_cases q : 0 ≤ a1 ∧ a1 < gL G
  · obtain ⟨l, rfl⟩ : ∃ l : Nat, a1 = l := ⟨a1.toNat, by omega⟩
    have hl : l < gL G := by omega
    have hv := hG.2.1 l hl
    have hn := hN.2.2.2.2.2 l hl
    have hm := hM.2.2.2 l hl
    rw [if_pos q, if_neg (by decide : ¬ nm 1 = 0), if_neg (by decide : ¬ nm 1 = 0)]
    by_cases z : 1 ≤ a2 ∧ a2 ≤ 99
    · rw [if_neg (by omega : ¬ a2 < 1), if_neg (by omega : ¬ 99 < a2), if_pos z, if_neg (by decide : ¬ nm 1 = 0), rdn (by omega), rd51 (by omega), hn.2.2.1, nmn (by omega)]
      simp only [hm.2.2.1]
      rw [nmn (by omega)]
      by_cases s : (gw G l : Int) = a2
      · rw [if_pos s, if_pos s]; exact ⟨_, _, rfl, rfl, rfl, keep⟩
      · obtain ⟨x, t, hx, hxA⟩ := hS (up M.1 0 0, M.2) rfl rfl hM'
        obtain ⟨w, rfl⟩ : ∃ w : Nat, a2 = w := ⟨a2.toNat, by omega⟩
        rw [if_neg s, if_neg s, hB, bds, ixn (by omega), hE, bds, hx, bds, ixi (by omega), tn51, Int.toNat_natCast]
        refine ⟨_, _, rfl, rfl, rfl, ⟨sw_ G (upn (gw G) l w), ?_, ?_, ?_⟩, hT, hR, hxA, hC, hGa, hi0, hi1, hP⟩
        · refine ⟨hG.1, fun i hi => ?_, hG.2.2.1, hG.2.2.2⟩
          obtain ⟨a1, a2, a3, a4, a5, a6⟩ := hG.2.1 i hi
          refine ⟨a1, a2, a3, ?_, ?_, a6⟩
          · show 1 ≤ upn (gw G) l w i
            by_cases e : i = l
            · subst e; rw [upn_e]; omega
            · rw [upn_n _ _ e]; exact a4
          · show upn (gw G) l w i ≤ 99
            by_cases e : i = l
            · subst e; rw [upn_e]; omega
            · rw [upn_n _ _ e]; exact a5
        · refine ⟨hN.1, hN.2.1, hN.2.2.1, hN.2.2.2.1, hN.2.2.2.2.1, fun i hi => ?_⟩
          obtain ⟨n0, n1, n2, n3⟩ := hN.2.2.2.2.2 i hi
          refine ⟨n0, n1, ?_, n3⟩
          show up (N.2 2) l (w : Int) i = ((upn (gw G) l w i : Nat) : Int)
          by_cases e : i = l
          · subst e; rw [up_e, upn_e]
          · rw [up_n _ _ e, upn_n _ _ e]; exact n2
        · show RW (up (M.2 12) (51 + l) (w : Int)) _
          obtain ⟨h1, h2, h3, h4⟩ := hM
          refine ⟨?_, ?_, ?_, fun i hi => ?_⟩
          · rw [up_n _ _ (by omega)]; exact h1
          · rw [up_n _ _ (by omega)]; exact h2
          · rw [up_n _ _ (by omega)]; exact h3
          · have hi' : i < gL G := hi
            obtain ⟨q1, q2, q3, q4, q5, q6⟩ := h4 i hi
            refine ⟨by rw [up_n _ _ (by omega)]; exact q1, by rw [up_n _ _ (by omega)]; exact q2, ?_, by rw [up_n _ _ (by omega)]; exact q4, by rw [up_n _ _ (by omega)]; exact q5, by rw [up_n _ _ (by omega)]; exact q6⟩
            show _ = ((upn (gw G) l w i : Nat) : Int)
            by_cases e : i = l
            · subst e; rw [up_e, upn_e]
            · rw [up_n _ _ (by omega), upn_n _ _ e]; exact q3
    · rw [if_neg z, if_pos (by decide : nm 0 = 0)]
      refine ⟨(-1, N, Ac), _, ?_, rfl, rfl, keep⟩
      by_cases r : a2 < 1
      · rw [if_pos r]
      · rw [if_neg r, if_pos (by omega)]
  · rw [if_neg q, if_pos (by decide), if_pos (by decide)]
    exact ⟨_, _, rfl, rfl, rfl, keep⟩
