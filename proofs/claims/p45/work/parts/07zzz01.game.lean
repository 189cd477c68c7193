-- needs: 07zzy.ease2
/-! game -/
theorem lopJ22 {α0 α1 γ0 γ1 β δ : Type} {b1 : (α0 → α1 → Option β) → α0 → α1 → Option β} {b2 : (γ0 → γ1 → Option δ) → γ0 → γ1 → Option δ} (R : α0 → α1 → γ0 → γ1 → Prop) (m : α0 → α1 → γ0 → γ1 → Nat) (Q : β → δ → Prop)
    (hs : ∀ x0 x1 y0 y1, R x0 x1 y0 y1 → (∃ u0 u1 v0 v1, R u0 u1 v0 v1 ∧ m u0 u1 v0 v1 < m x0 x1 y0 y1 ∧ (∀ rec, b1 rec x0 x1 = rec u0 u1) ∧ (∀ rec, b2 rec y0 y1 = rec v0 v1)) ∨ (∃ r t, (∀ rec, b1 rec x0 x1 = some r) ∧ (∀ rec, b2 rec y0 y1 = some t) ∧ Q r t)) :
    ∀ n x0 x1 y0 y1, R x0 x1 y0 y1 → m x0 x1 y0 y1 < n → ∃ r t, lop2 n b1 x0 x1 = some r ∧ lop2 n b2 y0 y1 = some t ∧ Q r t := by
  intro n
  induction n with
  | zero => intro x0 x1 y0 y1 _ h; omega
  | succ n ih =>
    intro x0 x1 y0 y1 hR hm
    rcases hs _ _ _ _ hR with ⟨u0, u1, v0, v1, h1, h2, h3, h4⟩ | ⟨r, t, h1, h2, h3⟩
    · obtain ⟨r, t, e1, e2, e3⟩ := ih _ _ _ _ h1 (by omega)
      exact ⟨r, t, (h3 _).trans e1, (h4 _).trans e2, e3⟩
    · exact ⟨r, t, h1 _, h2 _, h3⟩
/-- what is left of a forest when a line is cut, and which line answers -/
noncomputable def gSet (G : GV) (C K : Nat → Prop) (l : Nat) : Nat := bs (gL G) (fun x => (gh G x = gh G l ∧ ¬ C x ∧ x ≠ l) ∨ K x)
def gAc (G : GV) (C K : Nat → Prop) (l x : Nat) : Prop := gh G x = 1 - gh G l ∧ ¬ C x ∧ ¬ K x ∧ ¬ (Ca G (gSet G C K l) (ga G l) (ga G x) ↔ Ca G (gSet G C K l) (ga G l) (gb G x))
noncomputable def gAns (G : GV) (C K : Nat → Prop) (l : Nat) : Int := if dc (∃ x, x < gL G ∧ gAc G C K l x) then ((lst (gL G) (gAc G C K l) : Nat) : Int) else -1
theorem gAns_at {G : GV} {C K : Nat → Prop} {l k : Nat} (hk : k < gL G) (h : gAc G C K l k) (hno : ∀ j, j < k → ¬ gAc G C K l j) : gAns G C K l = (k : Int) := by
  unfold gAns; rw [idt ⟨k, hk, h⟩, lst_at hk h hno]
theorem gAns_no {G : GV} {C K : Nat → Prop} {l : Nat} (hno : ∀ j, j < gL G → ¬ gAc G C K l j) : gAns G C K l = -1 := by
  unfold gAns; rw [idf (fun ⟨x, h1, h2⟩ => hno x h1 h2)]
theorem gAns_sp {G : GV} {C K : Nat → Prop} {l : Nat} : gAns G C K l = -1 ∨ ∃ k : Nat, gAns G C K l = (k : Int) ∧ k < gL G ∧ gAc G C K l k := by
  unfold gAns
  by_cases h : ∃ x, x < gL G ∧ gAc G C K l x
  · rw [idt h]
    obtain ⟨s1, s2, _⟩ := lst_sp h
    exact Or.inr ⟨_, rfl, s1, s2⟩
  · rw [idf h]; exact Or.inl rfl
section
variable {N M : ZB} {G : GV} {C K : Nat → Prop}
theorem Ga_across (hN : RN N G) (hG : GOK G) {l : Nat} : fGa_firstAcross N ((bs (gL G) (fun x => gh G x = 1 - gh G l ∧ ¬ C x ∧ ¬ K x) : Nat) : Int) ((bs (gn G) (Ca G (gSet G C K l) (ga G l)) : Nat) : Int) = some (gAns G C K l) := by
  have hb := hG.1
  have main : wp (fGa_firstAcross N ((bs (gL G) (fun x => gh G x = 1 - gh G l ∧ ¬ C x ∧ ¬ K x) : Nat) : Int) ((bs (gn G) (Ca G (gSet G C K l) (ga G l)) : Nat) : Int)) (fun r => r = gAns G C K l) := by
    unfold fGa_firstAcross
    refine lop1_w (fun v3 => ∃ k : Nat, v3 = (k : Int) ∧ k ≤ gL G ∧ ∀ j, j < k → ¬ gAc G C K l j) (fun v3 => gL G - v3.toNat) ?_ FU _ ⟨0, rfl, by omega, fun j h => absurd h (Nat.not_lt_zero j)⟩ (by show gL G - _ < 100000; omega)
    intro rec v3 hI hrec
    obtain ⟨k, rfl, hk, hno⟩ := hI
    rw [hN.2.1, nmn (by omega), nmn (by omega)]
    by_cases hkL : k < gL G
    · have hv := hG.2.1 k hkL
      obtain ⟨n0, n1, _⟩ := hN.2.2.2.2.2 k hkL
      have goOn : ¬ gAc G C K l k → ∃ r, rec ((k : Int) + 1) = some r ∧ r = gAns G C K l := by
        intro h
        refine hrec _ ⟨k+1, by omega, by omega, fun j hj => ?_⟩ (by omega)
        by_cases e : j = k
        · subst e; exact h
        · exact hno j (by omega)
      simp only [kf1, kf0]
      rw [if_pos (by omega), rdn (by omega), rdn (by omega), n0, n1, zbit (bs_lt31 (by omega)) (by omega), zbit (bs_lt31 (by omega)) (by omega), zbit (bs_lt31 (by omega)) (by omega)]
      have b1 := bs_bit (gn G) (Ca G (gSet G C K l) (ga G l)) (ga G k)
      have b2 := bs_bit (gn G) (Ca G (gSet G C K l) (ga G l)) (gb G k)
      have b1' : (bs (gn G) (Ca G (gSet G C K l) (ga G l))).testBit (ga G k) = true ↔ Ca G (gSet G C K l) (ga G l) (ga G k) := by rw [b1]; exact ⟨fun h => h.2, fun h => ⟨hv.1, h⟩⟩
      have b2' : (bs (gn G) (Ca G (gSet G C K l) (ga G l))).testBit (gb G k) = true ↔ Ca G (gSet G C K l) (ga G l) (gb G k) := by rw [b2]; exact ⟨fun h => h.2, fun h => ⟨hv.2.1, h⟩⟩
      have hcond : ((if (bs (gn G) (Ca G (gSet G C K l) (ga G l))).testBit (ga G k) = true then (1 : Int) else 0) = (if (bs (gn G) (Ca G (gSet G C K l) (ga G l))).testBit (gb G k) = true then (1 : Int) else 0)) ↔ (Ca G (gSet G C K l) (ga G l) (ga G k) ↔ Ca G (gSet G C K l) (ga G l) (gb G k)) := by
        rw [← b1', ← b2']
        cases (bs (gn G) (Ca G (gSet G C K l) (ga G l))).testBit (ga G k) <;> cases (bs (gn G) (Ca G (gSet G C K l) (ga G l))).testBit (gb G k) <;> simp
      by_cases q1 : gh G k = 1 - gh G l ∧ ¬ C k ∧ ¬ K k
      · have t1 : (bs (gL G) (fun x => gh G x = 1 - gh G l ∧ ¬ C x ∧ ¬ K x)).testBit k = true := (bs_bit _ _ _).mpr ⟨hkL, q1⟩
        by_cases q2 : (Ca G (gSet G C K l) (ga G l) (ga G k) ↔ Ca G (gSet G C K l) (ga G l) (gb G k))
        · rw [if_pos (hcond.mpr q2), b10t t1, if_pos (by decide : nm 0 = 0)]
          exact goOn (fun h => h.2.2.2 q2)
        · rw [if_neg (fun h => q2 (hcond.mp h)), b10t t1, if_neg (by decide : ¬ nm 1 = 0)]
          exact ⟨_, rfl, (gAns_at hkL ⟨q1.1, q1.2.1, q1.2.2, q2⟩ hno).symm⟩
      · have t1 : ¬ (bs (gL G) (fun x => gh G x = 1 - gh G l ∧ ¬ C x ∧ ¬ K x)).testBit k = true := fun h => q1 ((bs_bit _ _ _).mp h).2
        have hgo := goOn (fun h => q1 ⟨h.1, h.2.1, h.2.2.1⟩)
        rw [b10f t1, b10f t1, ite_self]
        exact hgo
    · rw [if_neg (by omega)]
      exact ⟨_, rfl, (gAns_no (fun j hj => hno j (by omega))).symm⟩
  obtain ⟨r, h1, h2⟩ := main
  rw [h1, h2]
theorem M_answerTo (hM : RW (M.2 12) G) (hG : GOK G) {l : Nat} (hl : l < gL G) (hf : 0 ≤ gh G l ∧ gh G l ≤ 1) (hK : ¬ K l) (hc : M.2 33 0 = ((bs (gL G) C : Nat) : Int)) (hk : M.2 33 1 = ((bs (gL G) K : Nat) : Int)) : fM_answerTo M (l : Int) = some (gAns G C K l) := by
  have hb := hG.1
  have hv := hG.2.1 l hl
  have main : wp (fM_answerTo M (l : Int)) (fun r => r = gAns G C K l) := by
    unfold fM_answerTo fM_treeOf
    have hset : ndf (ndf (bs (gL G) (fun x => gh G x = gh G l)) (bs (gL G) C) ||| bs (gL G) K) (2 ^ l) = gSet G C K l := by
      unfold gSet
      rw [bs_ndf, bs_or, bs_one hl, bs_ndf]
      apply bs_ext; intro x _
      constructor
      · rintro ⟨⟨h1, h2⟩ | h1, h3⟩
        · exact Or.inl ⟨h1, h2, h3⟩
        · exact Or.inr h1
      · rintro (⟨h1, h2, h3⟩ | h1)
        · exact ⟨Or.inl ⟨h1, h2⟩, h3⟩
        · exact ⟨Or.inr h1, fun e => hK (e ▸ h1)⟩
    rw [M_lies hM hG hl, bds, M_inForest hM hG (by omega), bds, rdi (by omega), rdi (by omega), show Int.toNat 0 = 0 from rfl, show Int.toNat 1 = 1 from rfl, hc, hk, bds, lt_e, zcompn (bs_lt31 (by omega)) (bs_lt31 (by omega))]
    have l1 : ndf (bs (gL G) (fun x => gh G x = gh G l)) (bs (gL G) C) < 2147483648 := Nat.lt_of_le_of_lt (ndf_le _ _) (bs_lt31 (by omega))
    have l2 : ndf (bs (gL G) (fun x => gh G x = gh G l)) (bs (gL G) C) ||| bs (gL G) K < 2147483648 := Nat.or_lt_two_pow (n := 31) l1 (bs_lt31 (by omega))
    have l3 : gSet G C K l < 2147483648 := bs_lt31 (by omega)
    rw [zorn l1 (bs_lt31 (by omega)), zshln (by omega), zcompn l2 (p2_lt31 (by omega)), hset, rd3 (by omega), (hM.2.2.2 l hl).1, M_joined hM hG hv.1 l3, bds]
    refine lop1_w (fun v3 => ∃ k : Nat, v3 = (k : Int) ∧ k ≤ gL G ∧ ∀ j, j < k → ¬ gAc G C K l j) (fun v3 => gL G - v3.toNat) ?_ FU _ ⟨0, rfl, by omega, fun j h => absurd h (Nat.not_lt_zero j)⟩ (by show gL G - _ < 100000; omega)
    intro rec v3 hI hrec
    obtain ⟨k, rfl, hkk, hno⟩ := hI
    rw [M_lines hM, bds, nmn (by omega), nmn (by omega)]
    by_cases hkL : k < gL G
    · have hvk := hG.2.1 k hkL
      obtain ⟨m0, m1, _⟩ := hM.2.2.2 k hkL
      have goOn : ¬ gAc G C K l k → ∃ r, rec ((k : Int) + 1) = some r ∧ r = gAns G C K l := by
        intro h
        refine hrec _ ⟨k+1, by omega, by omega, fun j hj => ?_⟩ (by omega)
        by_cases e : j = k
        · subst e; exact h
        · exact hno j (by omega)
      simp only [kf0]
      rw [if_pos (by omega), M_lies hM hG hkL, bds, bds, nmh hG hkL, nmi (show -2147483648 ≤ 1 - gh G l ∧ 1 - gh G l < 2147483648 by omega)]
      by_cases q1 : gh G k = 1 - gh G l
      · rw [if_pos q1, rdi (by omega), rdi (by omega), show Int.toNat 0 = 0 from rfl, show Int.toNat 1 = 1 from rfl, hc, hk, zorn (bs_lt31 (by omega)) (bs_lt31 (by omega)), bs_or, M_has (bs_lt31 (by omega)) (by omega), bds]
        by_cases q2 : C k ∨ K k
        · rw [t10t ((bs_bit _ _ _).mpr ⟨hkL, q2⟩)]
          exact goOn (fun h => by rcases q2 with z | z; exact h.2.1 z; exact h.2.2.1 z)
        · rw [t10f (fun z => q2 ((bs_bit _ _ _).mp z).2), rd3 (by omega), m0, M_has (bs_lt31 (by omega)) (by omega), bds, rd27 (by omega), m1, M_has (bs_lt31 (by omega)) (by omega), bds]
          have b1 := bs_bit (gn G) (Ca G (gSet G C K l) (ga G l)) (ga G k)
          have b2 := bs_bit (gn G) (Ca G (gSet G C K l) (ga G l)) (gb G k)
          have b1' : (bs (gn G) (Ca G (gSet G C K l) (ga G l))).testBit (ga G k) = true ↔ Ca G (gSet G C K l) (ga G l) (ga G k) := by rw [b1]; exact ⟨fun h => h.2, fun h => ⟨hvk.1, h⟩⟩
          have b2' : (bs (gn G) (Ca G (gSet G C K l) (ga G l))).testBit (gb G k) = true ↔ Ca G (gSet G C K l) (ga G l) (gb G k) := by rw [b2]; exact ⟨fun h => h.2, fun h => ⟨hvk.2.1, h⟩⟩
          have hcond : (nm (if (bs (gn G) (Ca G (gSet G C K l) (ga G l))).testBit (ga G k) = true then (1 : Int) else 0) = nm (if (bs (gn G) (Ca G (gSet G C K l) (ga G l))).testBit (gb G k) = true then (1 : Int) else 0)) ↔ (Ca G (gSet G C K l) (ga G l) (ga G k) ↔ Ca G (gSet G C K l) (ga G l) (gb G k)) := by
            rw [← b1', ← b2']
            cases (bs (gn G) (Ca G (gSet G C K l) (ga G l))).testBit (ga G k) <;> cases (bs (gn G) (Ca G (gSet G C K l) (ga G l))).testBit (gb G k) <;> simp [nm_0] <;> decide
          by_cases q3 : (Ca G (gSet G C K l) (ga G l) (ga G k) ↔ Ca G (gSet G C K l) (ga G l) (gb G k))
          · rw [if_pos (hcond.mpr q3)]; exact goOn (fun h => h.2.2.2 q3)
          · rw [if_neg (fun h => q3 (hcond.mp h))]
            exact ⟨_, rfl, (gAns_at hkL ⟨q1, fun z => q2 (Or.inl z), fun z => q2 (Or.inr z), q3⟩ hno).symm⟩
      · rw [if_neg q1]; exact goOn (fun h => q1 h.1)
    · rw [if_neg (by omega)]
      exact ⟨_, rfl, (gAns_no (fun j hj => hno j (by omega))).symm⟩
  obtain ⟨r, h1, h2⟩ := main
  rw [h1, h2]
theorem tree_pc (hG : GOK G) {f : Int} (hf : 0 ≤ f) : gpc G (bs (gL G) (fun x => gh G x = f)) = 1 ↔ cnt (gL G) (fun x => gh G x = f) + 1 = gn G := by
  have h1 := Rp_count (a := ga G) (b := gb G) (n := gn G) (gL G) (InF G f) (fun l hl => ⟨hl.1, (hG.2.1 l hl.1).1, (hG.2.1 l hl.1).2.1⟩) (hG.2.2.2 f hf)
  have h2 : cnt (gL G) (InF G f) = cnt (gL G) (fun x => gh G x = f) := cnt_ext (fun i hi => ⟨fun k => k.2, fun k => ⟨hi, k⟩⟩)
  have h3 : gpc G (bs (gL G) (fun x => gh G x = f)) = cnt (gn G) (Rp (ga G) (gb G) (InF G f)) := by
    unfold gpc
    apply cnt_ext
    intro i _
    unfold Rp
    exact ⟨fun k q hq c => k q hq ((Cn_congr (Eb_forest (f := f))).mpr c), fun k q hq c => k q hq ((Cn_congr (Eb_forest (f := f))).mp c)⟩
  omega
end

def GR (G : GV) (T Ga M : ZB) (i : Nat) (Ga' M' : ZB) : Prop := ∃ (C K : Nat → Prop) (tc : Nat), tc ≤ 24 ∧ Ga'.1 5 = ((bs (gL G) C : Nat) : Int) ∧ Ga'.1 6 = ((bs (gL G) K : Nat) : Int) ∧ Ga'.1 4 = (tc : Int) ∧ Ga'.2 2 0 = ((bs (gL G) (fun x => gh G x = 0) : Nat) : Int) ∧ Ga'.2 2 1 = ((bs (gL G) (fun x => gh G x = 1) : Nat) : Int) ∧ M'.2 33 0 = ((bs (gL G) C : Nat) : Int) ∧ M'.2 33 1 = ((bs (gL G) K : Nat) : Int) ∧ M'.1 32 = (tc : Int) ∧ (∀ j, j < tc → Ga'.2 3 j = M'.2 31 j) ∧ (∀ j, j ≠ 32 → M'.1 j = M.1 j) ∧ (∀ j, j ≠ 31 → j ≠ 33 → M'.2 j = M.2 j) ∧ cnt (gL G) C = tc ∧ (∀ x, C x → x < gL G ∧ ¬ K x)
theorem game_loop {N M M0 T Ga : ZB} {G : GV} (hN : RN N G) (hM : RW (M.2 12) G) (hG : GOK G) {u : Nat} (hu : u ≤ 640) (hT1 : T.1 1 = (u : Int)) (hT2 : ∀ i, i < u → T.2 0 i = M.2 1 i ∧ 0 ≤ T.2 0 i ∧ T.2 0 i ≤ 255) (h0 : M0.1 2 = (u : Int)) {Ga0 M1 : ZB} (hR0 : GR G T Ga M 0 Ga0 M1) : ∃ r t, (lop2 FU (fun (rec_16 : Int → ZB → Option (Int × ZB)) (v1_14 : Int) (Ga_15 : ZB) =>
            bd (fT_size T) fun u_17 =>
            kf1 (fun (Ga_18 : ZB) =>
              some ((Ga_18.1 4), Ga_18)) fun k_19 =>
            if (nm v1_14) < (nm u_17) then (
              if (nm (Ga_15.1 4)) < 24 then (
                bd (fT_byteAt T v1_14) fun u_20 =>
                bd (fGa_cutLine N Ga_15 u_20) fun u_21 =>
                if (nm u_21.1) = 0 then (
                  k_19 u_21.2)
                else (
                  rec_16 (v1_14 + 1) u_21.2))
              else (
                k_19 Ga_15))
            else (
              k_19 Ga_15)) 0 Ga0) = some r ∧ (lop2 FU (fun (rec_17 : Int → ZB → Option (Int × ZB)) (v2_15 : Int) (M_16 : ZB) =>
            kf0 (some ((M_16.1 32), M_16)) fun k_18 =>
            if (nm v2_15) < (nm (M0.1 2)) then (
              rd (M_16.2 1) 640 v2_15 fun x_19 =>
              bd (fM_lines M_16) fun u_20 =>
              if (nm x_19) < (nm u_20) then (
                bd (fM_lies M_16 x_19) fun u_21 =>
                if (nm u_21) = (-1) then (
                  k_18)
                else (
                  bd (fM_lies M_16 x_19) fun u_22 =>
                  if 1 < (nm u_22) then (
                    k_18)
                  else (
                    rd (M_16.2 33) 2 0 fun x_23 =>
                    rd (M_16.2 33) 2 1 fun x_24 =>
                    bd (fM_has (zor x_23 x_24) x_19) fun u_25 =>
                    if (nm u_25) = 0 then (
                      bd (fM_answerTo M_16 x_19) fun u_26 =>
                      rd (M_16.2 33) 2 0 fun x_27 =>
                      ix 2 0 <| lt (M_16.1, ua M_16.2 33 (up (M_16.2 33) (Int.toNat 0) (zor x_27 (zshl 1 x_19)))) fun M_28 =>
                      kf1 (fun (M_29 : ZB) =>
                        ix 24 (M_29.1 32) <| lt (M_29.1, ua M_29.2 31 (up (M_29.2 31) (Int.toNat (M_29.1 32)) u_26)) fun M_31 =>
                        lt (up M_31.1 32 (((M_31.1 32) + 1)), M_31.2) fun M_32 =>
                        rec_17 (v2_15 + 1) M_32) fun k_30 =>
                      if (nm u_26) = (-1) then (
                        k_30 M_28)
                      else (
                        rd (M_28.2 33) 2 1 fun x_33 =>
                        ix 2 1 <| lt (M_28.1, ua M_28.2 33 (up (M_28.2 33) (Int.toNat 1) (zor x_33 (zshl 1 u_26)))) fun M_34 =>
                        k_30 M_34))
                    else (
                      k_18))))
              else (
                k_18))
            else (
              k_18)) 0 M1) = some t ∧ (r.1 = t.1 ∧ IGame r.2 (t.2.1 32) (t.2.2 31) ∧ (∀ j, j ≠ 32 → t.2.1 j = M.1 j) ∧ (∀ j, j ≠ 31 → j ≠ 33 → t.2.2 j = M.2 j)) := by
  have hb := hG.1
  refine lopJ22 (fun v1 Ga' v2 M' => ∃ i : Nat, i ≤ u ∧ v1 = (i : Int) ∧ v2 = (i : Int) ∧ GR G T Ga M i Ga' M') (fun v1 _ _ _ => u - v1.toNat) (fun (r t : Int × ZB) => r.1 = t.1 ∧ IGame r.2 (t.2.1 32) (t.2.2 31) ∧ (∀ j, j ≠ 32 → t.2.1 j = M.1 j) ∧ (∀ j, j ≠ 31 → j ≠ 33 → t.2.2 j = M.2 j)) ?_ FU _ _ _ _ ⟨0, by omega, rfl, rfl, hR0⟩ (by show u - _ < 100000; omega)
  intro x0 Ga' y0 M' hR
  obtain ⟨i, hi, rfl, rfl, C, K, tc, r1, r2, r3, r4, r5, r6, r7, r8, r9, r10, r11, r12, r13, r14⟩ := hR
  have hM' : RW (M'.2 12) G := by rw [r12 12 (by decide) (by decide)]; exact hM
  have stopOK : ∃ r t, some ((Ga'.1 4), Ga') = some r ∧ some ((M'.1 32), M') = some t ∧ (r.1 = t.1 ∧ IGame r.2 (t.2.1 32) (t.2.2 31) ∧ (∀ j, j ≠ 32 → t.2.1 j = M.1 j) ∧ (∀ j, j ≠ 31 → j ≠ 33 → t.2.2 j = M.2 j)) :=
    ⟨_, _, rfl, rfl, by rw [r4, r9], ⟨tc, r1, r4, r9, r10⟩, r11, r12⟩
  by_cases hiu : i < u
  · obtain ⟨t1, t2, t3⟩ := hT2 i hiu
    obtain ⟨l, hl⟩ : ∃ l : Nat, T.2 0 i = (l : Int) := ⟨(T.2 0 i).toNat, by omega⟩
    have hl255 : l ≤ 255 := by omega
    have hbyte : fT_byteAt T (i : Int) = some (l : Int) := by
      unfold fT_byteAt
      simp only [kf1, kf0]
      rw [hT1, nmn (by omega), nmn (by omega), if_neg (by omega), if_pos (by omega), rdn (by omega), hl]
    have hmb : M'.2 1 i = (l : Int) := by rw [r12 1 (by decide) (by decide), ← t1, hl]
    by_cases ok : l < gL G ∧ 0 ≤ gh G l ∧ gh G l ≤ 1 ∧ ¬ C l ∧ ¬ K l
    · obtain ⟨o1, o2, o3, o4, o5⟩ := ok
      have hv := hG.2.1 l o1
      have htc24 : tc < 24 := by
        rcases Nat.lt_or_ge tc 24 with z | z
        · exact z
        · exfalso
          have := cnt_lt (n := gL G) (i := l) (p := C) (q := fun _ => True) (fun _ _ _ => trivial) o1 trivial o4
          have := cnt_le (gL G) (fun _ => True)
          omega
      have hbit : ¬ (bs (gL G) (fun x => C x ∨ K x)).testBit l = true := fun z => by
        rcases ((bs_bit _ _ _).mp z).2 with w | w
        · exact o4 w
        · exact o5 w
      have hans := M_answerTo (C := C) (K := K) hM' hG o1 ⟨o2, o3⟩ o5 r7 r8
      have haf := gAns_sp (G := G) (C := C) (K := K) (l := l)
      have har : -2147483648 ≤ gAns G C K l ∧ gAns G C K l < 2147483648 := by
        rcases haf with z | ⟨k, z, zk, _⟩ <;> omega
      have hone : Ga'.2 2 (gh G l).toNat = ((bs (gL G) (fun x => gh G x = gh G l) : Nat) : Int) := by
        rcases (show gh G l = 0 ∨ gh G l = 1 by omega) with z | z
        · rw [z]; exact r5
        · rw [z]; exact r6
      have hoth : Ga'.2 2 (1 - gh G l).toNat = ((bs (gL G) (fun x => gh G x = 1 - gh G l) : Nat) : Int) := by
        rcases (show gh G l = 0 ∨ gh G l = 1 by omega) with z | z
        · rw [z]; exact r6
        · rw [z]; exact r5
      have hC' : bs (gL G) C ||| 2 ^ l = bs (gL G) (fun x => C x ∨ x = l) := by rw [bs_one o1, bs_or]
      have hset : ndf (bs (gL G) (fun x => gh G x = gh G l)) (bs (gL G) (fun x => C x ∨ x = l)) ||| bs (gL G) K = gSet G C K l := by
        unfold gSet
        rw [bs_ndf, bs_or]
        apply bs_ext; intro x _
        constructor
        · rintro (⟨h1, h2⟩ | h1)
          · exact Or.inl ⟨h1, fun z => h2 (Or.inl z), fun z => h2 (Or.inr z)⟩
          · exact Or.inr h1
        · rintro (⟨h1, h2, h3⟩ | h1)
          · exact Or.inl ⟨h1, fun z => by rcases z with z | z; exact h2 z; exact h3 z⟩
          · exact Or.inr h1
      have hacr : ndf (ndf (bs (gL G) (fun x => gh G x = 1 - gh G l)) (bs (gL G) (fun x => C x ∨ x = l))) (bs (gL G) K) = bs (gL G) (fun x => gh G x = 1 - gh G l ∧ ¬ C x ∧ ¬ K x) := by
        rw [bs_ndf, bs_ndf]
        apply bs_ext; intro x _
        constructor
        · rintro ⟨⟨h1, h2⟩, h3⟩; exact ⟨h1, fun z => h2 (Or.inl z), h3⟩
        · rintro ⟨h1, h2, h3⟩
          refine ⟨⟨h1, fun z => ?_⟩, h3⟩
          rcases z with z | z
          · exact h2 z
          · subst z; omega
      have lt1 : gSet G C K l < 2147483648 := bs_lt31 (by omega)
      have hcut : fGa_cutLine N Ga' (l : Int) = some (1, (if gAns G C K l = -1 then (up (up Ga'.1 5 ((bs (gL G) (fun x => C x ∨ x = l) : Nat) : Int)) 4 ((tc : Int) + 1), ua Ga'.2 3 (up (Ga'.2 3) tc (gAns G C K l))) else (up (up (up Ga'.1 5 ((bs (gL G) (fun x => C x ∨ x = l) : Nat) : Int)) 4 ((tc : Int) + 1)) 6 (zor ((bs (gL G) K : Nat) : Int) (zshl 1 (gAns G C K l))), ua Ga'.2 3 (up (Ga'.2 3) tc (gAns G C K l))))) := by
        unfold fGa_cutLine
        have f6 : ∀ x, up Ga'.1 5 x 6 = Ga'.1 6 := fun _ => rfl
        have f4 : ∀ x, up Ga'.1 5 x 4 = Ga'.1 4 := fun _ => rfl
        have f64 : ∀ x y, up (up Ga'.1 5 x) 4 y 6 = Ga'.1 6 := fun _ _ => rfl
        simp only [kf0, kf1, lt_e]
        rw [N_hasLine hN hG (by omega), bds, q10t (show 0 ≤ (l : Int) ∧ (l : Int) < gL G by omega)]
        rw [rdn (by omega), (hN.2.2.2.2.2 l o1).2.2.2, nmh hG o1, if_neg (by omega), rdn (by omega), (hN.2.2.2.2.2 l o1).2.2.2, nmh hG o1, if_neg (by omega), r2, r3, zorn (bs_lt31 (by omega)) (bs_lt31 (by omega)), bs_or, zbit (bs_lt31 (by omega)) (by omega), b10f hbit]
        rw [rdn (by omega), (hN.2.2.2.2.2 l o1).2.2.2, rdn (by omega), (hN.2.2.2.2.2 l o1).1, rdi (by omega), hone, zshln (by omega), zorn (bs_lt31 (by omega)) (p2_lt31 (by omega)), hC']
        simp only [up_e, f6, f4, f64, r3, r4]
        rw [zcompn (bs_lt31 (by omega)) (bs_lt31 (by omega)), zorn (Nat.lt_of_le_of_lt (ndf_le _ _) (bs_lt31 (by omega))) (bs_lt31 (by omega)), hset, N_reach hN hG hv.1 lt1, bds, rdi (by omega), hoth, zcompn (bs_lt31 (by omega)) (bs_lt31 (by omega)), zcompn (Nat.lt_of_le_of_lt (ndf_le _ _) (bs_lt31 (by omega))) (bs_lt31 (by omega)), hacr, Ga_across hN hG, bds, ixn (by omega), Int.toNat_natCast, nmi har]
        by_cases z : gAns G C K l = -1
        · rw [if_pos z, if_pos z]
        · rw [if_neg z, if_neg z]
      have next : ∀ (Gn Mn : ZB) (K' : Nat → Prop), Gn.1 5 = ((bs (gL G) (fun x => C x ∨ x = l) : Nat) : Int) → Gn.1 6 = ((bs (gL G) K' : Nat) : Int) → Gn.1 4 = (tc : Int) + 1 → Gn.2 2 = Ga'.2 2 → Gn.2 3 = up (Ga'.2 3) tc (gAns G C K l) → Mn.2 33 0 = ((bs (gL G) (fun x => C x ∨ x = l) : Nat) : Int) → Mn.2 33 1 = ((bs (gL G) K' : Nat) : Int) → Mn.1 32 = (tc : Int) + 1 → Mn.2 31 = up (M'.2 31) tc (gAns G C K l) → (∀ j, j ≠ 32 → Mn.1 j = M.1 j) → (∀ j, j ≠ 31 → j ≠ 33 → Mn.2 j = M.2 j) → (∀ x, K' x → K x ∨ (x : Int) = gAns G C K l) → GR G T Ga M (i+1) Gn Mn := by
        intro Gn Mn K' n1 n2 n3 n4 n5 n6 n7 n8 n9 n10 n11 n12
        refine ⟨(fun x => C x ∨ x = l), K', tc + 1, by omega, n1, n2, by rw [n3]; omega, by rw [n4]; exact r5, by rw [n4]; exact r6, n6, n7, by rw [n8]; omega, fun j hj => ?_, n10, n11, ?_, ?_⟩
        · rw [n5, n9]
          by_cases w : j = tc
          · subst w; rw [up_e, up_e]
          · rw [up_n _ _ w, up_n _ _ w]; exact r10 j (by omega)
        · have hd := cnt_del (n := gL G) (r := l) (p := fun x => C x ∨ x = l) o1 (Or.inr rfl)
          have : cnt (gL G) (fun x => (C x ∨ x = l) ∧ x ≠ l) = cnt (gL G) C := cnt_ext (fun x _ => ⟨fun h => h.1.resolve_right h.2, fun h => ⟨Or.inl h, fun e => o4 (e ▸ h)⟩⟩)
          rw [this, r13] at hd; exact hd.symm
        · rintro x (h | h)
          · refine ⟨(r14 x h).1, fun k => ?_⟩
            rcases n12 x k with k | k
            · exact (r14 x h).2 k
            · rcases haf with w | ⟨y, w, wk, wa⟩
              · omega
              · have : x = y := by omega
                subst this; exact wa.2.1 h
          · subst h
            refine ⟨o1, fun k => ?_⟩
            rcases n12 x k with k | k
            · exact o5 k
            · rcases haf with w | ⟨y, w, wk, wa⟩
              · omega
              · have : x = y := by omega
                subst this
                have := wa.1; omega
      have g33 : ∀ A, ua M'.2 33 A 33 = A := fun _ => ua_e _ _ _
      have g31 : ∀ A, ua M'.2 33 A 31 = M'.2 31 := fun _ => rfl
      have kk1 : ∀ v j, j ≠ 32 → up M'.1 32 v j = M.1 j := fun v j hj => by rw [up_n _ _ hj]; exact r11 j hj
      have kk2 : ∀ A B j, j ≠ 31 → j ≠ 33 → ua (ua M'.2 33 A) 31 B j = M.2 j := fun A B j h1 h2 => by rw [ua_n _ _ h1, ua_n _ _ h2]; exact r12 j h1 h2
      rcases haf with w | ⟨k, w, wk, wa⟩
      · have hcut' := hcut
        rw [if_pos w] at hcut'
        refine Or.inl ⟨((i + 1 : Nat) : Int), _, ((i + 1 : Nat) : Int), (up M'.1 32 ((tc : Int) + 1), ua (ua M'.2 33 (up (M'.2 33) 0 ((bs (gL G) (fun x => C x ∨ x = l) : Nat) : Int))) 31 (up (M'.2 31) tc (gAns G C K l))), ⟨i + 1, by omega, rfl, rfl, next (up (up Ga'.1 5 ((bs (gL G) (fun x => C x ∨ x = l) : Nat) : Int)) 4 ((tc : Int) + 1), ua Ga'.2 3 (up (Ga'.2 3) tc (gAns G C K l))) _ K rfl r3 rfl rfl rfl rfl r8 rfl rfl (kk1 _) (kk2 _ _) (fun x h => Or.inl h)⟩, by omega, fun rec => ?_, fun rec => ?_⟩
        · unfold fT_size
          simp only [kf1]
          rw [hT1, bds, nmn (by omega), nmn (by omega), if_pos (by omega), r4, nmn (by omega), if_pos (by omega), hbyte, bds, hcut', bds, if_neg (by decide : ¬ nm 1 = 0)]
          rfl
        · simp only [kf0, kf1, lt_e]
          rw [h0, nmn (by omega), nmn (by omega), if_pos (by omega), rdn (by omega), hmb, M_lines hM', bds, nmn (by omega), nmn (by omega), if_pos (by omega), M_lies hM' hG o1, bds, nmh hG o1, if_neg (by omega), bds, nmh hG o1, if_neg (by omega), rdi (by omega), rdi (by omega), show Int.toNat 0 = 0 from rfl, show Int.toNat 1 = 1 from rfl, r7, r8, zorn (bs_lt31 (by omega)) (bs_lt31 (by omega)), bs_or, M_has (bs_lt31 (by omega)) (by omega), bds, t10f hbit, hans, bds, rdi (by omega), show Int.toNat 0 = 0 from rfl, r7, ixi (by omega), zshln (by omega), zorn (bs_lt31 (by omega)) (p2_lt31 (by omega)), hC', nmi har]
          simp only [g33, g31, ua_up]
          rw [if_pos w, r9, ixn (by omega), Int.toNat_natCast]; rfl
      · have hnw : ¬ gAns G C K l = -1 := by omega
        have hcut' := hcut
        rw [if_neg hnw] at hcut'
        have hK' : zor ((bs (gL G) K : Nat) : Int) (zshl 1 (gAns G C K l)) = ((bs (gL G) (fun x => K x ∨ x = k) : Nat) : Int) := by
          rw [w, zshln (by omega), zorn (bs_lt31 (by omega)) (p2_lt31 (by omega)), bs_one wk, bs_or]
        rw [hK'] at hcut'
        refine Or.inl ⟨((i + 1 : Nat) : Int), _, ((i + 1 : Nat) : Int), (up M'.1 32 ((tc : Int) + 1), ua (ua M'.2 33 (up (up (M'.2 33) 0 ((bs (gL G) (fun x => C x ∨ x = l) : Nat) : Int)) 1 ((bs (gL G) (fun x => K x ∨ x = k) : Nat) : Int))) 31 (up (M'.2 31) tc (gAns G C K l))), ⟨i + 1, by omega, rfl, rfl, next (up (up (up Ga'.1 5 ((bs (gL G) (fun x => C x ∨ x = l) : Nat) : Int)) 4 ((tc : Int) + 1)) 6 ((bs (gL G) (fun x => K x ∨ x = k) : Nat) : Int), ua Ga'.2 3 (up (Ga'.2 3) tc (gAns G C K l))) _ (fun x => K x ∨ x = k) rfl rfl rfl rfl rfl rfl rfl rfl rfl (kk1 _) (kk2 _ _) (fun x h => by rcases h with h | h; exact Or.inl h; exact Or.inr (by omega))⟩, by omega, fun rec => ?_, fun rec => ?_⟩
        · unfold fT_size
          simp only [kf1]
          rw [hT1, bds, nmn (by omega), nmn (by omega), if_pos (by omega), r4, nmn (by omega), if_pos (by omega), hbyte, bds, hcut', bds, if_neg (by decide : ¬ nm 1 = 0)]
          rfl
        · simp only [kf0, kf1, lt_e]
          rw [h0, nmn (by omega), nmn (by omega), if_pos (by omega), rdn (by omega), hmb, M_lines hM', bds, nmn (by omega), nmn (by omega), if_pos (by omega), M_lies hM' hG o1, bds, nmh hG o1, if_neg (by omega), bds, nmh hG o1, if_neg (by omega), rdi (by omega), rdi (by omega), show Int.toNat 0 = 0 from rfl, show Int.toNat 1 = 1 from rfl, r7, r8, zorn (bs_lt31 (by omega)) (bs_lt31 (by omega)), bs_or, M_has (bs_lt31 (by omega)) (by omega), bds, t10f hbit, hans, bds, rdi (by omega), show Int.toNat 0 = 0 from rfl, r7, ixi (by omega), zshln (by omega), zorn (bs_lt31 (by omega)) (p2_lt31 (by omega)), hC', nmi har]
          simp only [g33, g31, ua_up]
          rw [if_neg hnw, r9, rdi (by omega), ixi (by omega), ixn (by omega), Int.toNat_natCast, show Int.toNat 1 = 1 from rfl, up_n _ _ (by decide), r8, hK']; rfl
    · obtain ⟨r, t, s1, s2, s3⟩ := stopOK
      refine Or.inr ⟨r, t, fun rec => ?_, fun rec => ?_, s3⟩
      · unfold fT_size
        simp only [kf1]
        rw [hT1, bds, nmn (by omega), nmn (by omega), if_pos (by omega), r4]
        by_cases h24 : tc < 24
        · rw [nmn (by omega), if_pos (by omega), hbyte, bds]
          have hcut : fGa_cutLine N Ga' (l : Int) = some (0, Ga') := by
            unfold fGa_cutLine
            simp only [kf0]
            rw [N_hasLine hN hG (by omega), bds]
            by_cases o1 : l < gL G
            · rw [q10t (show 0 ≤ (l : Int) ∧ (l : Int) < gL G by omega), rdn (by omega), (hN.2.2.2.2.2 l o1).2.2.2, nmh hG o1]
              by_cases o2 : gh G l < 0
              · rw [if_pos o2]
              · rw [if_neg o2, rdn (by omega), (hN.2.2.2.2.2 l o1).2.2.2, nmh hG o1]
                by_cases o3 : 1 < gh G l
                · rw [if_pos o3]
                · rw [if_neg o3, r2, r3, zorn (bs_lt31 (by omega)) (bs_lt31 (by omega)), bs_or, zbit (bs_lt31 (by omega)) (by omega)]
                  have : C l ∨ K l := by
                    by_cases c1 : C l
                    · exact Or.inl c1
                    · by_cases c2 : K l
                      · exact Or.inr c2
                      · exact absurd ⟨o1, by omega, by omega, c1, c2⟩ ok
                  rw [b10t ((bs_bit _ _ _).mpr ⟨o1, this⟩)]
            · rw [q10f (by omega)]
          rw [hcut, bds, if_pos (by decide : nm 0 = 0)]; exact s1
        · rw [nmn (by omega), if_neg (by omega), ← r4]; exact s1
      · simp only [kf0]
        rw [h0, nmn (by omega), nmn (by omega), if_pos (by omega), rdn (by omega), hmb, M_lines hM', bds, nmn (by omega), nmn (by omega)]
        by_cases o1 : l < gL G
        · rw [if_pos (by omega), M_lies hM' hG o1, bds, nmh hG o1]
          by_cases o2 : gh G l = -1
          · rw [if_pos o2]; exact s2
          · rw [if_neg o2, bds, nmh hG o1]
            by_cases o3 : 1 < gh G l
            · rw [if_pos o3]; exact s2
            · have hv := hG.2.1 l o1
              rw [if_neg o3, rdi (by omega), rdi (by omega), show Int.toNat 0 = 0 from rfl, show Int.toNat 1 = 1 from rfl, r7, r8, zorn (bs_lt31 (by omega)) (bs_lt31 (by omega)), bs_or, M_has (bs_lt31 (by omega)) (by omega), bds]
              have : C l ∨ K l := by
                by_cases c1 : C l
                · exact Or.inl c1
                · by_cases c2 : K l
                  · exact Or.inr c2
                  · exact absurd ⟨o1, by omega, by omega, c1, c2⟩ ok
              rw [t10t ((bs_bit _ _ _).mpr ⟨o1, this⟩)]; exact s2
        · rw [if_neg (by omega)]; exact s2
  · obtain ⟨r, t, s1, s2, s3⟩ := stopOK
    refine Or.inr ⟨r, t, fun rec => ?_, fun rec => ?_, s3⟩
    · unfold fT_size
      simp only [kf1]
      rw [hT1, bds, nmn (by omega), nmn (by omega), if_neg (by omega)]; exact s1
    · simp only [kf0]
      rw [h0, nmn (by omega), nmn (by omega), if_neg (by omega)]; exact s2
theorem sim23 : Sim23 INV := by
  intro X N T Rd Fr Ac Ch PS Ly Pa OT Ea Ga c0 c1 M hI
  obtain ⟨⟨G, hG, hN, hM⟩, ⟨u, hu, hT1, hTm, hT2⟩, hR, hA, hC, hGa, hi0, hi1, hP⟩ := hI
  have hb := hG.1
  have hM1 : RW (((up (up M.1 0 0) 2 0, M.2) : ZB).2 12) G := hM
  have keepG : ∀ A, INV X N (up T.1 1 0, T.2) Rd Fr Ac Ch PS Ly Pa OT Ea (Ga.1, ua Ga.2 2 A) c0 c1 (up (up M.1 0 0) 2 0, M.2) := fun A => ⟨⟨G, hG, hN, hM⟩, ⟨0, by omega, rfl, rfl, fun i h => absurd h (Nat.not_lt_zero i)⟩, hR, hA, hC, hGa, hi0, hi1, hP⟩
  have keep0 : INV X N (up T.1 1 0, T.2) Rd Fr Ac Ch PS Ly Pa OT Ea Ga c0 c1 (up (up M.1 0 0) 2 0, M.2) := ⟨⟨G, hG, hN, hM⟩, ⟨0, by omega, rfl, rfl, fun i h => absurd h (Nat.not_lt_zero i)⟩, hR, hA, hC, hGa, hi0, hi1, hP⟩
  unfold fX_game fM_game fGa_run fT_cut
  rw [lt_e, lt_e, lt_e, M_points hM1, bds, kf0_e, kf0_e, hN.1, nmn (by omega)]
  by_cases h1 : gn G < 2
  · rw [if_pos (by omega : (gn G : Int) < 2), if_pos (by omega : (gn G : Int) < 2), bds, bds]; exact ⟨_, _, rfl, rfl, rfl, keep0⟩
  rw [if_neg (by omega : ¬ (gn G : Int) < 2), if_neg (by omega : ¬ (gn G : Int) < 2), M_many hM1, bds, hN.2.2.1, nmn (by omega)]
  by_cases h2 : gk G < 2
  · rw [if_pos (by omega : (gk G : Int) < 2), if_pos (by omega : (gk G : Int) < 2), bds, bds]; exact ⟨_, _, rfl, rfl, rfl, keep0⟩
  have hc0 := cnt_le (gL G) (fun x => gh G x = 0)
  have hc1 := cnt_le (gL G) (fun x => gh G x = 1)
  rw [if_neg (by omega : ¬ (gk G : Int) < 2), if_neg (by omega : ¬ (gk G : Int) < 2), N_forestSet hN hG (by omega), bds, ixi (by omega), lt_e, N_forestSet hN hG (by omega), bds, ixi (by omega), lt_e]
  rw [M_inForest hM1 hG (by omega), bds, bits_bs (by omega), bds, bds, M_inForest hM1 hG (by omega), bds, bits_bs (by omega), bds, bds, nmn (by omega), nmn (by omega), nmi (show -2147483648 ≤ (gn G : Int) - 1 ∧ (gn G : Int) - 1 < 2147483648 by omega)]
  have hp0 : gpc G (bs (gL G) (fun x => gh G x = 0)) < 2147483648 := by have := cnt_le (gn G) (Rp (ga G) (gb G) (Eb G (bs (gL G) (fun x => gh G x = 0)))); unfold gpc; omega
  have hp1 : gpc G (bs (gL G) (fun x => gh G x = 1)) < 2147483648 := by have := cnt_le (gn G) (Rp (ga G) (gb G) (Eb G (bs (gL G) (fun x => gh G x = 1)))); unfold gpc; omega
  have t0 := tree_pc hG (f := 0) (by omega)
  have t1 := tree_pc hG (f := 1) (by omega)
  simp only [ua_up, ua_e]
  have r0 : ∀ k : Int → Option (Int × ZB), rd (up (up (Ga.2 2) (Int.toNat 0) ((bs (gL G) (fun x => gh G x = 0) : Nat) : Int)) (Int.toNat 1) ((bs (gL G) (fun x => gh G x = 1) : Nat) : Int)) 2 0 k = k ((bs (gL G) (fun x => gh G x = 0) : Nat) : Int) := fun k => rdi (by omega)
  have r1 : ∀ k : Int → Option (Int × ZB), rd (up (up (Ga.2 2) (Int.toNat 0) ((bs (gL G) (fun x => gh G x = 0) : Nat) : Int)) (Int.toNat 1) ((bs (gL G) (fun x => gh G x = 1) : Nat) : Int)) 2 1 k = k ((bs (gL G) (fun x => gh G x = 1) : Nat) : Int) := fun k => rdi (by omega)
  rw [r0, N_pieces hN hG (bs_lt31 (by omega)), bds, kf0_e, nmn hp0]
  by_cases h3 : cnt (gL G) (fun x => gh G x = 0) + 1 = gn G
  · rw [if_pos (by have := t0.mpr h3; omega), if_pos (by omega), r1, N_pieces hN hG (bs_lt31 (by omega)), bds, nmn hp1]
    by_cases h4 : cnt (gL G) (fun x => gh G x = 1) + 1 = gn G
    · rw [if_pos (by have := t1.mpr h4; omega), if_pos (by omega), lt_e, lt_e, lt_e, ixi (by omega), lt_e, ixi (by omega), lt_e, lt_e]
      have hz : bs (gL G) (fun _ => False) = 0 := bs_none _
      have hR0 : GR G T Ga (up (up M.1 0 0) 2 0, M.2) 0 (up (up (up Ga.1 5 0) 6 0) 4 0, ua Ga.2 2 (up (up (Ga.2 2) 0 ((bs (gL G) (fun x => gh G x = 0) : Nat) : Int)) 1 ((bs (gL G) (fun x => gh G x = 1) : Nat) : Int))) (up (up (up M.1 0 0) 2 0) 32 0, ua (ua M.2 33 (up (M.2 33) (Int.toNat 0) 0)) 33 (up (ua M.2 33 (up (M.2 33) (Int.toNat 0) 0) 33) (Int.toNat 1) 0)) := by
        refine ⟨fun _ => False, fun _ => False, 0, by omega, by rw [hz]; rfl, by rw [hz]; rfl, rfl, rfl, rfl, by rw [hz]; rfl, by rw [hz]; rfl, rfl, fun j h => absurd h (Nat.not_lt_zero j), fun j h => up_n _ _ h, fun j h1 h2 => ?_, cnt_zero (fun _ _ h => h), fun x h => h.elim⟩
        show ua (ua M.2 33 _) 33 _ j = _
        rw [ua_n _ _ h2, ua_n _ _ h2]
      obtain ⟨r, t, e1, e2, e3, e4, e5, e6⟩ := game_loop (T := T) (Ga := Ga) (M := (up (up M.1 0 0) 2 0, M.2)) (M0 := (up M.1 0 0, M.2)) hN hM1 hG hu hT1 hT2 hTm hR0
      refine ⟨(r.1, (up T.1 1 0, T.2), r.2), t, ?_, e2, e3, ⟨G, hG, hN, ?_⟩, ⟨0, by omega, rfl, ?_, fun i h => absurd h (Nat.not_lt_zero i)⟩, ?_, ?_, ?_, e4, ?_, ?_, hP⟩
      · exact (bde e1).trans rfl
      · show RW (t.2.2 12) G; rw [e6 12 (by decide) (by decide)]; exact hM
      · show t.2.1 2 = 0; rw [e5 2 (by decide)]; rfl
      · show IRd Rd (t.2.1 8); rw [e5 8 (by decide)]; exact hR
      · show IActs Ac (t.2.1 20) (t.2.2 15); rw [e5 20 (by decide), e6 15 (by decide) (by decide)]; exact hA
      · show IChain Ch (t.2.1 28) (t.2.2 27) (t.2.1 29); rw [e5 28 (by decide), e6 27 (by decide) (by decide), e5 29 (by decide)]; exact hC
      · show IImg c0 (t.2.2 19 0) (t.2.2 14); rw [e6 19 (by decide) (by decide), e6 14 (by decide) (by decide)]; exact hi0
      · show IImg c1 (t.2.2 19 1) (fun j => t.2.2 14 (147 + j)); rw [e6 19 (by decide) (by decide), e6 14 (by decide) (by decide)]; exact hi1
    · rw [if_neg (by intro h; exact h4 (t1.mp (by omega))), if_neg (by omega), bds, bds]
      exact ⟨_, _, rfl, rfl, rfl, keepG _⟩
  · rw [if_neg (by intro h; exact h3 (t0.mp (by omega))), if_neg (by omega), bds, bds]
    exact ⟨_, _, rfl, rfl, rfl, keepG _⟩
