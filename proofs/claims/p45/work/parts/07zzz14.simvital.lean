-- needs: 07zzz13.vital
/-! vital: the programs -/
noncomputable def lful (G : GV) (k : Nat) (T : Nat → Prop) (e m : Nat) : Nat := bs (gn G) (fun p => ∀ t, t < m → t < 2 ^ gn G → inE G e t → Ful G k T t → t.testBit p = true)
section
variable {N M PS : ZB} {G : GV} {k : Nat}
theorem PS_leastFull (hN : RN N G) (hG : GOK G) {T : Nat → Prop} {e : Nat} (he : e < gL G) (hk : k ≤ 100) (hw : PT G T (PS.2 2)) : fPS_leastFull N PS (e : Int) (k : Int) = some ((lful G k T e 2048 : Nat) : Int) := by
  have hb := hG.1
  have hv := hG.2.1 e he
  have hp := Nat.two_pow_pos (gn G)
  have h10 : 2 ^ gn G ≤ 1024 := Nat.pow_le_pow_right (n := 2) (by omega) hb.1
  have hgl : gen G e < 2 ^ gn G := Nat.or_lt_two_pow (Nat.pow_lt_pow_right (by omega) hv.1) (Nat.pow_lt_pow_right (by omega) hv.2.1)
  have hnext : ∀ s : Nat, (∀ i, (gen G e).testBit i = true → s.testBit i = true) → s < 2 ^ gn G → zor ((s : Int) + 1) ((gen G e : Nat) : Int) = (((s + 1) ||| gen G e : Nat) : Int) ∧ s < ((s + 1) ||| gen G e) ∧ ((s + 1) ||| gen G e) < 2048 ∧ (∀ i, (gen G e).testBit i = true → ((s + 1) ||| gen G e).testBit i = true) := by
    intro s hs hs2
    refine ⟨?_, ?_, ?_, fun i hi => by rw [Nat.testBit_or, hi]; simp⟩
    · rw [show (s : Int) + 1 = ((s + 1 : Nat) : Int) by omega, zorn (by omega) (by omega)]
    · have : s + 1 ≤ (s + 1) ||| gen G e := Nat.left_le_or
      omega
    · exact Nat.or_lt_two_pow (n := 11) (by show s + 1 < 2048; omega) (by show gen G e < 2048; omega)
  have main : wp (fPS_leastFull N PS (e : Int) (k : Int)) (fun r => r = ((lful G k T e 2048 : Nat) : Int)) := by
    unfold fPS_leastFull
    rw [N_ends hN hG he, bds, hN.1, zshln (by omega), lt_e, N_allPoints hN hG, bds]
    refine lop2_w (fun v5 v6 => ∃ s : Nat, v6 = (s : Int) ∧ s < 2048 ∧ (∀ i, (gen G e).testBit i = true → s.testBit i = true) ∧ v5 = ((lful G k T e s : Nat) : Int)) (fun _ v6 => 2048 - v6.toNat) ?_ FU _ _ ⟨gen G e, rfl, by omega, fun i h => h, ?_⟩ (by show 2048 - _ < 100000; omega)
    · intro rec v5 v6 hI hrec
      obtain ⟨s, rfl, hs, hsub, rfl⟩ := hI
      rw [nmn (by omega), nmn (by omega)]
      by_cases hsn : s < 2 ^ gn G
      · have hs0 : 0 < s := Nat.pos_of_ne_zero (bit_ne (hsub _ ((gen_bit hG (l := e)).mpr (Or.inl rfl))))
        obtain ⟨n1, n2, n3, n4⟩ := hnext s hsub hsn
        have hse := (gen_sub hG).mp hsub
        have hl31 : lful G k T e s < 2147483648 := bs_lt31 (by omega)
        have later : ∀ t, t < (s + 1) ||| gen G e → t < 2 ^ gn G → inE G e t → ¬ t < s → t = s := by
          intro t h1 h2 h3 h4
          rcases Nat.lt_trichotomy t s with z | z | z
          · omega
          · exact z
          · have := sup_next s (gen G e) t hsub ((gen_sub hG).mpr h3) z
            omega
        rw [if_pos (by omega), PS_isFull hG hsn hs0 hk hw, bds, kf1_e, lt_e, n1]
        by_cases hf : k * (ppc s - 1) ≤ inn G T s
        · rw [i10t hf, zandn hl31 (by omega)]
          refine hrec _ _ ⟨_, rfl, n3, n4, ?_⟩ (by omega)
          congr 1
          apply nat_ext; intro p
          unfold lful
          rw [and_b, bs_bit, bs_bit]
          constructor
          · rintro ⟨⟨z1, z2⟩, z3⟩
            refine ⟨z1, fun t h1 h2 h3 h4 => ?_⟩
            by_cases q : t < s
            · exact z2 t q h2 h3 h4
            · rw [later t h1 h2 h3 q]; exact z3
          · rintro ⟨z1, z2⟩
            exact ⟨⟨z1, fun t h1 => z2 t (by omega)⟩, z2 s n2 hsn hse hf⟩
        · rw [i10f hf]
          refine hrec _ _ ⟨_, rfl, n3, n4, ?_⟩ (by omega)
          congr 1
          apply bs_ext; intro p _
          constructor
          · intro z t h1 h2 h3 h4
            by_cases q : t < s
            · exact z t q h2 h3 h4
            · rw [later t h1 h2 h3 q] at h4; exact absurd h4 hf
          · intro z t h1
            exact z t (by omega)
      · rw [if_neg (by omega)]
        refine ⟨_, rfl, ?_⟩
        congr 1
        apply bs_ext; intro p _
        exact ⟨fun z t _ h2 => z t (by omega) h2, fun z t h1 => z t (by omega)⟩
    · congr 1
      unfold lful
      rw [bs_full]
      apply bs_ext; intro p _
      refine ⟨fun _ t h1 h2 h3 _ => ?_, fun _ => trivial⟩
      have := sub_le ((gen_sub hG).mpr h3)
      omega
  obtain ⟨r, h1, h2⟩ := main
  rw [h1, h2]
theorem PS_linesIn (hN : RN N G) (hG : GOK G) {F : Nat} (hF : F < 2147483648) : fPS_linesIn N (F : Int) = some ((bs (gL G) (fun l => inE G l F) : Nat) : Int) := by
  have hb := hG.1
  have main : wp (fPS_linesIn N (F : Int)) (fun r => r = ((bs (gL G) (fun l => inE G l F) : Nat) : Int)) := by
    unfold fPS_linesIn
    refine lop2_w (fun v2 v3 => ∃ m : Nat, v3 = (m : Int) ∧ m ≤ gL G ∧ v2 = ((bs m (fun l => inE G l F) : Nat) : Int)) (fun _ v3 => gL G - v3.toNat) ?_ FU _ _ ⟨0, rfl, by omega, rfl⟩ (by show gL G - _ < 100000; omega)
    intro rec v2 v3 hI hrec
    obtain ⟨m, rfl, hm, rfl⟩ := hI
    rw [hN.2.1, nmn (by omega), nmn (by omega)]
    by_cases hmL : m < gL G
    · have hge := gen_lt31 hG hmL
      rw [if_pos (by omega), N_ends hN hG hmL, bds, kf1_e, zcompn hge hF]
      by_cases h : inE G m F
      · rw [if_pos (by rw [ndf_zero.mpr ((gen_sub hG).mpr h)]; rfl), zshln (by omega), zorn (bs_lt31 (by omega)) (p2_lt31 (by omega)), lt_e]
        exact hrec _ _ ⟨m+1, by omega, by omega, by rw [bs_succ_t (p := fun l => inE G l F) h]⟩ (by omega)
      · rw [if_neg (fun z => h ((gen_sub hG).mp (ndf_zero.mp (by omega))))]
        exact hrec _ _ ⟨m+1, by omega, by omega, by rw [bs_succ_f (p := fun l => inE G l F) h]⟩ (by omega)
    · rw [if_neg (by omega)]
      have : m = gL G := by omega
      subst this
      exact ⟨_, rfl, rfl⟩
  obtain ⟨r, h1, h2⟩ := main
  rw [h1, h2]
theorem inAll_iff (hG : GOK G) {T : Nat → Prop} {e l : Nat} (hl : l < gL G) : inE G l (lful G k T e 2048) ↔ inAll G k T e l := by
  have hb := hG.1
  have hv := hG.2.1 l hl
  have h10 : 2 ^ gn G ≤ 1024 := Nat.pow_le_pow_right (n := 2) (by omega) hb.1
  unfold inE lful
  rw [bs_bit, bs_bit]
  constructor
  · rintro ⟨⟨_, a⟩, ⟨_, b⟩⟩ s s1 s2 s3
    exact ⟨a s (by omega) s1 s2 s3, b s (by omega) s1 s2 s3⟩
  · intro h
    exact ⟨⟨hv.1, fun t _ t1 t2 t3 => (h t t1 t2 t3).1⟩, ⟨hv.2.1, fun t _ t1 t2 t3 => (h t t1 t2 t3).2⟩⟩
noncomputable def vit (G : GV) (k m : Nat) : Nat := bs (gL G) (fun l => Tk G k (snd_ G) (gL G) l ∧ ∀ e, e < m → snd_ G e → ¬ Tk G k (snd_ G) (gL G) e → ¬ inAll G k (Tk G k (snd_ G) (gL G)) e l)
theorem PS_vitalSet (hN : RN N G) (hG : GOK G) (hk : k ≤ 100) (PS : ZB) : ∃ w, fPS_vitalSet N PS (k : Int) = some (((vit G k (gL G) : Nat) : Int), (PS.1, ua PS.2 2 w)) := by
  have hb := hG.1
  obtain ⟨w, h1, h2⟩ := PS_byNumber hN hG hk PS
  have main : wp (fPS_vitalSet N PS (k : Int)) (fun r => r = (((vit G k (gL G) : Nat) : Int), (PS.1, ua PS.2 2 w))) := by
    unfold fPS_vitalSet
    rw [h1, bds, N_soundSet hN hG, bds, zcompn (bs_lt31 (by omega)) (bs_lt31 (by omega)), lt_e, bs_ndf]
    refine lop2_w (fun v4 v5 => ∃ m : Nat, v5 = (m : Int) ∧ m ≤ gL G ∧ v4 = ((vit G k m : Nat) : Int)) (fun _ v5 => gL G - v5.toNat) ?_ FU _ _ ⟨0, rfl, by omega, ?_⟩ (by show gL G - _ < 100000; omega)
    · intro rec v4 v5 hI hrec
      obtain ⟨m, rfl, hm, rfl⟩ := hI
      rw [hN.2.1, nmn (by omega), nmn (by omega)]
      by_cases hmL : m < gL G
      · rw [if_pos (by omega), kf1_e, zbit (bs_lt31 (by omega)) (by omega)]
        by_cases h : snd_ G m ∧ ¬ Tk G k (snd_ G) (gL G) m
        · have hw2 : PT G (Tk G k (snd_ G) (gL G)) (((PS.1, ua PS.2 2 w) : ZB).2 2) := h2
          have hv31 : vit G k m < 2147483648 := bs_lt31 (by omega)
          have hlf : lful G k (Tk G k (snd_ G) (gL G)) m 2048 < 2147483648 := bs_lt31 (by omega)
          rw [b10t ((bs_bit (gL G) (fun i => (¬ gbr G i) ∧ ¬ Tk G k (snd_ G) (gL G) i) m).mpr ⟨hmL, h⟩), PS_leastFull hN hG hmL hk hw2, bds, PS_linesIn hN hG hlf, bds, zcompn hv31 (bs_lt31 (by omega)), lt_e]
          unfold vit
          rw [bs_ndf]
          refine hrec _ _ ⟨m+1, by omega, by omega, ?_⟩ (by omega)
          congr 1
          apply bs_ext; intro l hl
          rw [inAll_iff hG hl]
          constructor
          · rintro ⟨⟨z1, z2⟩, z3⟩
            refine ⟨z1, fun e he => ?_⟩
            by_cases q : e = m
            · subst q; exact fun _ _ => z3
            · exact z2 e (by omega)
          · rintro ⟨z1, z2⟩
            exact ⟨⟨z1, fun e he => z2 e (by omega)⟩, z2 m (by omega) h.1 h.2⟩
        · rw [b10f (fun z => h ((bs_bit (gL G) (fun i => (¬ gbr G i) ∧ ¬ Tk G k (snd_ G) (gL G) i) m).mp z).2)]
          refine hrec _ _ ⟨m+1, by omega, by omega, ?_⟩ (by omega)
          congr 1
          apply bs_ext; intro l hl
          constructor
          · rintro ⟨z1, z2⟩
            refine ⟨z1, fun e he y1 y2 => ?_⟩
            by_cases q : e = m
            · subst q; exact absurd ⟨y1, y2⟩ h
            · exact z2 e (by omega) y1 y2
          · rintro ⟨z1, z2⟩
            exact ⟨z1, fun e he => z2 e (by omega)⟩
      · rw [if_neg (by omega)]
        have : m = gL G := by omega
        subst this
        exact ⟨_, rfl, rfl⟩
    · show ((bs (gL G) (Tk G k (snd_ G) (gL G)) : Nat) : Int) = _
      congr 1
      apply bs_ext; intro l hl
      exact ⟨fun z => ⟨z, fun e h => absurd h (Nat.not_lt_zero e)⟩, fun z => z.1⟩
  obtain ⟨r, e1, e2⟩ := main
  exact ⟨w, by rw [e1, e2]⟩
end
theorem sim35 : Sim35 INV := by
  intro X N T Rd Fr Ac Ch PS Ly Pa OT Ea Ga c0 c1 M hI
  obtain ⟨⟨G, hG, hN, hM⟩, hT, hR, hA, hC, hGa, hi0, hi1, hP⟩ := hI
  have hb := hG.1
  have hM1 : RW (((up M.1 0 0, M.2) : ZB).2 12) G := hM
  obtain ⟨w, h1⟩ := PS_vitalSet hN hG (k := gk G) (by omega) PS
  have href : wp (fM_vital M) (fun r => r = (((vit G (gk G) (gL G) : Nat) : Int), (up M.1 0 0, M.2))) := by
    unfold fM_vital
    rw [lt_e, M_sound hM1 hG, bds, M_many hM1, bds, M_chosen hM1 hG (by omega) (fun l => ¬ gbr G l), bds, bits_bs (by omega), bds]
    refine lop2_w (fun v3 v4 => ∃ m : Nat, v4 = (m : Int) ∧ m ≤ gL G ∧ v3 = ((bs m (fun l => Tk G (gk G) (snd_ G) (gL G) l ∧ ∀ e, e < gL G → snd_ G e → ¬ Tk G (gk G) (snd_ G) (gL G) e → ¬ inAll G (gk G) (Tk G (gk G) (snd_ G) (gL G)) e l) : Nat) : Int)) (fun _ v4 => gL G - v4.toNat) ?_ FU _ _ ⟨0, rfl, by omega, rfl⟩ (by show gL G - _ < 100000; omega)
    intro rec v3 v4 hI hrec
    obtain ⟨m, rfl, hm, rfl⟩ := hI
    rw [M_lines hM1, bds, nmn (show m < 2147483648 by omega), nmn (show gL G < 2147483648 by omega)]
    by_cases hmL : m < gL G
    · rw [if_pos (by omega), M_has (bs_lt31 (by omega)) (by omega), bds, kf1_e]
      have no : ¬ (Tk G (gk G) (snd_ G) (gL G) m ∧ ∀ e, e < gL G → snd_ G e → ¬ Tk G (gk G) (snd_ G) (gL G) e → ¬ inAll G (gk G) (Tk G (gk G) (snd_ G) (gL G)) e m) → ∃ r, rec ((bs m (fun l => Tk G (gk G) (snd_ G) (gL G) l ∧ ∀ e, e < gL G → snd_ G e → ¬ Tk G (gk G) (snd_ G) (gL G) e → ¬ inAll G (gk G) (Tk G (gk G) (snd_ G) (gL G)) e l) : Nat) : Int) ((m : Int) + 1) = some r ∧ r = (((vit G (gk G) (gL G) : Nat) : Int), (up M.1 0 0, M.2)) := fun h => hrec _ _ ⟨m+1, by omega, by omega, by rw [bs_succ_f h]⟩ (by omega)
      by_cases hs : snd_ G m
      · have hiff := vital_iff (k := gk G) hG hmL hs
        have e1 : zand ((bs (gL G) (fun l => ¬ gbr G l) : Nat) : Int) (zxor (zshl 1 (m : Int)) (-1)) = ((bs (gL G) (fun x => snd_ G x ∧ x ≠ m) : Nat) : Int) := by
          rw [zshln (by omega), zcompn (bs_lt31 (by omega)) (p2_lt31 (by omega)), bs_one hmL, bs_ndf]
          rfl
        have c1 := cnt_le (gL G) (Tk G (gk G) (fun x => snd_ G x ∧ x ≠ m) (gL G))
        have c2 := cnt_le (gL G) (Tk G (gk G) (snd_ G) (gL G))
        have c2' : cnt (gL G) (Tk G (gk G) (fun l => ¬ gbr G l) (gL G)) = cnt (gL G) (Tk G (gk G) (snd_ G) (gL G)) := rfl
        rw [t10t ((bs_bit (gL G) (fun l => ¬ gbr G l) m).mpr ⟨hmL, hs⟩), bds, e1, M_chosen hM1 hG (by omega), bds, bits_bs (by omega), bds, c2', nmn (by omega), nmn (by omega)]
        by_cases h : cnt (gL G) (Tk G (gk G) (fun x => snd_ G x ∧ x ≠ m) (gL G)) < cnt (gL G) (Tk G (gk G) (snd_ G) (gL G))
        · rw [if_pos (by omega), zshln (by omega), zorn (bs_lt31 (by omega)) (p2_lt31 (by omega)), lt_e]
          exact hrec _ _ ⟨m+1, by omega, by omega, by rw [bs_succ_t (hiff.mp h)]⟩ (by omega)
        · rw [if_neg (by omega)]; exact no (fun z => h (hiff.mpr z))
      · rw [t10f (fun z => hs ((bs_bit (gL G) (fun l => ¬ gbr G l) m).mp z).2)]
        exact no (fun z => hs (Tk_lt _ m z.1).2)
    · rw [if_neg (by omega)]
      have : m = gL G := by omega
      subst this
      exact ⟨_, rfl, rfl⟩
  obtain ⟨r, r1, r2⟩ := href
  unfold fX_vital
  rw [hN.2.2.1, h1, bds]
  exact ⟨_, r, rfl, r1, by rw [r2], by rw [r2]; exact ⟨⟨G, hG, hN, hM⟩, hT, hR, hA, hC, hGa, hi0, hi1, hP⟩⟩
