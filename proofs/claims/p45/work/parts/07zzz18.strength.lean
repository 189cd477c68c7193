-- needs: 07zzz17.pieces
/-! strength: the class -/
def APa (G : GV) (p : Nat) (w : Nat → Int) : Prop := ∀ t, t < 2 ^ gn G → t ≠ 0 → ¬ t.testBit 0 = true → BIn G t p (w t)
theorem even_b {t : Nat} : ¬ t.testBit 0 = true ↔ t % 2 = 0 := by
  rw [Nat.testBit_zero, decide_eq_true_iff]; omega
section
variable {N M PS : ZB} {G : GV}
theorem Pa_add (hG : GOK G) (hn : 1 ≤ gn G) {Pa : ZQ} {p : Nat} (hp : 1 ≤ p) (hw : ∀ s, s < 2 ^ gn G → PS.2 1 s = ((inn G (snd_ G) s : Nat) : Int)) (hA : APa G p (Pa.1.2 2)) : ∃ Pa', fPa_addPiece PS Pa ((2 ^ gn G - 1 : Nat) : Int) = some Pa' ∧ Pa'.1.1 = Pa.1.1 ∧ APa G (p+1) (Pa'.1.2 2) := by
  have hb := hG.1
  have hp2 := Nat.two_pow_pos (gn G)
  have h10 : 2 ^ gn G ≤ 1024 := Nat.pow_le_pow_right (n := 2) (by omega) hb.1
  have main : wp (fPa_addPiece PS Pa ((2 ^ gn G - 1 : Nat) : Int)) (fun Pa' => Pa'.1.1 = Pa.1.1 ∧ APa G (p+1) (Pa'.1.2 2)) := by
    unfold fPa_addPiece
    refine lop2_w (fun v2 (C : ZQ) => ∃ (k : Nat) (w : Nat → Int), v2 = ((2 * k : Nat) : Int) ∧ 1 ≤ k ∧ 2 * k ≤ 1026 ∧ C = ((Pa.1.1, ua Pa.1.2 3 w), Pa.2) ∧ ∀ t, t < 2 ^ gn G → t ≠ 0 → ¬ t.testBit 0 = true → t < 2 * k → BIn G t (p+1) (w t)) (fun v2 _ => 1026 - v2.toNat) ?_ FU _ _ ⟨1, Pa.1.2 3, rfl, by omega, by omega, by rw [ua_self], fun t _ t0 te tl => ?_⟩ (by show 1026 - _ < 100000; omega)
    · intro rec v2 C hI hrec
      obtain ⟨k, w, rfl, hk1, hk, rfl, hd⟩ := hI
      rw [nmn (by omega), nmn (by omega)]
      by_cases hka : 2 ^ gn G - 1 < 2 * k
      · rw [if_pos (by omega)]
        refine ⟨_, rfl, rfl, fun t t1 t2 t3 => ?_⟩
        have e : (((Pa.1.1, ua (ua (ua Pa.1.2 3 w) 2 ((ua Pa.1.2 3 w) 3)) 3 ((ua Pa.1.2 3 w) 2)), Pa.2.2, Pa.2.1) : ZQ).1.2 2 = w := rfl
        show BIn G t (p+1) ((((Pa.1.1, ua (ua (ua Pa.1.2 3 w) 2 ((ua Pa.1.2 3 w) 3)) 3 ((ua Pa.1.2 3 w) 2)), Pa.2.2, Pa.2.1) : ZQ).1.2 2 t)
        rw [e]
        exact hd t t1 t2 t3 (by omega)
      · have hA' : ∀ t, t < 2 ^ gn G → t ≠ 0 → ¬ t.testBit 0 = true → BIn G t p ((((Pa.1.1, ua Pa.1.2 3 w), Pa.2) : ZQ).1.2 2 t) := hA
        obtain ⟨r, r1, r2⟩ := Pa_most (PS := PS) hG (s := 2 * k) (by omega) (by omega) hp hw hA'
        rw [if_neg (by omega), r1, bds, ixn (by omega), lt_e, Int.toNat_natCast]
        refine hrec _ _ ⟨k+1, up w (2 * k) r, by omega, by omega, by omega, ?_, fun t t1 t2 t3 t4 => ?_⟩ (by omega)
        · show ((Pa.1.1, ua (ua Pa.1.2 3 w) 3 (up ((ua Pa.1.2 3 w) 3) (2 * k) r)), Pa.2) = _
          rw [ua_up, ua_e]
        · by_cases e : t = 2 * k
          · subst e; rw [up_e]; exact r2
          · rw [up_n _ _ e]
            have := even_b.mp t3
            exact hd t t1 t2 t3 (by omega)
    · have := even_b.mp te
      omega
  exact main
theorem cnt_lt_n (n p : Nat) : cnt n (fun i => i < p) = min n p := by
  induction n with
  | zero => show 0 = _; omega
  | succ n ih =>
    by_cases h : n < p
    · rw [cnt_succ_t (p := fun i => i < p) h, ih]; omega
    · rw [cnt_succ_f (p := fun i => i < p) h, ih]; omega
theorem has_p {n p : Nat} (hp : 1 ≤ p) (hpn : p ≤ n) : ∃ c, pcsn n c = p := by
  refine ⟨fun x => min x (p - 1), ?_⟩
  have : pcsn n (fun x => min x (p - 1)) = cnt n (fun i => i < p) := cnt_ext (fun x hx => by
    unfold fo
    constructor
    · intro h
      by_cases q : x < p
      · exact q
      · have := h (p - 1) (by omega)
        simp only at this
        omega
    · intro h y hy
      show min y (p - 1) ≠ min x (p - 1)
      omega)
  rw [this, cnt_lt_n]; omega
theorem pS_all (c : Nat → Nat) : pS G (2 ^ gn G - 1) c = pcsn (gn G) c := cnt_ext (fun x hx => by
  unfold fo
  constructor
  · intro h y hy; exact h.2 y hy (full_bit.mpr (by omega))
  · intro h; exact ⟨full_bit.mpr hx, fun y hy _ => h y hy⟩)
theorem iS_all (hG : GOK G) (c : Nat → Nat) : inn G (snd_ G) (2 ^ gn G - 1) = iS G (2 ^ gn G - 1) c + bcn G (gn G) c := by
  refine cnt_add (fun l hl => ?_) (fun l hl h z => z.2.2.2 h.2.2)
  have hv := hG.2.1 l hl
  have hin : inE G l (2 ^ gn G - 1) := ⟨full_bit.mpr hv.1, full_bit.mpr hv.2.1⟩
  constructor
  · rintro ⟨a, b⟩
    by_cases q : c (ga G l) = c (gb G l)
    · exact Or.inl ⟨a, b, q⟩
    · exact Or.inr ⟨a, hv.1, hv.2.1, q⟩
  · rintro (⟨a, b, _⟩ | ⟨a, _⟩)
    · exact ⟨a, b⟩
    · exact ⟨a, hin⟩
theorem one_p (hG : GOK G) {t : Nat} (ht : t < 2 ^ gn G) (t0 : t ≠ 0) : BIn G t 1 ((inn G (snd_ G) t : Nat) : Int) := by
  have hb := hG.1
  obtain ⟨l1, l2, l3, l4, l5⟩ := lsb_ok ht hb.1 t0
  have e0 : iS G t (fun _ => 0) = inn G (snd_ G) t := cnt_ext (fun l _ => ⟨fun z => ⟨z.1, z.2.1⟩, fun z => ⟨z.1, z.2, rfl⟩⟩)
  refine Or.inr ⟨fun _ => 0, ?_, by rw [e0], fun d _ => ?_⟩
  · rw [← low_one (n := gn G) (l := lsb t) l2]
    apply cnt_ext
    intro x hx
    constructor
    · rintro ⟨h1, h2⟩
      by_cases q : lsb t < x
      · exact absurd rfl (h2 (lsb t) q l3)
      · by_cases q2 : x < lsb t
        · exact absurd h1 (l5 x q2)
        · omega
    · intro h
      subst h
      exact ⟨l3, fun y hy hyt => absurd hyt (l5 y hy)⟩
  · rw [e0]
    exact cnt_mono (fun l _ z => ⟨z.1, z.2.1⟩)
def Bst (G : GV) (B P : Nat) : Prop := 2 ≤ P ∧ (∃ c, bcn G (gn G) c = B ∧ pcsn (gn G) c = P) ∧ ∀ d, 2 ≤ pcsn (gn G) d → lq B P (bcn G (gn G) d) (pcsn (gn G) d)
theorem Bst_uniq {B P B' P' : Nat} (h : Bst G B P) (h' : Bst G B' P') : B = B' ∧ P = P' := by
  obtain ⟨h1, ⟨c, c1, c2⟩, h3⟩ := h
  obtain ⟨h1', ⟨c', c1', c2'⟩, h3'⟩ := h'
  have a := h3 c' (by omega)
  have b := h3' c (by omega)
  rw [c1', c2'] at a
  rw [c1, c2] at b
  unfold lq at a b
  have e : P = P' := by omega
  subst e
  have e2 : B * (P - 1) = B' * (P - 1) := by omega
  exact ⟨Nat.eq_of_mul_eq_mul_right (by omega) e2, rfl⟩
theorem Pa_weak (hN : RN N G) (hG : GOK G) (hn : 2 ≤ gn G) (hP : IPS PS) (Pa : ZQ) : ∃ (w : Nat → Int) (Pa' : ZQ) (B P : Nat), fPa_findWeakest N PS Pa = some ((PS.1, ua PS.2 1 w), Pa') ∧ Pa'.1.1 4 = (B : Int) ∧ Pa'.1.1 5 = (P : Int) ∧ Bst G B P := by
  have hb := hG.1
  have hp2 := Nat.two_pow_pos (gn G)
  have h10 : 2 ^ gn G ≤ 1024 := Nat.pow_le_pow_right (n := 2) (by omega) hb.1
  obtain ⟨w, h1, h2⟩ := PS_inner0 hN hG hP
  have hw : ∀ s, s < 2 ^ gn G → ((PS.1, ua PS.2 1 w) : ZB).2 1 s = ((inn G (snd_ G) s : Nat) : Int) := h2
  have main : wp (fPa_findWeakest N PS Pa) (fun r => ∃ (Pa' : ZQ) (B P : Nat), r = ((PS.1, ua PS.2 1 w), Pa') ∧ Pa'.1.1 4 = (B : Int) ∧ Pa'.1.1 5 = (P : Int) ∧ Bst G B P) := by
    unfold fPa_findWeakest
    rw [h1, bds, N_allPoints hN hG, bds, PS_innerOf hG (by omega) hw, bds]
    refine lop2_w (fun v3 (C : ZQ) => ∃ k : Nat, v3 = ((2 * k : Nat) : Int) ∧ 1 ≤ k ∧ 2 * k ≤ 1026 ∧ ∀ t, t < 2 ^ gn G → t ≠ 0 → ¬ t.testBit 0 = true → t < 2 * k → BIn G t 1 (C.1.2 2 t)) (fun v3 _ => 1026 - v3.toNat) ?_ FU _ _ ⟨1, rfl, by omega, by omega, fun t _ t0 te tl => by have := even_b.mp te; omega⟩ (by show 1026 - _ < 100000; omega)
    intro rec v3 C hI hrec
    obtain ⟨k, rfl, hk1, hk, hd⟩ := hI
    rw [nmn (show 2 ^ gn G - 1 < 2147483648 by omega), nmn (show 2 * k < 2147483648 by omega)]
    by_cases hka : 2 ^ gn G - 1 < 2 * k
    · rw [if_pos (by omega), lt_e]
      have hA1 : APa G 1 (C.1.2 2) := fun t t1 t2 t3 => hd t t1 t2 t3 (by omega)
      refine lop2_w (fun v3 (D : ZQ) => ∃ p : Nat, v3 = (p : Int) ∧ 2 ≤ p ∧ p ≤ gn G + 1 ∧ APa G (p - 1) (D.1.2 2) ∧ ((p = 2 ∧ D.1.1 5 = 0) ∨ ∃ B P : Nat, D.1.1 4 = (B : Int) ∧ D.1.1 5 = (P : Int) ∧ 2 ≤ P ∧ P < p ∧ (∃ c, bcn G (gn G) c = B ∧ pcsn (gn G) c = P) ∧ ∀ d, 2 ≤ pcsn (gn G) d → pcsn (gn G) d < p → lq B P (bcn G (gn G) d) (pcsn (gn G) d))) (fun v3 _ => 11 - v3.toNat) ?_ FU _ _ ⟨2, rfl, by omega, by omega, hA1, Or.inl ⟨rfl, up_e C.1.1 5 0⟩⟩ (by show 11 - _ < 100000; omega)
      intro rec2 v3 D hI2 hrec2
      obtain ⟨p, rfl, hp1, hp, hA, hbest⟩ := hI2
      rw [hN.1, nmn (show gn G < 2147483648 by omega), nmn (show p < 2147483648 by omega)]
      by_cases hpn : p ≤ gn G
      · obtain ⟨r, r1, r2⟩ := Pa_most (PS := (PS.1, ua PS.2 1 w)) (Pa := D) hG (s := 2 ^ gn G - 1) (p := p - 1) (by omega) (by have := Nat.pow_le_pow_right (n := 2) (by omega) (show 1 ≤ gn G by omega); omega) (by omega) hw hA
        rw [show p - 1 + 1 = p by omega] at r2
        rcases r2 with ⟨_, z⟩ | ⟨c, c1, c2, c3⟩
        · obtain ⟨c, hc⟩ := has_p (n := gn G) (p := p) (by omega) hpn
          exact absurd ((pS_all c).trans hc) (z c)
        · rw [pS_all] at c1
          have hall := iS_all hG c
          have hbl := bcn_le G (gn G) c
          have hcast : ((inn G (snd_ G) (2 ^ gn G - 1) : Nat) : Int) - r = ((bcn G (gn G) c : Nat) : Int) := by rw [c2]; omega
          have cov : ∀ d, pcsn (gn G) d = p → bcn G (gn G) c ≤ bcn G (gn G) d := by
            intro d hdp
            have := c3 d ((pS_all d).trans hdp)
            have := iS_all hG d
            omega
          have covq : ∀ d, pcsn (gn G) d = p → lq (bcn G (gn G) c) p (bcn G (gn G) d) (pcsn (gn G) d) := by
            intro d hdp
            have h3 : bcn G (gn G) c * (p - 1) ≤ bcn G (gn G) d * (p - 1) := Nat.mul_le_mul_right _ (cov d hdp)
            unfold lq
            rw [hdp]
            omega
          rw [if_neg (by omega), r1, bds, hcast, lt_e, kf1_e, kf0_e]
          have upd : (∀ d, 2 ≤ pcsn (gn G) d → pcsn (gn G) d < p → lq (bcn G (gn G) c) p (bcn G (gn G) d) (pcsn (gn G) d)) → ∃ r, (bd (fPa_addPiece (PS.1, ua PS.2 1 w) ((up (up D.1.1 4 ((bcn G (gn G) c : Nat) : Int)) 5 (p : Int), D.1.2), D.2) ((2 ^ gn G - 1 : Nat) : Int)) fun u_15 => rec2 ((p : Int) + 1) u_15) = some r ∧ ∃ (Pa' : ZQ) (B P : Nat), r = ((PS.1, ua PS.2 1 w), Pa') ∧ Pa'.1.1 4 = (B : Int) ∧ Pa'.1.1 5 = (P : Int) ∧ Bst G B P := by
            intro h
            obtain ⟨Pa', a1, a2, a3⟩ := Pa_add (PS := (PS.1, ua PS.2 1 w)) (Pa := ((up (up D.1.1 4 ((bcn G (gn G) c : Nat) : Int)) 5 (p : Int), D.1.2), D.2)) hG (by omega) (p := p - 1) (by omega) hw hA
            rw [a1, bds]
            refine hrec2 _ _ ⟨p+1, by omega, by omega, by omega, ?_, Or.inr ⟨bcn G (gn G) c, p, by rw [a2]; rfl, by rw [a2]; rfl, by omega, by omega, ⟨c, rfl, c1⟩, fun d d1 d2 => ?_⟩⟩ (by omega)
            · rw [show p + 1 - 1 = p - 1 + 1 by omega]; exact a3
            · by_cases e : pcsn (gn G) d = p
              · exact covq d e
              · exact h d d1 (by omega)
          rcases hbest with ⟨e1, e2⟩ | ⟨B, P, b1, b2, b3, b4, ⟨c0, b5, b6⟩, b7⟩
          · rw [e2, if_pos (by decide)]
            exact upd (fun d d1 d2 => by omega)
          · have hB := bcn_le G (gn G) c0
            have m1 : bcn G (gn G) c * (P - 1) ≤ 24 * 9 := Nat.mul_le_mul (by omega) (by omega)
            have m2 : B * (p - 1) ≤ 24 * 9 := Nat.mul_le_mul (by omega) (by omega)
            have ev1 : ((bcn G (gn G) c : Nat) : Int) * ((P : Int) - 1) = ((bcn G (gn G) c * (P - 1) : Nat) : Int) := by
              rw [Int.natCast_mul, show ((P - 1 : Nat) : Int) = (P : Int) - 1 by omega]
            have ev2 : (B : Int) * ((p : Int) - 1) = ((B * (p - 1) : Nat) : Int) := by
              rw [Int.natCast_mul, show ((p - 1 : Nat) : Int) = (p : Int) - 1 by omega]
            rw [b1, b2, nmn (show P < 2147483648 by omega), if_neg (by omega), ev1, ev2, nmn (show bcn G (gn G) c * (P - 1) < 2147483648 by omega), nmn (show B * (p - 1) < 2147483648 by omega)]
            by_cases z : bcn G (gn G) c * (P - 1) < B * (p - 1)
            · rw [if_pos (by omega)]
              exact upd (fun d d1 d2 => lq_tr (Or.inl z) (b7 d d1 d2) b3 (by omega) d1)
            · rw [if_neg (by omega)]
              obtain ⟨Pa', a1, a2, a3⟩ := Pa_add (PS := (PS.1, ua PS.2 1 w)) (Pa := D) hG (by omega) (p := p - 1) (by omega) hw hA
              show ∃ r, (bd (fPa_addPiece (PS.1, ua PS.2 1 w) D ((2 ^ gn G - 1 : Nat) : Int)) fun u_15 => rec2 ((p : Int) + 1) u_15) = some r ∧ _
              rw [a1, bds]
              refine hrec2 _ _ ⟨p+1, by omega, by omega, by omega, ?_, Or.inr ⟨B, P, by rw [a2]; exact b1, by rw [a2]; exact b2, b3, by omega, ⟨c0, b5, b6⟩, fun d d1 d2 => ?_⟩⟩ (by omega)
              · rw [show p + 1 - 1 = p - 1 + 1 by omega]; exact a3
              · by_cases e : pcsn (gn G) d = p
                · have hx : lq B P (bcn G (gn G) c) p := by unfold lq; omega
                  exact lq_tr hx (covq d e) (by omega) b3 d1
                · exact b7 d d1 (by omega)
      · rw [if_pos (by omega)]
        rcases hbest with ⟨e1, _⟩ | ⟨B, P, b1, b2, b3, b4, b5, b7⟩
        · omega
        · refine ⟨_, rfl, D, B, P, rfl, b1, b2, b3, b5, fun d hd => b7 d hd ?_⟩
          have := pcs_le (gn G) d
          omega
    · rw [if_neg (by omega), PS_innerOf hG (by omega) hw, bds, ixn (by omega), lt_e, Int.toNat_natCast]
      refine hrec _ _ ⟨k+1, by omega, by omega, by omega, fun t t1 t2 t3 t4 => ?_⟩ (by omega)
      show BIn G t 1 (up (C.1.2 2) (2 * k) _ t)
      by_cases e : t = 2 * k
      · subst e; rw [up_e]; exact one_p hG t1 t2
      · rw [up_n _ _ e]
        have := even_b.mp t3
        exact hd t t1 t2 t3 (by omega)
  obtain ⟨r, r1, Pa', B, P, r2, r3⟩ := main
  exact ⟨w, Pa', B, P, by rw [r1, r2], r3⟩
end
theorem MFp_eq {M M' : ZB} (h : MFp M M') : M' = (up (up M.1 37 (M'.1 37)) 38 (M'.1 38), ua M.2 36 (M'.2 36)) := by
  obtain ⟨h1, h2⟩ := h
  have e1 : M'.1 = up (up M.1 37 (M'.1 37)) 38 (M'.1 38) := by
    funext i
    by_cases e : i = 38
    · subst e; rw [up_e]
    · rw [up_n _ _ e]
      by_cases e' : i = 37
      · subst e'; rw [up_e]
      · rw [up_n _ _ e']; exact h1 i e' e
  have e2 : M'.2 = ua M.2 36 (M'.2 36) := by
    funext i
    by_cases e : i = 36
    · subst e; rw [ua_e]
    · rw [ua_n _ _ e]; exact h2 i e
  rw [← e1, ← e2]
theorem sim31 : Sim31 INV := by
  intro X N T Rd Fr Ac Ch PS Ly Pa OT Ea Ga c0 c1 M a1 hI hr1
  have keep0 : INV X N T Rd Fr Ac Ch PS Ly Pa OT Ea Ga c0 c1 (up M.1 0 0, M.2) := hI
  obtain ⟨⟨G, hG, hN, hM⟩, hT, hR, hA, hC, hGa, hi0, hi1, hP⟩ := hI
  have hb := hG.1
  have hM1 : RW (((up M.1 0 0, M.2) : ZB).2 12) G := hM
  unfold fX_strength fM_strength
  rw [lt_e, M_points hM1, bds, kf0_e, kf0_e, hN.1, nmn (by omega)]
  by_cases q : gn G < 2
  · rw [if_pos (by omega : (gn G : Int) < 2), if_pos (by omega : (gn G : Int) < 2)]; exact ⟨_, _, rfl, rfl, rfl, keep0⟩
  rw [if_neg (by omega : ¬ (gn G : Int) < 2), if_neg (by omega : ¬ (gn G : Int) < 2), M_isIn hr1 (by omega) (by omega), bds, nmi hr1]
  by_cases r : 0 ≤ a1 ∧ a1 ≤ 2
  · obtain ⟨w, Pa', B, P, w1, w2, w3, w4⟩ := Pa_weak hN hG (by omega) hP Pa
    have hM2 : RW (((up (up (up M.1 0 0) 38 0) 37 0, M.2) : ZB).2 12) G := hM
    have e0 : bcn G 0 (fun _ => 0) = 0 := cnt_zero (fun l _ h => absurd h.2.1 (Nat.not_lt_zero _))
    have hGr0 : Gr 0 0 (fun _ => 0) := ⟨fun x h => absurd h (Nat.not_lt_zero x), fun j h => absurd h (Nat.not_lt_zero j), rfl⟩
    obtain ⟨M', m1, m2, m3, m4, m5, m6⟩ := M_parts hG 20 0 0 (fun _ => 0) (up (up (up M.1 0 0) 38 0) 37 0, M.2) hM2 (by omega) (by omega) hGr0 (fun x h => absurd h (Nat.not_lt_zero x)) (Or.inl rfl)
    rw [e0] at m1
    have hcov : ∀ d, 2 ≤ pcsn (gn G) d → CovP G M' d := fun d hd => m6 d (fun x y h => absurd h (Nat.not_lt_zero x)) hd
    obtain ⟨c, hc⟩ := has_p (n := gn G) (p := 2) (by omega) (by omega)
    obtain ⟨B', P', n1, n2, n3, _⟩ := hcov c (by omega)
    have hbst : Bst G B' P' := by
      rcases m4 with z | ⟨c2, z1, z2, z3⟩
      · rw [z] at n2; omega
      · refine ⟨n3, ⟨c2, by rw [z1] at n1; omega, by rw [z2] at n2; omega⟩, fun d hd => ?_⟩
        obtain ⟨B2, P2, y1, y2, _, y4⟩ := hcov d hd
        have f1 : B2 = B' := by rw [n1] at y1; omega
        have f2 : P2 = P' := by rw [n2] at y2; omega
        rw [f1, f2] at y4; exact y4
    obtain ⟨f1, f2⟩ := Bst_uniq w4 hbst
    subst f1
    subst f2
    obtain ⟨hP2, ⟨c3, g1, g2⟩, _⟩ := w4
    have hBl := bcn_le G (gn G) c3
    have hPl := pcs_le (gn G) c3
    have ek : INV X N T Rd Fr Ac Ch (PS.1, ua PS.2 1 w) Ly Pa' OT Ea Ga c0 c1 M' := by
      rw [MFp_eq m2]
      exact ⟨⟨G, hG, hN, hM⟩, hT, hR, hA, hC, hGa, hi0, hi1, hP⟩
    have m1' : fM_parts 20 (up (up (up M.1 0 0) 38 0) 37 0, M.2) 0 0 0 = some M' := m1
    rw [if_neg (by omega : ¬ a1 < 0), if_neg (by omega : ¬ 2 < a1), q10t r, w1, bds, lt_e, lt_e, m1', bds, kf1_e]
    unfold fPa_pieces fPa_above
    by_cases z2 : a1 = 2
    · rw [if_pos z2, if_pos z2]
      exact ⟨_, _, rfl, rfl, by rw [n2]; exact w3, ek⟩
    · obtain ⟨v, v1, v2⟩ := terms (a := B) (b := P - 1) (w := a1) (by omega) (by omega) (by omega) (by omega)
      have ecast : (P : Int) - 1 = ((P - 1 : Nat) : Int) := by omega
      rw [if_neg z2, if_neg z2, n1, n2, ecast, v2, bds, bds, bds]
      have w2' : ((((PS.1, ua PS.2 1 w), Pa') : ZB × ZQ).2).1.1 4 = (B : Int) := w2
      have w3' : ((((PS.1, ua PS.2 1 w), Pa') : ZB × ZQ).2).1.1 5 = (P : Int) := w3
      rw [w2', w3', ecast, v1, bds]
      exact ⟨_, _, rfl, rfl, rfl, ek⟩
  · rw [q10f r]
    refine ⟨(-1, PS, Pa), _, ?_, rfl, rfl, keep0⟩
    by_cases z : a1 < 0
    · rw [if_pos z]
    · rw [if_neg z, if_pos (by omega)]
