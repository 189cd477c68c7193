-- needs: 07zzz50.lawsmall
/-! the law's its, sound, lying -/
def lieS (G : GV) : Nat → Prop := fun l => gh G l ≠ -1
theorem cnt_compl (n : Nat) (p : Nat → Prop) : cnt n p + cnt n (fun i => ¬ p i) = n := by
  have h := cnt_add (n := n) (p := p) (q := fun i => ¬ p i) (r := fun _ => True) (fun i _ => ⟨fun _ => Classical.em _, fun _ => trivial⟩) (fun i _ h k => k h)
  rw [cnt_all (fun _ _ => trivial)] at h
  exact h.symm
theorem ppc_bs {n : Nat} (h : n ≤ 24) (p : Nat → Prop) : ppc (bs n p) = cnt n p := pcn_bs h p
section
variable {G : GV} {N T La : ZB} {Ac : ZA}
theorem L_its3 (hN : RN N G) (hG : GOK G) {l : Nat} (hl : l < gL G) : fL_its N 0 (l : Int) 3 = some (gh G l) := by
  have hb := hG.1
  have q : (0 : Int) ≤ (l : Int) ∧ (l : Int) < (gL G : Nat) := ⟨by omega, by omega⟩
  unfold fL_its fX_lineN
  simp only [kf0, kf1]
  rw [if_pos (by decide : nm 0 = 0), N_hasLine hN hG (by omega), bds, if_pos q, if_neg (by decide : ¬ nm 1 = 0), if_neg (by decide : ¬ nm 3 < 0), if_neg (by decide : ¬ (4 : Int) < nm 3), if_neg (by decide : ¬ nm 3 = 0), if_neg (by decide : ¬ nm 3 = 1), if_neg (by decide : ¬ nm 3 = 2), if_pos (by decide : nm 3 = 3), rdn (by omega), (hN.2.2.2.2.2 l hl).2.2.2]
theorem L_its4 (hN : RN N G) (hG : GOK G) {l : Nat} (hl : l < gL G) : fL_its N 0 (l : Int) 4 = some (if dc (gbr G l) then 1 else 0) := by
  have hb := hG.1
  have q : (0 : Int) ≤ (l : Int) ∧ (l : Int) < (gL G : Nat) := ⟨by omega, by omega⟩
  unfold fL_its fX_lineN
  simp only [kf0, kf1]
  rw [if_pos (by decide : nm 0 = 0), N_hasLine hN hG (by omega), bds, if_pos q, if_neg (by decide : ¬ nm 1 = 0), if_neg (by decide : ¬ nm 4 < 0), if_neg (by decide : ¬ (4 : Int) < nm 4), if_neg (by decide : ¬ nm 4 = 0), if_neg (by decide : ¬ nm 4 = 1), if_neg (by decide : ¬ nm 4 = 2), if_neg (by decide : ¬ nm 4 = 3), N_isSound hN (by omega), bds]
  by_cases s : gbr G l
  · rw [i01t s, idt s]
  · rw [i01f s, idf s]
theorem L_sound (hN : RN N G) (hG : GOK G) (hv : LV G (La.2 1)) : fL_sound N La = some ((bs (gL G) (snd_ G) : Nat) : Int) := by
  have hb := hG.1
  unfold fL_sound
  refine lop2_s (gL G) (fun i => ((bs i (snd_ G) : Nat) : Int)) (fun i => (i : Int)) ?_ ?_ (by omega) rfl rfl
  · intro rec k hk hr
    simp only [kf1]
    rw [rv1, hv.2.1, nmn (by omega), nmn (by omega), if_pos (by omega), L_its4 hN hG hk, bds]
    by_cases q : gbr G k
    · rw [i10t q]
      rw [bs_succ_f (p := snd_ G) (fun z => z q)] at hr
      exact hr
    · rw [i10f q, lt_e, zshln (by omega), zorn (bs_lt31 (by omega)) (p2_lt31 (by omega)), ← bs_succ_t (p := snd_ G) q]
      exact hr
  · intro rec
    rw [rv1, hv.2.1, nmn (by omega), if_neg (by omega)]
theorem X_now0 (hN : RN N G) : fX_now N T Ac 0 = some ((gn G : Nat) : Int) := by
  unfold fX_now
  rw [if_pos (by decide), hN.1]
theorem X_now1 (hN : RN N G) : fX_now N T Ac 1 = some ((gL G : Nat) : Int) := by
  unfold fX_now
  rw [if_neg (by decide : ¬ nm 1 = 0), if_pos (by decide : nm 1 = 1), hN.2.1]
theorem X_now2 (hN : RN N G) : fX_now N T Ac 2 = some ((gk G : Nat) : Int) := by
  unfold fX_now
  rw [if_neg (by decide : ¬ nm 2 = 0), if_neg (by decide : ¬ nm 2 = 1), if_pos (by decide : nm 2 = 2), hN.2.2.1]
theorem X_now4 (hN : RN N G) (hG : GOK G) : fX_now N T Ac 4 = some ((cnt (gL G) (lieS G) : Nat) : Int) := by
  have hb := hG.1
  unfold fX_now fN_packed
  rw [if_neg (by decide : ¬ nm 4 = 0), if_neg (by decide : ¬ nm 4 = 1), if_neg (by decide : ¬ nm 4 = 2), if_neg (by decide : ¬ nm 4 = 3), if_pos (by decide : nm 4 = 4), N_forestSet hN hG (by omega), bds, bitCount_bs hb.2.1, bds, bds, hN.2.1]
  have h := cnt_compl (gL G) (fun l => gh G l = -1)
  have h2 : cnt (gL G) (fun l => ¬ gh G l = -1) = cnt (gL G) (lieS G) := rfl
  rw [h2] at h
  congr 1
  omega
theorem X_forest (hN : RN N G) (hG : GOK G) {f : Nat} (hf : f < gk G) : fX_forest N (f : Int) = some ((bs (gL G) (fun l => gh G l = (f : Int)) : Nat) : Int) := by
  have hb := hG.1
  have q : (0 : Int) ≤ (f : Int) ∧ (f : Int) < (gk G : Nat) := ⟨by omega, by omega⟩
  unfold fX_forest
  simp only [kf1]
  rw [N_hasForest hN hG (by omega), bds, N_forestSet hN hG (by omega), bds, if_pos q, if_neg (by decide : ¬ nm 1 = 0)]
theorem lie_snd (hG : GOK G) {l : Nat} (hl : l < gL G) (h : lieS G l) : snd_ G l := fun z => h ((hG.2.1 l hl).2.2.2.2.2.2.2 z)
theorem L_lying (hN : RN N G) (hG : GOK G) (hv : LV G (La.2 1)) : fL_lying N T Ac La = some ((bs (gL G) (lieS G) : Nat) : Int) := by
  have hb := hG.1
  have hend : bs (gL G) (fun l => 0 ≤ gh G l ∧ gh G l < ((gk G : Nat) : Int)) = bs (gL G) (lieS G) := bs_ext (fun i hi => by
    have hv := hG.2.1 i hi
    unfold lieS
    constructor
    · intro h; omega
    · intro h; omega)
  unfold fL_lying
  refine lop2_s (gk G) (fun f => ((bs (gL G) (fun l => 0 ≤ gh G l ∧ gh G l < (f : Int)) : Nat) : Int)) (fun f => (f : Int)) ?_ ?_ (by omega) ?_ rfl
  · intro rec k hk hr
    have hsh : (bs (gL G) (fun l => gh G l = (k : Int))) >>> (gL G) = 0 := by
      rw [Nat.shiftRight_eq_div_pow]; exact Nat.div_eq_of_lt (bs_lt _ _)
    have hz : bs (gL G) (fun i => gh G i = (k : Int) ∧ (0 ≤ gh G i ∧ gh G i < (k : Int))) = 0 := bs_zero.mpr (fun i _ h => by omega)
    have hf : Fo (ga G) (gb G) (Eb G (bs (gL G) (fun l => gh G l = (k : Int)))) := (Fo_congr Eb_forest).mpr (hG.2.2.2 k (by omega))
    simp only [kf0]
    rw [X_now2 hN, bds, nmn (by omega), nmn (by omega), if_pos (by omega), X_forest hN hG hk, bds, nmn (bs_lt31 (by omega)), if_neg (by omega), rv1, hv.2.1, zshrn (bs_lt31 (by omega)) (by omega), hsh, if_pos (by decide : ((0 : Nat) : Int) = 0), zandn (bs_lt31 (by omega)) (bs_lt31 (by omega)), bs_and, hz, if_pos (by decide : ((0 : Nat) : Int) = 0), L_isForest hG hv (bs_lt _ _), bds, i10t hf]
    refine lop1_s (gL G) (fun i => (i : Int)) ?_ ?_ (by omega) rfl
    · intro rec2 i hi hr2
      rw [rv1, hv.2.1, nmn (by omega), nmn (by omega), if_pos (by omega), L_has (bs_lt31 (by omega)) (by omega), bds]
      by_cases hbit : (bs (gL G) (fun l => gh G l = (k : Int))).testBit i = true
      · have he := ((bs_bit _ _ _).mp hbit).2
        rw [t10t hbit, L_its3 hN hG hi, bds, he, nmn (show k < 2147483648 by omega), if_pos rfl]
        exact hr2
      · rw [t10f hbit]
        exact hr2
    · intro rec2
      rw [rv1, hv.2.1, nmn (by omega), if_neg (by omega), lt_e, zorn (bs_lt31 (by omega)) (bs_lt31 (by omega)), bs_or]
      rw [bs_ext (q := fun l => 0 ≤ gh G l ∧ gh G l < ((k + 1 : Nat) : Int)) (fun i hi => by constructor <;> (intro h; omega))]
      exact hr
  · intro rec
    have hz : bs (gL G) (fun i => (0 ≤ gh G i ∧ gh G i < ((gk G : Nat) : Int)) ∧ ¬ snd_ G i) = 0 := bs_zero.mpr (fun i hi h => h.2 (lie_snd hG hi (by have := h.1; unfold lieS; omega)))
    simp only [kf0, kf1]
    rw [X_now2 hN, bds, nmn (by omega), if_neg (by omega), L_sound hN hG hv, bds, zcompn (bs_lt31 (by omega)) (bs_lt31 (by omega)), bs_ndf, hz, if_pos (by decide : ((0 : Nat) : Int) = 0), X_now4 hN hG, bds, hend, L_bits (Nat.lt_of_lt_of_le (bs_lt _ _) (Nat.pow_le_pow_right (by omega) hb.2.1)), bds, ppc_bs hb.2.1, if_pos rfl]
  · show ((bs (gL G) (fun l => 0 ≤ gh G l ∧ gh G l < ((0 : Nat) : Int)) : Nat) : Int) = 0
    rw [bs_zero.mpr (fun i _ h => by omega)]; rfl
end
