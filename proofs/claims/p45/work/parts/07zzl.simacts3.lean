-- needs: 07zzk.simacts2
/-! image, restore, forests, ring, put -/
theorem i10t {α : Type} {p : Prop} {a b : α} (h : p) : (if nm (if dc p then (1 : Int) else 0) = 0 then a else b) = b := by rw [dc_t.mpr h, if_neg (by decide)]
theorem i10f {α : Type} {p : Prop} {a b : α} (h : ¬ p) : (if nm (if dc p then (1 : Int) else 0) = 0 then a else b) = a := by rw [dc_f.mpr h, if_pos (by decide)]
theorem i01t {α : Type} {p : Prop} {a b : α} (h : p) : (if nm (if dc p then (0 : Int) else 1) = 0 then a else b) = a := by rw [dc_t.mpr h, if_pos (by decide)]
theorem i01f {α : Type} {p : Prop} {a b : α} (h : ¬ p) : (if nm (if dc p then (0 : Int) else 1) = 0 then a else b) = b := by rw [dc_f.mpr h, if_neg (by decide)]
theorem idt {α : Type} {p : Prop} {a b : α} (h : p) : (if dc p then a else b) = a := by rw [dc_t.mpr h, if_pos rfl]
theorem idf {α : Type} {p : Prop} {a b : α} (h : ¬ p) : (if dc p then a else b) = b := by rw [dc_f.mpr h, if_neg (by decide)]
theorem q10t {α : Type} {q : Prop} [Decidable q] {a b : α} (h : q) : (if nm (if q then (1 : Int) else 0) = 0 then a else b) = b := by rw [if_pos h, if_neg (by decide)]
theorem q10f {α : Type} {q : Prop} [Decidable q] {a b : α} (h : ¬ q) : (if nm (if q then (1 : Int) else 0) = 0 then a else b) = a := by rw [if_neg h, if_pos (by decide)]
theorem t10t {α : Type} {x l : Nat} {a b : α} (h : x.testBit l = true) : (if nm (if x.testBit l = true then (1 : Int) else 0) = 0 then a else b) = b := by rw [if_pos h, if_neg (by decide)]
theorem t10f {α : Type} {x l : Nat} {a b : α} (h : ¬ x.testBit l = true) : (if nm (if x.testBit l = true then (1 : Int) else 0) = 0 then a else b) = a := by rw [if_neg h, if_pos (by decide)]
theorem b10t {α : Type} {x l : Nat} {a b : α} (h : x.testBit l = true) : (if (if x.testBit l = true then (1 : Int) else 0) = 0 then a else b) = b := by rw [if_pos h, if_neg (by decide)]
theorem b10f {α : Type} {x l : Nat} {a b : α} (h : ¬ x.testBit l = true) : (if (if x.testBit l = true then (1 : Int) else 0) = 0 then a else b) = a := by rw [if_neg h, if_pos (by decide)]
theorem sim40 : Sim40 INV := by
  intro X N T Rd Fr Ac Ch PS Ly Pa OT Ea Ga c0 c1 M a1 hI hr1
  have keep : INV X N T Rd Fr Ac Ch PS Ly Pa OT Ea Ga c0 c1 (up M.1 0 0, M.2) := hI
  obtain ⟨⟨G, hG, hN, hM⟩, hT, hR, hA, hC, hGa, hi0, hi1, hP⟩ := hI
  unfold fX_image fM_image
  simp only [lt_e]
  rw [M_isIn hr1 (by omega) (by omega), bds, nmi hr1]
  by_cases z0 : a1 = 0
  · subst z0
    obtain ⟨D, d1, d2⟩ := N_become (D := c0.getD zNet0B) hN hG
    have hcp := M_copy_now_kept ((up M.1 0 0, M.2) : ZB) (s := 0) (d := 0) (by omega) (by omega)
    rw [show ((0 : Nat) : Int) = 0 from rfl] at hcp
    rw [if_pos rfl, d1, bds, if_pos (by decide : (0:Int) ≤ 0 ∧ (0:Int) ≤ 1), if_neg (by decide : ¬ nm 1 = 0), show (147 : Int) * 0 = 0 from rfl, hcp, bds, ixi (by omega)]
    refine ⟨_, _, rfl, rfl, rfl, ⟨G, hG, hN, hM⟩, hT, hR, hA, hC, hGa, Or.inr ⟨D, G, rfl, rfl, hG, d2, ?_⟩, ?_, hP⟩
    · exact RW_eq hG (RW_cpy (g := M.2 14) (f := M.2 12) (d := 0) (s := 0) hG (RW_eq hG hM (fun j _ => by rw [Nat.zero_add]))) (fun j _ => by rw [Nat.zero_add]; rfl)
    · have e : ∀ j, cpy (M.2 14) (M.2 12) 0 0 147 (147 + j) = M.2 14 (147 + j) := by
        intro j; unfold cpy; rw [if_neg (by omega)]
      have : (fun j => cpy (M.2 14) (M.2 12) 0 0 147 (147 + j)) = (fun j => M.2 14 (147 + j)) := funext e
      show IImg c1 (M.2 19 1) (fun j => cpy (M.2 14) (M.2 12) 0 0 147 (147 + j))
      rw [this]; exact hi1
  · by_cases z1 : a1 = 1
    · subst z1
      obtain ⟨D, d1, d2⟩ := N_become (D := c1.getD zNet0B) hN hG
      have hcp := M_copy_now_kept ((up M.1 0 0, M.2) : ZB) (s := 0) (d := 147) (by omega) (by omega)
      rw [show ((0 : Nat) : Int) = 0 from rfl] at hcp
      rw [if_neg (by decide : ¬ (1:Int) = 0), if_pos rfl, d1, bds, if_pos (by decide : (0:Int) ≤ 1 ∧ (1:Int) ≤ 1), if_neg (by decide : ¬ nm 1 = 0), show (147 : Int) * 1 = ((147 : Nat) : Int) from rfl, hcp, bds, ixi (by omega)]
      refine ⟨_, _, rfl, rfl, rfl, ⟨G, hG, hN, hM⟩, hT, hR, hA, hC, hGa, ?_, Or.inr ⟨D, G, rfl, rfl, hG, d2, ?_⟩, hP⟩
      · show IImg c0 (M.2 19 0) (cpy (M.2 14) (M.2 12) 147 0 147)
        rcases hi0 with h | ⟨Z, G', h1, h2, h3, h4, h5⟩
        · exact Or.inl h
        · exact Or.inr ⟨Z, G', h1, h2, h3, h4, RW_eq h3 h5 (fun j hj => by unfold cpy; rw [if_neg (by omega)])⟩
      · exact RW_cpy (g := M.2 14) (f := M.2 12) (d := 147) (s := 0) hG (RW_eq hG hM (fun j _ => by rw [Nat.zero_add]))
    · rw [if_neg z0, if_neg z1, if_neg (by omega : ¬ (0 ≤ a1 ∧ a1 ≤ 1)), if_pos (by decide : nm 0 = 0)]
      exact ⟨_, _, rfl, rfl, rfl, keep⟩
theorem restore_ok {N : ZB} {Ac : ZA} {Z : ZB} {G : GV} (hZ : RN Z G) (hG : GOK G) {m : Int} {s : Nat → Int} (hA : IActs Ac m s) : ∃ D B, restoreFrom N Ac (some Z) = some (1, D, B) ∧ RN D G ∧ ∀ t, IActs B 0 t := by
  obtain ⟨D, d1, d2⟩ := N_become (D := N) hZ hG
  obtain ⟨c, n, hc, hn8, h3, h2, hm, hk⟩ := hA
  refine ⟨D, (up Ac.1 3 0, Ac.2), ?_, d2, fun t => ⟨0, n, by omega, hn8, rfl, h2, rfl, fun i hi => absurd hi (Nat.not_lt_zero i)⟩⟩
  unfold restoreFrom fAc_forget
  simp only [d1, bds, lt_e]
theorem sim41 : Sim41 INV := by
  intro X N T Rd Fr Ac Ch PS Ly Pa OT Ea Ga c0 c1 M a1 hI hr1
  have keep : INV X N T Rd Fr Ac Ch PS Ly Pa OT Ea Ga c0 c1 (up M.1 0 0, M.2) := hI
  obtain ⟨⟨G, hG, hN, hM⟩, hT, hR, hA, hC, hGa, hi0, hi1, hP⟩ := hI
  unfold fX_restore fM_restore
  simp only [lt_e, kf0]
  rw [M_isIn hr1 (by omega) (by omega), bds, nmi hr1]
  by_cases z0 : a1 = 0
  · subst z0
    rw [if_pos rfl, if_pos (by decide : (0:Int) ≤ 0 ∧ (0:Int) ≤ 1), if_neg (by decide : ¬ nm 1 = 0), rdi (by omega)]
    show ∃ r t, _ ∧ (if nm (M.2 19 0) = 0 then _ else _) = some t ∧ _
    rcases id hi0 with ⟨h1, h2⟩ | ⟨Z, G', h1, h2, h3, h4, h5⟩
    · rw [h1, h2]; exact ⟨_, _, rfl, rfl, rfl, by rw [← h1]; exact keep⟩
    · obtain ⟨D, B, e1, e2, e3⟩ := restore_ok (N := N) h4 h3 hA
      have hcp := M_copy_kept_now ((up M.1 0 0, M.2) : ZB) (s := 0) (d := 0) (by omega) (by omega)
      rw [show ((0 : Nat) : Int) = 0 from rfl] at hcp
      rw [h1, e1, h2, if_neg (by decide : ¬ nm 1 = 0), show (147 : Int) * 0 = 0 from rfl, hcp, bds]
      refine ⟨_, _, rfl, rfl, rfl, ⟨G', h3, e2, ?_⟩, hT, hR, e3 _, hC, hGa, by rw [← h1]; exact hi0, hi1, hP⟩
      exact RW_eq h3 (RW_cpy (g := M.2 12) (f := M.2 14) (d := 0) (s := 0) h3 (RW_eq h3 h5 (fun j _ => by rw [Nat.zero_add]))) (fun j _ => by rw [Nat.zero_add]; rfl)
  · by_cases z1 : a1 = 1
    · subst z1
      rw [if_neg (by decide : ¬ (1:Int) = 0), if_pos rfl, if_pos (by decide : (0:Int) ≤ 1 ∧ (1:Int) ≤ 1), if_neg (by decide : ¬ nm 1 = 0), rdi (by omega)]
      show ∃ r t, _ ∧ (if nm (M.2 19 1) = 0 then _ else _) = some t ∧ _
      rcases id hi1 with ⟨h1, h2⟩ | ⟨Z, G', h1, h2, h3, h4, h5⟩
      · rw [h1, h2]; exact ⟨_, _, rfl, rfl, rfl, by rw [← h1]; exact keep⟩
      · obtain ⟨D, B, e1, e2, e3⟩ := restore_ok (N := N) h4 h3 hA
        have hcp := M_copy_kept_now ((up M.1 0 0, M.2) : ZB) (s := 147) (d := 0) (by omega) (by omega)
        rw [show ((0 : Nat) : Int) = 0 from rfl] at hcp
        rw [h1, e1, h2, if_neg (by decide : ¬ nm 1 = 0), show (147 : Int) * 1 = ((147 : Nat) : Int) from rfl, hcp, bds]
        refine ⟨_, _, rfl, rfl, rfl, ⟨G', h3, e2, ?_⟩, hT, hR, e3 _, hC, hGa, hi0, by rw [← h1]; exact hi1, hP⟩
        exact RW_eq h3 (RW_cpy (g := M.2 12) (f := M.2 14) (d := 0) (s := 147) h3 h5) (fun j _ => by rw [Nat.zero_add]; rfl)
    · rw [if_neg z0, if_neg z1, if_neg (by omega : ¬ (0 ≤ a1 ∧ a1 ≤ 1)), if_pos (by decide : nm 0 = 0)]
      exact ⟨_, _, rfl, rfl, rfl, keep⟩
theorem nmh {G : GV} (hG : GOK G) {l : Nat} (hl : l < gL G) : nm (gh G l) = gh G l := by
  have hv := hG.2.1 l hl
  have hb := hG.1
  exact nmi (by omega)
noncomputable def lftk (f : Nat → Int) (o : Nat) (n : Int) (k : Nat) : Nat → Int := fun j => if dc (o ≤ j ∧ j < o + k ∧ n ≤ f j) then -1 else f j
theorem lftk_s {f : Nat → Int} {o k : Nat} {n : Int} (h : n ≤ f (o + k)) : up (lftk f o n k) (o + k) (-1) = lftk f o n (k+1) := by
  funext j; unfold up lftk
  by_cases e : j = o + k
  · subst e; rw [if_pos rfl, dc_t.mpr ⟨by omega, by omega, h⟩, if_pos rfl]
  · rw [if_neg e]
    by_cases q : o ≤ j ∧ j < o + k ∧ n ≤ f j
    · simp only [dc_t.mpr q, dc_t.mpr (show o ≤ j ∧ j < o + (k+1) ∧ n ≤ f j from ⟨q.1, by omega, q.2.2⟩), if_true]
    · simp only [dc_f.mpr q, dc_f.mpr (show ¬ (o ≤ j ∧ j < o + (k+1) ∧ n ≤ f j) from fun z => q ⟨z.1, by omega, z.2.2⟩)]
theorem lftk_n {f : Nat → Int} {o k : Nat} {n : Int} (h : ¬ n ≤ f (o + k)) : lftk f o n k = lftk f o n (k+1) := by
  funext j; unfold lftk
  by_cases q : o ≤ j ∧ j < o + k ∧ n ≤ f j
  · simp only [dc_t.mpr q, dc_t.mpr (show o ≤ j ∧ j < o + (k+1) ∧ n ≤ f j from ⟨q.1, by omega, q.2.2⟩)]
  · have : ¬ (o ≤ j ∧ j < o + (k+1) ∧ n ≤ f j) := by
      intro z
      by_cases e : j = o + k
      · subst e; exact h z.2.2
      · exact q ⟨z.1, by omega, z.2.2⟩
    simp only [dc_f.mpr q, dc_f.mpr this]
theorem lftk_0 {f : Nat → Int} {o : Nat} {n : Int} : lftk f o n 0 = f := by
  funext j; unfold lftk; rw [dc_f.mpr (fun z => by omega)]; rfl
theorem lftk_at {f : Nat → Int} {o k i : Nat} {n : Int} (h : k ≤ i) : lftk f o n k (o + i) = f (o + i) := by
  unfold lftk; rw [dc_f.mpr (fun z => by omega)]; rfl
theorem sim4 : Sim4 INV := by
  intro X N T Rd Fr Ac Ch PS Ly Pa OT Ea Ga c0 c1 M a1 hI hr1
  have keep : INV X N T Rd Fr Ac Ch PS Ly Pa OT Ea Ga c0 c1 (up M.1 0 0, M.2) := hI
  obtain ⟨⟨G, hG, hN, hM⟩, hT, hR, hA, hC, hGa, hi0, hi1, hP⟩ := hI
  have hb := hG.1
  have hM' : RW (((up M.1 0 0, M.2) : ZB).2 12) G := hM
  obtain ⟨B, hB, hBA, E, hE, hS⟩ := act hA hN hG
  unfold fX_forests fM_forests
  simp only [lt_e, kf0]
  rw [M_isIn hr1 (by omega) (by omega), bds, M_many hM', bds, hN.2.2.1, nmi hr1, nmn (by omega)]
  by_cases z : 1 ≤ a1 ∧ a1 ≤ 5 ∧ a1 ≠ (gk G : Int)
  · obtain ⟨k, rfl⟩ : ∃ k : Nat, a1 = k := ⟨a1.toNat, by omega⟩
    obtain ⟨x, t, hx, hxA⟩ := hS (up M.1 0 0, M.2) rfl rfl hM'
    rw [if_neg (by omega : ¬ (k : Int) < 1), if_neg (by omega : ¬ 5 < (k : Int)), if_neg z.2.2, if_neg z.2.2, if_pos (by omega : 1 ≤ (k : Int) ∧ (k : Int) ≤ 5), if_neg (by decide : ¬ nm 1 = 0), hB, bds, hx, bds]
    have hL1 : (lop3 FU (fun (rec_6 : Int → Int → ZB → Option (Int × ZB × ZA)) (v2_3 : Int) (v3_4 : Int) (N_5 : ZB) => if (nm v3_4) < (nm (N_5.1 5)) then (rd (N_5.2 3) 24 v3_4 fun x_9 => kf2 (fun (v2_10 : Int) (N_11 : ZB) => rec_6 v2_10 (v3_4 + 1) N_11) fun k_12 => if (nm x_9) < (k : Int) then (k_12 v2_3 N_5) else (ix 24 v3_4 <| (k_12 (v2_3 + 1) ((N_5.1, ua N_5.2 3 (up (N_5.2 3) (Int.toNat v3_4) (-1)))) ))) else (bd (fAc_done B) fun u_8 => some (v2_3, ((up N_5.1 6 (k : Int), N_5.2) : ZB), u_8))) 0 0 N) = some (((cnt (gL G) (fun l => (k : Int) ≤ gh G l) : Nat) : Int), (up N.1 6 (k : Int), ua N.2 3 (lftk (N.2 3) 0 k (gL G))), E) := by
      refine lop3_s (gL G) (fun i => ((cnt i (fun l => (k : Int) ≤ gh G l) : Nat) : Int)) (fun i => (i : Int)) (fun i => (N.1, ua N.2 3 (lftk (N.2 3) 0 k i))) ?_ ?_ (by omega) rfl rfl ?_
      · intro rec i hi hr
        have hv := hG.2.1 i hi
        have hn := (hN.2.2.2.2.2 i hi).2.2.2
        simp only [kf2, hN.2.1, ua_e, ua_up]
        have e1 := lftk_at (f := N.2 3) (o := 0) (n := (k : Int)) (Nat.le_refl i)
        rw [Nat.zero_add] at e1
        rw [nmn (by omega), nmn (by omega), if_pos (by omega), rdn (by omega), ixn (by omega), Int.toNat_natCast, e1, hn, nmi (by omega)]
        by_cases q : (k : Int) ≤ gh G i
        · have e2 := lftk_s (f := N.2 3) (o := 0) (n := (k : Int)) (k := i) (by rw [Nat.zero_add, hn]; exact q)
          rw [Nat.zero_add] at e2
          rw [if_neg (by omega), e2]
          rw [cnt_succ_t (p := fun l => (k : Int) ≤ gh G l) q, Int.natCast_add] at hr
          exact hr
        · have e2 := lftk_n (f := N.2 3) (o := 0) (n := (k : Int)) (k := i) (by rw [Nat.zero_add, hn]; exact q)
          rw [if_pos (by omega), e2]
          rw [cnt_succ_f (p := fun l => (k : Int) ≤ gh G l) q] at hr
          exact hr
      · intro rec
        simp only [hN.2.1]
        rw [nmn (by omega), if_neg (by omega), hE, bds]
      · show (N.1, ua N.2 3 (lftk (N.2 3) 0 k 0)) = N
        rw [lftk_0, ua_self]
    have hm2 : ∀ g, (up (up M.1 0 0) 20 x, ua (ua M.2 15 t) 12 g) = (((up (up M.1 0 0) 20 x, ua (ua M.2 15 t) 12 g)) : ZB) := fun _ => rfl
    have hL2 : (lop3 FU (fun (rec_9 : Int → Int → ZB → Option (Int × ZB)) (v2_6 : Int) (v3_7 : Int) (M_8 : ZB) => bd (fM_lines M_8) fun u_10 => if (nm v3_7) < (nm u_10) then (bd (fM_lies M_8 v3_7) fun u_12 => kf2 (fun (v2_13 : Int) (M_14 : ZB) => rec_9 v2_13 (v3_7 + 1) M_14) fun k_15 => if (nm u_12) < (k : Int) then (k_15 v2_6 M_8) else (ix 147 (75 + v3_7) <| k_15 (v2_6 + 1) (M_8.1, ua M_8.2 12 (up (M_8.2 12) (Int.toNat (75 + v3_7)) (-1))))) else (ix 147 2 <| some (v2_6, ((M_8.1, ua M_8.2 12 (up (M_8.2 12) (Int.toNat 2) (k : Int))) : ZB)))) 0 0 (up (up M.1 0 0) 20 x, ua M.2 15 t)) = some (((cnt (gL G) (fun l => (k : Int) ≤ gh G l) : Nat) : Int), (up (up M.1 0 0) 20 x, ua (ua M.2 15 t) 12 (up (lftk (M.2 12) 75 k (gL G)) 2 (k : Int)))) := by
      have hW : ∀ i, i ≤ gL G → (lftk (M.2 12) 75 k i) 1 = (gL G : Nat) := by
        intro i hi
        unfold lftk
        rw [dc_f.mpr (fun z => by omega)]; exact hM.2.1
      refine lop3_s (gL G) (fun i => ((cnt i (fun l => (k : Int) ≤ gh G l) : Nat) : Int)) (fun i => (i : Int)) (fun i => (up (up M.1 0 0) 20 x, ua (ua M.2 15 t) 12 (lftk (M.2 12) 75 k i))) ?_ ?_ (by omega) rfl rfl ?_
      · intro rec i hi hr
        have hv := hG.2.1 i hi
        have hn := (hM.2.2.2 i hi).2.2.2.1
        unfold fM_lines fM_lies
        simp only [kf2, ua_e, ua_up]
        rw [rdi (by omega), show Int.toNat 1 = 1 from rfl, hW i (by omega), bds, nmn (by omega), nmn (by omega), if_pos (by omega), rd75 (by omega), ix75 (by omega), tn75, lftk_at (Nat.le_refl i), hn, bds, nmi (by omega)]
        by_cases q : (k : Int) ≤ gh G i
        · rw [if_neg (by omega), lftk_s (by rw [hn]; exact q)]
          rw [cnt_succ_t (p := fun l => (k : Int) ≤ gh G l) q, Int.natCast_add] at hr
          exact hr
        · rw [if_pos (by omega), lftk_n (by rw [hn]; exact q)]
          rw [cnt_succ_f (p := fun l => (k : Int) ≤ gh G l) q] at hr
          exact hr
      · intro rec
        unfold fM_lines
        simp only [ua_e, ua_up]
        rw [rdi (by omega), show Int.toNat 1 = 1 from rfl, hW _ (Nat.le_refl _), bds, nmn (by omega), if_neg (by omega), ixi (by omega)]
        rfl
      · show (up (up M.1 0 0) 20 x, ua (ua M.2 15 t) 12 (lftk (M.2 12) 75 k 0)) = _
        rw [lftk_0]
        have : M.2 12 = ua M.2 15 t 12 := rfl
        rw [this, ua_self]
    have hd : ∀ i, i < gL G → lftk (N.2 3) 0 k (gL G) i = (if dc ((k : Int) ≤ gh G i) then -1 else gh G i) := by
      intro i hi
      have hn := (hN.2.2.2.2.2 i hi).2.2.2
      unfold lftk
      rw [hn]
      by_cases q : (k : Int) ≤ gh G i
      · rw [dc_t.mpr q, dc_t.mpr ⟨by omega, by omega, q⟩]
      · rw [dc_f.mpr q, dc_f.mpr (fun z => q z.2.2)]
    have hd2 : ∀ i, i < gL G → lftk (M.2 12) 75 k (gL G) (75 + i) = (if dc ((k : Int) ≤ gh G i) then -1 else gh G i) := by
      intro i hi
      have hn := (hM.2.2.2 i hi).2.2.2.1
      unfold lftk
      rw [hn]
      by_cases q : (k : Int) ≤ gh G i
      · rw [dc_t.mpr q, dc_t.mpr ⟨by omega, by omega, q⟩]
      · rw [dc_f.mpr q, dc_f.mpr (fun z => q z.2.2)]
    have hd3 : ∀ j, j < 75 ∨ 99 ≤ j → lftk (M.2 12) 75 k (gL G) j = M.2 12 j := by
      intro j hj
      unfold lftk; rw [dc_f.mpr (fun z => by omega)]; rfl
    refine ⟨_, _, hL1, hL2, rfl, ⟨sk_ G k (fun i => if dc ((k : Int) ≤ gh G i) then -1 else gh G i), ?_, ?_, ?_⟩, hT, hR, hxA, hC, hGa, hi0, hi1, hP⟩
    · have hless := GOK_less hG (h := fun i => if dc ((k : Int) ≤ gh G i) then -1 else gh G i) (fun i _ => by
        by_cases q : (k : Int) ≤ gh G i
        · exact Or.inl (by simp only [dc_t.mpr q, if_true])
        · exact Or.inr (by simp [dc_f.mpr q]))
      refine ⟨⟨hb.1, hb.2.1, by show 1 ≤ k; omega, by show k ≤ 5; omega⟩, fun i hi => ?_, hless.2.2.1, hless.2.2.2⟩
      obtain ⟨a1, a2, a3, a4, a5, a6, a7, a8⟩ := hless.2.1 i hi
      refine ⟨a1, a2, a3, a4, a5, a6, ?_, a8⟩
      show (if dc ((k : Int) ≤ gh G i) then -1 else gh G i) < (k : Int)
      by_cases q : (k : Int) ≤ gh G i
      · rw [dc_t.mpr q, if_pos rfl]; omega
      · rw [dc_f.mpr q, if_neg (by decide)]; omega
    · have := RN_h (h := fun i => if dc ((k : Int) ≤ gh G i) then -1 else gh G i) hN hd
      exact ⟨this.1, this.2.1, rfl, this.2.2.2.1, this.2.2.2.2.1, this.2.2.2.2.2⟩
    · have := RW_h (h := fun i => if dc ((k : Int) ≤ gh G i) then -1 else gh G i) (by omega) hM hd2 hd3
      show RW (up (lftk (M.2 12) 75 k (gL G)) 2 (k : Int)) _
      refine ⟨by rw [up_n _ _ (by omega)]; exact this.1, by rw [up_n _ _ (by omega)]; exact this.2.1, rfl, fun i hi => ?_⟩
      obtain ⟨q1, q2, q3, q4, q5, q6⟩ := this.2.2.2 i hi
      exact ⟨by rw [up_n _ _ (by omega)]; exact q1, by rw [up_n _ _ (by omega)]; exact q2, by rw [up_n _ _ (by omega)]; exact q3, by rw [up_n _ _ (by omega)]; exact q4, by rw [up_n _ _ (by omega)]; exact q5, by rw [up_n _ _ (by omega)]; exact q6⟩
  · by_cases z2 : 1 ≤ a1 ∧ a1 ≤ 5
    · have z3 : a1 = (gk G : Int) := by
        by_cases e : a1 = (gk G : Int)
        · exact e
        · exact absurd ⟨z2.1, z2.2, e⟩ z
      rw [if_neg (by omega : ¬ a1 < 1), if_neg (by omega : ¬ 5 < a1), if_pos z3, if_pos z3, if_pos z2, if_neg (by decide : ¬ nm 1 = 0)]
      exact ⟨_, _, rfl, rfl, rfl, keep⟩
    · rw [if_neg z2, if_pos (by decide : nm 0 = 0)]
      refine ⟨(-1, N, Ac), _, ?_, rfl, rfl, keep⟩
      by_cases r : a1 < 1
      · rw [if_pos r]
      · rw [if_neg r, if_pos (by omega)]
theorem sim6 : Sim6 INV := by
  intro X N T Rd Fr Ac Ch PS Ly Pa OT Ea Ga c0 c1 M a1 a2 hI hr1 hr2
  have keep : ∀ x, INV X N T Rd Fr Ac Ch PS Ly Pa OT Ea Ga c0 c1 (up M.1 0 x, M.2) := fun _ => hI
  obtain ⟨⟨G, hG, hN, hM⟩, hT, hR, hA, hC, hGa, hi0, hi1, hP⟩ := hI
  have hb := hG.1
  have hM' : RW (((up M.1 0 0, M.2) : ZB).2 12) G := hM
  unfold fX_ring fM_ring
  simp only [kf0, lt_e]
  rw [N_hasLine hN hG hr1, M_isLine hM' hG hr1, N_hasForest hN hG hr2, M_isForest hM' hG hr2, bds, bds, bds, bds]
  have refuse : ∃ r t, (some ((1 : Int), (0 : Int), Ch)) = some r ∧ bd (fM_refuse (up M.1 0 0, M.2)) (fun u => some (u.1, u.2)) = some t ∧ (r.1 = 0 ∨ r.1 = 1) ∧ fM_thrown t.2 = some r.1 ∧ (r.1 = 0 → nm r.2.1 = nm t.1) ∧ INV X N T Rd Fr Ac r.2.2 PS Ly Pa OT Ea Ga c0 c1 t.2 := by
    unfold fM_refuse
    simp only [lt_e, bds, up_up]
    exact ⟨_, _, rfl, rfl, Or.inr rfl, rfl, fun h => absurd (show (1:Int) = 0 from h) (by decide), keep 1⟩
  by_cases q : 0 ≤ a1 ∧ a1 < gL G
  · obtain ⟨l, rfl⟩ : ∃ l : Nat, a1 = l := ⟨a1.toNat, by omega⟩
    have hl : l < gL G := by omega
    have hv := hG.2.1 l hl
    rw [if_pos q, if_neg (by decide : ¬ nm 1 = 0), if_neg (by decide : ¬ nm 1 = 0)]
    by_cases r : 0 ≤ a2 ∧ a2 < gk G
    · rw [if_pos r, if_neg (by decide : ¬ nm 1 = 0), if_neg (by decide : ¬ nm 1 = 0), N_isSound hN (by omega), M_isBroken hM' hG hl, bds, bds, rdn (by omega), M_lies hM' hG hl, bds, (hN.2.2.2.2.2 l hl).2.2.2, nmh hG hl, nmi hr2]
      by_cases s : gbr G l
      · rw [i01t s, i10t s]; exact refuse
      · rw [i01f s, i10f s]
        by_cases u : gh G l = a2
        · rw [if_pos u, if_pos u]; exact refuse
        · obtain ⟨w, hw⟩ := Ch_ringOf hN hG hl r.1 (by omega) Ch
          rw [if_neg u, if_neg u, hw, bds, M_inForest hM' hG hr2, bds, M_ringF' hM' hG hl, bds]
          exact ⟨_, _, rfl, rfl, Or.inl rfl, rfl, fun _ => rfl, keep 0⟩
    · rw [if_neg r, if_pos (by decide : nm 0 = 0), if_pos (by decide : nm 0 = 0)]; exact refuse
  · rw [if_neg q, if_pos (by decide : nm 0 = 0), if_pos (by decide : nm 0 = 0)]; exact refuse
section
variable {N M : ZB} {G : GV} {Ac : ZA}
noncomputable def gwhy (G : GV) (l : Nat) (f : Int) : Int := if dc (gbr G l) then 1 else if gh G l = -1 then (if grf G l f = 0 then 0 else 3) else 2
theorem X_whyNotPut (hN : RN N G) (hG : GOK G) {l : Nat} (hl : l < gL G) {f : Int} (hf0 : 0 ≤ f) (hf1 : f < 5) (Ch : ZB) : ∃ w, fX_whyNotPut N Ch (l : Int) f = some (gwhy G l f, (Ch.1, ua Ch.2 1 w)) := by
  have hb := hG.1
  have hv := hG.2.1 l hl
  obtain ⟨w, hw⟩ := Ch_ringOf hN hG hl hf0 hf1 Ch
  unfold fX_whyNotPut gwhy
  rw [N_isSound hN (by omega), bds, rdn (by omega), (hN.2.2.2.2.2 l hl).2.2.2, nmh hG hl, hw, bds]
  simp only [kf1]
  rw [nmn (grf_lt hG)]
  by_cases s : gbr G l
  · refine ⟨Ch.2 1, ?_⟩
    rw [i01t s, idt s, ua_self]
  · rw [i01f s, idf s]
    by_cases u : gh G l = -1
    · rw [if_pos u, if_pos u]
      by_cases v : grf G l f = 0
      · rw [if_pos (by omega), if_pos v]; exact ⟨w, rfl⟩
      · rw [if_neg (by omega), if_neg v]; exact ⟨w, rfl⟩
    · rw [if_neg u, if_neg u]
      exact ⟨Ch.2 1, by rw [ua_self]⟩
theorem M_whyNotPut (hM : RW (M.2 12) G) (hG : GOK G) {l : Nat} (hl : l < gL G) {f : Int} (hf : -2147483648 ≤ f ∧ f < 2147483648) : fM_whyNotPut M (l : Int) f = some (gwhy G l f) := by
  have hb := hG.1
  have hv := hG.2.1 l hl
  unfold fM_whyNotPut gwhy
  simp only [kf1]
  rw [M_isBroken hM hG hl, bds, M_lies hM hG hl, bds, M_inForest hM hG hf, bds, M_ringF' hM hG hl, bds, nmn (grf_lt hG), nmh hG hl]
  by_cases s : gbr G l
  · rw [i10t s, idt s]
  · rw [i10f s, idf s]
    by_cases u : gh G l = -1
    · rw [if_pos u, if_pos u]
      by_cases v : grf G l f = 0
      · rw [if_pos (by omega), if_pos v]
      · rw [if_neg (by omega), if_neg v]
    · rw [if_neg u, if_neg u]
theorem gwhy_0 (hG : GOK G) {l : Nat} (hl : l < gL G) {f : Int} (hf : 0 ≤ f) : gwhy G l f = 0 ↔ ¬ gbr G l ∧ gh G l = -1 ∧ ¬ Cn (ga G) (gb G) (InF G f) (ga G l) (gb G l) := by
  unfold gwhy
  rw [← grf_zero hG hl hf]
  by_cases s : gbr G l
  · rw [dc_t.mpr s, if_pos rfl]; simp [s]
  · rw [dc_f.mpr s, if_neg (by decide)]
    by_cases u : gh G l = -1
    · rw [if_pos u]
      by_cases v : grf G l f = 0
      · rw [if_pos v]; simp [s, u, v]
      · rw [if_neg v]; simp [v]
    · rw [if_neg u]; simp [u]
theorem gwhy_r (G : GV) (l : Nat) (f : Int) : 0 ≤ gwhy G l f ∧ gwhy G l f ≤ 3 := by
  unfold gwhy
  split
  · omega
  · split
    · split <;> omega
    · omega
/-- a line put where it has no ring -/
theorem put_ok (hG : GOK G) {l : Nat} (hl : l < gL G) {f : Int} (hf0 : 0 ≤ f) (hfk : f < gk G) (h : ¬ gbr G l ∧ gh G l = -1 ∧ ¬ Cn (ga G) (gb G) (InF G f) (ga G l) (gb G l)) : GOK (sh_ G (up (gh G) l f)) := by
  refine GOK_h hG (fun i hi => ?_) (fun g hg => ?_)
  · obtain ⟨a1, a2, a3, a4, a5, a6, a7, a8⟩ := hG.2.1 i hi
    by_cases e : i = l
    · subst e; rw [up_e]; exact ⟨by omega, by omega, fun z => absurd z h.1⟩
    · rw [up_n _ _ e]; exact ⟨a6, a7, a8⟩
  · by_cases e : g = f
    · subst e
      refine Fo_mono ?_ (Fo_add (e := l) (hG.2.2.2 g hg) h.2.2)
      rintro i ⟨h1, h2⟩
      by_cases q : i = l
      · exact Or.inr q
      · rw [up_n _ _ q] at h2; exact Or.inl ⟨h1, h2⟩
    · refine Fo_mono ?_ (hG.2.2.2 g hg)
      rintro i ⟨h1, h2⟩
      by_cases q : i = l
      · subst q; rw [up_e] at h2; exact absurd h2.symm e
      · rw [up_n _ _ q] at h2; exact ⟨h1, h2⟩
end
theorem sim9 : Sim9 INV := by
  intro X N T Rd Fr Ac Ch PS Ly Pa OT Ea Ga c0 c1 M a1 a2 hI hr1 hr2
  have keep : ∀ w, INV X N T Rd Fr Ac (Ch.1, ua Ch.2 1 w) PS Ly Pa OT Ea Ga c0 c1 (up M.1 0 0, M.2) := fun _ => hI
  have keep0 : INV X N T Rd Fr Ac Ch PS Ly Pa OT Ea Ga c0 c1 (up M.1 0 0, M.2) := hI
  obtain ⟨⟨G, hG, hN, hM⟩, hT, hR, hA, hC, hGa, hi0, hi1, hP⟩ := hI
  have hb := hG.1
  have hM' : RW (((up M.1 0 0, M.2) : ZB).2 12) G := hM
  obtain ⟨B, hB, hBA, E, hE, hS⟩ := act hA hN hG
  unfold fX_put fM_put
  simp only [kf0, kf2, lt_e]
  rw [N_hasLine hN hG hr1, M_isLine hM' hG hr1, N_hasForest hN hG hr2, M_isForest hM' hG hr2, bds, bds, bds, bds]
  by_cases q : 0 ≤ a1 ∧ a1 < gL G
  · obtain ⟨l, rfl⟩ : ∃ l : Nat, a1 = l := ⟨a1.toNat, by omega⟩
    have hl : l < gL G := by omega
    rw [if_pos q, if_neg (by decide : ¬ nm 1 = 0), if_neg (by decide : ¬ nm 1 = 0)]
    by_cases r : 0 ≤ a2 ∧ a2 < gk G
    · obtain ⟨w, hw⟩ := X_whyNotPut hN hG hl r.1 (by omega) Ch
      have hwr := gwhy_r G l a2
      rw [if_pos r, if_neg (by decide : ¬ nm 1 = 0), if_neg (by decide : ¬ nm 1 = 0), hw, bds, M_whyNotPut hM' hG hl hr2, bds, nmi (show -2147483648 ≤ gwhy G l a2 ∧ gwhy G l a2 < 2147483648 by omega)]
      by_cases s : gwhy G l a2 = 0
      · obtain ⟨x, t, hx, hxA⟩ := hS (up M.1 0 0, M.2) rfl rfl hM'
        rw [if_pos s, if_pos s, hB, bds, ixn (by omega), hE, bds, hx, bds, ix75 (by omega), tn75, Int.toNat_natCast]
        exact ⟨_, _, rfl, rfl, s, ⟨_, put_ok hG hl r.1 r.2 ((gwhy_0 hG hl r.1).mp s), RN_put hN, RW_put hG hM hl⟩, hT, hR, hxA, hC, hGa, hi0, hi1, hP⟩
      · rw [if_neg s, if_neg s]
        exact ⟨_, _, rfl, rfl, rfl, keep w⟩
    · rw [if_neg r, if_pos (by decide : nm 0 = 0), if_pos (by decide : nm 0 = 0)]; exact ⟨_, _, rfl, rfl, rfl, keep0⟩
  · rw [if_neg q, if_pos (by decide : nm 0 = 0), if_pos (by decide : nm 0 = 0)]; exact ⟨_, _, rfl, rfl, rfl, keep0⟩
