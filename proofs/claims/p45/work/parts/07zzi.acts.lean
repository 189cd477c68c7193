-- needs: 07zzh.inv
/-! acts, copies -/
def cpy (g f : Nat → Int) (d s n : Nat) : Nat → Int := fun j => if d ≤ j ∧ j < d + n then f (s + (j - d)) else g j
theorem cpy_0 (g f : Nat → Int) (d s : Nat) : cpy g f d s 0 = g := by
  funext j; unfold cpy; rw [if_neg (by omega)]
theorem cpy_s (g f : Nat → Int) (d s k : Nat) : up (cpy g f d s k) (d + k) (f (s + k)) = cpy g f d s (k + 1) := by
  funext j; unfold cpy up; simp only []
  by_cases e : j = d + k
  · rw [if_pos e, if_pos (by omega), show s + (j - d) = s + k by omega]
  · rw [if_neg e]
    by_cases q : d ≤ j ∧ j < d + k
    · rw [if_pos q, if_pos (by omega)]
    · rw [if_neg q, if_neg (by omega)]
section
variable {N M : ZB} {G : GV} {Ac : ZA}
theorem M_copy_read_now (M : ZB) {s d : Nat} (hs : s + 147 ≤ 147) (hd : d + 147 ≤ 147) : fM_copy_read_now M (s : Int) (d : Int) = some (M.1, ua M.2 12 (cpy (M.2 12) (M.2 13) d s 147)) := by
  unfold fM_copy_read_now
  refine lop2_s 147 (fun k => (k : Int)) (fun k => (M.1, ua M.2 12 (cpy (M.2 12) (M.2 13) d s k))) ?_ ?_ (by decide) rfl ?_
  · intro rec k hk hr
    simp only [lt_e, ua_e, ua_up]
    rw [nmn (by omega), if_pos (by omega), ← Int.natCast_add, ← Int.natCast_add, rdn (by omega), ixn (by omega), ua_n _ _ (by decide), Int.toNat_natCast, cpy_s]
    exact hr
  · intro rec
    rw [nmn (by omega), if_neg (by omega)]
  · show (M.1, ua M.2 12 (cpy (M.2 12) (M.2 13) d s 0)) = M
    rw [cpy_0, ua_self]
theorem M_copy_now_snaps (M : ZB) {s d : Nat} (hs : s + 147 ≤ 147) (hd : d + 147 ≤ 1176) : fM_copy_now_snaps M (s : Int) (d : Int) = some (M.1, ua M.2 15 (cpy (M.2 15) (M.2 12) d s 147)) := by
  unfold fM_copy_now_snaps
  refine lop2_s 147 (fun k => (k : Int)) (fun k => (M.1, ua M.2 15 (cpy (M.2 15) (M.2 12) d s k))) ?_ ?_ (by decide) rfl ?_
  · intro rec k hk hr
    simp only [lt_e, ua_e, ua_up]
    rw [nmn (by omega), if_pos (by omega), ← Int.natCast_add, ← Int.natCast_add, rdn (by omega), ixn (by omega), ua_n _ _ (by decide), Int.toNat_natCast, cpy_s]
    exact hr
  · intro rec
    rw [nmn (by omega), if_neg (by omega)]
  · show (M.1, ua M.2 15 (cpy (M.2 15) (M.2 12) d s 0)) = M
    rw [cpy_0, ua_self]
theorem M_copy_now_before (M : ZB) {s d : Nat} (hs : s + 147 ≤ 147) (hd : d + 147 ≤ 147) : fM_copy_now_before M (s : Int) (d : Int) = some (M.1, ua M.2 16 (cpy (M.2 16) (M.2 12) d s 147)) := by
  unfold fM_copy_now_before
  refine lop2_s 147 (fun k => (k : Int)) (fun k => (M.1, ua M.2 16 (cpy (M.2 16) (M.2 12) d s k))) ?_ ?_ (by decide) rfl ?_
  · intro rec k hk hr
    simp only [lt_e, ua_e, ua_up]
    rw [nmn (by omega), if_pos (by omega), ← Int.natCast_add, ← Int.natCast_add, rdn (by omega), ixn (by omega), ua_n _ _ (by decide), Int.toNat_natCast, cpy_s]
    exact hr
  · intro rec
    rw [nmn (by omega), if_neg (by omega)]
  · show (M.1, ua M.2 16 (cpy (M.2 16) (M.2 12) d s 0)) = M
    rw [cpy_0, ua_self]
theorem M_copy_now_live (M : ZB) {s d : Nat} (hs : s + 147 ≤ 147) (hd : d + 147 ≤ 147) : fM_copy_now_live M (s : Int) (d : Int) = some (M.1, ua M.2 17 (cpy (M.2 17) (M.2 12) d s 147)) := by
  unfold fM_copy_now_live
  refine lop2_s 147 (fun k => (k : Int)) (fun k => (M.1, ua M.2 17 (cpy (M.2 17) (M.2 12) d s k))) ?_ ?_ (by decide) rfl ?_
  · intro rec k hk hr
    simp only [lt_e, ua_e, ua_up]
    rw [nmn (by omega), if_pos (by omega), ← Int.natCast_add, ← Int.natCast_add, rdn (by omega), ixn (by omega), ua_n _ _ (by decide), Int.toNat_natCast, cpy_s]
    exact hr
  · intro rec
    rw [nmn (by omega), if_neg (by omega)]
  · show (M.1, ua M.2 17 (cpy (M.2 17) (M.2 12) d s 0)) = M
    rw [cpy_0, ua_self]
theorem M_copy_before_now (M : ZB) {s d : Nat} (hs : s + 147 ≤ 147) (hd : d + 147 ≤ 147) : fM_copy_before_now M (s : Int) (d : Int) = some (M.1, ua M.2 12 (cpy (M.2 12) (M.2 16) d s 147)) := by
  unfold fM_copy_before_now
  refine lop2_s 147 (fun k => (k : Int)) (fun k => (M.1, ua M.2 12 (cpy (M.2 12) (M.2 16) d s k))) ?_ ?_ (by decide) rfl ?_
  · intro rec k hk hr
    simp only [lt_e, ua_e, ua_up]
    rw [nmn (by omega), if_pos (by omega), ← Int.natCast_add, ← Int.natCast_add, rdn (by omega), ixn (by omega), ua_n _ _ (by decide), Int.toNat_natCast, cpy_s]
    exact hr
  · intro rec
    rw [nmn (by omega), if_neg (by omega)]
  · show (M.1, ua M.2 12 (cpy (M.2 12) (M.2 16) d s 0)) = M
    rw [cpy_0, ua_self]
theorem M_copy_live_now (M : ZB) {s d : Nat} (hs : s + 147 ≤ 147) (hd : d + 147 ≤ 147) : fM_copy_live_now M (s : Int) (d : Int) = some (M.1, ua M.2 12 (cpy (M.2 12) (M.2 17) d s 147)) := by
  unfold fM_copy_live_now
  refine lop2_s 147 (fun k => (k : Int)) (fun k => (M.1, ua M.2 12 (cpy (M.2 12) (M.2 17) d s k))) ?_ ?_ (by decide) rfl ?_
  · intro rec k hk hr
    simp only [lt_e, ua_e, ua_up]
    rw [nmn (by omega), if_pos (by omega), ← Int.natCast_add, ← Int.natCast_add, rdn (by omega), ixn (by omega), ua_n _ _ (by decide), Int.toNat_natCast, cpy_s]
    exact hr
  · intro rec
    rw [nmn (by omega), if_neg (by omega)]
  · show (M.1, ua M.2 12 (cpy (M.2 12) (M.2 17) d s 0)) = M
    rw [cpy_0, ua_self]
theorem M_copy_snaps_now (M : ZB) {s d : Nat} (hs : s + 147 ≤ 1176) (hd : d + 147 ≤ 147) : fM_copy_snaps_now M (s : Int) (d : Int) = some (M.1, ua M.2 12 (cpy (M.2 12) (M.2 15) d s 147)) := by
  unfold fM_copy_snaps_now
  refine lop2_s 147 (fun k => (k : Int)) (fun k => (M.1, ua M.2 12 (cpy (M.2 12) (M.2 15) d s k))) ?_ ?_ (by decide) rfl ?_
  · intro rec k hk hr
    simp only [lt_e, ua_e, ua_up]
    rw [nmn (by omega), if_pos (by omega), ← Int.natCast_add, ← Int.natCast_add, rdn (by omega), ixn (by omega), ua_n _ _ (by decide), Int.toNat_natCast, cpy_s]
    exact hr
  · intro rec
    rw [nmn (by omega), if_neg (by omega)]
  · show (M.1, ua M.2 12 (cpy (M.2 12) (M.2 15) d s 0)) = M
    rw [cpy_0, ua_self]
theorem M_copy_now_kept (M : ZB) {s d : Nat} (hs : s + 147 ≤ 147) (hd : d + 147 ≤ 294) : fM_copy_now_kept M (s : Int) (d : Int) = some (M.1, ua M.2 14 (cpy (M.2 14) (M.2 12) d s 147)) := by
  unfold fM_copy_now_kept
  refine lop2_s 147 (fun k => (k : Int)) (fun k => (M.1, ua M.2 14 (cpy (M.2 14) (M.2 12) d s k))) ?_ ?_ (by decide) rfl ?_
  · intro rec k hk hr
    simp only [lt_e, ua_e, ua_up]
    rw [nmn (by omega), if_pos (by omega), ← Int.natCast_add, ← Int.natCast_add, rdn (by omega), ixn (by omega), ua_n _ _ (by decide), Int.toNat_natCast, cpy_s]
    exact hr
  · intro rec
    rw [nmn (by omega), if_neg (by omega)]
  · show (M.1, ua M.2 14 (cpy (M.2 14) (M.2 12) d s 0)) = M
    rw [cpy_0, ua_self]
theorem M_copy_kept_now (M : ZB) {s d : Nat} (hs : s + 147 ≤ 294) (hd : d + 147 ≤ 147) : fM_copy_kept_now M (s : Int) (d : Int) = some (M.1, ua M.2 12 (cpy (M.2 12) (M.2 14) d s 147)) := by
  unfold fM_copy_kept_now
  refine lop2_s 147 (fun k => (k : Int)) (fun k => (M.1, ua M.2 12 (cpy (M.2 12) (M.2 14) d s k))) ?_ ?_ (by decide) rfl ?_
  · intro rec k hk hr
    simp only [lt_e, ua_e, ua_up]
    rw [nmn (by omega), if_pos (by omega), ← Int.natCast_add, ← Int.natCast_add, rdn (by omega), ixn (by omega), ua_n _ _ (by decide), Int.toNat_natCast, cpy_s]
    exact hr
  · intro rec
    rw [nmn (by omega), if_neg (by omega)]
  · show (M.1, ua M.2 12 (cpy (M.2 12) (M.2 14) d s 0)) = M
    rw [cpy_0, ua_self]
theorem zcpy_24 {f g : Nat → Int} {k : Nat} (hk : k < 24) : zcpy f g 0 0 24 k = f k := by
  unfold zcpy; rw [if_pos (by omega)]; simp
theorem N_become {D S : ZB} (hS : RN S G) (hG : GOK G) : ∃ D', fN_become D S = some D' ∧ RN D' G := by
  obtain ⟨h4, h5, h6, h7, h8, ha⟩ := hS
  have hb := hG.1
  refine ⟨(up (up (up (up (up D.1 4 (S.1 4)) 5 (S.1 5)) 6 (S.1 6)) 7 (S.1 7)) 8 (S.1 8), ua (ua (ua (ua D.2 0 (zcpy (S.2 0) (D.2 0) 0 0 24)) 1 (zcpy (S.2 1) (D.2 1) 0 0 24)) 2 (zcpy (S.2 2) (D.2 2) 0 0 24)) 3 (zcpy (S.2 3) (D.2 3) 0 0 24)), ?_, h4, h5, h6, h7, h8, ?_⟩
  · rfl
  · intro l hl
    obtain ⟨a0, a1, a2, a3⟩ := ha l hl
    refine ⟨?_, ?_, ?_, ?_⟩
    · show zcpy (S.2 0) (D.2 0) 0 0 24 l = _; rw [zcpy_24 (by omega), a0]
    · show zcpy (S.2 1) (D.2 1) 0 0 24 l = _; rw [zcpy_24 (by omega), a1]
    · show zcpy (S.2 2) (D.2 2) 0 0 24 l = _; rw [zcpy_24 (by omega), a2]
    · show zcpy (S.2 3) (D.2 3) 0 0 24 l = _; rw [zcpy_24 (by omega), a3]
theorem RW_cpy {g f : Nat → Int} {d s : Nat} (hG : GOK G) (h : RW (fun j => f (s + j)) G) : RW (fun j => cpy g f d s 147 (d + j)) G := by
  have hb := hG.1
  have e : ∀ j, j < 147 → cpy g f d s 147 (d + j) = f (s + j) := by
    intro j hj; unfold cpy; rw [if_pos (by omega), show s + (d + j - d) = s + j by omega]
  obtain ⟨h1, h2, h3, h4⟩ := h
  refine ⟨?_, ?_, ?_, ?_⟩
  · show cpy g f d s 147 (d + 0) = _; rw [e 0 (by omega)]; exact h1
  · show cpy g f d s 147 (d + 1) = _; rw [e 1 (by omega)]; exact h2
  · show cpy g f d s 147 (d + 2) = _; rw [e 2 (by omega)]; exact h3
  · intro l hl
    obtain ⟨q1, q2, q3, q4, q5, q6⟩ := h4 l hl
    refine ⟨?_, ?_, ?_, ?_, ?_, ?_⟩
    · show cpy g f d s 147 (d + _) = _; rw [e _ (by omega)]; exact q1
    · show cpy g f d s 147 (d + _) = _; rw [e _ (by omega)]; exact q2
    · show cpy g f d s 147 (d + _) = _; rw [e _ (by omega)]; exact q3
    · show cpy g f d s 147 (d + _) = _; rw [e _ (by omega)]; exact q4
    · show cpy g f d s 147 (d + _) = _; rw [e _ (by omega)]; exact q5
    · show cpy g f d s 147 (d + _) = _; rw [e _ (by omega)]; exact q6
theorem RW_eq {g f : Nat → Int} (hG : GOK G) (h : RW f G) (e : ∀ j, j < 147 → g j = f j) : RW g G := by
  have hb := hG.1
  obtain ⟨h1, h2, h3, h4⟩ := h
  refine ⟨by rw [e _ (by omega), h1], by rw [e _ (by omega), h2], by rw [e _ (by omega), h3], fun l hl => ?_⟩
  obtain ⟨q1, q2, q3, q4, q5, q6⟩ := h4 l hl
  exact ⟨by rw [e _ (by omega), q1], by rw [e _ (by omega), q2], by rw [e _ (by omega), q3], by rw [e _ (by omega), q4], by rw [e _ (by omega), q5], by rw [e _ (by omega), q6]⟩
def shd (s : Nat → Int) (k : Nat) : Nat → Int := fun j => if j < k then s (j + 147) else s j
theorem M_snap {c : Nat} (hc : M.1 20 = (c : Int)) (h8 : c ≤ 8) : fM_snap M = some (if c = 8 then (up M.1 20 8, ua M.2 15 (cpy (shd (M.2 15) 1029) (M.2 12) 1029 0 147)) else (up M.1 20 ((c + 1 : Nat) : Int), ua M.2 15 (cpy (M.2 15) (M.2 12) (147 * c) 0 147))) := by
  unfold fM_snap
  rw [hc, nmn (by omega)]
  simp only [kf1]
  by_cases e : c = 8
  · subst e
    rw [if_pos (by decide), if_pos rfl]
    refine lop2_s 1029 (fun k => (k : Int)) (fun k => (M.1, ua M.2 15 (shd (M.2 15) k))) ?_ ?_ (by decide) rfl ?_
    · intro rec k hk hr
      simp only [lt_e, ua_e, ua_up]
      rw [nmn (by omega), if_pos (by omega)]
      have e1 : (k : Int) + 147 = ((k + 147 : Nat) : Int) := by omega
      rw [e1, rdn (by omega), ixn (by omega), Int.toNat_natCast]
      have e2 : up (shd (M.2 15) k) k (shd (M.2 15) k (k + 147)) = shd (M.2 15) (k + 1) := by
        funext j; unfold up shd
        by_cases q : j = k
        · rw [if_pos q, if_neg (by omega), if_pos (by omega), q]
        · rw [if_neg q]
          by_cases r : j < k
          · rw [if_pos r, if_pos (by omega)]
          · rw [if_neg r, if_neg (by omega)]
      rw [e2]; exact hr
    · intro rec
      rw [nmn (by omega), if_neg (by omega), lt_e]
      simp only [hc]
      have e7 : (up M.1 20 (((8 : Nat) : Int) - 1)) 20 = 7 := rfl
      have e8 : (147 : Int) * 7 = ((1029 : Nat) : Int) := by decide
      simp only [e7, e8]
      have := M_copy_now_snaps ((up M.1 20 (((8 : Nat) : Int) - 1), ua M.2 15 (shd (M.2 15) 1029)) : ZB) (s := 0) (d := 1029) (by decide) (by decide)
      rw [show ((0 : Nat) : Int) = 0 from rfl] at this
      rw [this, bds, lt_e]
      simp only [e7, up_up, ua_up, ua_e]
      rw [ua_n _ _ (by decide)]; rfl
    · show (M.1, ua M.2 15 (shd (M.2 15) 0)) = M
      have : shd (M.2 15) 0 = M.2 15 := by funext j; unfold shd; rw [if_neg (by omega)]
      rw [this, ua_self]
  · rw [if_neg (by omega), if_neg e]
    have := M_copy_now_snaps M (s := 0) (d := 147 * c) (by decide) (by omega)
    have e8 : (147 : Int) * (c : Int) = ((147 * c : Nat) : Int) := by omega
    rw [show ((0 : Nat) : Int) = 0 from rfl] at this
    rw [hc, e8, this, bds, lt_e]
    simp only [hc]; rfl
theorem Ac_before (hN : RN N G) (hG : GOK G) {n : Nat} (hn : Ac.1 2 = (n : Int)) (h8 : n ≤ 8) : ∃ D, fAc_before N Ac = some (Ac.1, ua Ac.2 n D) ∧ RN D G := by
  unfold fAc_before
  obtain ⟨D, h1, h2⟩ := N_become (D := Ac.2 n) hN hG
  refine ⟨D, ?_, h2⟩
  rw [hn, ixn (by omega), Int.toNat_natCast, h1, bds]
theorem Ac_done {n c : Nat} (hn : Ac.1 2 = (n : Int)) (hc : Ac.1 3 = (c : Int)) (h8 : n ≤ 8) (hc8 : c ≤ 8) : fAc_done Ac = some (up (up Ac.1 2 ((if n < 8 then n + 1 else 0 : Nat) : Int)) 3 ((if c < 8 then c + 1 else 8 : Nat) : Int), Ac.2) := by
  unfold fAc_done
  simp only [kf1, lt_e]
  have e3 : ∀ x, up Ac.1 2 x 3 = (c : Int) := fun x => hc
  rw [hn, nmn (by omega), e3, e3, nmn (by omega)]
  have fin : ∀ x : Int, (if (c : Int) < 8 then some ((up (up Ac.1 2 x) 3 ((c : Int) + 1), Ac.2) : ZA) else some (up Ac.1 2 x, Ac.2)) = some (up (up Ac.1 2 x) 3 ((if c < 8 then c + 1 else 8 : Nat) : Int), Ac.2) := by
    intro x
    by_cases q : c < 8
    · rw [if_pos (by omega), if_pos q]; rfl
    · rw [if_neg (by omega), if_neg q]
      have : up Ac.1 2 x = up (up Ac.1 2 x) 3 ((8 : Nat) : Int) := by
        have h := up_self (up Ac.1 2 x) 3
        rw [e3 x, show c = 8 by omega] at h
        exact h.symm
      rw [← this]
  rw [fin, fin]
  by_cases q : n < 8
  · rw [if_pos (by omega), if_pos q]; rfl
  · rw [if_neg (by omega), if_neg q]; rfl
theorem IActs_keep {m : Int} {s : Nat → Int} {n : Nat} (h : IActs Ac m s) (hn : Ac.1 2 = (n : Int)) (D : ZB) : IActs (Ac.1, ua Ac.2 n D) m s := by
  obtain ⟨c, n', hc, hn8, h3, h2, hm, hk⟩ := h
  have : n' = n := by rw [h2] at hn; omega
  subst this
  refine ⟨c, n', hc, hn8, h3, h2, hm, fun i hi => ?_⟩
  obtain ⟨G', g1, g2, g3⟩ := hk i hi
  refine ⟨G', g1, ?_, g3⟩
  show RN (ua Ac.2 n' D ((n' + 9 - c + i) % 9)) G'
  rw [ua_n _ _ (by omega)]; exact g2
/-- an act is kept by both -/
theorem act {m : Int} {s : Nat → Int} (h : IActs Ac m s) (hN : RN N G) (hG : GOK G) : ∃ B, fAc_before N Ac = some B ∧ IActs B m s ∧ ∃ E, fAc_done B = some E ∧ ∀ M : ZB, M.1 20 = m → M.2 15 = s → RW (M.2 12) G → ∃ x t, fM_snap M = some (up M.1 20 x, ua M.2 15 t) ∧ IActs E x t := by
  obtain ⟨c, n, hc, hn8, h3, h2, hm, hk⟩ := id h
  obtain ⟨D, hD1, hD2⟩ := Ac_before hN hG h2 hn8
  refine ⟨_, hD1, IActs_keep h h2 D, _, Ac_done (Ac := (Ac.1, ua Ac.2 n D)) h2 h3 hn8 hc, ?_⟩
  intro M hM1 hM2 hW
  by_cases e : c = 8
  · subst e
    refine ⟨8, cpy (shd (M.2 15) 1029) (M.2 12) 1029 0 147, ?_, 8, (if n < 8 then n + 1 else 0), by omega, by split <;> omega, rfl, rfl, rfl, ?_⟩
    · rw [M_snap (c := 8) (by rw [hM1, hm]) (by omega), if_pos rfl]
    · intro i hi
      by_cases q : i = 7
      · subst q
        refine ⟨G, hG, ?_, ?_⟩
        · show RN (ua Ac.2 n D _) G
          have : ((if n < 8 then n + 1 else 0) + 9 - 8 + 7) % 9 = n := by split <;> omega
          rw [this, ua_e]; exact hD2
        · exact RW_cpy (d := 1029) (s := 0) hG (RW_eq hG hW (fun j _ => by rw [Nat.zero_add]))
      · obtain ⟨G', g1, g2, g3⟩ := hk (i + 1) (by omega)
        refine ⟨G', g1, ?_, ?_⟩
        · show RN (ua Ac.2 n D _) G'
          have : ((if n < 8 then n + 1 else 0) + 9 - 8 + i) % 9 = (n + 9 - 8 + (i + 1)) % 9 := by split <;> omega
          rw [this, ua_n _ _ (by omega)]; exact g2
        · refine RW_eq g1 g3 (fun j hj => ?_)
          unfold cpy shd
          rw [if_neg (by omega), if_pos (by omega), hM2]
          congr 1; omega
  · refine ⟨((c + 1 : Nat) : Int), cpy (M.2 15) (M.2 12) (147 * c) 0 147, ?_, c + 1, (if n < 8 then n + 1 else 0), by omega, by split <;> omega, ?_, rfl, rfl, ?_⟩
    · rw [M_snap (c := c) (by rw [hM1, hm]) (by omega), if_neg e]
    · show ((if c < 8 then c + 1 else 8 : Nat) : Int) = _
      rw [if_pos (by omega)]
    · intro i hi
      by_cases q : i = c
      · subst q
        refine ⟨G, hG, ?_, ?_⟩
        · show RN (ua Ac.2 n D _) G
          have : ((if n < 8 then n + 1 else 0) + 9 - (i + 1) + i) % 9 = n := by split <;> omega
          rw [this, ua_e]; exact hD2
        · exact RW_cpy (d := 147 * i) (s := 0) hG (RW_eq hG hW (fun j _ => by rw [Nat.zero_add]))
      · obtain ⟨G', g1, g2, g3⟩ := hk i (by omega)
        refine ⟨G', g1, ?_, ?_⟩
        · show RN (ua Ac.2 n D _) G'
          have : ((if n < 8 then n + 1 else 0) + 9 - (c + 1) + i) % 9 = (n + 9 - c + i) % 9 := by split <;> omega
          rw [this, ua_n _ _ (by omega)]; exact g2
        · refine RW_eq g1 g3 (fun j hj => ?_)
          unfold cpy
          rw [if_neg (by omega), hM2]
end
