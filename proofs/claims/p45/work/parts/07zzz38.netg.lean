-- needs: 07zzz37.netloop2
/-! net: the net that was read -/
theorem NR_G {R F M : ZB} (h : NR R F M) : ∃ G, GOK G ∧ RN F G ∧ ∀ g : Nat → Int, g 2 = F.1 6 → (∀ j, j < 147 → j ≠ 2 → g j = M.2 13 j) → RW g G := by
  obtain ⟨n, L, k, b1, b2, b3, b4, f4, f5, f6, f7, f8, m0, m1, m2, hnm, hln, hz⟩ := h
  refine ⟨((n, L, k), fun l => (F.2 0 l).toNat, fun l => (F.2 1 l).toNat, fun l => (F.2 2 l).toNat, fun _ => -1, fun _ => False, fun _ => False), ⟨⟨b1, b2, b3, b4⟩, fun l hl => ?_, fun l _ => ⟨id, id⟩, fun f hf e he => ?_⟩, ⟨f4, f5, f6, ?_, ?_, fun l hl => ?_⟩, fun g g2 gj => ⟨?_, ?_, ?_, fun l hl => ?_⟩⟩
  · obtain ⟨a, b, w, g1, g2, g3, g4, g5, g6, g7, g8, g9, z1, z2, z3, z4⟩ := hln l hl
    show (F.2 0 l).toNat < n ∧ (F.2 1 l).toNat < n ∧ (F.2 0 l).toNat ≠ (F.2 1 l).toNat ∧ 1 ≤ (F.2 2 l).toNat ∧ (F.2 2 l).toNat ≤ 99 ∧ (-1 : Int) ≤ -1 ∧ (-1 : Int) < (k : Int) ∧ (False → (-1 : Int) = -1)
    rw [g6, g7, g8]
    exact ⟨by omega, by omega, by omega, by omega, by omega, by omega, by omega, fun _ => rfl⟩
  · have h2 : (-1 : Int) = f := he.2
    exact absurd hf (by omega)
  · show F.1 7 = ((bs 24 (fun _ => False) : Nat) : Int); rw [bs_none, f7]; rfl
  · show F.1 8 = ((bs 24 (fun _ => False) : Nat) : Int); rw [bs_none, f8]; rfl
  · obtain ⟨a, b, w, g1, g2, g3, g4, g5, g6, g7, g8, g9, z1, z2, z3, z4⟩ := hln l hl
    show F.2 0 l = (((F.2 0 l).toNat : Nat) : Int) ∧ F.2 1 l = (((F.2 1 l).toNat : Nat) : Int) ∧ F.2 2 l = (((F.2 2 l).toNat : Nat) : Int) ∧ F.2 3 l = -1
    rw [g6, g7, g8]
    exact ⟨by omega, by omega, by omega, g9⟩
  · rw [gj 0 (by decide) (by decide)]; exact m0
  · rw [gj 1 (by decide) (by decide)]; exact m1
  · rw [g2]; exact f6
  · have hl' : l < L := hl
    obtain ⟨a, b, w, g1, g2, g3, g4, g5, g6, g7, g8, g9, z1, z2, z3, z4⟩ := hln l hl
    show g (3 + l) = (((F.2 0 l).toNat : Nat) : Int) ∧ g (27 + l) = (((F.2 1 l).toNat : Nat) : Int) ∧ g (51 + l) = (((F.2 2 l).toNat : Nat) : Int) ∧ g (75 + l) = -1 ∧ g (99 + l) = (if dc False then 1 else 0) ∧ g (123 + l) = (if dc False then 1 else 0)
    rw [g6, g7, g8, gj (3 + l) (by omega) (by omega), gj (27 + l) (by omega) (by omega), gj (51 + l) (by omega) (by omega), gj (75 + l) (by omega) (by omega), gj (99 + l) (by omega) (by omega), gj (123 + l) (by omega) (by omega), z1, z2, z3, z4, hz _ (by omega) (by omega), hz _ (by omega) (by omega), idf (fun z : False => z)]
    exact ⟨by omega, by omega, by omega, rfl, rfl, rfl⟩
