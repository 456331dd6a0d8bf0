/-! the reference's fraction: only values count -/
theorem fr_cg {σ : Sg} {z z' : Int} {b b' : Nat} (hb : 0 < b) (hb' : 0 < b') (h : z * b' = z' * b) : frT σ z b = frT σ z' b' := by
  obtain ⟨e1, e2⟩ := low_eq hb hb' h
  unfold frT
  rw [e1, e2]
theorem r_adds3 {z z2 z3 : Int} {b b2 b3 : Nat} {σ : Sg} (h : Fr σ z b) (hb : 0 < b) (hb2 : 0 < b2) (hb3 : 0 < b3) (h1 : z.natAbs * b2 + z2.natAbs * b < 4611686018427387904) (h2 : b * b2 < 2 ^ 62) (hv : (z * b2 + z2 * b) * b3 = z3 * ((b * b2 : Nat) : Int)) : fX11_adds (lI z2) (lI b2) σ = some (frT σ z3 b3) := by
  have hbd : Bd (lowA z b * b2 + z2 * lowB z b) := by
    have a1 : (lowA z b * b2 + z2 * lowB z b).natAbs ≤ z.natAbs * b2 + z2.natAbs * b := by
      refine Nat.le_trans (Int.natAbs_add_le _ _) ?_
      rw [Int.natAbs_mul, Int.natAbs_mul, Int.natAbs_natCast, Int.natAbs_natCast]
      exact Nat.add_le_add (Nat.mul_le_mul_right _ (lowA_abs z b)) (Nat.mul_le_mul_left _ (lowB_le z b))
    constructor <;> omega
  obtain ⟨w, w1, w2, w3⟩ := r_adds h hb hb2 hbd h2
  rw [w2]
  congr 1
  refine fr_cg w1 hb3 ?_
  have hp : (0 : Int) < ((b * b2 : Nat) : Int) := by have := Nat.mul_pos hb hb2; omega
  refine Int.eq_of_mul_eq_mul_right (Int.ne_of_gt hp) ?_
  generalize lowA z b * b2 + z2 * lowB z b = Z at w3
  generalize ((b * b2 : Nat) : Int) = D at w3 hv
  generalize z * b2 + z2 * b = Y at w3 hv
  grind
theorem fr_sh {σ : Sg} {z : Int} {b : Nat} : gL (frT σ z b) 49 13 = lI (lowA z b) ∧ gL (frT σ z b) 49 14 = lI (lowB z b) := fr_T σ z b
/-- a lane's scaled sum is its sum over its count -/
theorem sc_val {C : Nat → Nat} {S : Nat → Int} {l : Nat} (hl : l < 8) (hc : 0 < C l) : scI C S l * (C l : Int) = S l * (lcN C 8 : Int) := by
  unfold scI
  rw [if_pos hc, Int.mul_assoc, ← Int.natCast_mul, Nat.div_mul_cancel (lcN_dvd hl hc)]
/-- what the class's fraction is behind set -/
theorem e_set_part {z : Int} {b : Nat} (hz : Bd z) (hb0 : 0 < b) (hb : b < 2 ^ 62) (x : Int32) (s : Sg) : ∃ t, ((fX0_set (lI z) (lI b) s).bind fun w => some w) = some t ∧ fX0_part x t = some (if x = 0 then lI (lowA z b) else lI (lowB z b), t) ∧ (∀ σ, Eqv σ s → Eqv σ t) := by
  refine ⟨sL (sL s 48 0 (lI (lowA z b))) 48 1 (lI (lowB z b)), ?_, e_part x s _ _, fun σ h => (h.L _ _ _).L _ _ _⟩
  rw [e_set hz hb0 hb, ob]
