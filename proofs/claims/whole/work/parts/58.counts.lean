/-! counts; the reference's fraction -/
theorem lI_i (n : Nat) : (lI (n : Int)).toInt32 = nI n := by
  unfold lI
  rw [Int64.toInt32_ofInt, Int32.ofInt_eq_ofNat]
  rfl
theorem all_counts : ok_counts Inv := by
  intro x s hI
  cases h1 : wi x 0 7
  · exact ⟨-2, s, s, by simp only [fX10_counts, e_isLane, ob, h1, b2f, if_true], by simp only [fX11_counts, r_isLane, ob, h1, b2f, if_true], hI⟩
  · obtain ⟨l, hl, rfl⟩ := wi_nat (n := 7) rfl (by decide) h1
    have hl8 : l < 8 := by omega
    obtain ⟨τ, A, B, t1, t2⟩ := e_survey hI
    have hE := t2.1
    have hI2 := inv_cg hE hI
    obtain ⟨υ, u1, u2⟩ := r_laysLanes hI2
    have c10 : gI τ 10 l = nI (lc s l) := t2.2.2.1.2.2.2.2 l hl8
    have c58 : gL υ 58 l = lI (lc s l) := by rw [← eq_lc hE]; exact (u2.2 l hl8).1
    refine ⟨nI (lc s l), τ, υ, ?_, ?_, inv_cg u2.1 hI2⟩
    · simp only [fX10_counts, e_isLane, ob, h1, b2t, if_false, t1, aI_n hl8 (by decide), c10]
    · simp only [fX11_counts, fX11_countsNow, r_isLane, ob, h1, b2t, if_false, u1, aL_n hl8 (by decide), c58, lI_i]
/-- the reference's fraction is z / b, in lowest terms -/
def Fr (τ : Sg) (z : Int) (b : Nat) : Prop := gL τ 49 13 = lI (lowA z b) ∧ gL τ 49 14 = lI (lowB z b)
def frT (σ : Sg) (z : Int) (b : Nat) : Sg := sL (sL σ 49 13 (lI (lowA z b))) 49 14 (lI (lowB z b))
theorem fr_T (σ : Sg) (z : Int) (b : Nat) : Fr (frT σ z b) z b := ⟨by unfold frT; rw [gL_ne _ _ (Or.inr (by decide)), gL_same], by unfold frT; rw [gL_same]⟩
theorem frT_I (σ : Sg) (z : Int) (b : Nat) : gI (frT σ z b) = gI σ := rfl
theorem frT_L (σ : Sg) (z : Int) (b : Nat) {j : Nat} (h : j ≠ 49) : gL (frT σ z b) j = gL σ j := by unfold frT; rw [gL_row _ _ h, gL_row _ _ h]
theorem frT_E {s σ : Sg} (h : Eqv s σ) (z : Int) (b : Nat) : Eqv s (frT σ z b) := (h.L _ _ _).L _ _ _
theorem r_lays {z : Int} {b : Nat} (hz : Bd z) (hb0 : 0 < b) (hb : b < 2 ^ 62) (σ : Sg) : fX11_lays (lI z) (lI b) σ = some (frT σ z b) := by
  have hg : 0 < gcI z b := gcI_pos hb0
  have hg2 : gcI z b ≤ b := gcI_le hb0
  simp only [fX11_lays, r_divisor hz hb, ob, bd, dL_I hz (bdN (show gcI z b < 2 ^ 62 by omega)) (by omega), dL_I (bdN hb) (bdN (show gcI z b < 2 ^ 62 by omega)) (by omega)]
  rw [← Int.ofNat_tdiv]
  rfl
/-- another fraction added: only the value counts -/
theorem r_adds {z z2 : Int} {b b2 : Nat} {σ : Sg} (h : Fr σ z b) (hb0 : 0 < b) (hb2 : 0 < b2) (h1 : Bd (lowA z b * b2 + z2 * lowB z b)) (h2 : b * b2 < 2 ^ 62) : ∃ w : Nat, 0 < w ∧ fX11_adds (lI z2) (lI b2) σ = some (frT σ (lowA z b * b2 + z2 * lowB z b) w) ∧ (lowA z b * b2 + z2 * lowB z b) * ((b * b2 : Nat) : Int) = (z * b2 + z2 * b) * w := by
  have hlp := lowB_pos (z := z) hb0
  have hle := lowB_le z b
  have hw : lowB z b * b2 < 2 ^ 62 := Nat.lt_of_le_of_lt (Nat.mul_le_mul_right _ hle) h2
  refine ⟨lowB z b * b2, Nat.mul_pos hlp hb2, ?_, ?_⟩
  · have e := r_lays (z := lowA z b * b2 + z2 * lowB z b) (b := lowB z b * b2) h1 (Nat.mul_pos hlp hb2) hw σ
    unfold fX11_adds
    rw [h.1, h.2, lI_mul, lI_mul, lI_mul, lI_add, ← Int.natCast_mul, e, ob]
  · have hc := low_cross (z := z) (b := b)
    rw [Int.natCast_mul, Int.natCast_mul]
    grind
