/-! OWN: bounds, the class's fraction -/
theorem ow_b {s : Sg} (hI : Inv s) (w : Nat) : ∀ n, n ≤ nS s → (owZ s w n).natAbs ≤ 39996 * 100000000 * n ∧ owN s w n ≤ n := by
  intro n
  induction n with
  | zero => intro _; exact ⟨Nat.le_refl 0, Nat.le_refl 0⟩
  | succ n ih =>
    intro hn
    obtain ⟨h1, h2⟩ := ih (by omega)
    have hd := dD_b hI (show n < nS s by omega)
    have hla := (hI.2.2.1 n (by omega)).2.2.2.2.2.2.2.2
    have hs := sc_b (lx_b hI) hla
    have hD := lc_lcm8 hI
    have k0 : (0 : Int) ≤ (lcN (lc s) 8 : Int) := by omega
    have m1 := Int.mul_le_mul_of_nonneg_right hd.1 k0
    have m2 := Int.mul_le_mul_of_nonneg_right hd.2 k0
    have eN : owN s w (n + 1) = owN s w n + (if inW s w n = true then 1 else 0) := rfl
    have eZ : owZ s w (n + 1) = owZ s w n + (if inW s w n = true then dD s n * (lcN (lc s) 8 : Int) - scI (lc s) (lx s) (laN s n) else 0) := rfl
    rw [eN, eZ]
    constructor
    · split <;> omega
    · split <;> omega
theorem e_findOwn {s τ : Sg} {A B : Nat → Nat} (hI : Inv s) (h : SvQ s A B τ) {w : Nat} (hw : w < 24) : (owN s w (nS s) = 0 ∧ fX8_findOwn (nI w) τ = some (0, τ)) ∨ (0 < owN s w (nS s) ∧ fX8_findOwn (nI w) τ = some (1, sL (sL τ 48 0 (lI (lowA (owZ s w (nS s)) (2 * lcN (lc s) 8 * owN s w (nS s))))) 48 1 (lI (lowB (owZ s w (nS s)) (2 * lcN (lc s) 8 * owN s w (nS s)))))) := by
  have a6 := hI.1.2.2.2.2.2
  obtain ⟨b1, b2⟩ := ow_b hI w (nS s) (Nat.le_refl _)
  have hD := lc_lcm8 hI
  have hp := lcN_pos (lc s) 8
  have hl := e_ownLoop hI h hw
  have s2 : gL τ 9 5 = lI (lcN (lc s) 8) := h.2.2.1.2.1
  by_cases q : 0 < owN s w (nS s)
  · right
    refine ⟨q, ?_⟩
    have cq : ¬ nI (owN s w (nS s)) ≤ 0 := by
      have := nI_ge (a := 0) (b := owN s w (nS s)) q (by omega)
      exact this
    have hB : 0 < 2 * lcN (lc s) 8 * owN s w (nS s) := Nat.mul_pos (by omega) q
    have hB2 : 2 * lcN (lc s) 8 * owN s w (nS s) < 2 ^ 62 := by
      have := Nat.mul_le_mul (show 2 * lcN (lc s) 8 ≤ 200000000 by omega) (show owN s w (nS s) ≤ 64 by omega)
      omega
    have hz : Bd (owZ s w (nS s)) := by constructor <;> omega
    have es := e_set hz hB hB2 τ
    rw [Int.natCast_mul] at es
    simp only [fX8_findOwn, hl, ob, if_neg cq, s2, l2, nI_lI (show owN s w (nS s) < 2 ^ 31 by omega), lI_mul]
    rw [es, ob, ob]
  · left
    have q0 : owN s w (nS s) = 0 := by omega
    refine ⟨q0, ?_⟩
    have cq : nI 0 ≤ 0 := by decide
    rw [q0] at hl
    simp only [fX8_findOwn, hl, ob, if_pos cq]
