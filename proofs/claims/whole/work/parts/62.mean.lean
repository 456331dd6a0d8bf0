/-! the mean of the lanes, in the reference -/
def Bx (c : Nat → Nat) (x : Nat → Int) : Prop := ∀ l, -(19998 * (c l : Int)) ≤ x l ∧ x l ≤ 19998 * (c l : Int)
theorem lx_b {s : Sg} (hI : Inv s) : Bx (lc s) (lx s) := by
  intro l
  have : ∀ n, n ≤ nS s → -(19998 * (ctN s l n : Int)) ≤ smZ s l n ∧ smZ s l n ≤ 19998 * (ctN s l n : Int) := by
    intro n
    induction n with
    | zero => intro _; exact ⟨Int.le_refl _, Int.le_refl _⟩
    | succ n ih =>
      intro hn
      have := ih (by omega)
      have := dD_b hI (show n < nS s by omega)
      have e1 : ctN s l (n + 1) = ctN s l n + (if inL s l n = true then 1 else 0) := rfl
      have e2 : smZ s l (n + 1) = smZ s l n + (if inL s l n = true then dD s n else 0) := rfl
      rw [e1, e2]
      split <;> omega
  exact this (nS s) (Nat.le_refl _)
theorem sc_b {C : Nat → Nat} {S : Nat → Int} (hX : Bx C S) {l : Nat} (hl : l < 8) : -(19998 * (lcN C 8 : Int)) ≤ scI C S l ∧ scI C S l ≤ 19998 * (lcN C 8 : Int) := by
  by_cases q : 0 < C l
  · have e := sc_val (S := S) hl q
    obtain ⟨h1, h2⟩ := hX l
    have hD : (0 : Int) ≤ (lcN C 8 : Int) := by omega
    have a1 := Int.mul_le_mul_of_nonneg_right h1 hD
    have a2 := Int.mul_le_mul_of_nonneg_right h2 hD
    have hc : (0 : Int) < (C l : Int) := by omega
    constructor
    · refine Int.le_of_mul_le_mul_right (a := (C l : Int)) ?_ hc
      rw [e]
      grind
    · refine Int.le_of_mul_le_mul_right (a := (C l : Int)) ?_ hc
      rw [e]
      grind
  · unfold scI
    rw [if_neg q]
    omega
theorem sz_b {C : Nat → Nat} {S : Nat → Int} (hX : Bx C S) : ∀ n, n ≤ 8 → -(159984 * (lcN C 8 : Int)) ≤ sZ (scI C S) n ∧ sZ (scI C S) n ≤ 159984 * (lcN C 8 : Int) := by
  have : ∀ n : Nat, n ≤ 8 → -(19998 * (lcN C 8 : Int)) * n ≤ sZ (scI C S) n ∧ sZ (scI C S) n ≤ 19998 * (lcN C 8 : Int) * n := by
    intro n
    induction n with
    | zero => intro _; simp [sZ]
    | succ n ih =>
      intro hn
      have h1 := ih (by omega)
      have h2 := sc_b hX (show n < 8 by omega)
      rw [sZ]
      generalize (lcN C 8 : Int) = D at h1 h2
      have e1 : -(19998 * D) * ((n + 1 : Nat) : Int) = -(19998 * D) * (n : Int) + -(19998 * D) := by grind
      have e2 : 19998 * D * ((n + 1 : Nat) : Int) = 19998 * D * (n : Int) + 19998 * D := by grind
      rw [e1, e2]
      omega
  intro n hn
  have h := this n hn
  have hD : (0 : Int) ≤ (lcN C 8 : Int) := by omega
  generalize (lcN C 8 : Int) = D at h hD
  have b1 : 19998 * D * (n : Int) ≤ 19998 * D * 8 := Int.mul_le_mul_of_nonneg_left (by omega) (by omega)
  have b2 : -(19998 * D) * (n : Int) = -(19998 * D * (n : Int)) := by grind
  omega
theorem r_sumL {c : Nat → Nat} {x : Nat → Int} (hX : Bx c x) (hC : ∀ l, l < 8 → c l ≤ 64) (hD : lcN c 8 < 2 ^ 34) (p1 : Int32) {σ : Sg} (h58 : ∀ l, l < 8 → gL σ 58 l = lI (c l)) (h57 : ∀ l, l < 8 → gL σ 57 l = lI (x l)) (h0 : Fr σ 0 (2 * lcN c 8)) : ∃ τ, lpG (fX11_laysLane_L13 p1) FU (0 : Int32) σ = some ((), τ) ∧ Fr τ (sZ (scI c x) 8) (2 * lcN c 8) ∧ gI τ = gI σ ∧ (∀ j, j ≠ 49 → gL τ j = gL σ j) := by
  have hp := lcN_pos c 8
  refine lp_ex (body := fX11_laysLane_L13 p1) (b := ()) 8 (fun z => nI z) (fun z τ => Fr τ (sZ (scI c x) z) (2 * lcN c 8) ∧ gI τ = gI σ ∧ (∀ j, j ≠ 49 → gL τ j = gL σ j)) (fun z hz τ ⟨s1, s2, s3⟩ => ?_) (fun τ _ => ?_) FU (by decide) σ ⟨h0, rfl, fun _ _ => rfl⟩
  · have c8 : ¬ (8 : Int32) ≤ nI z := nI_ge (b := 8) hz (by decide)
    have e58 : gL τ 58 z = lI (c z) := by rw [s3 58 (by decide), h58 z hz]
    have e57 : gL τ 57 z = lI (x z) := by rw [s3 57 (by decide), h57 z hz]
    have hCz := hC z hz
    by_cases q : 0 < c z
    · have cq : ¬ lg_cmp (lI (c z)) (0 : Int64) ≤ 0 := by rw [le0 (by omega) (by omega)]; omega
      have hb := sz_b hX z (by omega)
      have hxz := hX z
      have hv := sc_val (S := x) hz q
      have ea : fX11_adds (lI (x z)) (lI ((2 * c z : Nat) : Int)) τ = some (frT τ (sZ (scI c x) (z + 1)) (2 * lcN c 8)) := by
        refine r_adds3 s1 (by omega) (by omega) (by omega) ?_ ?_ ?_
        · have n1 : (sZ (scI c x) z).natAbs ≤ 159984 * 2 ^ 34 := by omega
          have n2 : (x z).natAbs ≤ 19998 * 64 := by omega
          have m1 := Nat.mul_le_mul n1 (show 2 * c z ≤ 128 by omega)
          have m2 := Nat.mul_le_mul n2 (show 2 * lcN c 8 ≤ 2 * 2 ^ 34 by omega)
          omega
        · have := Nat.mul_le_mul (show 2 * lcN c 8 ≤ 2 * 2 ^ 34 by omega) (show 2 * c z ≤ 128 by omega)
          omega
        · rw [sZ]
          simp only [Int.natCast_mul]
          generalize (lcN c 8 : Int) = D at hv
          generalize (c z : Int) = k at hv
          generalize sZ (scI c x) z = Y
          generalize scI c x z = w at hv
          generalize x z = v at hv
          grind
      refine ⟨frT τ (sZ (scI c x) (z + 1)) (2 * lcN c 8), ?_, fr_T _ _ _, s2, fun j hj => by rw [frT_L _ _ _ hj, s3 j hj]⟩
      simp only [fX11_laysLane_L13, if_neg c8, aL_n hz (by decide), ob, bd, e58, if_neg cq, e57, nI_1]
      rw [show (2 : Int64) * lI (c z) = lI ((2 * c z : Nat) : Int) by rw [show (2 : Int64) = lI 2 from rfl, lI_mul]; rfl, ea, ob, ob]
    · have q0 : c z = 0 := by omega
      have cq : lg_cmp (lI (c z)) (0 : Int64) ≤ 0 := by rw [le0 (by omega) (by omega)]; omega
      refine ⟨τ, ?_, ?_, s2, s3⟩
      · simp only [fX11_laysLane_L13, if_neg c8, aL_n hz (by decide), ob, bd, e58, if_pos cq, nI_1]
      · rw [sZ, show scI c x z = 0 by unfold scI; rw [if_neg q], Int.add_zero]
        exact s1
  · have c8 : (8 : Int32) ≤ nI 8 := by decide
    simp only [fX11_laysLane_L13, if_pos c8]
theorem r_many {c : Nat → Nat} (hC : ∀ l, l < 8 → c l ≤ 64) {σ : Sg} (h58 : ∀ l, l < 8 → gL σ 58 l = lI (c l)) : fX11_lanesMany σ = some (nI (psN c 8), σ) := by
  have hl : lpG fX11_lanesMany_L4 FU ((0 : Int32), (0 : Int32)) σ = some (nI (psN c 8), σ) := by
    refine lp_rd (body := fX11_lanesMany_L4) 8 (fun z => (nI (psN c z), nI z)) (fun z hz => ?_) ?_ FU (by decide)
    · have c8 : ¬ (8 : Int32) ≤ nI z := nI_ge (b := 8) hz (by decide)
      have hCz := hC z hz
      by_cases q : 0 < c z
      · have cq : ¬ lg_cmp (lI (c z)) (0 : Int64) ≤ 0 := by rw [le0 (by omega) (by omega)]; omega
        simp only [fX11_lanesMany_L4, if_neg c8, aL_n hz (by decide), ob, bd, h58 z hz, if_neg cq, nI_1]
        rw [show psN c (z + 1) = psN c z + 1 by unfold psN; rw [cn, if_pos (by simp [q])]]
      · have q0 : c z = 0 := by omega
        have cq : lg_cmp (lI (c z)) (0 : Int64) ≤ 0 := by rw [le0 (by omega) (by omega)]; omega
        simp only [fX11_lanesMany_L4, if_neg c8, aL_n hz (by decide), ob, bd, h58 z hz, if_pos cq, nI_1, Int32.add_zero]
        rw [show psN c (z + 1) = psN c z by unfold psN; rw [cn, if_neg (by simp [q0])]; rfl]
    · have c8 : (8 : Int32) ≤ nI 8 := by decide
      simp only [fX11_lanesMany_L4, if_pos c8]
  simp only [fX11_lanesMany, hl, ob]
