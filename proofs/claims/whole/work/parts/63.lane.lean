/-! LANE -/
theorem bx_range {c : Nat → Nat} {x : Nat → Int} (hX : Bx c x) (a : Nat) : ∀ m, -(19998 * (pC c (a + m) - pC c a)) ≤ sZ x (a + m) - sZ x a ∧ sZ x (a + m) - sZ x a ≤ 19998 * (pC c (a + m) - pC c a) := by
  intro m
  induction m with
  | zero => simp
  | succ m ih =>
    show -(19998 * (pC c (a + m + 1) - pC c a)) ≤ sZ x (a + m + 1) - sZ x a ∧ sZ x (a + m + 1) - sZ x a ≤ 19998 * (pC c (a + m + 1) - pC c a)
    rw [pC_s, sZ]
    have := hX (a + m)
    omega
theorem sh_bx {c : Nat → Nat} {x : Nat → Int} {A B : Nat → Nat} (hF : Fit c x) (hX : Bx c x) (h : ShOk c x A B) : ∀ l, l < 8 → -(19998 * (shC c A B l : Int)) ≤ shS c x A B l ∧ shS c x A B l ≤ 19998 * (shC c A B l : Int) := by
  intro l hl
  unfold shC shS
  by_cases q : 0 < c l
  · rw [if_pos q, if_pos q]
    obtain ⟨-, -, e⟩ := bN_le hF h hl q
    obtain ⟨p1, p2, -⟩ := h l hl q
    have := bx_range hX (A l) (B l - A l)
    rw [show A l + (B l - A l) = B l by omega] at this
    rw [e]
    exact this
  · rw [if_neg q, if_neg q]
    omega
theorem sc_b' {C : Nat → Nat} {S : Nat → Int} {l : Nat} (hX : -(19998 * (C l : Int)) ≤ S l ∧ S l ≤ 19998 * (C l : Int)) (hl : l < 8) : -(19998 * (lcN C 8 : Int)) ≤ scI C S l ∧ scI C S l ≤ 19998 * (lcN C 8 : Int) := by
  by_cases q : 0 < C l
  · have e := sc_val (S := S) hl q
    obtain ⟨h1, h2⟩ := hX
    have hD : (0 : Int) ≤ (lcN C 8 : Int) := by omega
    have a1 := Int.mul_le_mul_of_nonneg_right h1 hD
    have a2 := Int.mul_le_mul_of_nonneg_right h2 hD
    have hc : (0 : Int) < (C l : Int) := by omega
    constructor
    · refine Int.le_of_mul_le_mul_right (a := (C l : Int)) ?_ hc
      rw [e]
      grind
    · refine Int.le_of_mul_le_mul_right (a := (C l : Int)) ?_ hc
      rw [e]
      grind
  · unfold scI
    rw [if_neg q]
    omega
theorem l2 (n : Nat) : (2 : Int64) * lI (n : Int) = lI ((2 * n : Nat) : Int) := by rw [show (2 : Int64) = lI 2 from rfl, lI_mul]; rfl
/-- numerator and divisor as the class has them -/
def laZ (C : Nat → Nat) (S : Nat → Int) (l w : Nat) : Int := if w = 1 then psN C 8 * scI C S l - sZ (scI C S) 8 else scI C S l
def laB (C : Nat → Nat) (w : Nat) : Nat := if w = 1 then 2 * lcN C 8 * psN C 8 else 2 * lcN C 8
theorem ps_b (C : Nat → Nat) : psN C 8 ≤ 8 := cn_le _ 8
theorem ps_pos {C : Nat → Nat} {l : Nat} (hl : l < 8) (h : 0 < C l) : 0 < psN C 8 := cn_pos (P := fun l => decide (0 < C l)) hl (by simp [h])
theorem e_lane0 {s τ : Sg} {A B : Nat → Nat} (hI : Inv s) (h : SvQ s A B τ) {l : Nat} (hl : l < 8) (hc : 0 < lc s l) (p : Int32) : ∃ t, fX10_ofLane (nI l) 0 p τ = some (if p = 0 then lI (lowA (scI (lc s) (lx s) l) (2 * lcN (lc s) 8)) else lI (lowB (scI (lc s) (lx s) l) (2 * lcN (lc s) 8)), t) ∧ Eqv s t := by
  obtain ⟨hE, -, ⟨s1, s2, s3, s4, s5⟩, -, -, -⟩ := h
  have hD := lc_lcm hI
  have hp := lcN_pos (lc s) 8
  have hb := sc_b (lx_b hI) hl
  have hlc := lc_le hI l
  have c1 : ¬ nI (lc s l) = 0 := fun e => by
    have := nI_inj (a := lc s l) (b := 0) (by omega) (by omega) e
    omega
  have v10 : gI τ 10 l = nI (lc s l) := s5 l hl
  have v12 : gL τ 12 l = lI (scI (lc s) (lx s) l) := s4 l hl
  have c2 : ¬ (0 : Int32) = 2 := by decide
  have c3 : ¬ (0 : Int32) = 1 := by decide
  refine ⟨_, ?_, (hE.L 48 0 (lI (lowA (scI (lc s) (lx s) l) (2 * lcN (lc s) 8)))).L 48 1 (lI (lowB (scI (lc s) (lx s) l) (2 * lcN (lc s) 8)))⟩
  simp only [fX10_ofLane, aI_n hl (by decide), aL_n hl (by decide), ob, v10, v12, if_neg c1, if_neg c2, if_neg c3, s2, l2, e_set (z := scI (lc s) (lx s) l) (b := 2 * lcN (lc s) 8) (by constructor <;> omega) (by omega) (by omega), e_part]
theorem e_lane1 {s τ : Sg} {A B : Nat → Nat} (hI : Inv s) (h : SvQ s A B τ) {l : Nat} (hl : l < 8) (hc : 0 < lc s l) (p : Int32) : ∃ t, fX10_ofLane (nI l) 1 p τ = some (if p = 0 then lI (lowA (psN (lc s) 8 * scI (lc s) (lx s) l - sZ (scI (lc s) (lx s)) 8) (2 * lcN (lc s) 8 * psN (lc s) 8)) else lI (lowB (psN (lc s) 8 * scI (lc s) (lx s) l - sZ (scI (lc s) (lx s)) 8) (2 * lcN (lc s) 8 * psN (lc s) 8)), t) ∧ Eqv s t := by
  obtain ⟨hE, -, ⟨s1, s2, s3, s4, s5⟩, -, -, -⟩ := h
  have hD := lc_lcm hI
  have hp := lcN_pos (lc s) 8
  have hb := sc_b (lx_b hI) hl
  have hz := sz_b (lx_b hI) 8 (Nat.le_refl _)
  have hlc := lc_le hI l
  have hps := ps_b (lc s)
  have hpp := ps_pos hl hc
  have c1 : ¬ nI (lc s l) = 0 := fun e => by
    have := nI_inj (a := lc s l) (b := 0) (by omega) (by omega) e
    omega
  have v10 : gI τ 10 l = nI (lc s l) := s5 l hl
  have v12 : gL τ (9 + 3) l = lI (scI (lc s) (lx s) l) := s4 l hl
  have c2 : ¬ (1 : Int32) = 2 := by decide
  have hbd : Bd (psN (lc s) 8 * scI (lc s) (lx s) l - sZ (scI (lc s) (lx s)) 8) := by
    have k1 : (0 : Int) ≤ (psN (lc s) 8 : Int) := by omega
    have m1 := Int.mul_le_mul_of_nonneg_left hb.1 k1
    have m2 := Int.mul_le_mul_of_nonneg_left hb.2 k1
    have m3 : (psN (lc s) 8 : Int) * (19998 * (lcN (lc s) 8 : Int)) ≤ 8 * (19998 * (lcN (lc s) 8 : Int)) := Int.mul_le_mul_of_nonneg_right (by omega) (by omega)
    rw [Int.mul_neg] at m1
    constructor <;> omega
  have hB : 0 < 2 * lcN (lc s) 8 * psN (lc s) 8 := Nat.mul_pos (by omega) hpp
  have hB2 : 2 * lcN (lc s) 8 * psN (lc s) 8 < 2 ^ 62 := by
    have := Nat.mul_le_mul (show 2 * lcN (lc s) 8 ≤ 2 * 2 ^ 34 by omega) hps
    omega
  refine ⟨_, ?_, (hE.L 48 0 (lI (lowA (psN (lc s) 8 * scI (lc s) (lx s) l - sZ (scI (lc s) (lx s)) 8) (2 * lcN (lc s) 8 * psN (lc s) 8)))).L 48 1 (lI (lowB (psN (lc s) 8 * scI (lc s) (lx s) l - sZ (scI (lc s) (lx s)) 8) (2 * lcN (lc s) 8 * psN (lc s) 8)))⟩
  simp only [fX10_ofLane, fX1_aboveMean, aI_n hl (by decide), aL_n hl (by decide), ob, v10, v12, if_neg c1, if_neg c2, if_true, s1, s2, s3, nI_lI (show psN (lc s) 8 < 2 ^ 31 by omega), lI_mul, lI_sub, l2]
  rw [← Int.natCast_mul, e_set hbd hB hB2, ob, ob, e_part, ob]
theorem e_lane2 {s τ : Sg} {A B : Nat → Nat} (hI : Inv s) (h : SvQ s A B τ) {l : Nat} (hl : l < 8) (hc : 0 < lc s l) (p : Int32) : ∃ t, fX10_ofLane (nI l) 2 p τ = some (if p = 0 then lI (lowA (scI (shC (lc s) A B) (shS (lc s) (lx s) A B) l) (2 * lcN (shC (lc s) A B) 8)) else lI (lowB (scI (shC (lc s) A B) (shS (lc s) (lx s) A B) l) (2 * lcN (shC (lc s) A B) 8)), t) ∧ Eqv s t := by
  obtain ⟨hE, -, ⟨-, -, -, -, s5⟩, hS, -, ⟨t1, t2, t3, t4, t5⟩⟩ := h
  have hD := sh_lcm (fit hI) hS
  have hp := lcN_pos (shC (lc s) A B) 8
  have hb := sc_b' (sh_bx (fit hI) (lx_b hI) hS l hl) hl
  have hlc := lc_le hI l
  have c1 : ¬ nI (lc s l) = 0 := fun e => by
    have := nI_inj (a := lc s l) (b := 0) (by omega) (by omega) e
    omega
  have v10 : gI τ 10 l = nI (lc s l) := s5 l hl
  have v17 : gL τ 17 l = lI (scI (shC (lc s) A B) (shS (lc s) (lx s) A B) l) := t4 l hl
  have c3 : ¬ (2 : Int32) = 1 := by decide
  refine ⟨_, ?_, (hE.L 48 0 (lI (lowA (scI (shC (lc s) A B) (shS (lc s) (lx s) A B) l) (2 * lcN (shC (lc s) A B) 8)))).L 48 1 (lI (lowB (scI (shC (lc s) A B) (shS (lc s) (lx s) A B) l) (2 * lcN (shC (lc s) A B) 8)))⟩
  simp only [fX10_ofLane, aI_n hl (by decide), aL_n hl (by decide), ob, v10, v17, if_neg c1, if_true, if_neg c3, t2, l2, e_set (z := scI (shC (lc s) A B) (shS (lc s) (lx s) A B) l) (b := 2 * lcN (shC (lc s) A B) 8) (by constructor <;> omega) (by omega) (by omega), e_part]
