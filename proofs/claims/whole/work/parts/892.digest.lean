/-! DIGEST: its pieces -/
def F48 (τ t : Sg) : Prop := gI t = gI τ ∧ ∀ j, j ≠ 48 → gL t j = gL τ j
theorem f48_w (τ : Sg) (a b : Int64) : F48 τ (sL (sL τ 48 0 a) 48 1 b) := ⟨rfl, fun j hj => by rw [gL_row _ _ hj, gL_row _ _ hj]⟩
theorem c_lane0 {s τ : Sg} {A B : Nat → Nat} (hI : Inv s) (h : SvQ s A B τ) {l : Nat} (hl : l < 8) (hc : 0 < lc s l) (p : Int32) : ∃ t, fX10_ofLane (nI l) 0 p τ = some (if p = 0 then lI (lowA (scI (lc s) (lx s) l) (2 * lcN (lc s) 8)) else lI (lowB (scI (lc s) (lx s) l) (2 * lcN (lc s) 8)), t) ∧ F48 τ t := by
  obtain ⟨hE, -, ⟨s1, s2, s3, s4, s5⟩, -, -, -⟩ := h
  have hD := lc_lcm hI
  have hp := lcN_pos (lc s) 8
  have hb := sc_b (lx_b hI) hl
  have hlc := lc_le hI l
  have c1 : ¬ nI (lc s l) = 0 := fun e => by
    have := nI_inj (a := lc s l) (b := 0) (by omega) (by omega) e
    omega
  have v10 : gI τ 10 l = nI (lc s l) := s5 l hl
  have v12 : gL τ 12 l = lI (scI (lc s) (lx s) l) := s4 l hl
  have c2 : ¬ (0 : Int32) = 2 := by decide
  have c3 : ¬ (0 : Int32) = 1 := by decide
  refine ⟨_, ?_, f48_w τ (lI (lowA (scI (lc s) (lx s) l) (2 * lcN (lc s) 8))) (lI (lowB (scI (lc s) (lx s) l) (2 * lcN (lc s) 8)))⟩
  simp only [fX10_ofLane, aI_n hl (by decide), aL_n hl (by decide), ob, v10, v12, if_neg c1, if_neg c2, if_neg c3, s2, l2, e_set (z := scI (lc s) (lx s) l) (b := 2 * lcN (lc s) 8) (by constructor <;> omega) (by omega) (by omega), e_part]
theorem c_lane1 {s τ : Sg} {A B : Nat → Nat} (hI : Inv s) (h : SvQ s A B τ) {l : Nat} (hl : l < 8) (hc : 0 < lc s l) (p : Int32) : ∃ t, fX10_ofLane (nI l) 1 p τ = some (if p = 0 then lI (lowA (psN (lc s) 8 * scI (lc s) (lx s) l - sZ (scI (lc s) (lx s)) 8) (2 * lcN (lc s) 8 * psN (lc s) 8)) else lI (lowB (psN (lc s) 8 * scI (lc s) (lx s) l - sZ (scI (lc s) (lx s)) 8) (2 * lcN (lc s) 8 * psN (lc s) 8)), t) ∧ F48 τ t := by
  obtain ⟨hE, -, ⟨s1, s2, s3, s4, s5⟩, -, -, -⟩ := h
  have hD := lc_lcm hI
  have hp := lcN_pos (lc s) 8
  have hb := sc_b (lx_b hI) hl
  have hz := sz_b (lx_b hI) 8 (Nat.le_refl _)
  have hlc := lc_le hI l
  have hps := ps_b (lc s)
  have hpp := ps_pos hl hc
  have c1 : ¬ nI (lc s l) = 0 := fun e => by
    have := nI_inj (a := lc s l) (b := 0) (by omega) (by omega) e
    omega
  have v10 : gI τ 10 l = nI (lc s l) := s5 l hl
  have v12 : gL τ (9 + 3) l = lI (scI (lc s) (lx s) l) := s4 l hl
  have c2 : ¬ (1 : Int32) = 2 := by decide
  have hbd : Bd (psN (lc s) 8 * scI (lc s) (lx s) l - sZ (scI (lc s) (lx s)) 8) := by
    have k1 : (0 : Int) ≤ (psN (lc s) 8 : Int) := by omega
    have m1 := Int.mul_le_mul_of_nonneg_left hb.1 k1
    have m2 := Int.mul_le_mul_of_nonneg_left hb.2 k1
    have m3 : (psN (lc s) 8 : Int) * (19998 * (lcN (lc s) 8 : Int)) ≤ 8 * (19998 * (lcN (lc s) 8 : Int)) := Int.mul_le_mul_of_nonneg_right (by omega) (by omega)
    rw [Int.mul_neg] at m1
    constructor <;> omega
  have hB : 0 < 2 * lcN (lc s) 8 * psN (lc s) 8 := Nat.mul_pos (by omega) hpp
  have hB2 : 2 * lcN (lc s) 8 * psN (lc s) 8 < 2 ^ 62 := by
    have := Nat.mul_le_mul (show 2 * lcN (lc s) 8 ≤ 2 * 2 ^ 34 by omega) hps
    omega
  refine ⟨_, ?_, f48_w τ (lI (lowA (psN (lc s) 8 * scI (lc s) (lx s) l - sZ (scI (lc s) (lx s)) 8) (2 * lcN (lc s) 8 * psN (lc s) 8))) (lI (lowB (psN (lc s) 8 * scI (lc s) (lx s) l - sZ (scI (lc s) (lx s)) 8) (2 * lcN (lc s) 8 * psN (lc s) 8)))⟩
  simp only [fX10_ofLane, fX1_aboveMean, aI_n hl (by decide), aL_n hl (by decide), ob, v10, v12, if_neg c1, if_neg c2, if_true, s1, s2, s3, nI_lI (show psN (lc s) 8 < 2 ^ 31 by omega), lI_mul, lI_sub, l2]
  rw [← Int.natCast_mul, e_set hbd hB hB2, ob, ob, e_part, ob]
theorem c_lane2 {s τ : Sg} {A B : Nat → Nat} (hI : Inv s) (h : SvQ s A B τ) {l : Nat} (hl : l < 8) (hc : 0 < lc s l) (p : Int32) : ∃ t, fX10_ofLane (nI l) 2 p τ = some (if p = 0 then lI (lowA (scI (shC (lc s) A B) (shS (lc s) (lx s) A B) l) (2 * lcN (shC (lc s) A B) 8)) else lI (lowB (scI (shC (lc s) A B) (shS (lc s) (lx s) A B) l) (2 * lcN (shC (lc s) A B) 8)), t) ∧ F48 τ t := by
  obtain ⟨hE, -, ⟨-, -, -, -, s5⟩, hS, -, ⟨t1, t2, t3, t4, t5⟩⟩ := h
  have hD := sh_lcm (fit hI) hS
  have hp := lcN_pos (shC (lc s) A B) 8
  have hb := sc_b' (sh_bx (fit hI) (lx_b hI) hS l hl) hl
  have hlc := lc_le hI l
  have c1 : ¬ nI (lc s l) = 0 := fun e => by
    have := nI_inj (a := lc s l) (b := 0) (by omega) (by omega) e
    omega
  have v10 : gI τ 10 l = nI (lc s l) := s5 l hl
  have v17 : gL τ 17 l = lI (scI (shC (lc s) A B) (shS (lc s) (lx s) A B) l) := t4 l hl
  have c3 : ¬ (2 : Int32) = 1 := by decide
  refine ⟨_, ?_, f48_w τ (lI (lowA (scI (shC (lc s) A B) (shS (lc s) (lx s) A B) l) (2 * lcN (shC (lc s) A B) 8))) (lI (lowB (scI (shC (lc s) A B) (shS (lc s) (lx s) A B) l) (2 * lcN (shC (lc s) A B) 8)))⟩
  simp only [fX10_ofLane, aI_n hl (by decide), aL_n hl (by decide), ob, v10, v17, if_neg c1, if_true, if_neg c3, t2, l2, e_set (z := scI (shC (lc s) A B) (shS (lc s) (lx s) A B) l) (b := 2 * lcN (shC (lc s) A B) 8) (by constructor <;> omega) (by omega) (by omega), e_part]
/-- what a lane answers -/
def lnV (s : Sg) (A B : Nat → Nat) (l w : Nat) (p : Int32) : Int64 :=
  if lc s l = 0 then -9223372036854775808 - (-3 : Int32).toInt64
  else if w = 0 then (if p = 0 then lI (lowA (scI (lc s) (lx s) l) (2 * lcN (lc s) 8)) else lI (lowB (scI (lc s) (lx s) l) (2 * lcN (lc s) 8)))
  else if w = 1 then (if p = 0 then lI (lowA (psN (lc s) 8 * scI (lc s) (lx s) l - sZ (scI (lc s) (lx s)) 8) (2 * lcN (lc s) 8 * psN (lc s) 8)) else lI (lowB (psN (lc s) 8 * scI (lc s) (lx s) l - sZ (scI (lc s) (lx s)) 8) (2 * lcN (lc s) 8 * psN (lc s) 8)))
  else (if p = 0 then lI (lowA (scI (shC (lc s) A B) (shS (lc s) (lx s) A B) l) (2 * lcN (shC (lc s) A B) 8)) else lI (lowB (scI (shC (lc s) A B) (shS (lc s) (lx s) A B) l) (2 * lcN (shC (lc s) A B) 8)))
theorem c_lane {s τ : Sg} {A B : Nat → Nat} (hI : Inv s) (h : SvQ s A B τ) {l w : Nat} (hl : l < 8) (hw : w < 3) (p : Int32) : ∃ t, fX10_ofLane (nI l) (nI w) p τ = some (lnV s A B l w p, t) ∧ F48 τ t := by
  unfold lnV
  by_cases q0 : lc s l = 0
  · have v10 : gI τ 10 l = 0 := by
      have : gI τ 10 l = nI (lc s l) := h.2.2.1.2.2.2.2 l hl
      rw [this, q0]; rfl
    refine ⟨τ, ?_, rfl, fun _ _ => rfl⟩
    simp only [fX10_ofLane, aI_n hl (by decide), ob, v10, if_true, e_refusal, if_pos q0]
  · rw [if_neg q0]
    rcases (show w = 0 ∨ w = 1 ∨ w = 2 by omega) with rfl | rfl | rfl
    · exact c_lane0 hI h hl (by omega) p
    · exact c_lane1 hI h hl (by omega) p
    · exact c_lane2 hI h hl (by omega) p
theorem rr_lane {s t : Sg} {A B : Nat → Nat} (hI : Inv s) (hE : Eqv s t) (hS : ShOk (lc s) (lx s) A B) (hN : NoFall (lc s) (lx s) A B) {l w : Nat} (hl : l < 8) (hw : w < 3) (p : Int32) : ∃ ω, fX11_laneNow (nI l) (nI w) p t = some (lnV s A B l w p, ω) ∧ Eqv s ω := by
  have hIt := inv_cg hE hI
  obtain ⟨υ, A2, B2, u1, u2⟩ := r_laysShape hIt
  have hlc := lc_le hI l
  have v58 : gL υ 58 l = lI (lc s l) := by rw [← eq_lc hE]; exact (u2.1.2 l hl).1
  have hEu : Eqv s υ := hE.tr u2.1.1
  unfold lnV
  by_cases q0 : lc s l = 0
  · have cc : lg_cmp (lI (lc s l)) (0 : Int64) = 0 := (cmp0 (by omega)).mpr q0
    refine ⟨υ, ?_, hEu⟩
    simp only [fX11_laneNow, u1, ob, aL_n hl (by decide), v58, if_pos cc, r_no, if_pos q0]
  · have hc : 0 < lc t l := by rw [eq_lc hE]; omega
    have cc : ¬ lg_cmp (lI (lc s l)) (0 : Int64) = 0 := fun e => by
      have := (cmp0 (show lc s l < 2 ^ 62 by omega)).mp e
      omega
    rw [if_neg q0]
    have fin : ∀ (ω : Sg) (z : Int) (b : Nat), fX11_laysLane (nI l) (nI w) υ = some (frT ω z b) → fX11_laneNow (nI l) (nI w) p t = some (if p = 0 then lI (lowA z b) else lI (lowB z b), frT ω z b) := by
      intro ω z b m
      simp only [fX11_laneNow, u1, ob, aL_n hl (by decide), v58, if_neg cc, m, fr_sh.1, fr_sh.2]
      split <;> rfl
    rcases (show w = 0 ∨ w = 1 ∨ w = 2 by omega) with rfl | rfl | rfl
    · have m := r_lane0 hIt u2 hl hc
      rw [eq_lc hE, eq_lx hE] at m
      exact ⟨_, fin _ _ _ m, frT_E hEu _ _⟩
    · obtain ⟨ω, m, hEw⟩ := r_lane1 hIt u2 hl hc
      rw [eq_lc hE, eq_lx hE] at m
      exact ⟨_, fin _ _ _ m, frT_E (hE.tr hEw) _ _⟩
    · have m := r_lane2 (A := A) (B := B) hIt (by rw [eq_lc hE, eq_lx hE]; exact hS) (by rw [eq_lc hE, eq_lx hE]; exact hN) u2 hl hc
      rw [eq_lc hE, eq_lx hE] at m
      exact ⟨_, fin _ _ _ m, frT_E hEu _ _⟩
theorem rr_cts {s t : Sg} (hI : Inv s) (hE : Eqv s t) {l : Nat} (hl : l < 8) : ∃ υ, fX11_countsNow (nI l) t = some (nI (lc s l), υ) ∧ Eqv s υ := by
  obtain ⟨υ, u1, u2⟩ := r_laysLanes (inv_cg hE hI)
  have c58 : gL υ 58 l = lI (lc s l) := by rw [← eq_lc hE]; exact (u2.2 l hl).1
  refine ⟨υ, ?_, hE.tr u2.1⟩
  simp only [fX11_countsNow, ob, u1, aL_n hl (by decide), c58, lI_i]
theorem eq_cnt {s t : Sg} (h : Eqv s t) : cntA t = cntA s := by
  funext w
  unfold cntA
  rw [eq_nR h, eq_nS h, eq_sgl h, eq_tm h, eq_t0 h, eq_t1 h, h 0 9 rfl]
theorem eq_nT {s t : Sg} (h : Eqv s t) : nT t = nT s ∧ nE t = nE s := by
  have e : isT t = isT s := by funext x i; unfold isT; rw [eq_inRc h, h.row 7 (fun _ => rfl)]
  constructor
  · funext x; unfold nT; rw [e, eq_nS h]
  · funext x
    unfold nE
    rw [eq_nS h, show isE t = isE s by funext x i; unfold isE; rw [e, h.row 7 (fun _ => rfl)]]
theorem frow_gL (s : Sg) (j o : Nat) (f : Nat → Int32) : ∀ n, gL (frow s j o f n) = gL s := by
  intro n
  induction n with
  | zero => rfl
  | succ n ih => rw [← ih]; rfl
theorem bump_gL (s : Sg) (j : Nat) (c : Nat → Bool) (ix : Nat → Nat) : ∀ n, gL (bump s j c ix n) = gL s := by
  intro n
  induction n with
  | zero => rfl
  | succ n ih => rw [bump]; split <;> rw [← ih] <;> rfl
theorem bump2_gL (s : Sg) (j : Nat) (c : Nat → Nat → Bool) (ix : Nat → Nat → Nat) (m : Nat) : ∀ n, gL (bump2 s j c ix m n) = gL s := by
  intro n
  induction n with
  | zero => rfl
  | succ n ih => rw [bump2, bump_gL, ih]
def mx (h v : Int64) : Int64 := (31 : Int64) * h + v
def fld (g : Nat → Int64 → Int64) (h : Int64) : Nat → Int64
  | 0 => h
  | n + 1 => g n (fld g h n)
