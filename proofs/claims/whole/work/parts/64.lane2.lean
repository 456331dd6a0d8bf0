/-! LANE: the reference, and both -/
theorem r_lane0 {s υ : Sg} {A B : Nat → Nat} (hI : Inv s) (h : RsQ s A B υ) {l : Nat} (hl : l < 8) (hc : 0 < lc s l) : fX11_laysLane (nI l) 0 υ = some (frT υ (scI (lc s) (lx s) l) (2 * lcN (lc s) 8)) := by
  have c3 : ¬ (0 : Int32) = 1 := by decide
  have v57 : gL υ 57 l = lI (lx s l) := (h.1.2 l hl).2
  have v58 : gL υ 58 l = lI (lc s l) := (h.1.2 l hl).1
  have hlc := lc_le hI l
  have hx := lx_b hI l
  have hp := lcN_pos (lc s) 8
  simp only [fX11_laysLane, if_neg c3, if_true, aL_n hl (by decide), ob, v57, v58, l2, r_lays (z := lx s l) (b := 2 * lc s l) (by constructor <;> omega) (by omega) (by omega)]
  congr 1
  refine fr_cg (by omega) (by omega) ?_
  have := sc_val (S := lx s) hl hc
  simp only [Int.natCast_mul]
  grind
theorem r_lane2 {s υ : Sg} {A B A2 B2 : Nat → Nat} (hI : Inv s) (hS : ShOk (lc s) (lx s) A B) (hN : NoFall (lc s) (lx s) A B) (h : RsQ s A2 B2 υ) {l : Nat} (hl : l < 8) (hc : 0 < lc s l) : fX11_laysLane (nI l) 2 υ = some (frT υ (scI (shC (lc s) A B) (shS (lc s) (lx s) A B) l) (2 * lcN (shC (lc s) A B) 8)) := by
  have c3 : ¬ (2 : Int32) = 1 := by decide
  have c4 : ¬ (2 : Int32) = 0 := by decide
  obtain ⟨v59, v60⟩ := h.2.2.2 l hl hc
  obtain ⟨f1, f2, f3⟩ := bN_le (fit hI) h.2.1 hl hc
  obtain ⟨g1, g2, g3⟩ := bN_le (fit hI) hS hl hc
  have hb := bS_b (fit hI) h.2.1 hl hc
  rw [← f3] at v60
  have hp := lcN_pos (shC (lc s) A B) 8
  simp only [fX11_laysLane, if_neg c3, if_neg c4, aL_n hl (by decide), ob, v59, v60, l2, r_lays (z := bS (lx s) A2 B2 l) (b := 2 * bN (lc s) A2 B2 l) (by constructor <;> omega) (by omega) (by omega)]
  congr 1
  refine fr_cg (by omega) (by omega) ?_
  have e1 : shC (lc s) A B l = bN (lc s) A B l := if_pos hc
  have e2 : shS (lc s) (lx s) A B l = bS (lx s) A B l := if_pos hc
  have hv := sc_val (C := shC (lc s) A B) (S := shS (lc s) (lx s) A B) hl (by rw [e1]; exact g2)
  have hu := sh_uniq (fit hI).1 hS hN h.2.1 h.2.2.1 hl hc
  rw [e1, e2, g3] at hv
  rw [← f3] at hu
  have hpos : (0 : Int) < bC (lc s) A B l := by omega
  simp only [Int.natCast_mul]
  refine Int.eq_of_mul_eq_mul_right (Int.ne_of_gt hpos) ?_
  generalize scI (shC (lc s) A B) (shS (lc s) (lx s) A B) l = w at hv
  generalize ((lcN (shC (lc s) A B) 8 : Nat) : Int) = D at hv
  generalize bC (lc s) A B l = k at hv hu
  generalize bS (lx s) A B l = y at hv hu
  generalize bS (lx s) A2 B2 l = y2 at hu
  generalize ((bN (lc s) A2 B2 l : Nat) : Int) = k2 at hu
  grind
theorem r_lane1 {s υ : Sg} {A B : Nat → Nat} (hI : Inv s) (h : RsQ s A B υ) {l : Nat} (hl : l < 8) (hc : 0 < lc s l) : ∃ τ, fX11_laysLane (nI l) 1 υ = some (frT τ (psN (lc s) 8 * scI (lc s) (lx s) l - sZ (scI (lc s) (lx s)) 8) (2 * lcN (lc s) 8 * psN (lc s) 8)) ∧ Eqv s τ := by
  have hX := lx_b hI
  have hD := lc_lcm hI
  have hp := lcN_pos (lc s) 8
  have hps := ps_b (lc s)
  have hpp := ps_pos hl hc
  have hlc := lc_le hI l
  have hx := hX l
  have hz := sz_b hX 8 (Nat.le_refl _)
  have h57 : ∀ l, l < 8 → gL υ 57 l = lI (lx s l) := fun l hl => (h.1.2 l hl).2
  have h58 : ∀ l, l < 8 → gL υ 58 l = lI (lc s l) := fun l hl => (h.1.2 l hl).1
  have e0 : frT υ 0 1 = frT υ 0 (2 * lcN (lc s) 8) := fr_cg (by decide) (by omega) (by simp)
  obtain ⟨σ, t1, t2, t3, t4⟩ := r_sumL hX (fun l _ => lc_le hI l) hD (nI l) (σ := frT υ 0 (2 * lcN (lc s) 8)) (fun l hl => by rw [frT_L _ _ _ (by decide), h58 l hl]) (fun l hl => by rw [frT_L _ _ _ (by decide), h57 l hl]) (fr_T _ _ _)
  have k58 : ∀ l, l < 8 → gL σ 58 l = lI (lc s l) := fun l hl => by rw [t4 58 (by decide), frT_L _ _ _ (by decide), h58 l hl]
  have k57 : ∀ l, l < 8 → gL σ 57 l = lI (lx s l) := fun l hl => by rw [t4 57 (by decide), frT_L _ _ _ (by decide), h57 l hl]
  generalize hT : sZ (scI (lc s) (lx s)) 8 = T at hz t2
  generalize hDD : 2 * lcN (lc s) 8 = D2 at t2 t1 e0
  have hD2 : 0 < D2 := by omega
  have hD3 : D2 ≤ 2 * 2 ^ 34 := by omega
  have hTa : T.natAbs ≤ 159984 * 2 ^ 34 := by omega
  have ha := lowA_abs T D2
  have hb := lowB_le T D2
  have hbp := lowB_pos (z := T) hD2
  have hB : 0 < D2 * psN (lc s) 8 := Nat.mul_pos hD2 hpp
  have hB1 : D2 * psN (lc s) 8 ≤ 2 * 2 ^ 34 * 8 := Nat.mul_le_mul hD3 hps
  have hB2 : lowB T D2 * psN (lc s) 8 ≤ 2 * 2 ^ 34 * 8 := Nat.mul_le_mul (by omega) hps
  have f1 : fX11_lays (lI 0) (lI ((1 : Nat) : Int)) υ = some (frT υ 0 1) := r_lays (by constructor <;> decide) (by decide) (by decide) υ
  have f2 : fX11_lays (-(gL σ 49 13)) ((gL σ 49 14) * (nI (psN (lc s) 8)).toInt64) σ = some (frT σ (-T) (D2 * psN (lc s) 8)) := by
    rw [t2.1, t2.2, lI_neg, nI_lI (by omega), lI_mul, ← Int.natCast_mul, r_lays (by constructor <;> omega) (Nat.mul_pos hbp hpp) (by omega)]
    congr 1
    refine fr_cg (Nat.mul_pos hbp hpp) hB ?_
    have := low_cross (z := T) (b := D2)
    simp only [Int.natCast_mul]
    grind
  have hv := sc_val (S := lx s) hl hc
  have f3 : fX11_adds (lI (lx s l)) (lI ((2 * lc s l : Nat) : Int)) (frT σ (-T) (D2 * psN (lc s) 8)) = some (frT (frT σ (-T) (D2 * psN (lc s) 8)) (psN (lc s) 8 * scI (lc s) (lx s) l - T) (D2 * psN (lc s) 8)) := by
    refine r_adds3 (fr_T _ _ _) hB (by omega) hB ?_ ?_ ?_
    · have n1 : (-T).natAbs ≤ 159984 * 2 ^ 34 := by omega
      have n2 : (lx s l).natAbs ≤ 19998 * 64 := by omega
      have m1 := Nat.mul_le_mul n1 (show 2 * lc s l ≤ 128 by omega)
      have m2 := Nat.mul_le_mul n2 hB1
      omega
    · have := Nat.mul_le_mul hB1 (show 2 * lc s l ≤ 128 by omega)
      omega
    · have hDi : (D2 : Int) = 2 * (lcN (lc s) 8 : Int) := by omega
      simp only [Int.natCast_mul]
      rw [hDi]
      generalize ((lcN (lc s) 8 : Nat) : Int) = D at hv
      generalize ((psN (lc s) 8 : Nat) : Int) = n
      generalize ((lc s l : Nat) : Int) = k at hv
      generalize scI (lc s) (lx s) l = w at hv
      generalize lx s l = v at hv
      grind
  refine ⟨frT σ (-T) (D2 * psN (lc s) 8), ?_, ?_⟩
  · have e1 : (0 : Int64) = lI 0 := rfl
    have e2 : (1 : Int64) = lI ((1 : Nat) : Int) := rfl
    unfold fX11_laysLane
    rw [if_pos rfl, e1, e2, f1, ob, e0, t1, ob]
    simp only [r_many (fun l _ => lc_le hI l) k58, ob, f2]
    simp only [aL_n hl (by decide), ob, frT_L _ _ _ (show (57 : Nat) ≠ 49 by decide), frT_L _ _ _ (show (58 : Nat) ≠ 49 by decide), k57 l hl, k58 l hl, l2, f3]
  · exact frT_E (fun j k hc2 => by rw [t3]; exact (frT_E h.1.1 0 D2) j k hc2) _ _
