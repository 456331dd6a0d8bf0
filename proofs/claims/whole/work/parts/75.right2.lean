/-! RIGHT: both -/
theorem ps_sh {s : Sg} (hI : Inv s) {A B : Nat → Nat} (hS : ShOk (lc s) (lx s) A B) : psN (shC (lc s) A B) 8 = psN (lc s) 8 := by
  unfold psN
  refine cn_cg (fun l hl => ?_)
  by_cases q : 0 < lc s l
  · have := (bN_le (fit hI) hS hl q).2.1
    simp [shC, q, this]
  · simp [shC, q]
theorem sh_pos {s : Sg} (hI : Inv s) {A B : Nat → Nat} (hS : ShOk (lc s) (lx s) A B) {l : Nat} (hl : l < 8) : shC (lc s) A B l = 0 ↔ lc s l = 0 := by
  by_cases q : 0 < lc s l
  · have := (bN_le (fit hI) hS hl q).2.1
    rw [show shC (lc s) A B l = bN (lc s) A B l from if_pos q]
    omega
  · rw [show shC (lc s) A B l = 0 from if_neg q]
    omega
theorem l4 (n : Nat) : (4 : Int64) * lI (n : Int) = lI ((4 * n : Nat) : Int) := by rw [show (4 : Int64) = lI 4 from rfl, lI_mul]; rfl
theorem r_laysRight {s υ : Sg} {A B A2 B2 : Nat → Nat} (hI : Inv s) (hS : ShOk (lc s) (lx s) A B) (hN : NoFall (lc s) (lx s) A B) (h : RsQ s A2 B2 υ) {k : Nat} (hk : k < nS s) : ∃ τ, fX11_laysRight (nI k) υ = some τ ∧ Fr τ (rtZ s (shC (lc s) A B) (shS (lc s) (lx s) A B) k) (rtB (shC (lc s) A B)) ∧ gI τ = gI υ ∧ (∀ j, j ≠ 49 → gL τ j = gL υ j) := by
  have a6 := hI.1.2.2.2.2.2
  have k64 : k < 64 := by omega
  have hE : Eqv s υ := h.1.1
  obtain ⟨d1, d2, d3, d4, d5, d6, d7, d8, d9⟩ := hI.2.2.1 k hk
  have v54 : gI υ 54 k = nI (laN s k) := by rw [hE 54 k rfl]; exact d8
  have v58 : ∀ l, l < 8 → gL υ 58 l = lI (lc s l) := fun l hl => (h.1.2 l hl).1
  have v55 : gI υ 55 (4 * k) = tmr s k 0 := by rw [hE 55 _ rfl]; exact row55 hI hk (l := 0) (by decide)
  have e4 : (4 : Int32) * nI k = nI (4 * k) := by rw [show (4 : Int32) = nI 4 from rfl, pk_mul]
  have hR := rb_sh hI hS
  have hV := rv_of hI hS hN h
  have hB := rtB_b hR
  have htB := tB_b hI hR hk
  have hlc := lc_le hI (laN s k)
  have hps := ps_sh hI hS
  have hpos := sh_pos hI hS d9
  have hsc0 : ∀ l, l < 8 → lc s l = 0 → scI (shC (lc s) A B) (shS (lc s) (lx s) A B) l = 0 := fun l hl q => by
    have := (sh_pos hI hS hl).mpr q
    unfold scI
    rw [if_neg (by omega)]
  have htm := tmZ_b hI hk
  generalize shC (lc s) A B = C at *
  generalize shS (lc s) (lx s) A B = S at *
  have z0 : (0 : Int64) = lI 0 := rfl
  have z1 : (1 : Int64) = lI ((1 : Nat) : Int) := rfl
  have et : (tmr s k 0).toInt64 = lI (tmZ s k) := i2l_I _
  by_cases q : lc s (laN s k) = 0
  · have c : lg_cmp (lI ((0 : Nat) : Int)) (0 : Int64) = 0 := (cmp0 (by decide)).mpr rfl
    have v58' := v58 _ d9
    rw [q] at v58'
    have f1 : fX11_lays (lI (tmZ s k)) (lI ((1 : Nat) : Int)) υ = some (frT υ (rtZ s C S k) (rtB C)) := by
      rw [r_lays (by constructor <;> omega) (by decide) (by decide)]
      congr 1
      refine fr_cg (by decide) hB.1 ?_
      unfold rtZ rtM
      rw [if_pos (hpos.mpr q)]
      simp
    refine ⟨frT υ (rtZ s C S k) (rtB C), ?_, fr_T _ _ _, rfl, fun j hj => frT_L _ _ _ hj⟩
    simp only [fX11_laysRight, aI_n k64 (by decide), ob, v54, aL_n d9 (by decide), v58', if_pos c, e4, aI_n (show 4 * k < 256 by omega) (by decide), v55, et]
    rw [z1, f1, ob]
  · have qp : 0 < lc s (laN s k) := by omega
    have c : ¬ lg_cmp (lI (lc s (laN s k))) (0 : Int64) = 0 := fun e => q ((cmp0 (by omega)).mp e)
    have hpp : 0 < psN C 8 := by rw [hps]; exact ps_pos d9 qp
    have hR0 := hR
    obtain ⟨h1, h2, h3, h4, h5⟩ := hR
    have f1 : fX11_lays (lI 0) (lI ((1 : Nat) : Int)) υ = some (frT υ 0 (2 * lcN C 8)) := by
      rw [r_lays (by constructor <;> decide) (by decide) (by decide)]
      congr 1
      exact fr_cg (by decide) (by omega) (by simp)
    obtain ⟨σ, t1, t2, t3, t4⟩ := r_sumS hR0 (fun l _ => lc_le hI l) hsc0 (nI k) (nI (laN s k)) (σ := frT υ 0 (2 * lcN C 8)) (fun l hl => by rw [frT_L _ _ _ (by decide), v58 l hl]) (rv_cg hV (fun j hj => frT_L _ _ _ hj)) (fr_T _ _ _)
    have k58 : ∀ l, l < 8 → gL σ 58 l = lI (lc s l) := fun l hl => by rw [t4 58 (by decide), frT_L _ _ _ (by decide), v58 l hl]
    have hm := r_many (fun l _ => lc_le hI l) k58
    rw [← hps] at hm
    have hV2 : RV (lc s) C S (bS (lx s) A2 B2) (bN (lc s) A2 B2) σ := rv_cg hV (fun j hj => by rw [t4 j hj, frT_L _ _ _ hj])
    obtain ⟨v59, v60, g1, g2, g3, g4⟩ := hV2 _ d9 qp
    have hT := h5 8 (Nat.le_refl _)
    have hW := h4 _ d9
    have eB : rtB C = 4 * lcN C 8 * psN C 8 := if_neg (by omega)
    have eZ : rtZ s C S k = tmZ s k * ((4 * lcN C 8 * psN C 8 : Nat) : Int) - (psN C 8 * scI C S (laN s k) - sZ (scI C S) 8) := by
      unfold rtZ rtM
      rw [eB, if_neg (fun e => q (hpos.mp e))]
    rw [eZ, eB]
    rw [eB] at hB htB
    generalize sZ (scI C S) 8 = T at *
    generalize hDD : lcN C 8 = D at *
    generalize psN C 8 = P at *
    generalize scI C S (laN s k) = w at *
    generalize bS (lx s) A2 B2 (laN s k) = y at *
    generalize bN (lc s) A2 B2 (laN s k) = n at *
    have hb1 := lowB_pos (z := T) (show 0 < 2 * D by omega)
    have hb2 := lowB_le T (2 * D)
    have ha := lowA_abs T (2 * D)
    have hq1 : 0 < 2 * lowB T (2 * D) * P := Nat.mul_pos (by omega) hpp
    have hq2 : 2 * lowB T (2 * D) * P ≤ 400000000 * 8 := Nat.mul_le_mul (by omega) h1
    have f2 : fX11_lays (gL σ 49 13) ((2 : Int64) * gL σ 49 14 * (nI P).toInt64) σ = some (frT σ T (4 * D * P)) := by
      rw [t2.1, t2.2, nI_lI (by omega), l2, lI_mul, ← Int.natCast_mul, r_lays (by constructor <;> omega) hq1 (by omega)]
      congr 1
      refine fr_cg hq1 hB.1 ?_
      have := low_cross (z := T) (b := 2 * D)
      simp only [Int.natCast_mul] at this ⊢
      grind
    have f3 : fX11_adds (lI (-y)) (lI ((4 * n : Nat) : Int)) (frT σ T (4 * D * P)) = some (frT (frT σ T (4 * D * P)) (T - P * w) (4 * D * P)) := by
      refine r_adds3 (fr_T _ _ _) hB.1 (by omega) hB.1 ?_ ?_ ?_
      · have m1 := Nat.mul_le_mul hT (show 4 * n ≤ 256 by omega)
        have m2 := Nat.mul_le_mul (show (-y).natAbs ≤ 1279872 by omega) hB.2
        omega
      · have := Nat.mul_le_mul hB.2 (show 4 * n ≤ 256 by omega)
        omega
      · simp only [Int.natCast_mul]
        generalize (D : Int) = D' at *
        generalize (P : Int) = P' at *
        generalize (n : Int) = n' at *
        grind
    have hPw : ((P : Int) * w).natAbs ≤ 8 * 1999800000000 := by
      rw [Int.natAbs_mul, Int.natAbs_natCast]
      exact Nat.mul_le_mul h1 hW
    have f4 : ∀ ω, Fr ω (T - P * w) (4 * D * P) → fX11_adds (lI (tmZ s k)) (lI ((1 : Nat) : Int)) ω = some (frT ω (tmZ s k * ((4 * D * P : Nat) : Int) - (P * w - T)) (4 * D * P)) := by
      intro ω hω
      refine r_adds3 hω hB.1 (by decide) hB.1 ?_ ?_ ?_
      · have m2 := Nat.mul_le_mul (show (tmZ s k).natAbs ≤ 9999 by omega) hB.2
        omega
      · omega
      · simp only [Int.natCast_mul]
        generalize (D : Int) = D' at *
        generalize (P : Int) = P' at *
        grind
    have ha' : ∀ ω z b, fX11_adds z b ω = fX11_adds z b ω := fun _ _ _ => rfl
    refine ⟨frT (frT (frT σ T (4 * D * P)) (T - P * w) (4 * D * P)) (tmZ s k * ((4 * D * P : Nat) : Int) - (P * w - T)) (4 * D * P), ?_, fr_T _ _ _, ?_, fun j hj => ?_⟩
    · have v55' : gI (frT (frT σ T (4 * D * P)) (T - P * w) (4 * D * P)) 55 (4 * k) = tmr s k 0 := by rw [frT_I, frT_I, t3, frT_I, v55]
      unfold fX11_laysRight
      simp only [aI_n k64 (by decide), ob, v54, aL_n d9 (by decide), v58 _ d9, if_neg c]
      rw [z0, z1, f1, ob, t1, ob]
      simp only [hm, ob, f2, frT_L _ _ _ (show (59 : Nat) ≠ 49 by decide), frT_L _ _ _ (show (60 : Nat) ≠ 49 by decide), v59, v60, lI_neg, l4, f3, e4, aI_n (show 4 * k < 256 by omega) (by decide), v55', et, f4 _ (fr_T _ _ _)]
    · rw [frT_I, frT_I, frT_I, t3, frT_I]
    · rw [frT_L _ _ _ hj, frT_L _ _ _ hj, frT_L _ _ _ hj, t4 j hj, frT_L _ _ _ hj]
theorem all_right : ok_right Inv := by
  intro x p s hI
  have hA := hI.1
  cases h1 : hasW s x
  · exact ⟨-9223372036854775808 - (-2 : Int32).toInt64, s, s, by simp only [fX10_right, e_hasSwim, ob, h1, b2f, if_true, e_refusal], by simp only [fX11_right, r_isSwim hA, ob, h1, b2f, if_true, r_no], hI⟩
  · cases h3 : wi p 0 1
    · exact ⟨-9223372036854775808 - (-2 : Int32).toInt64, s, s, by simp only [fX10_right, e_hasSwim, e_isPart, ob, h1, h3, b2f, b2t, if_true, if_false, e_refusal], by simp only [fX11_right, r_isSwim hA, e_in, ob, h1, h3, b2f, b2t, if_true, if_false, r_no], hI⟩
    · obtain ⟨k, hk, rfl⟩ := hasW_n hA h1
      cases h4 : sgl s k
      · exact ⟨-9223372036854775808 - (-3 : Int32).toInt64, s, s, by simp only [fX10_right, e_hasSwim, e_isPart, e_isSingle hI hk, ob, h1, h3, h4, b2f, b2t, if_true, if_false, e_refusal], by simp only [fX11_right, r_isSwim hA, e_in, r_isSingle hI hk, ob, h1, h3, h4, b2f, b2t, if_true, if_false, r_no], hI⟩
      · have k64 : k < 64 := by have := hA.2.2.2.2.2; omega
        obtain ⟨τ, A, B, t1, t2⟩ := e_survey hI
        obtain ⟨υ, u1, u2, u3, u4⟩ := e_putRight hI t2
        have hR := rb_sh hI t2.2.2.2.1
        have hB := rtB_b hR
        have hZ := rtZ_b hI hR hk
        have v29 := u4.2 k hk
        rw [if_pos h4] at v29
        have hEu : Eqv s υ := fun j k hc => by rw [u2]; exact t2.1 j k hc
        have es := e_set (z := rtZ s (shC (lc s) A B) (shS (lc s) (lx s) A B) k) (b := rtB (shC (lc s) A B)) (by constructor <;> omega) hB.1 (by omega) υ
        have hE2 : Eqv s (sL (sL υ 48 0 (lI (lowA (rtZ s (shC (lc s) A B) (shS (lc s) (lx s) A B) k) (rtB (shC (lc s) A B))))) 48 1 (lI (lowB (rtZ s (shC (lc s) A B) (shS (lc s) (lx s) A B) k) (rtB (shC (lc s) A B))))) := (hEu.L _ _ _).L _ _ _
        have hI2 := inv_cg hE2 hI
        have hk2 : k < nS (sL (sL υ 48 0 (lI (lowA (rtZ s (shC (lc s) A B) (shS (lc s) (lx s) A B) k) (rtB (shC (lc s) A B))))) 48 1 (lI (lowB (rtZ s (shC (lc s) A B) (shS (lc s) (lx s) A B) k) (rtB (shC (lc s) A B))))) := by rw [eq_nS hE2]; exact hk
        obtain ⟨ω, A2, B2, w1, w2⟩ := r_laysShape hI2
        obtain ⟨ξ, x1, x2, x3, x4⟩ := r_laysRight hI t2.2.2.2.1 t2.2.2.2.2.1 (rsq_eq hE2 w2) hk
        have hsg : sgl (sL (sL υ 48 0 (lI (lowA (rtZ s (shC (lc s) A B) (shS (lc s) (lx s) A B) k) (rtB (shC (lc s) A B))))) 48 1 (lI (lowB (rtZ s (shC (lc s) A B) (shS (lc s) (lx s) A B) k) (rtB (shC (lc s) A B))))) k = true := by rw [eq_sgl hE2]; exact h4
        have hhw : hasW (sL (sL υ 48 0 (lI (lowA (rtZ s (shC (lc s) A B) (shS (lc s) (lx s) A B) k) (rtB (shC (lc s) A B))))) 48 1 (lI (lowB (rtZ s (shC (lc s) A B) (shS (lc s) (lx s) A B) k) (rtB (shC (lc s) A B))))) (nI k) = true := by unfold hasW; rw [hE2 1 1 rfl]; exact h1
        have ep := fun x => e_part x υ (lowA (rtZ s (shC (lc s) A B) (shS (lc s) (lx s) A B) k) (rtB (shC (lc s) A B))) (lowB (rtZ s (shC (lc s) A B) (shS (lc s) (lx s) A B) k) (rtB (shC (lc s) A B)))
        generalize hσ : sL (sL υ 48 0 (lI (lowA (rtZ s (shC (lc s) A B) (shS (lc s) (lx s) A B) k) (rtB (shC (lc s) A B))))) 48 1 (lI (lowB (rtZ s (shC (lc s) A B) (shS (lc s) (lx s) A B) k) (rtB (shC (lc s) A B)))) = σ at *
        have hEx : Eqv s ξ := fun j k hc => by rw [x3]; exact (rsq_eq hE2 w2).1.1 j k hc
        refine ⟨if p = 0 then lI (lowA (rtZ s (shC (lc s) A B) (shS (lc s) (lx s) A B) k) (rtB (shC (lc s) A B))) else lI (lowB (rtZ s (shC (lc s) A B) (shS (lc s) (lx s) A B) k) (rtB (shC (lc s) A B))), σ, ξ, ?_, ?_, inv_cg hEx hI⟩
        · simp only [fX10_right, e_hasSwim, e_isPart, e_isSingle hI hk, ob, h1, h3, h4, b2t, if_false, t1, u1, aL_n k64 (by decide), v29, u4.1, es, ep]
        · simp only [fX11_right, r_isSwim hI2.1, e_in, r_isSingle hI2 hk2, ob, hhw, h3, hsg, b2t, if_false, w1, x1, x2.1, x2.2]
          split <;> rfl
