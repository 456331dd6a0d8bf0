/-! OWN: the reference's loop -/
theorem r_ownLoop {s σ : Sg} (hI : Inv s) (h : RlP s (nS s) σ) (h0 : Fr σ 0 (2 * lcN (lc s) 8)) {w : Nat} (hw : w < 24) : ∃ τ, lpG (fX11_laysOwn_L14 (nI w)) FU ((0 : Int32), (0 : Int32)) σ = some (nI (owN s w (nS s)), τ) ∧ Fr τ (owZ s w (nS s)) (2 * lcN (lc s) 8) ∧ gI τ = gI σ ∧ (∀ j, j ≠ 49 → gL τ j = gL σ j) := by
  have a6 := hI.1.2.2.2.2.2
  have hD := lc_lcm8 hI
  have hp := lcN_pos (lc s) 8
  refine lp_ex (body := fX11_laysOwn_L14 (nI w)) (b := nI (owN s w (nS s))) (nS s) (fun z => (nI (owN s w z), nI z)) (fun z τ => Fr τ (owZ s w z) (2 * lcN (lc s) 8) ∧ gI τ = gI σ ∧ (∀ j, j ≠ 49 → gL τ j = gL σ j)) (fun z hz τ ⟨s1, s2, s3⟩ => ?_) (fun τ ⟨s1, s2, s3⟩ => ?_) FU (by unfold FU; omega) σ ⟨h0, rfl, fun _ _ => rfl⟩
  · have hE : Eqv s τ := fun j k hc => by rw [s2]; exact h.1 j k hc
    have hI2 := inv_cg hE hI
    have a5 := hI2.1.2.2.2.2.1
    rw [eq_nS hE] at a5
    have c : ¬ gI τ 49 3 ≤ nI z := by rw [a5]; exact nI_ge hz (by omega)
    have z64 : z < 64 := by omega
    have hz2 : z < nS τ := by rw [eq_nS hE]; exact hz
    obtain ⟨b1, b2, b3, b4, b5, b6, b7, b8, b9⟩ := hI2.2.2.1 z hz2
    rw [eq_sw hE] at b5 b6
    rw [eq_la hE] at b8 b9
    have hd : fX11_hasDiff (nI z) τ = some (b2i (hasDV (tmr s z)), τ) := by rw [r_hasDiff hI2 hz2, eq_tm hE]
    have ht : fX11_twiceDiff (nI z) τ = some (dblD (tmr s z), τ) := by rw [r_twiceDiff hI2 hz2, eq_tm hE]
    have v57 : gL τ 57 (laN s z) = lI (lx s (laN s z)) := by rw [s3 57 (by decide)]; exact (h.2 _ b9).2
    have v58 : gL τ 58 (laN s z) = lI (lc s (laN s z)) := by rw [s3 58 (by decide)]; exact (h.2 _ b9).1
    have eN : owN s w (z + 1) = owN s w z + (if inW s w z = true then 1 else 0) := rfl
    have eZ : owZ s w (z + 1) = owZ s w z + (if inW s w z = true then dD s z * (lcN (lc s) 8 : Int) - scI (lc s) (lx s) (laN s z) else 0) := rfl
    by_cases g : swN s z = w
    · rw [g] at b5
      cases q : hasDV (tmr s z)
      · have e0 : ¬ inW s w z = true := by unfold inW; rw [q]; simp
        refine ⟨τ, ?_, ?_, s2, s3⟩
        · rw [eN, if_neg e0]
          simp only [fX11_laysOwn_L14, if_neg c, aI_n z64 (by decide), ob, bd, b5, if_true, hd, q, b2f, nI_1]
          rfl
        · rw [eZ, if_neg e0, Int.add_zero]; exact s1
      · have e0 : inW s w z = true := by unfold inW; rw [q]; simp [g]
        have hcl : 0 < lc s (laN s z) := cn_pos hz (by unfold inL; rw [q]; simp)
        have hlc := lc_le hI (laN s z)
        have hx := lx_b hI (laN s z)
        have hdd := dD_b hI hz
        have hv := sc_val (S := lx s) b9 hcl
        obtain ⟨o1, o2⟩ := ow_b hI w z (by omega)
        have ea : fX11_adds (lI (dD s z * (lc s (laN s z) : Int) - lx s (laN s z))) (lI ((2 * lc s (laN s z) : Nat) : Int)) τ = some (frT τ (owZ s w (z + 1)) (2 * lcN (lc s) 8)) := by
          refine r_adds3 s1 (by omega) (by omega) (by omega) ?_ ?_ ?_
          · have k0 : (0 : Int) ≤ (lc s (laN s z) : Int) := by omega
            have p1 := Int.mul_le_mul_of_nonneg_right hdd.1 k0
            have p2 := Int.mul_le_mul_of_nonneg_right hdd.2 k0
            have n1 : (owZ s w z).natAbs ≤ 39996 * 100000000 * 64 := by omega
            have n2 : (dD s z * (lc s (laN s z) : Int) - lx s (laN s z)).natAbs ≤ 39996 * 64 := by omega
            have m1 := Nat.mul_le_mul n1 (show 2 * lc s (laN s z) ≤ 128 by omega)
            have m2 := Nat.mul_le_mul n2 (show 2 * lcN (lc s) 8 ≤ 200000000 by omega)
            omega
          · have := Nat.mul_le_mul (show 2 * lcN (lc s) 8 ≤ 200000000 by omega) (show 2 * lc s (laN s z) ≤ 128 by omega)
            omega
          · rw [eZ, if_pos e0]
            simp only [Int.natCast_mul]
            generalize ((lcN (lc s) 8 : Nat) : Int) = D at hv
            generalize ((lc s (laN s z) : Nat) : Int) = k at hv
            generalize scI (lc s) (lx s) (laN s z) = u at hv
            generalize lx s (laN s z) = v at hv
            generalize owZ s w z = Y
            generalize dD s z = d
            grind
        refine ⟨frT τ (owZ s w (z + 1)) (2 * lcN (lc s) 8), ?_, fr_T _ _ _, s2, fun j hj => by rw [frT_L _ _ _ hj, s3 j hj]⟩
        rw [eN, if_pos e0]
        have ed : (dblD (tmr s z)).toInt64 = lI (dD s z) := i2l_I _
        simp only [fX11_laysOwn_L14, if_neg c, aI_n z64 (by decide), aL_n b9 (by decide), ob, bd, b5, if_true, hd, q, b2t, if_false, b8, ht, v57, v58, ed, lI_mul, lI_sub, l2, ea, nI_1]
    · have e0 : ¬ inW s w z = true := by unfold inW; simp [g]
      have c2 : ¬ nI (swN s z) = nI w := fun e => g (nI_inj (by omega) (by omega) e)
      refine ⟨τ, ?_, ?_, s2, s3⟩
      · rw [eN, if_neg e0]
        simp only [fX11_laysOwn_L14, if_neg c, aI_n z64 (by decide), ob, bd, b5, if_neg c2, nI_1]
        rfl
      · rw [eZ, if_neg e0, Int.add_zero]; exact s1
  · have hE : Eqv s τ := fun j k hc => by rw [s2]; exact h.1 j k hc
    have a5 := (inv_cg hE hI).1.2.2.2.2.1
    rw [eq_nS hE] at a5
    have c : gI τ 49 3 ≤ nI (nS s) := by rw [a5]; exact nI_le (Nat.le_refl _) (by omega)
    simp only [fX11_laysOwn_L14, if_pos c]
