/-! LANE: both -/
theorem all_lane : ok_lane Inv := by
  intro x y p s hI
  cases h1 : wi x 0 7
  · exact ⟨-9223372036854775808 - (-2 : Int32).toInt64, s, s, by simp only [fX10_lane, e_isLane, ob, h1, b2f, if_true, e_refusal], by simp only [fX11_lane, r_isLane, ob, h1, b2f, if_true, r_no], hI⟩
  · cases h2 : wi y 0 2
    · exact ⟨-9223372036854775808 - (-2 : Int32).toInt64, s, s, by simp only [fX10_lane, e_isLane, e_within, ob, h1, h2, b2f, b2t, if_true, if_false, e_refusal], by simp only [fX11_lane, r_isLane, e_in, ob, h1, h2, b2f, b2t, if_true, if_false, r_no], hI⟩
    · cases h3 : wi p 0 1
      · exact ⟨-9223372036854775808 - (-2 : Int32).toInt64, s, s, by simp only [fX10_lane, e_isLane, e_within, e_isPart, ob, h1, h2, h3, b2f, b2t, if_true, if_false, e_refusal], by simp only [fX11_lane, r_isLane, e_in, ob, h1, h2, h3, b2f, b2t, if_true, if_false, r_no], hI⟩
      · obtain ⟨l, hl, rfl⟩ := wi_nat (n := 7) rfl (by decide) h1
        have hl8 : l < 8 := by omega
        obtain ⟨τ, A, B, t1, t2⟩ := e_survey hI
        have hE := t2.1
        have hlc := lc_le hI l
        by_cases hc : 0 < lc s l
        · -- both have it
          have key : ∃ (r : Int64) (t : Sg), fX10_ofLane (nI l) y p τ = some (r, t) ∧ Eqv s t ∧ ∀ (u υ : Sg) (A2 B2 : Nat → Nat), Inv u → Eqv s u → RsQ u A2 B2 υ → ∃ ω, fX11_laysLane (nI l) y υ = some ω ∧ Eqv u ω ∧ r = (if p = 0 then gL ω 49 13 else gL ω 49 14) := by
            obtain ⟨w, hw, rfl⟩ := wi_nat (n := 2) rfl (by decide) h2
            rcases (show w = 0 ∨ w = 1 ∨ w = 2 by omega) with rfl | rfl | rfl
            · obtain ⟨t, e1, e2⟩ := e_lane0 hI t2 hl8 hc p
              refine ⟨_, t, e1, e2, fun u υ A2 B2 hu hEu hR => ?_⟩
              have := r_lane0 hu hR hl8 (by rw [eq_lc hEu]; exact hc)
              rw [eq_lc hEu, eq_lx hEu] at this
              exact ⟨_, this, frT_E hR.1.1 _ _, by rw [fr_sh.1, fr_sh.2]⟩
            · obtain ⟨t, e1, e2⟩ := e_lane1 hI t2 hl8 hc p
              refine ⟨_, t, e1, e2, fun u υ A2 B2 hu hEu hR => ?_⟩
              obtain ⟨ω, this, hEw⟩ := r_lane1 hu hR hl8 (by rw [eq_lc hEu]; exact hc)
              rw [eq_lc hEu, eq_lx hEu] at this
              exact ⟨_, this, frT_E hEw _ _, by rw [fr_sh.1, fr_sh.2]⟩
            · obtain ⟨t, e1, e2⟩ := e_lane2 hI t2 hl8 hc p
              refine ⟨_, t, e1, e2, fun u υ A2 B2 hu hEu hR => ?_⟩
              have := r_lane2 (A := A) (B := B) hu (by rw [eq_lc hEu, eq_lx hEu]; exact t2.2.2.2.1) (by rw [eq_lc hEu, eq_lx hEu]; exact t2.2.2.2.2.1) hR hl8 (by rw [eq_lc hEu]; exact hc)
              rw [eq_lc hEu, eq_lx hEu] at this
              exact ⟨_, this, frT_E hR.1.1 _ _, by rw [fr_sh.1, fr_sh.2]⟩
          obtain ⟨r, t, k1, k2, k3⟩ := key
          have hIt := inv_cg k2 hI
          obtain ⟨υ, A2, B2, u1, u2⟩ := r_laysShape hIt
          obtain ⟨ω, m1, m2, m3⟩ := k3 t υ A2 B2 hIt k2 u2
          have v58 : gL υ 58 l = lI (lc s l) := by rw [← eq_lc k2]; exact (u2.1.2 l hl8).1
          have cc : ¬ lg_cmp (lI (lc s l)) (0 : Int64) = 0 := fun e => by
            have := (cmp0 (show lc s l < 2 ^ 62 by omega)).mp e
            omega
          refine ⟨r, t, ω, ?_, ?_, inv_cg m2 hIt⟩
          · simp only [fX10_lane, e_isLane, e_within, e_isPart, ob, h1, h2, h3, b2t, if_false, t1, k1]
          · simp only [fX11_lane, fX11_laneNow, r_isLane, e_in, ob, h1, h2, h3, b2t, if_false, u1, aL_n hl8 (by decide), v58, if_neg cc, m1]
            rw [m3]
            split <;> rfl
        · have q0 : lc s l = 0 := by omega
          have v10 : gI τ 10 l = 0 := by
            have : gI τ 10 l = nI (lc s l) := t2.2.2.1.2.2.2.2 l hl8
            rw [this, q0]; rfl
          have hIt := inv_cg hE hI
          obtain ⟨υ, A2, B2, u1, u2⟩ := r_laysShape hIt
          have v58 : gL υ 58 l = lI ((0 : Nat) : Int) := by
            have : gL υ 58 l = lI (lc s l) := by rw [← eq_lc hE]; exact (u2.1.2 l hl8).1
            rw [this, q0]
          have cc : lg_cmp (lI ((0 : Nat) : Int)) (0 : Int64) = 0 := (cmp0 (by decide)).mpr rfl
          refine ⟨-9223372036854775808 - (-3 : Int32).toInt64, τ, υ, ?_, ?_, inv_cg u2.1.1 hIt⟩
          · simp only [fX10_lane, e_isLane, e_within, e_isPart, ob, h1, h2, h3, b2t, if_false, t1, fX10_ofLane, aI_n hl8 (by decide), v10, if_true, e_refusal]
          · simp only [fX11_lane, fX11_laneNow, r_isLane, e_in, ob, h1, h2, h3, b2t, if_false, u1, aL_n hl8 (by decide), v58, if_pos cc, r_no]
