/-! LEVELS: counts and sums of the lanes, in both -/
/-- a swim that counts for a lane -/
def inL (s : Sg) (l i : Nat) : Bool := hasDV (tmr s i) && decide (laN s i = l)
def ctN (s : Sg) (l : Nat) : Nat → Nat := cn (inL s l)
def smZ (s : Sg) (l : Nat) : Nat → Int := sZ (fun i => if inL s l i = true then dD s i else 0)
theorem eq_inL {s t : Sg} (h : Eqv s t) : inL t = inL s := by funext l i; unfold inL; rw [eq_tm h, eq_la h]
theorem eq_ct {s t : Sg} (h : Eqv s t) : ctN t = ctN s := by funext l; unfold ctN; rw [eq_inL h]
theorem eq_sm {s t : Sg} (h : Eqv s t) : smZ t = smZ s := by funext l; unfold smZ; rw [eq_inL h, eq_dD h]
def dvI (s : Sg) (i : Nat) : Int32 := if hasDV (tmr s i) = true then dblD (tmr s i) else 0
/-- behind k swims -/
def SvP (s : Sg) (k : Nat) (τ : Sg) : Prop := Eqv s τ ∧ (∀ i, i < k → gI τ 20 i = b2i (hasDV (tmr s i)) ∧ gI τ 21 i = dvI s i) ∧ (∀ l, l < 8 → gI τ 10 l = nI (ctN s l k) ∧ gL τ 11 l = lI (smZ s l k))
theorem e_svLoop {s : Sg} (hI : Inv s) {σ : Sg} (h0 : SvP s 0 σ) : ∃ τ, lpG fX8_survey_L9 FU (0 : Int32) σ = some ((), τ) ∧ SvP s (nS s) τ := by
  have a6 := hI.1.2.2.2.2.2
  refine lp_ex (body := fX8_survey_L9) (b := ()) (nS s) (fun z => nI z) (SvP s) (fun z hz τ ⟨hE, p1, p2⟩ => ?_) (fun τ ⟨hE, _, _⟩ => ?_) FU (by unfold FU; omega) σ h0
  · have hI2 := inv_cg hE hI
    have a4 := hI2.1.2.2.2.1
    rw [eq_nS hE] at a4
    have c : ¬ gI τ 1 1 ≤ nI z := by rw [a4]; exact nI_ge hz (by omega)
    have hz2 : z < nS τ := by rw [eq_nS hE]; exact hz
    have z64 : z < 64 := by omega
    obtain ⟨b1, b2, b3, b4, b5, b6, b7, b8, b9⟩ := hI2.2.2.1 z hz2
    rw [eq_la hE] at b7 b9
    have hD : ∀ υ, Eqv s υ → fX3_doubledDiff (nI z) υ = some (dblD (tmr s z), υ) := fun υ h => by rw [e_doubledDiff z64, eq_tm h]
    have hl8 : laN s z < 8 := by omega
    cases q : hasDV (tmr s z)
    · refine ⟨sI (sI τ 20 z (b2i false)) 21 z 0, ?_, ?_, ?_, ?_⟩
      · have e1 : gI (sI (sI τ 20 z (b2i false)) 21 z 0) 20 z = 0 := by rw [gI_ne _ _ (Or.inl (by decide)), gI_same]; rfl
        simp only [fX8_survey_L9, if_neg c, e_hasDiff z64, eq_tm hE, q, ob, bd, wZ_n z64 (by decide), aI_n z64 (by decide), gI_same, b2f, if_true, wI_n z64 (by decide), e1, nI_1]
      · exact (hE.I _ (core_lv (by decide) (by decide) _)).I _ (core_lv (by decide) (by decide) _)
      · intro i hi
        rw [gI_set, gI_set, gI_set, gI_set]
        by_cases e : i = z
        · subst e; simp [q, dvI]
        · have := p1 i (by omega); simp [e, this]
      · intro l hl
        rw [gI_ne _ _ (Or.inl (by decide)), gI_ne _ _ (Or.inl (by decide)), gL_sI, gL_sI, (p2 l hl).1, (p2 l hl).2]
        have e0 : inL s l z = false := by unfold inL; rw [q]; rfl
        constructor
        · unfold ctN; rw [cn, if_neg (by rw [e0]; decide)]; rfl
        · unfold smZ; rw [sZ, if_neg (by rw [e0]; decide), Int.add_zero]
    · generalize hυ : sI (sI τ 20 z (b2i true)) 21 z (dblD (tmr s z)) = υ
      have hE2 : Eqv s (sI τ 20 z (b2i true)) := hE.I _ (core_lv (by decide) (by decide) _)
      have hE3 : Eqv s υ := by rw [← hυ]; exact hE2.I _ (core_lv (by decide) (by decide) _)
      have u20 : gI υ 20 z = b2i true := by rw [← hυ, gI_ne _ _ (Or.inl (by decide)), gI_same]
      have u21 : gI υ 21 z = dblD (tmr s z) := by rw [← hυ, gI_same]
      have u6 : gI υ 6 z = nI (laN s z) := by rw [hE3 6 z rfl, ← hE 6 z rfl, b7]
      have u10 : ∀ l, l < 8 → gI υ 10 l = nI (ctN s l z) := fun l hl => by rw [← hυ, gI_ne _ _ (Or.inl (by decide)), gI_ne _ _ (Or.inl (by decide)), (p2 l hl).1]
      have u11 : ∀ l, l < 8 → gL υ 11 l = lI (smZ s l z) := fun l hl => by rw [← hυ, gL_sI, gL_sI, (p2 l hl).2]
      have eI : inL s (laN s z) z = true := by unfold inL; rw [q]; simp
      refine ⟨sL (sI υ 10 (laN s z) (nI (ctN s (laN s z) (z + 1)))) 11 (laN s z) (lI (smZ s (laN s z) (z + 1))), ?_, ?_, ?_, ?_⟩
      · have e2 : ∀ v, gI (sI υ 10 (laN s z) v) 6 z = nI (laN s z) := fun v => by rw [gI_ne _ _ (Or.inl (by decide)), u6]
        have e3 : ∀ v, gI (sI υ 10 (laN s z) v) 21 z = dblD (tmr s z) := fun v => by rw [gI_ne _ _ (Or.inl (by decide)), u21]
        simp only [fX8_survey_L9, if_neg c, e_hasDiff z64, eq_tm hE, q, ob, bd, wZ_n z64 (by decide), aI_n z64 (by decide), gI_same, b2t, if_false, hD _ hE2, wI_n z64 (by decide), hυ, u20, u6, aI_n hl8 (by decide), u10 _ hl8, wI_n hl8 (by decide), e2, aL_n hl8 (by decide), gL_sI, u11 _ hl8, e3, wL_n hl8 (by decide), nI_1, i2l_I, lI_add]
        rw [show ctN s (laN s z) (z + 1) = ctN s (laN s z) z + 1 by unfold ctN; rw [cn, if_pos eI], show smZ s (laN s z) (z + 1) = smZ s (laN s z) z + (dblD (tmr s z)).toInt by unfold smZ; rw [sZ, if_pos eI]; rfl]
      · exact (hE3.I _ (core_lv (by decide) (by decide) _)).L _ _ _
      · intro i hi
        rw [gI_sL, gI_ne _ _ (Or.inl (by decide)), gI_ne _ _ (Or.inl (by decide))]
        by_cases e : i = z
        · subst e; rw [u20, u21, q]; simp [dvI, q]
        · rw [← hυ, gI_set, gI_set, gI_set, gI_set]
          have := p1 i (by omega); simp [e, this]
      · intro l hl
        rw [gI_sL, gI_set, gL_set, gL_sI]
        by_cases e : l = laN s z
        · subst e; simp
        · simp only [e, and_false, if_false]
          have e0 : inL s l z = false := by unfold inL; simp [Ne.symm e]
          rw [u10 l hl, u11 l hl]
          constructor
          · unfold ctN; rw [cn, if_neg (by rw [e0]; decide)]; rfl
          · unfold smZ; rw [sZ, if_neg (by rw [e0]; decide), Int.add_zero]
  · have a4 := (inv_cg hE hI).1.2.2.2.1
    rw [eq_nS hE] at a4
    have c : gI τ 1 1 ≤ nI (nS s) := by rw [a4]; exact nI_le (Nat.le_refl _) (by omega)
    simp only [fX8_survey_L9, if_pos c]
/-- the reference's lanes -/
def RlP (s : Sg) (k : Nat) (τ : Sg) : Prop := Eqv s τ ∧ (∀ l, l < 8 → gL τ 58 l = lI (ctN s l k) ∧ gL τ 57 l = lI (smZ s l k))
theorem r_laysLanes {s : Sg} (hI : Inv s) : ∃ τ, fX11_laysLanes s = some τ ∧ RlP s (nS s) τ := by
  have a6 := hI.1.2.2.2.2.2
  obtain ⟨υ, k1, k2, k3⟩ := lp_ex (body := fX11_laysLanes_L2) (b := ()) 8 (fun z => nI z) (fun z τ => Eqv s τ ∧ ∀ l, l < z → gL τ 58 l = 0 ∧ gL τ 57 l = 0) (fun z hz τ ⟨hE, p1⟩ => by
      have c8 : ¬ (8 : Int32) ≤ nI z := nI_ge (b := 8) hz (by decide)
      refine ⟨sL (sL τ 57 z 0) 58 z 0, ?_, ?_, ?_⟩
      · simp only [fX11_laysLanes_L2, if_neg c8, wL_n hz (by decide), ob, bd, nI_1]
      · exact (hE.L _ _ _).L _ _ _
      · intro l hl
        rw [gL_set, gL_set, gL_set, gL_set]
        by_cases e : l = z
        · subst e; simp
        · have := p1 l (by omega); simp [e, this]) (fun τ _ => by
      have c8 : (8 : Int32) ≤ nI 8 := by decide
      simp only [fX11_laysLanes_L2, if_pos c8]) FU (by decide) s ⟨Eqv.rf s, fun l hl => by omega⟩
  obtain ⟨ω, m1, m2⟩ : ∃ τ, lpG fX11_laysLanes_L30 FU (0 : Int32) υ = some ((), τ) ∧ RlP s (nS s) τ := by
    refine lp_ex (body := fX11_laysLanes_L30) (b := ()) (nS s) (fun z => nI z) (RlP s) (fun z hz τ ⟨hE, p2⟩ => ?_) (fun τ ⟨hE, _⟩ => ?_) FU (by unfold FU; omega) υ ⟨k2, fun l hl => ⟨(k3 l hl).1, (k3 l hl).2⟩⟩
    · have hI2 := inv_cg hE hI
      have a5 := hI2.1.2.2.2.2.1
      rw [eq_nS hE] at a5
      have c : ¬ gI τ 49 3 ≤ nI z := by rw [a5]; exact nI_ge hz (by omega)
      have hz2 : z < nS τ := by rw [eq_nS hE]; exact hz
      have z64 : z < 64 := by omega
      obtain ⟨b1, b2, b3, b4, b5, b6, b7, b8, b9⟩ := hI2.2.2.1 z hz2
      rw [eq_la hE] at b8 b9
      have hl8 : laN s z < 8 := by omega
      have hd : fX11_hasDiff (nI z) τ = some (b2i (hasDV (tmr s z)), τ) := by rw [r_hasDiff hI2 hz2, eq_tm hE]
      cases q : hasDV (tmr s z)
      · refine ⟨τ, ?_, hE, ?_⟩
        · simp only [fX11_laysLanes_L30, if_neg c, hd, q, ob, bd, b2f, if_true, nI_1]
        · intro l hl
          rw [(p2 l hl).1, (p2 l hl).2]
          have e0 : inL s l z = false := by unfold inL; rw [q]; rfl
          constructor
          · unfold ctN; rw [cn, if_neg (by rw [e0]; decide)]; rfl
          · unfold smZ; rw [sZ, if_neg (by rw [e0]; decide), Int.add_zero]
      · have eI : inL s (laN s z) z = true := by unfold inL; rw [q]; simp
        have ht : fX11_twiceDiff (nI z) τ = some (dblD (tmr s z), τ) := by rw [r_twiceDiff hI2 hz2, eq_tm hE]
        refine ⟨sL (sL τ 57 (laN s z) (lI (smZ s (laN s z) (z + 1)))) 58 (laN s z) (lI (ctN s (laN s z) (z + 1))), ?_, ?_, ?_⟩
        · have e4 : ∀ v, gL (sL τ 57 (laN s z) v) 58 (laN s z) = lI (ctN s (laN s z) z) := fun v => by rw [gL_ne _ _ (Or.inl (by decide)), (p2 _ hl8).1]
          simp only [fX11_laysLanes_L30, if_neg c, hd, q, ob, bd, b2t, if_false, aI_n z64 (by decide), b8, aL_n hl8 (by decide), ht, (p2 _ hl8).2, wL_n hl8 (by decide), gI_sL, e4, nI_1, i2l_I, lI_add, show (1 : Int64) = lI 1 from rfl]
          rw [show ctN s (laN s z) (z + 1) = ctN s (laN s z) z + 1 by unfold ctN; rw [cn, if_pos eI], show smZ s (laN s z) (z + 1) = smZ s (laN s z) z + (dblD (tmr s z)).toInt by unfold smZ; rw [sZ, if_pos eI]; rfl]
          rfl
        · exact (hE.L _ _ _).L _ _ _
        · intro l hl
          rw [gL_set, gL_set, gL_set, gL_set]
          by_cases e : l = laN s z
          · subst e; simp
          · have e0 : inL s l z = false := by unfold inL; simp [Ne.symm e]
            have := p2 l hl
            simp only [e, and_false, if_false, this]
            constructor
            · unfold ctN; rw [cn, if_neg (by rw [e0]; decide)]; rfl
            · unfold smZ; rw [sZ, if_neg (by rw [e0]; decide), Int.add_zero]
    · have a5 := (inv_cg hE hI).1.2.2.2.2.1
      rw [eq_nS hE] at a5
      have c : gI τ 49 3 ≤ nI (nS s) := by rw [a5]; exact nI_le (Nat.le_refl _) (by omega)
      simp only [fX11_laysLanes_L30, if_pos c]
  refine ⟨ω, ?_, m2⟩
  unfold fX11_laysLanes
  rw [show (0 : Int32) = nI 0 from rfl] at m1 ⊢
  rw [k1, ob]
  show (lpG fX11_laysLanes_L30 FU (nI 0) υ).bind _ = _
  rw [m1, ob]
