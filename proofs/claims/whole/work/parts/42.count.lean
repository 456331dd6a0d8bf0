/-! about, count -/
theorem all_about : ok_about Inv := by
  intro x y s hI
  have hA := hI.1
  cases h1 : hasW s x
  · exact ⟨-2, s, s, by simp only [fX10_about, e_hasSwim, ob, h1, b2f, if_true], by simp only [fX11_about, r_isSwim hA, ob, h1, b2f, if_true], hI⟩
  · obtain ⟨p, hp, rfl⟩ := hasW_n hA h1
    obtain ⟨w0, w1, w2, w3, w4, w5, w6, w7⟩ := sw_facts hI hp
    obtain ⟨b1, b2, b3, b4, b5, b6, b7, b8, b9⟩ := hI.2.2.1 p hp
    obtain ⟨r1, r2, r3, r4, r5, r6, r7⟩ := hI.2.1 (rcN s p) b3
    have E : fX10_about (nI p) y s = fX11_about (nI p) y s := by
      simp only [fX10_about, fX11_about, e_hasSwim, r_isSwim hA, ob, h1, b2t, if_false, aI_n w0 (by decide), w1, w2, aI_n w3 (by decide), b4, b5, b7, b8, r5, r6, e_lengthsOf hI hp, w5, e_feltIn w0, r_feltOf hI hp, e_togetherIn w0, r_totalOf hI hp]
    have V : ∃ r, fX11_about (nI p) y s = some (r, s) := by
      simp only [fX11_about, r_isSwim hA, ob, h1, b2t, if_false, aI_n w0 (by decide), w2, aI_n w3 (by decide), b5, b8, r6, w5, r_feltOf hI hp, r_totalOf hI hp]
      split
      · exact ⟨_, rfl⟩
      · split
        · exact ⟨_, rfl⟩
        · split
          · exact ⟨_, rfl⟩
          · split
            · exact ⟨_, rfl⟩
            · split
              · exact ⟨_, rfl⟩
              · split
                · exact ⟨_, rfl⟩
                · split
                  · split
                    · exact ⟨_, rfl⟩
                    · exact ⟨_, rfl⟩
                  · exact ⟨_, rfl⟩
    obtain ⟨r, hr⟩ := V
    exact ⟨r, s, s, by rw [E, hr], hr, hI⟩
/-- over all swims -/
theorem e_singlesInAll {s : Sg} (hI : Inv s) : fX3_singlesInAll s = some (accI (fun k => b2i (sgl s k)) (nS s), s) := by
  have a4 := hI.1.2.2.2.1
  have a6 := hI.1.2.2.2.2.2
  have hl : lpG fX3_singlesInAll_L4 FU ((0 : Int32), (0 : Int32)) s = some (accI (fun k => b2i (sgl s k)) (nS s), s) := by
    refine lp_rd (nS s) (fun z => (accI (fun k => b2i (sgl s k)) z, nI z)) (fun z hz => ?_) ?_ FU (by unfold FU; omega)
    · have c : ¬ gI s 1 1 ≤ nI z := by rw [a4]; exact nI_ge hz (by omega)
      simp only [fX3_singlesInAll_L4, if_neg c, e_isSingle hI hz, ob, bd, nI_1]
      rw [accI]
      cases h : sgl s z
      · simp only [b2f, if_true, ob]; rw [show b2i false = 0 from rfl, Int32.add_zero]
      · simp only [b2t, if_false, ob]; rfl
    · have c : gI s 1 1 ≤ nI (nS s) := by rw [a4]; exact nI_le (Nat.le_refl _) (by omega)
      simp only [fX3_singlesInAll_L4, if_pos c]
  simp only [fX3_singlesInAll, hl, ob]
theorem e_diffsInAll {s : Sg} (hI : Inv s) : fX3_diffsInAll s = some (accI (fun k => b2i (hasDV (tmr s k))) (nS s), s) := by
  have a4 := hI.1.2.2.2.1
  have a6 := hI.1.2.2.2.2.2
  have hl : lpG fX3_diffsInAll_L4 FU ((0 : Int32), (0 : Int32)) s = some (accI (fun k => b2i (hasDV (tmr s k))) (nS s), s) := by
    refine lp_rd (nS s) (fun z => (accI (fun k => b2i (hasDV (tmr s k))) z, nI z)) (fun z hz => ?_) ?_ FU (by unfold FU; omega)
    · have c : ¬ gI s 1 1 ≤ nI z := by rw [a4]; exact nI_ge hz (by omega)
      simp only [fX3_diffsInAll_L4, if_neg c, e_hasDiff (show z < 64 by omega), ob, bd, nI_1]
      rw [accI]
      cases h : hasDV (tmr s z)
      · simp only [b2f, if_true, ob]; rw [show b2i false = 0 from rfl, Int32.add_zero]
      · simp only [b2t, if_false, ob]; rfl
    · have c : gI s 1 1 ≤ nI (nS s) := by rw [a4]; exact nI_le (Nat.le_refl _) (by omega)
      simp only [fX3_diffsInAll_L4, if_pos c]
  simp only [fX3_diffsInAll, hl, ob]
theorem e_togetherInAll {s : Sg} (hI : Inv s) : fX3_togetherInAll s = some (accI (fun k => totV (tmr s k)) (nS s), s) := by
  have a4 := hI.1.2.2.2.1
  have a6 := hI.1.2.2.2.2.2
  have hl : lpG fX3_togetherInAll_L4 FU ((0 : Int32), (0 : Int32)) s = some (accI (fun k => totV (tmr s k)) (nS s), s) := by
    refine lp_rd (nS s) (fun z => (accI (fun k => totV (tmr s k)) z, nI z)) (fun z hz => ?_) ?_ FU (by unfold FU; omega)
    · have c : ¬ gI s 1 1 ≤ nI z := by rw [a4]; exact nI_ge hz (by omega)
      simp only [fX3_togetherInAll_L4, if_neg c, e_togetherIn (show z < 64 by omega), ob, bd, nI_1]
      rfl
    · have c : gI s 1 1 ≤ nI (nS s) := by rw [a4]; exact nI_le (Nat.le_refl _) (by omega)
      simp only [fX3_togetherInAll_L4, if_pos c]
  simp only [fX3_togetherInAll, hl, ob]
/-- which swims a race (or -1) has -/
def inRc (s : Sg) (x : Int32) (k : Nat) : Bool := decide (x = -1) || decide (gI s 4 k = x)
theorem e_feltInRace {s : Sg} (hI : Inv s) (x : Int32) : fX3_feltInRace x s = some (accI (fun k => if inRc s x k = true then feltV (tmr s k) else 0) (nS s), s) := by
  have a4 := hI.1.2.2.2.1
  have a6 := hI.1.2.2.2.2.2
  have hl : lpG (fX3_feltInRace_L4 x) FU ((0 : Int32), (0 : Int32)) s = some (accI (fun k => if inRc s x k = true then feltV (tmr s k) else 0) (nS s), s) := by
    refine lp_rd (nS s) (fun z => (accI (fun k => if inRc s x k = true then feltV (tmr s k) else 0) z, nI z)) (fun z hz => ?_) ?_ FU (by unfold FU; omega)
    · have c : ¬ gI s 1 1 ≤ nI z := by rw [a4]; exact nI_ge hz (by omega)
      have h64 : z < 64 := by omega
      simp only [fX3_feltInRace_L4, if_neg c, e_feltIn h64, aI_n h64 (by decide), ob, bd, nI_1]
      rw [accI]
      unfold inRc
      by_cases q1 : x = -1
      · simp [q1, ob]
      · by_cases q2 : gI s 4 z = x
        · simp [q1, q2, ob]
        · simp [q1, q2, ob]
    · have c : gI s 1 1 ≤ nI (nS s) := by rw [a4]; exact nI_le (Nat.le_refl _) (by omega)
      simp only [fX3_feltInRace_L4, if_pos c]
  simp only [fX3_feltInRace, hl, ob]
def cntV (s : Sg) (w : Int32) (k : Nat) : Int32 := if w = 2 then b2i (sgl s k) else if w = 3 then b2i (hasDV (tmr s k)) else if w = 4 then feltV (tmr s k) else totV (tmr s k)
theorem r_countNow {s : Sg} (hI : Inv s) (w : Int32) : fX11_countNow w s = some (accI (cntV s w) (nS s), s) := by
  have a5 := hI.1.2.2.2.2.1
  have a6 := hI.1.2.2.2.2.2
  have hl : lpG (fX11_countNow_L4 w) FU ((0 : Int32), (0 : Int32)) s = some (accI (cntV s w) (nS s), s) := by
    refine lp_rd (nS s) (fun z => (accI (cntV s w) z, nI z)) (fun z hz => ?_) ?_ FU (by unfold FU; omega)
    · have c : ¬ gI s 49 3 ≤ nI z := by rw [a5]; exact nI_ge hz (by omega)
      simp only [fX11_countNow_L4, if_neg c, r_isSingle hI hz, r_hasDiff hI hz, r_feltOf hI hz, r_totalOf hI hz, ob, bd, nI_1]
      rw [accI]
      unfold cntV
      by_cases q2 : w = 2
      · simp only [if_pos q2]
        cases h : sgl s z
        · simp only [b2f, if_true, ob]; rfl
        · simp only [b2t, if_false, ob]; rfl
      · simp only [if_neg q2]
        by_cases q3 : w = 3
        · simp only [if_pos q3]
          cases h : hasDV (tmr s z)
          · simp only [b2f, if_true, ob]; rfl
          · simp only [b2t, if_false, ob]; rfl
        · simp only [if_neg q3]
          by_cases q4 : w = 4
          · simp only [if_pos q4, ob]
          · simp only [if_neg q4, ob]
    · have c : gI s 49 3 ≤ nI (nS s) := by rw [a5]; exact nI_le (Nat.le_refl _) (by omega)
      simp only [fX11_countNow_L4, if_pos c]
  simp only [fX11_countNow, hl, ob]
/-- what count answers -/
def cntA (s : Sg) (w : Int32) : Int32 := if w = 0 then nI (nR s) else if w = 1 then nI (nS s) else if w = 2 then accI (fun k => b2i (sgl s k)) (nS s) else if w = 3 then accI (fun k => b2i (hasDV (tmr s k))) (nS s) else if w = 4 then accI (fun k => feltV (tmr s k)) (nS s) else if w = 5 then nI (t0N s) else if w = 6 then nI (t1N s) else if w = 7 then accI (fun k => totV (tmr s k)) (nS s) else if w = 8 then gI s 0 9 else -2
theorem aR20 : aR 2 (0 : Int32) = some 0 := rfl
theorem aR21 : aR 2 (1 : Int32) = some 1 := rfl
theorem e_count {s : Sg} (hI : Inv s) (w : Int32) : fX10_count w s = some (cntA s w, s) := by
  obtain ⟨a1, a2, a3, a4, a5, a6⟩ := hI.1
  obtain ⟨x1, x2, x3, x4, x5, x6, x7, x8⟩ := hI.2.2.2.2.2.2.1
  have e4 : accI (fun k => if inRc s (-1) k = true then feltV (tmr s k) else 0) (nS s) = accI (fun k => feltV (tmr s k)) (nS s) := accI_cg (fun k _ => by simp [inRc])
  simp only [fX10_count, e_singlesInAll hI, e_diffsInAll hI, e_feltInRace hI, e_togetherInAll hI, ob, aR20, aR21, rix0, a1, a4, e4]
  unfold cntA
  split
  · rfl
  · split
    · rfl
    · split
      · rfl
      · split
        · rfl
        · split
          · rfl
          · split
            · rw [show (30 + 2 * 0 : Nat) = 30 from rfl, x1]
            · split
              · rw [show (30 + 2 * 1 : Nat) = 32 from rfl, x4]
              · split
                · rfl
                · split <;> rfl
theorem r_count {s : Sg} (hI : Inv s) (w : Int32) : fX11_count w s = some (cntA s w, s) := by
  obtain ⟨a1, a2, a3, a4, a5, a6⟩ := hI.1
  obtain ⟨x1, x2, x3, x4, x5, x6, x7, x8⟩ := hI.2.2.2.2.2.2.1
  have hF : gI s 49 33 = gI s 0 9 := hI.2.2.2.2.2.2.2.2
  simp only [fX11_count, r_countNow hI, ob, a2, a5, hF]
  unfold cntA
  by_cases q0 : w = 0
  · simp only [if_pos q0]
  · by_cases q1 : w = 1
    · simp only [if_neg q0, if_pos q1]
    · by_cases q2 : w = 2
      · subst q2; rfl
      · by_cases q3 : w = 3
        · subst q3; rfl
        · by_cases q4 : w = 4
          · subst q4; rfl
          · by_cases q5 : w = 5
            · subst q5
              have : aI s 66 2 ((5 : Int32) - 5) = some (nI (t0N s)) := by rw [show (5 : Int32) - 5 = nI 0 from rfl, aI_n (by decide) (by decide), x2]
              simp only [this, ob]; rfl
            · by_cases q6 : w = 6
              · subst q6
                have : aI s 66 2 ((6 : Int32) - 5) = some (nI (t1N s)) := by rw [show (6 : Int32) - 5 = nI 1 from rfl, aI_n (by decide) (by decide), x5]
                simp only [this, ob]; rfl
              · by_cases q7 : w = 7
                · subst q7; rfl
                · by_cases q8 : w = 8
                  · subst q8; rfl
                  · simp only [if_neg q0, if_neg q1, if_neg q2, if_neg q3, if_neg q4, if_neg q5, if_neg q6, if_neg q7, if_neg q8]
theorem all_count : ok_count Inv := fun x s hI => ⟨cntA s x, s, s, e_count hI x, r_count hI x, hI⟩
