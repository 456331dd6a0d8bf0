/-! OWN: the class -/
def inW (s : Sg) (w i : Nat) : Bool := hasDV (tmr s i) && decide (swN s i = w)
def owN (s : Sg) (w : Nat) : Nat → Nat := cn (inW s w)
/-- over the scale -/
def owZ (s : Sg) (w : Nat) : Nat → Int := sZ (fun i => if inW s w i = true then dD s i * (lcN (lc s) 8 : Int) - scI (lc s) (lx s) (laN s i) else 0)
theorem e_ownLoop {s τ : Sg} {A B : Nat → Nat} (hI : Inv s) (h : SvQ s A B τ) {w : Nat} (hw : w < 24) : lpG (fX8_findOwn_L8 (nI w)) FU ((0 : Int64), (0 : Int32), (0 : Int32)) τ = some ((lI (owZ s w (nS s)), nI (owN s w (nS s))), τ) := by
  obtain ⟨hE, hv, ⟨s1, s2, s3, s4, s5⟩, -⟩ := h
  have a6 := hI.1.2.2.2.2.2
  have hI2 := inv_cg hE hI
  have a4 := hI2.1.2.2.2.1
  rw [eq_nS hE] at a4
  refine lp_rd (body := fX8_findOwn_L8 (nI w)) (nS s) (fun z => (lI (owZ s w z), nI (owN s w z), nI z)) (fun z hz => ?_) ?_ FU (by unfold FU; omega)
  · have c : ¬ gI τ 1 1 ≤ nI z := by rw [a4]; exact nI_ge hz (by omega)
    have z64 : z < 64 := by omega
    have hz2 : z < nS τ := by rw [eq_nS hE]; exact hz
    obtain ⟨b1, b2, b3, b4, b5, b6, b7, b8, b9⟩ := hI2.2.2.1 z hz2
    rw [eq_sw hE] at b4 b6
    rw [eq_la hE] at b7 b9
    obtain ⟨v20, v21⟩ := hv z hz
    have v12 : gL τ 12 (laN s z) = lI (scI (lc s) (lx s) (laN s z)) := s4 _ b9
    have eN : owN s w (z + 1) = owN s w z + (if inW s w z = true then 1 else 0) := rfl
    have eZ : owZ s w (z + 1) = owZ s w z + (if inW s w z = true then dD s z * (lcN (lc s) 8 : Int) - scI (lc s) (lx s) (laN s z) else 0) := rfl
    rw [eN, eZ]
    cases q : hasDV (tmr s z)
    · rw [q] at v20
      have e0 : ¬ inW s w z = true := by unfold inW; rw [q]; simp
      rw [if_neg e0, if_neg e0, Int.add_zero]
      simp only [fX8_findOwn_L8, if_neg c, aI_n z64 (by decide), ob, bd, v20, b2f, if_true, nI_1]
      rfl
    · rw [q] at v20
      by_cases g : swN s z = w
      · have e0 : inW s w z = true := by unfold inW; rw [q]; simp [g]
        have e21 : gI τ 21 z = dblD (tmr s z) := by rw [v21]; unfold dvI; rw [if_pos q]
        rw [g] at b4
        rw [if_pos e0, if_pos e0]
        simp only [fX8_findOwn_L8, if_neg c, aI_n z64 (by decide), aL_n b9 (by decide), ob, bd, v20, b2t, if_false, b4, if_true, e21, b7, v12, s2, i2l_I, lI_mul, lI_sub, lI_add, nI_1]
        rfl
      · have e0 : ¬ inW s w z = true := by unfold inW; simp [g]
        have c2 : ¬ nI (swN s z) = nI w := fun e => g (nI_inj (by omega) (by omega) e)
        rw [if_neg e0, if_neg e0, Int.add_zero]
        simp only [fX8_findOwn_L8, if_neg c, aI_n z64 (by decide), ob, bd, v20, b2t, if_false, b4, if_neg c2, nI_1]
        rfl
  · have c : gI τ 1 1 ≤ nI (nS s) := by rw [a4]; exact nI_le (Nat.le_refl _) (by omega)
    simp only [fX8_findOwn_L8, if_pos c]
