/-! PLACE, MEDALS: both -/
theorem all_place : ok_place Inv := by
  intro x p s hI
  have hA := hI.1
  cases h1 : hasW s x
  · exact ⟨-2, s, s, by simp only [fX10_place, e_hasSwim, ob, h1, b2f, if_true], by simp only [fX11_place, r_isSwim hA, ob, h1, b2f, if_true], hI⟩
  · cases h3 : wi p 0 1
    · exact ⟨-2, s, s, by simp only [fX10_place, e_hasSwim, e_isPart, ob, h1, h3, b2f, b2t, if_true, if_false], by simp only [fX11_place, r_isSwim hA, e_in, ob, h1, h3, b2f, b2t, if_true, if_false], hI⟩
    · obtain ⟨k, hk, rfl⟩ := hasW_n hA h1
      cases h4 : sgl s k
      · exact ⟨-3, s, s, by simp only [fX10_place, e_hasSwim, e_isPart, e_isSingle hI hk, ob, h1, h3, h4, b2f, b2t, if_true, if_false], by simp only [fX11_place, r_isSwim hA, e_in, r_isSingle hI hk, ob, h1, h3, h4, b2f, b2t, if_true, if_false], hI⟩
      · obtain ⟨τ, A, B, t1, t2⟩ := e_survey hI
        obtain ⟨υ, u1, u2, u3, u4⟩ := e_putRight hI t2
        have hR := rb_sh hI t2.2.2.2.1
        have hE : Eqv s υ := fun j k hc => by rw [u2]; exact t2.1 j k hc
        have hI2 := inv_cg hE hI
        have hk2 : k < nS υ := by rw [eq_nS hE]; exact hk
        obtain ⟨ω, w1, w2⟩ := r_placeNow hI hE t2.2.2.2.1 t2.2.2.2.2.1 p hk
        have hsg : sgl υ k = true := by rw [eq_sgl hE]; exact h4
        have hhw : hasW υ (nI k) = true := by unfold hasW; rw [hE 1 1 rfl]; exact h1
        refine ⟨nI (plN s (shC (lc s) A B) (shS (lc s) (lx s) A B) p k), υ, ω, ?_, ?_, inv_cg w2 hI⟩
        · simp only [fX10_place, e_hasSwim, e_isPart, e_isSingle hI hk, ob, h1, h3, h4, b2t, if_false, t1, u1, e_placeOf hI hE hR u4 p hk h4]
        · simp only [fX11_place, r_isSwim hI2.1, e_in, r_isSingle hI2 hk2, ob, hhw, h3, hsg, b2t, if_false, w1]
def mdl (s : Sg) (C : Nat → Nat) (S : Nat → Int) (p : Int32) (k : Nat) : Bool := decide (plN s C S p k ≤ 3)
def mdP (s : Sg) (C : Nat → Nat) (S : Nat → Int) (r k : Nat) : Bool := decide (rcN s k = r) && sgl s k && (mdl s C S 0 k != mdl s C S 1 k)
def mdV (s : Sg) (C : Nat → Nat) (S : Nat → Int) (r : Nat) : Int32 := if lnN s r ≤ 1 then nI (cn (mdP s C S r) (nS s)) else -3
theorem pl_b {s : Sg} (hI : Inv s) (C : Nat → Nat) (S : Nat → Int) (p : Int32) (k : Nat) : plN s C S p k ≤ 65 := by
  have := cn_le (plP s C S p k) (nS s)
  have := hI.1.2.2.2.2.2
  unfold plN
  omega
theorem e_hasMedal {s τ : Sg} (hI : Inv s) (hE : Eqv s τ) {C : Nat → Nat} {S : Nat → Int} (hR : RB C S) (h : RtQ s C S τ) (p : Int32) {k : Nat} (hk : k < nS s) (hs : sgl s k = true) : fX6_hasMedal (nI k) p τ = some (b2i (mdl s C S p k), τ) := by
  have hb := pl_b hI C S p k
  simp only [fX6_hasMedal, e_placeOf hI hE hR h p hk hs, ob, mdl]
  by_cases g : plN s C S p k ≤ 3
  · rw [if_neg (show ¬ (3 : Int32) < nI (plN s C S p k) from nI_nlt (a := 3) g (by decide))]
    simp [g, b2i]
  · rw [if_pos (show (3 : Int32) < nI (plN s C S p k) from nI_lt (a := 3) (by omega) (by omega))]
    simp [g, b2i]
theorem r_med {s : Sg} (hI : Inv s) (C : Nat → Nat) (S : Nat → Int) (p : Int32) (k : Nat) : (if (4 : Int32) ≤ nI (plN s C S p k) then some (0 : Int32) else some (1 : Int32)) = some (b2i (mdl s C S p k)) := by
  have hb := pl_b hI C S p k
  unfold mdl
  by_cases g : plN s C S p k ≤ 3
  · rw [if_neg (show ¬ (4 : Int32) ≤ nI (plN s C S p k) from nI_ge (b := 4) (by omega) (by decide))]
    simp [g, b2i]
  · rw [if_pos (show (4 : Int32) ≤ nI (plN s C S p k) from nI_le (a := 4) (by omega) (by omega))]
    simp [g, b2i]
theorem b2i_inj {a b : Bool} : (b2i a = b2i b) ↔ a = b := by cases a <;> cases b <;> simp [b2i]
theorem e_medals {s τ : Sg} (hI : Inv s) (hE : Eqv s τ) {C : Nat → Nat} {S : Nat → Int} (hR : RB C S) (h : RtQ s C S τ) {r : Nat} (hr : r < nR s) : fX6_changedMedals (nI r) τ = some (mdV s C S r, τ) := by
  have a6 := hI.1.2.2.2.2.2
  have a3 := hI.1.2.2.1
  have hI1 := inv_cg hE hI
  have r16 : r < 16 := by omega
  obtain ⟨q1, q2, q3, q4, q5, q6, q7⟩ := hI.2.1 r hr
  have v2 : gI τ 2 r = nI (lnN s r) := by rw [hE 2 r rfl]; exact q1
  have hl : lpG (fX6_changedMedals_L20 (nI r)) FU ((0 : Int32), (0 : Int32)) τ = some (nI (cn (mdP s C S r) (nS s)), τ) := by
    refine lp_rd (body := fX6_changedMedals_L20 (nI r)) (nS s) (fun z => (nI (cn (mdP s C S r) z), nI z)) (fun z hz => ?_) ?_ FU (by unfold FU; omega)
    · have c : ¬ gI τ 1 1 ≤ nI z := by rw [hE 1 1 rfl, hI.1.2.2.2.1]; exact nI_ge hz (by omega)
      have z64 : z < 64 := by omega
      have hz1 : z < nS τ := by rw [eq_nS hE]; exact hz
      have hsg : fX3_isSingle (nI z) τ = some (b2i (sgl s z), τ) := by rw [e_isSingle hI1 hz1, eq_sgl hE]
      have ec : cn (mdP s C S r) (z + 1) = cn (mdP s C S r) z + (if mdP s C S r z = true then 1 else 0) := rfl
      have v4 : gI τ 4 z = nI (rcN s z) := by rw [hE 4 z rfl]; exact (hI.2.2.1 z hz).1
      have r1 := (hI.2.2.1 z hz).2.2.1
      simp only [fX6_changedMedals_L20, if_neg c, aI_n z64 (by decide), ob, bd, v4, nI_1, ec]
      by_cases g1 : rcN s z = r
      · rw [if_pos (by rw [g1])]
        cases g2 : sgl s z
        · rw [g2] at hsg
          have : ¬ mdP s C S r z = true := by unfold mdP; simp [g2]
          simp only [hsg, ob, b2f, if_true, if_neg this, Nat.add_zero]
        · rw [g2] at hsg
          simp only [hsg, ob, b2t, if_false, e_hasMedal hI hE hR h _ hz g2, b2i_inj]
          by_cases g3 : mdl s C S 0 z = mdl s C S 1 z
          · have : ¬ mdP s C S r z = true := by unfold mdP; simp [g3]
            simp only [if_pos g3, if_neg this, ob, Nat.add_zero]
          · have : mdP s C S r z = true := by unfold mdP; simp [g1, g2, g3]
            simp only [if_neg g3, if_pos this, ob, nI_1]
      · have : ¬ mdP s C S r z = true := by unfold mdP; simp [g1]
        rw [if_neg (fun e => g1 (nI_inj (by omega) (by omega) e)), ob, if_neg this]
        rfl
    · have c : gI τ 1 1 ≤ nI (nS s) := by rw [hE 1 1 rfl, hI.1.2.2.2.1]; exact nI_le (Nat.le_refl _) (by omega)
      simp only [fX6_changedMedals_L20, if_pos c]
  simp only [fX6_changedMedals, aI_n r16 (by decide), ob, v2, hl, mdV]
  by_cases g : lnN s r ≤ 1
  · rw [if_pos (show nI (lnN s r) ≤ (1 : Int32) from nI_le (b := 1) g (by decide)), if_pos g]
  · rw [if_neg (show ¬ nI (lnN s r) ≤ (1 : Int32) from nI_ge (a := 1) (by omega) (by omega)), if_neg g]
theorem r_medalsNow {s t : Sg} {A B : Nat → Nat} (hI : Inv s) (hEt : Eqv s t) (hS : ShOk (lc s) (lx s) A B) (hN : NoFall (lc s) (lx s) A B) {r : Nat} (hr : r < nR s) : ∃ τ, fX11_medalsNow (nI r) t = some (mdV s (shC (lc s) A B) (shS (lc s) (lx s) A B) r, τ) ∧ Eqv s τ := by
  have a6 := hI.1.2.2.2.2.2
  have a3 := hI.1.2.2.1
  have r16 : r < 16 := by omega
  obtain ⟨q1, q2, q3, q4, q5, q6, q7⟩ := hI.2.1 r hr
  have v2 : gI t 50 r = nI (lnN s r) := by rw [hEt 50 r rfl]; exact q2
  have key : ∃ τ, lpG (fX11_medalsNow_L17 (nI r)) FU ((0 : Int32), (0 : Int32)) t = some (nI (cn (mdP s (shC (lc s) A B) (shS (lc s) (lx s) A B) r) (nS s)), τ) ∧ Eqv s τ := by
    refine lp_ex (body := fX11_medalsNow_L17 (nI r)) (b := nI (cn (mdP s (shC (lc s) A B) (shS (lc s) (lx s) A B) r) (nS s))) (nS s) (fun z => (nI (cn (mdP s (shC (lc s) A B) (shS (lc s) (lx s) A B) r) z), nI z)) (fun z τ => Eqv s τ) (fun z hz τ hE => ?_) (fun τ hE => ?_) FU (by unfold FU; omega) t hEt
    · have hI1 := inv_cg hE hI
      have c : ¬ gI τ 49 3 ≤ nI z := by rw [hE 49 3 rfl, hI.1.2.2.2.2.1]; exact nI_ge hz (by omega)
      have z64 : z < 64 := by omega
      have hz1 : z < nS τ := by rw [eq_nS hE]; exact hz
      have hsg : fX11_isSingle (nI z) τ = some (b2i (sgl s z), τ) := by rw [r_isSingle hI1 hz1, eq_sgl hE]
      have v4 : gI τ 52 z = nI (rcN s z) := by rw [hE 52 z rfl]; exact (hI.2.2.1 z hz).2.1
      have r1 := (hI.2.2.1 z hz).2.2.1
      obtain ⟨τ1, k1, k2⟩ := r_placeNow hI hE hS hN 0 hz
      obtain ⟨τ2, m1, m2⟩ := r_placeNow hI k2 hS hN 1 hz
      generalize shC (lc s) A B = C at *
      generalize shS (lc s) (lx s) A B = S at *
      have ec : cn (mdP s C S r) (z + 1) = cn (mdP s C S r) z + (if mdP s C S r z = true then 1 else 0) := rfl
      simp only [fX11_medalsNow_L17, if_neg c, aI_n z64 (by decide), ob, bd, v4, nI_1, ec]
      by_cases g1 : rcN s z = r
      · rw [if_pos (by rw [g1])]
        cases g2 : sgl s z
        · rw [g2] at hsg
          have : ¬ mdP s C S r z = true := by unfold mdP; simp [g2]
          refine ⟨τ, ?_, hE⟩
          simp only [hsg, ob, b2f, if_true, if_neg this, Nat.add_zero, Int32.add_zero]
        · rw [g2] at hsg
          refine ⟨τ2, ?_, m2⟩
          simp only [hsg, ob, b2t, if_false, k1, r_med hI, m1, b2i_inj]
          by_cases g3 : mdl s C S 0 z = mdl s C S 1 z
          · have : ¬ mdP s C S r z = true := by unfold mdP; simp [g3]
            simp only [if_pos g3, if_neg this, ob, Nat.add_zero, Int32.add_zero]
          · have : mdP s C S r z = true := by unfold mdP; simp [g1, g2, g3]
            simp only [if_neg g3, if_pos this, ob, nI_1]
      · have : ¬ mdP s C S r z = true := by unfold mdP; simp [g1]
        refine ⟨τ, ?_, hE⟩
        rw [if_neg (fun e => g1 (nI_inj (by omega) (by omega) e)), ob, if_neg this, Int32.add_zero]
        rfl
    · have c : gI τ 49 3 ≤ nI (nS s) := by rw [hE 49 3 rfl, hI.1.2.2.2.2.1]; exact nI_le (Nat.le_refl _) (by omega)
      simp only [fX11_medalsNow_L17, if_pos c]
  obtain ⟨τ, k1, k2⟩ := key
  by_cases g : lnN s r ≤ 1
  · refine ⟨τ, ?_, k2⟩
    simp only [fX11_medalsNow, aI_n r16 (by decide), ob, v2, k1, mdV]
    rw [if_pos (show nI (lnN s r) ≤ (1 : Int32) from nI_le (b := 1) g (by decide)), if_pos g]
  · refine ⟨t, ?_, hEt⟩
    simp only [fX11_medalsNow, aI_n r16 (by decide), ob, v2, mdV]
    rw [if_neg (show ¬ nI (lnN s r) ≤ (1 : Int32) from nI_ge (a := 1) (by omega) (by omega)), if_neg g]
theorem all_medals : ok_medals Inv := by
  intro x s hI
  have hA := hI.1
  cases h1 : hasB s x
  · exact ⟨-2, s, s, by simp only [fX10_medals, e_hasRace, ob, h1, b2f, if_true], by simp only [fX11_medals, r_isRace hA, ob, h1, b2f, if_true], hI⟩
  · obtain ⟨r, hr, rfl⟩ := hasB_n hA h1
    obtain ⟨τ, A, B, t1, t2⟩ := e_survey hI
    obtain ⟨υ, u1, u2, u3, u4⟩ := e_putRight hI t2
    have hR := rb_sh hI t2.2.2.2.1
    have hE : Eqv s υ := fun j k hc => by rw [u2]; exact t2.1 j k hc
    have hI2 := inv_cg hE hI
    obtain ⟨ω, w1, w2⟩ := r_medalsNow hI hE t2.2.2.2.1 t2.2.2.2.2.1 hr
    have hhw : hasB υ (nI r) = true := by unfold hasB; rw [hE 1 0 rfl]; exact h1
    refine ⟨mdV s (shC (lc s) A B) (shS (lc s) (lx s) A B) r, υ, ω, ?_, ?_, inv_cg w2 hI⟩
    · simp only [fX10_medals, e_hasRace, ob, h1, b2t, if_false, t1, u1, e_medals hI hE hR u4 hr]
    · simp only [fX11_medals, r_isRace hI2.1, ob, hhw, b2t, if_false, w1]
