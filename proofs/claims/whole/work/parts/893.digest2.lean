/-! DIGEST: the class -/
def DgQ (s : Sg) (A B F : Nat → Nat) (τ : Sg) : Prop := SvQ s A B τ ∧ DyQ s τ ∧ gI τ 25 5 = nI (bsN (wnN s) 255) ∧ (∀ i, i < 8 → gI τ 28 i = nI (F i)) ∧ RtQ s (shC (lc s) A B) (shS (lc s) (lx s) A B) τ
theorem core35 (k : Nat) : core 35 k = false := rfl
theorem core36 (k : Nat) : core 36 k = false := rfl
theorem dgq_cg {s τ t : Sg} {A B F : Nat → Nat} (h : DgQ s A B F τ) (h1 : ∀ j, j ≠ 24 → j ≠ 35 → j ≠ 36 → gI t j = gI τ j) (h2 : ∀ j, j ≠ 23 → j ≠ 48 → gL t j = gL τ j) : DgQ s A B F t := by
  obtain ⟨q1, q2, q3, q4, q5⟩ := h
  have hE : Eqv s t := fun j k hc => by
    have n1 : j ≠ 24 := fun e => by subst e; rw [core_lv (by decide) (by decide)] at hc; cases hc
    have n2 : j ≠ 35 := fun e => by subst e; rw [core35] at hc; cases hc
    have n3 : j ≠ 36 := fun e => by subst e; rw [core36] at hc; cases hc
    rw [h1 j n1 n2 n3]
    exact q1.1 j k hc
  refine ⟨svq_cg q1 hE (fun j a b c => h1 j (by omega) (by omega) (by omega)) (fun j a b => h2 j (by omega) (by omega)), ⟨fun d hd => ?_, ?_, ?_⟩, ?_, fun i hi => ?_, ?_, fun k hk => ?_⟩
  · rw [h1 22 (by decide) (by decide) (by decide)]; exact q2.1 d hd
  · rw [h1 19 (by decide) (by decide) (by decide)]; exact q2.2.1
  · rw [h1 19 (by decide) (by decide) (by decide)]; exact q2.2.2
  · rw [h1 25 (by decide) (by decide) (by decide)]; exact q3
  · rw [h1 28 (by decide) (by decide) (by decide)]; exact q4 i hi
  · rw [h2 25 (by decide) (by decide)]; exact q5.1
  · rw [h2 29 (by decide) (by decide)]; exact q5.2 k hk
def gCn (s : Sg) (k : Nat) (h : Int64) : Int64 := mx h (cntA s (nI k)).toInt64
def gLw (s : Sg) (A B : Nat → Nat) (l w : Nat) (h : Int64) : Int64 := mx (mx h (lnV s A B l w 0)) (lnV s A B l w 1)
def gLn (s : Sg) (A B : Nat → Nat) (l : Nat) (h : Int64) : Int64 := fld (gLw s A B l) (mx h (nI (lc s l)).toInt64) 3
def gOr (F : Nat → Nat) (i : Nat) (h : Int64) : Int64 := mx h (nI (F i)).toInt64
def gRc (s : Sg) (A B : Nat → Nat) (gv : Nat → Int32) (r : Nat) (h : Int64) : Int64 := mx (mx (mx (mx h (nI (nT s (nI r))).toInt64) (nI (nE s (nI r))).toInt64) (gv r).toInt64) (mdV s (shC (lc s) A B) (shS (lc s) (lx s) A B) r).toInt64
def gSl (s : Sg) (k l : Nat) (h : Int64) : Int64 := mx h (gI s 7 (4 * k + l)).toInt64
def gSw (s : Sg) (k : Nat) (h : Int64) : Int64 := fld (gSl s k) h (lnN s (rcN s k))
def gWd (s : Sg) (k : Nat) (h : Int64) : Int64 := mx h (wV s k).toInt64
theorem e_mix (h v : Int64) (s : Sg) : fX10_mix h v s = some (mx h v, s) := rfl
theorem c_counts {s τ : Sg} (hI : Inv s) (hE : Eqv s τ) (h : Int64) : lpG fX10_digest_L41 FU (h, (0 : Int32)) τ = some (fld (gCn s) h 8, τ) := by
  refine lp_rd (body := fX10_digest_L41) 8 (fun k => (fld (gCn s) h k, nI k)) (fun k hk => ?_) ?_ FU (by decide)
  · have c : ¬ (7 : Int32) < nI k := nI_nlt (a := 7) (by omega) (by decide)
    simp only [fX10_digest_L41, if_neg c, e_count (inv_cg hE hI), eq_cnt hE, ob, bd, e_mix, nI_1]
    rfl
  · have c : (7 : Int32) < nI 8 := by decide
    simp only [fX10_digest_L41, if_pos c]
theorem f48_dg {s τ t : Sg} {A B F : Nat → Nat} (h : DgQ s A B F τ) (f : F48 τ t) : DgQ s A B F t := dgq_cg h (fun j _ _ _ => by rw [f.1]) (fun j _ h2 => f.2 j h2)
theorem c_lanes {s τ : Sg} {A B F : Nat → Nat} (hI : Inv s) (hQ : DgQ s A B F τ) (h : Int64) : ∃ t, fX10_mixLanes h τ = some (fld (gLn s A B) h 8, t) ∧ DgQ s A B F t := by
  obtain ⟨t, t1, t2⟩ := lp_ex (body := fX10_mixLanes_L5) (b := fld (gLn s A B) h 8) 8 (fun k => (fld (gLn s A B) h k, nI k)) (fun _ t => DgQ s A B F t) (fun l hl τ hQ => by
      have c : ¬ (8 : Int32) ≤ nI l := nI_ge (b := 8) hl (by decide)
      have v10 : gI τ 10 l = nI (lc s l) := hQ.1.2.2.1.2.2.2.2 l hl
      obtain ⟨t, u1, u2⟩ := lp_ex (body := fX10_mixLanes_L34 (nI l)) (b := fld (gLw s A B l) (mx (fld (gLn s A B) h l) (nI (lc s l)).toInt64) 3) 3 (fun w => (fld (gLw s A B l) (mx (fld (gLn s A B) h l) (nI (lc s l)).toInt64) w, nI w)) (fun _ t => DgQ s A B F t) (fun w hw τ hQ => by
          have c : ¬ (2 : Int32) < nI w := nI_nlt (a := 2) (by omega) (by decide)
          obtain ⟨t, a1, a2⟩ := c_lane hI hQ.1 hl hw 0
          have hQ2 := f48_dg hQ a2
          obtain ⟨t', b1, b2⟩ := c_lane hI hQ2.1 hl hw 1
          refine ⟨t', ?_, f48_dg hQ2 b2⟩
          simp only [fX10_mixLanes_L34, if_neg c, a1, b1, ob, bd, e_mix, nI_1]
          rfl) (fun τ _ => by
          have c : (2 : Int32) < nI 3 := by decide
          simp only [fX10_mixLanes_L34, if_pos c]) FU (by decide) τ hQ
      refine ⟨t, ?_, u2⟩
      simp only [fX10_mixLanes_L5, if_neg c, aI_n hl (by decide), v10, ob, bd, e_mix, nI_1]
      rw [show (0 : Int32) = nI 0 from rfl]
      have u1' : lpG (fX10_mixLanes_L34 (nI l)) FU (mx (fld (gLn s A B) h l) (nI (lc s l)).toInt64, nI 0) τ = _ := u1
      rw [u1', ob]
      rfl) (fun τ _ => by
      have c : (8 : Int32) ≤ nI 8 := by decide
      simp only [fX10_mixLanes_L5, if_pos c]) FU (by decide) τ hQ
  refine ⟨t, ?_, t2⟩
  have t1' : lpG fX10_mixLanes_L5 FU (h, (0 : Int32)) τ = _ := t1
  simp only [fX10_mixLanes, t1', ob]
noncomputable def hDy (s : Sg) (h : Int64) : Int64 := mx (mx (mx (mx h (lvI s 0 10).toInt64) (chV s).toInt64) (nI (rall s 10).2.1).toInt64) (nI (rall s 10).2.2).toInt64
theorem c_days {s τ : Sg} {A B F : Nat → Nat} (hI : Inv s) (hQ : DgQ s A B F τ) (h : Int64) : ∃ t, fX10_mixDays h τ = some (hDy s h, t) ∧ DgQ s A B F t := by
  have l1 : fX8_leanOf (0 : Int32) (9 : Int32) τ = some (lvI s 0 10, τ) := e_leanOf hQ.2.1 (f := 0) (t := 9) (by decide) (by decide)
  obtain ⟨t, a1, a2⟩ := ch_e hI hQ.1.2.2.1
  have hQ2 : DgQ s A B F t := dgq_cg hQ (fun j j1 _ _ => a2.1 j j1) (fun j j1 _ => a2.2 j j1)
  refine ⟨t, ?_, hQ2⟩
  simp only [fX10_mixDays, l1, ob, e_mix, a1, hQ2.2.1.2.1, hQ2.2.1.2.2]
  rfl
theorem c_order {s τ : Sg} {A B F : Nat → Nat} (hQ : DgQ s A B F τ) (h : Int64) : fX10_mixOrder h τ = some (fld (gOr F) (mx h (nI (bsN (wnN s) 255)).toInt64) 8, τ) := by
  have l1 := lp_rd (body := fX10_mixOrder_L16) (b := fld (gOr F) (mx h (nI (bsN (wnN s) 255)).toInt64) 8) 8 (fun k => (fld (gOr F) (mx h (nI (bsN (wnN s) 255)).toInt64) k, nI k)) (σ := τ) (fun k hk => by
      have c : ¬ (8 : Int32) ≤ nI k := nI_ge (b := 8) hk (by decide)
      simp only [fX10_mixOrder_L16, if_neg c, aI_n hk (by decide), hQ.2.2.2.1 k hk, ob, bd, e_mix, nI_1]
      rfl) (by
      have c : (8 : Int32) ≤ nI 8 := by decide
      simp only [fX10_mixOrder_L16, if_pos c]) FU (by decide)
  have l2 : lpG fX10_mixOrder_L16 FU (mx h (nI (bsN (wnN s) 255)).toInt64, (0 : Int32)) τ = _ := l1
  simp only [fX10_mixOrder, hQ.2.2.1, e_mix, ob, l2]
theorem c_races {s τ : Sg} {A B F : Nat → Nat} (hI : Inv s) (hQ : DgQ s A B F τ) {K : Nat} (hK : stopR s K) {gv : Nat → Int32} (hg : ∀ r, gvV s K r (gv r)) (h : Int64) : fX10_mixRaces h τ = some (fld (gRc s A B gv) h (nR s), τ) := by
  have hE := hQ.1.1
  have hIt := inv_cg hE hI
  have hA := hIt.1
  rw [InvA, eq_nR hE] at hA
  have hR := rb_sh hI hQ.1.2.2.2.1
  have l1 := lp_rd (body := fX10_mixRaces_L5) (b := fld (gRc s A B gv) h (nR s)) (nR s) (fun k => (fld (gRc s A B gv) h k, nI k)) (σ := τ) (fun r hr => by
      have c : ¬ gI τ 1 0 ≤ nI r := by rw [hA.1]; exact nI_ge hr (by omega)
      simp only [fX10_mixRaces_L5, if_neg c, e_feltN hIt, e_tenN hIt, (eq_nT hE).1, (eq_nT hE).2, e_givenOf hIt (stopR_eq hE hK) (show r < nR τ by rw [eq_nR hE]; exact hr) (gvV_eq hE (hg r)), e_medals hI hE hR hQ.2.2.2.2 hr, ob, bd, e_mix, nI_1]
      rfl) (by
      have c : gI τ 1 0 ≤ nI (nR s) := by rw [hA.1]; exact nI_le (Nat.le_refl _) (by omega)
      simp only [fX10_mixRaces_L5, if_pos c]) FU (by unfold FU; omega)
  have l2 : lpG fX10_mixRaces_L5 FU (h, (0 : Int32)) τ = _ := l1
  simp only [fX10_mixRaces, l2, ob]
theorem c_swims {s τ : Sg} (hI : Inv s) (hE : Eqv s τ) (h : Int64) : fX10_mixSwims h τ = some (fld (gSw s) h (nS s), τ) := by
  have hIt := inv_cg hE hI
  have hA := hIt.1
  rw [InvA, eq_nS hE] at hA
  have l1 := lp_rd (body := fX10_mixSwims_L5) (b := fld (gSw s) h (nS s)) (nS s) (fun k => (fld (gSw s) h k, nI k)) (σ := τ) (fun k hk => by
      have c : ¬ gI τ 1 1 ≤ nI k := by rw [hA.2.2.2.1]; exact nI_ge hk (by omega)
      have hk2 : k < nS τ := by rw [eq_nS hE]; exact hk
      obtain ⟨f0, -, -, -, -, -, -, f7⟩ := sw_facts hI hk
      have el : fX3_lengthsOf (nI k) τ = some (nI (lnN s (rcN s k)), τ) := by rw [e_lengthsOf hIt hk2, eq_ln hE, eq_rc hE]
      have m1 := lp_rd (body := fX10_mixSwims_L20 (nI k)) (b := fld (gSl s k) (fld (gSw s) h k) (lnN s (rcN s k))) (lnN s (rcN s k)) (fun l => (fld (gSl s k) (fld (gSw s) h k) l, nI l)) (σ := τ) (fun l hl => by
          have c : ¬ nI (lnN s (rcN s k)) ≤ nI l := nI_ge hl (by omega)
          simp only [fX10_mixSwims_L20, el, ob, bd, if_neg c, e_timeOf (s := τ) f0 (show l < 4 by omega), hE 7 _ rfl, e_mix, nI_1]
          rfl) (by
          have c : nI (lnN s (rcN s k)) ≤ nI (lnN s (rcN s k)) := Int32.le_refl _
          simp only [fX10_mixSwims_L20, el, ob, if_pos c]) FU (by unfold FU; omega)
      have m2 : lpG (fX10_mixSwims_L20 (nI k)) FU (fld (gSw s) h k, (0 : Int32)) τ = _ := m1
      simp only [fX10_mixSwims_L5, if_neg c, m2, ob, bd, nI_1]
      rfl) (by
      have c : gI τ 1 1 ≤ nI (nS s) := by rw [hA.2.2.2.1]; exact nI_le (Nat.le_refl _) (by omega)
      simp only [fX10_mixSwims_L5, if_pos c]) FU (by unfold FU; omega)
  have l2 : lpG fX10_mixSwims_L5 FU (h, (0 : Int32)) τ = _ := l1
  simp only [fX10_mixSwims, l2, ob]
