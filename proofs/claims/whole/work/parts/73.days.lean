/-! LEAN, RAN: the class's days -/
theorem e_pair {s τ : Sg} {a b : Nat} (ha : a < 64) (hb : b < 64) (va : gI τ 21 a = dblD (tmr s a)) (vb : gI τ 21 b = dblD (tmr s b)) (la : gI τ 6 a = nI (laN s a)) (lb : gI τ 6 b = nI (laN s b)) (ka : laN s a < 8) (kb : laN s b < 8) : fX8_leanOfPair (nI a) (nI b) τ = some (clI s a b, τ) := by
  simp only [fX8_leanOfPair, aI_n ha (by decide), aI_n hb (by decide), ob, va, vb, la, lb, e_compare]
  unfold clI
  by_cases h : laN s b ≤ laN s a
  · rw [if_pos (nI_le h (by omega)), if_pos h]; rfl
  · rw [if_neg (nI_ge (by omega) (by omega)), if_neg h]; rfl
def DyP (σ : Sg) (F : Nat → Int32) (τ : Sg) : Prop := (∀ j, j ≠ 22 → gI τ j = gI σ j) ∧ gL τ = gL σ ∧ ∀ d, d < 10 → gI τ 22 d = F d
theorem dyp_E {s σ τ : Sg} {F : Nat → Int32} (h : DyP σ F τ) (hE : Eqv s σ) : Eqv s τ := fun j k hc => by
  rw [h.1 j (fun e => by rw [e, core_lv (by decide) (by decide)] at hc; cases hc)]
  exact hE j k hc
def gdA (s : Sg) (a d : Nat) : Int32 := accI (fun a' => accI (gdI s (fun e => e == d) a') (nS s)) a
theorem e_dayIn {s σ τ : Sg} {A B : Nat → Nat} (hI : Inv s) (h : SvQ s A B σ) {a : Nat} (ha : a < nS s) (hP : DyP σ (gdA s a) τ) : ∃ τ', lpG (fX8_surveyDays_L38 (nI a)) FU (nI (a + 1)) τ = some ((), τ') ∧ DyP σ (gdA s (a + 1)) τ' := by
  have a6 := hI.1.2.2.2.2.2
  have h64 : a < 64 := by omega
  have hfact : ∀ τ F, DyP σ F τ → gI τ 1 1 = nI (nS s) ∧ (∀ i, i < nS s → gI τ 20 i = b2i (hasDV (tmr s i)) ∧ gI τ 21 i = dvI s i ∧ gI τ 4 i = nI (rcN s i) ∧ gI τ 6 i = nI (laN s i) ∧ laN s i < 8 ∧ rcN s i < 16 ∧ gI τ 3 (rcN s i) = nI (dyN s (rcN s i)) ∧ dyN s (rcN s i) < 10) := by
    intro τ F hF
    have hE := dyp_E hF h.1
    refine ⟨?_, fun i hi => ?_⟩
    · rw [hE 1 1 rfl]; exact hI.1.2.2.2.1
    · obtain ⟨d1, d2, d3, d4, d5, d6, d7, d8, d9⟩ := hI.2.2.1 i hi
      obtain ⟨r1, r2, r3, r4, r5, r6, r7⟩ := hI.2.1 _ d3
      have hr := hI.1.2.2.1
      refine ⟨?_, ?_, ?_, ?_, d9, by omega, ?_, by omega⟩
      · rw [hF.1 20 (by decide)]; exact (h.2.1 i hi).1
      · rw [hF.1 21 (by decide)]; exact (h.2.1 i hi).2
      · rw [hE 4 i rfl]; exact d1
      · rw [hE 6 i rfl]; exact d7
      · rw [hE 3 _ rfl]; exact r5
  have eA : ∀ d, gdA s (a + 1) d = gdA s a d + accI (gdI s (fun e => e == d) a) (nS s) := fun d => rfl
  obtain ⟨f1, f2⟩ := hfact τ _ hP
  obtain ⟨p20, p21, p4, p6, pl, pr, p3, pd⟩ := f2 a ha
  cases q : hasDV (tmr s a)
  · refine ⟨τ, ?_, hP.1, hP.2.1, fun d hd => ?_⟩
    · refine lp_rd (body := fX8_surveyDays_L38 (nI a)) 0 (fun _ => nI (a + 1)) (fun z hz => absurd hz (by omega)) ?_ FU (by decide)
      rw [q] at p20
      simp only [fX8_surveyDays_L38, aI_n h64 (by decide), ob, p20, b2i]
      split
      · rfl
      · rfl
    · rw [eA, accI_0 (fun b _ => ?_), Int32.add_zero]
      · exact hP.2.2 d hd
      · unfold gdI; rw [if_neg (fun h => by have := h.2.2.2.1; rw [q] at this; cases this)]
  · have z0 : ∀ d, accI (gdI s (fun e => e == d) a) (a + 1) = 0 := fun d => accI_0 (fun b hb => by unfold gdI; rw [if_neg (by omega)])
    rw [q] at p20
    have v21 : dvI s a = dblD (tmr s a) := by unfold dvI; rw [if_pos q]
    rw [v21] at p21
    have key : ∃ τ', lpG (fX8_surveyDays_L38 (nI a)) FU (nI (a + 1)) τ = some ((), τ') ∧ DyP σ (fun d => gdA s a d + accI (gdI s (fun e => e == d) a) (a + 1 + (nS s - (a + 1)))) τ' := by
      refine lp_ex (body := fX8_surveyDays_L38 (nI a)) (b := ()) (nS s - (a + 1)) (fun z => nI (a + 1 + z)) (fun z τ' => DyP σ (fun d => gdA s a d + accI (gdI s (fun e => e == d) a) (a + 1 + z)) τ') (fun z hz τ1 h1 => ?_) (fun τ1 h1 => ?_) FU (by unfold FU; omega) τ ⟨hP.1, hP.2.1, fun d hd => by show gI τ 22 d = gdA s a d + accI (gdI s (fun e => e == d) a) (a + 1 + 0); rw [show accI (gdI s (fun e => e == d) a) (a + 1 + 0) = 0 from z0 d, Int32.add_zero]; exact hP.2.2 d hd⟩
      · obtain ⟨g1, g2⟩ := hfact τ1 _ h1
        obtain ⟨p20, p21, p4, p6, pl, pr, p3, pd⟩ := g2 a ha
        rw [q] at p20
        rw [v21] at p21
        obtain ⟨o20, o21, o4, o6, ol, or, o3, od⟩ := g2 (a + 1 + z) (by omega)
        have c : ¬ gI τ1 1 1 ≤ nI (a + 1 + z) := by rw [g1]; exact nI_ge (by omega) (by omega)
        have z64 : a + 1 + z < 64 := by omega
        have c1 : ¬ (1 : Int32) = 0 := by decide
        have es : ∀ d, accI (gdI s (fun e => e == d) a) (a + 1 + (z + 1)) = accI (gdI s (fun e => e == d) a) (a + 1 + z) + gdI s (fun e => e == d) a (a + 1 + z) := fun d => rfl
        generalize hb : a + 1 + z = b at *
        have hab : a < b := by omega
        have hb1 : a + 1 + (z + 1) = b + 1 := by omega
        cases q2 : hasDV (tmr s b)
        · rw [q2] at o20
          refine ⟨τ1, ?_, h1.1, h1.2.1, fun d hd => ?_⟩
          · simp only [fX8_surveyDays_L38, if_neg c, aI_n h64 (by decide), aI_n z64 (by decide), ob, bd, p20, o20, b2t, b2f, if_true, if_false, nI_1, hb1]
          · show gI τ1 22 d = gdA s a d + accI (gdI s (fun e => e == d) a) (a + 1 + (z + 1))
            rw [es, show gdI s (fun e => e == d) a b = 0 from by unfold gdI; rw [if_neg (fun h => by have := h.2.2.2.2; rw [q2] at this; cases this)], Int32.add_zero]
            exact h1.2.2 d hd
        · rw [q2] at o20
          have w21 : dvI s b = dblD (tmr s b) := by unfold dvI; rw [if_pos q2]
          rw [w21] at o21
          by_cases hr : rcN s a = rcN s b
          · rw [← hr] at o4
            have ep := e_pair (s := s) h64 z64 p21 o21 p6 o6 pl ol
            refine ⟨sI τ1 22 (dyN s (rcN s a)) (gI τ1 22 (dyN s (rcN s a)) + clI s a b), ?_, fun j hj => ?_, h1.2.1, fun d hd => ?_⟩
            · simp only [fX8_surveyDays_L38, if_neg c, aI_n h64 (by decide), aI_n z64 (by decide), ob, bd, p20, o20, b2t, if_false, p4, o4, if_true, aI_n pr (by decide), p3, aI_n pd (by decide), ep, wI_n pd (by decide), nI_1, hb1]
            · rw [gI_row _ _ hj]; exact h1.1 j hj
            · show gI _ 22 d = gdA s a d + accI (gdI s (fun e => e == d) a) (a + 1 + (z + 1))
              rw [es, ← Int32.add_assoc]
              have h2 := h1.2.2 d hd
              by_cases e : d = dyN s (rcN s a)
              · subst e
                rw [gI_same, h2, show gdI s (fun e => e == dyN s (rcN s a)) a b = clI s a b from if_pos ⟨hab, by simp, hr, q, q2⟩]
              · rw [gI_ne _ _ (Or.inr e), h2, show gdI s (fun e => e == d) a b = 0 from if_neg (fun h => by have := h.2.1; simp at this; omega), Int32.add_zero]
          · refine ⟨τ1, ?_, h1.1, h1.2.1, fun d hd => ?_⟩
            · simp only [fX8_surveyDays_L38, if_neg c, aI_n h64 (by decide), aI_n z64 (by decide), ob, bd, p20, o20, b2t, if_false, p4, o4, nI_1, hb1]
              rw [if_neg (fun e => hr (nI_inj (by omega) (by omega) e)), ob]
            · show gI τ1 22 d = gdA s a d + accI (gdI s (fun e => e == d) a) (a + 1 + (z + 1))
              rw [es, show gdI s (fun e => e == d) a b = 0 from if_neg (fun h => hr h.2.2.1), Int32.add_zero]
              exact h1.2.2 d hd
      · have g1 := (hfact τ1 _ h1).1
        have c : gI τ1 1 1 ≤ nI (a + 1 + (nS s - (a + 1))) := by rw [g1]; exact nI_le (by omega) (by omega)
        simp only [fX8_surveyDays_L38, if_pos c]
    obtain ⟨τ', k1, k2⟩ := key
    refine ⟨τ', k1, k2.1, k2.2.1, fun d hd => ?_⟩
    rw [eA, k2.2.2 d hd, show a + 1 + (nS s - (a + 1)) = nS s by omega]
/-- ran: greatest, from, to -/
def rrow (s : Sg) (i : Nat) (st : Int32 × Nat × Nat) : Nat → Int32 × Nat × Nat
  | 0 => st
  | m + 1 => if lvI s i (m + 1) ≤ (rrow s i st m).1 then rrow s i st m else (lvI s i (m + 1), i, i + m)
def rall (s : Sg) : Nat → Int32 × Nat × Nat
  | 0 => (lday s 0, 0, 0)
  | k + 1 => rrow s k (rall s k) (10 - k)
theorem rrow_b {s : Sg} {i : Nat} {st : Int32 × Nat × Nat} (hi : i ≤ 9) (h : st.2.1 ≤ 9 ∧ st.2.2 ≤ 9) : ∀ m, i + m ≤ 10 → (rrow s i st m).2.1 ≤ 9 ∧ (rrow s i st m).2.2 ≤ 9 := by
  intro m
  induction m with
  | zero => intro _; exact h
  | succ m ih =>
    intro hm
    rw [rrow]
    split
    · exact ih (by omega)
    · exact ⟨hi, by show i + m ≤ 9; omega⟩
theorem rall_b (s : Sg) : ∀ k, k ≤ 10 → (rall s k).2.1 ≤ 9 ∧ (rall s k).2.2 ≤ 9 := by
  intro k
  induction k with
  | zero => intro _; exact ⟨Nat.zero_le _, Nat.zero_le _⟩
  | succ k ih => intro hk; exact rrow_b (by omega) (ih (by omega)) _ (by omega)
theorem eq_rrow {s t : Sg} (h : Eqv s t) : rrow t = rrow s := by
  funext i st m
  induction m with
  | zero => rfl
  | succ m ih => rw [rrow, rrow, ih, eq_lv h]
theorem eq_rall {s t : Sg} (h : Eqv s t) : rall t = rall s := by
  funext k
  induction k with
  | zero => rw [rall, rall, eq_lday h]
  | succ k ih => rw [rall, rall, ih, eq_rrow h]
def RnP (σ : Sg) (st : Int32 × Nat × Nat) (τ : Sg) : Prop := (∀ j, j ≠ 19 → gI τ j = gI σ j) ∧ gL τ = gL σ ∧ gI τ 19 6 = nI st.2.1 ∧ gI τ 19 7 = nI st.2.2
theorem e_ranRow {s σ : Sg} (h22 : ∀ d, d < 10 → gI σ 22 d = lday s d) {i : Nat} (hi : i < 10) {st : Int32 × Nat × Nat} {τ : Sg} (h : RnP σ st τ) : ∃ τ', lpG (fX8_findRan_L30 (nI i)) FU (st.1, (0 : Int32), nI i) τ = some ((rrow s i st (10 - i)).1, τ') ∧ RnP σ (rrow s i st (10 - i)) τ' := by
  refine lp_ex (body := fX8_findRan_L30 (nI i)) (b := (rrow s i st (10 - i)).1) (10 - i) (fun m => ((rrow s i st m).1, lvI s i m, nI (i + m))) (fun m τ => RnP σ (rrow s i st m) τ) (fun m hm τ1 h1 => ?_) (fun τ1 h1 => ?_) FU (by unfold FU; omega) τ h
  · have c : ¬ (10 : Int32) ≤ nI (i + m) := nI_ge (b := 10) (by omega) (by decide)
    have v : gI τ1 22 (i + m) = lday s (i + m) := by rw [h1.1 22 (by decide)]; exact h22 _ (by omega)
    have ev : lvI s i m + lday s (i + m) = lvI s i (m + 1) := rfl
    have er : rrow s i st (m + 1) = if lvI s i (m + 1) ≤ (rrow s i st m).1 then rrow s i st m else (lvI s i (m + 1), i, i + m) := rfl
    simp only [fX8_findRan_L30, if_neg c, aI_n (show i + m < 10 by omega) (by decide), ob, bd, v, ev, nI_1, er]
    by_cases g : lvI s i (m + 1) ≤ (rrow s i st m).1
    · refine ⟨τ1, ?_, ?_⟩
      · simp only [if_pos g, ob]; rfl
      · rw [if_pos g]; exact h1
    · refine ⟨sI (sI τ1 19 6 (nI i)) 19 7 (nI (i + m)), ?_, ?_⟩
      · simp only [if_neg g, ob]; rfl
      · rw [if_neg g]
        refine ⟨fun j hj => ?_, h1.2.1, ?_, ?_⟩
        · rw [gI_row _ _ hj, gI_row _ _ hj]; exact h1.1 j hj
        · rw [gI_ne _ _ (Or.inr (by decide)), gI_same]
        · rw [gI_same]
  · have c : (10 : Int32) ≤ nI (i + (10 - i)) := nI_le (a := 10) (by omega) (by omega)
    simp only [fX8_findRan_L30, if_pos c]
theorem e_findRan {s σ : Sg} (h22 : ∀ d, d < 10 → gI σ 22 d = lday s d) : ∃ τ, fX8_findRan σ = some τ ∧ RnP σ (rall s 10) τ := by
  have h0 : RnP σ (rall s 0) (sI (sI σ 19 6 0) 19 7 0) := ⟨fun j hj => by rw [gI_row _ _ hj, gI_row _ _ hj], rfl, by rw [gI_ne _ _ (Or.inr (by decide)), gI_same]; rfl, by rw [gI_same]; rfl⟩
  have key : ∃ τ, lpG fX8_findRan_L19 FU ((rall s 0).1, nI 0) (sI (sI σ 19 6 0) 19 7 0) = some ((), τ) ∧ RnP σ (rall s 10) τ := by
    refine lp_ex (body := fX8_findRan_L19) (b := ()) 10 (fun k => ((rall s k).1, nI k)) (fun k τ => RnP σ (rall s k) τ) (fun k hk τ1 h1 => ?_) (fun τ1 h1 => ?_) FU (by decide) _ h0
    · have c : ¬ (10 : Int32) ≤ nI k := nI_ge (b := 10) hk (by decide)
      obtain ⟨τ2, k1, k2⟩ := e_ranRow h22 hk h1
      refine ⟨τ2, ?_, k2⟩
      simp only [fX8_findRan_L19, if_neg c, k1, ob, bd, nI_1]
      rfl
    · have c : (10 : Int32) ≤ nI 10 := by decide
      simp only [fX8_findRan_L19, if_pos c]
  obtain ⟨τ, t1, t2⟩ := key
  refine ⟨τ, ?_, t2⟩
  have v : aI (sI (sI σ 19 6 0) 19 7 0) 22 10 (0 : Int32) = some (lday s 0) := by
    rw [show (0 : Int32) = nI 0 from rfl, aI_n (by decide) (by decide), gI_row _ _ (by decide), gI_row _ _ (by decide), h22 0 (by decide)]
  have t1' : lpG fX8_findRan_L19 FU (lday s 0, (0 : Int32)) (sI (sI σ 19 6 0) 19 7 0) = some ((), τ) := t1
  simp only [fX8_findRan, bd, v, ob, t1']
/-- what the class holds of days -/
def DyQ (s : Sg) (τ : Sg) : Prop := (∀ d, d < 10 → gI τ 22 d = lday s d) ∧ gI τ 19 6 = nI (rall s 10).2.1 ∧ gI τ 19 7 = nI (rall s 10).2.2
theorem e_surveyDays {s σ : Sg} {A B : Nat → Nat} (hI : Inv s) (h : SvQ s A B σ) : ∃ τ, fX8_surveyDays σ = some τ ∧ SvQ s A B τ ∧ DyQ s τ := by
  have a6 := hI.1.2.2.2.2.2
  obtain ⟨τ0, k1, k2⟩ := lp_ex (body := fX8_surveyDays_L2) (b := ()) 10 (fun z => nI z) (fun z τ => (∀ j, j ≠ 22 → gI τ j = gI σ j) ∧ gL τ = gL σ ∧ ∀ d, d < z → gI τ 22 d = 0) (fun z hz τ1 h1 => by
    have c : ¬ (10 : Int32) ≤ nI z := nI_ge (b := 10) hz (by decide)
    refine ⟨sI τ1 22 z 0, by simp only [fX8_surveyDays_L2, if_neg c, wI_n hz (by decide), ob, bd, nI_1], fun j hj => by rw [gI_row _ _ hj]; exact h1.1 j hj, h1.2.1, fun d hd => ?_⟩
    by_cases e : d = z
    · subst e; rw [gI_same]
    · rw [gI_ne _ _ (Or.inr e)]; exact h1.2.2 d (by omega)) (fun τ1 h1 => by
    have c : (10 : Int32) ≤ nI 10 := by decide
    simp only [fX8_surveyDays_L2, if_pos c]) FU (by decide) σ ⟨fun _ _ => rfl, rfl, fun d hd => absurd hd (by omega)⟩
  obtain ⟨τ1, l1, l2⟩ := lp_ex (body := fX8_surveyDays_L23) (b := ()) (nS s) (fun z => nI z) (fun z τ => DyP σ (gdA s z) τ) (fun z hz τ1 h1 => by
    have hE := dyp_E h1 h.1
    have c : ¬ gI τ1 1 1 ≤ nI z := by rw [hE 1 1 rfl, hI.1.2.2.2.1]; exact nI_ge hz (by omega)
    obtain ⟨τ2, m1, m2⟩ := e_dayIn hI h hz h1
    exact ⟨τ2, by simp only [fX8_surveyDays_L23, if_neg c, ob, bd, nI_1, m1], m2⟩) (fun τ1 h1 => by
    have hE := dyp_E h1 h.1
    have c : gI τ1 1 1 ≤ nI (nS s) := by rw [hE 1 1 rfl, hI.1.2.2.2.1]; exact nI_le (Nat.le_refl _) (by omega)
    simp only [fX8_surveyDays_L23, if_pos c]) FU (by unfold FU; omega) τ0 ⟨k2.1, k2.2.1, fun d hd => k2.2.2 d hd⟩
  have h22 : ∀ d, d < 10 → gI τ1 22 d = lday s d := l2.2.2
  obtain ⟨τ2, m1, m2⟩ := e_findRan h22
  have k1' : lpG fX8_surveyDays_L2 FU (0 : Int32) σ = some ((), τ0) := k1
  have l1' : lpG fX8_surveyDays_L23 FU (0 : Int32) τ0 = some ((), τ1) := l1
  have hE : Eqv s τ2 := fun j k hc => by
    rw [m2.1 j (fun e => by rw [e, core_lv (by decide) (by decide)] at hc; cases hc)]
    exact dyp_E l2 h.1 j k hc
  refine ⟨τ2, by simp only [fX8_surveyDays, k1', ob, l1', m1], ?_, ?_, m2.2.2⟩
  · refine svq_cg h hE (fun j h1 h2 h3 => ?_) (fun j h1 h2 => ?_)
    · rw [m2.1 j h3, l2.1 j (by omega)]
    · rw [m2.2.1, l2.2.1]
  · intro d hd
    rw [m2.1 22 (by decide)]
    exact h22 d hd
theorem e_leanOf {s τ : Sg} (h : DyQ s τ) {f t : Nat} (hf : f ≤ t) (ht : t ≤ 9) : fX8_leanOf (nI f) (nI t) τ = some (lvI s f (t + 1 - f), τ) := by
  have hl : lpG (fX8_leanOf_L5 (nI t)) FU ((0 : Int32), nI f) τ = some (lvI s f (t + 1 - f), τ) := by
    refine lp_rd (body := fX8_leanOf_L5 (nI t)) (t + 1 - f) (fun z => (lvI s f z, nI (f + z))) (fun z hz => ?_) ?_ FU (by unfold FU; omega)
    · have c : ¬ nI t < nI (f + z) := nI_nlt (by omega) (by omega)
      simp only [fX8_leanOf_L5, if_neg c, aI_n (show f + z < 10 by omega) (by decide), ob, bd, h.1 _ (show f + z < 10 by omega), nI_1]
      rfl
    · have c : nI t < nI (f + (t + 1 - f)) := nI_lt (by omega) (by omega)
      simp only [fX8_leanOf_L5, if_pos c]
  simp only [fX8_leanOf, hl, ob]
theorem all_lean : ok_lean Inv := by
  intro x y s hI
  cases h1 : wi x 0 9
  · exact ⟨-9999, s, s, by simp only [fX10_lean, e_isDay, ob, h1, b2f, if_true], by simp only [fX11_lean, e_in, ob, h1, b2f, if_true], hI⟩
  · obtain ⟨f, hf, rfl⟩ := wi_nat (n := 9) rfl (by decide) h1
    cases h2 : wi y 0 9
    · refine ⟨-9999, s, s, by simp only [fX10_lean, e_isDay, ob, h1, h2, b2f, b2t, if_true, if_false], ?_, hI⟩
      have h3 : wi y (nI f) 9 = false := by
        cases h3 : wi y (nI f) 9
        · rfl
        · exfalso
          obtain ⟨k, hk1, hk2, rfl⟩ := wi_nat1 (a := f) (n := 9) rfl (by omega) rfl (by decide) h3
          have := wi_n (k := k) (n := 9) hk2 (by decide)
          rw [show nI 9 = (9 : Int32) from rfl, h2] at this
          cases this
      simp only [fX11_lean, e_in, ob, h1, h3, b2f, b2t, if_true, if_false]
    · obtain ⟨t, ht, rfl⟩ := wi_nat (n := 9) rfl (by decide) h2
      by_cases hft : f ≤ t
      · have c : nI f ≤ nI t := nI_le hft (by omega)
        have h3 : wi (nI t) (nI f) 9 = true := by
          rw [wi_t]
          exact ⟨nI_nlt hft (by omega), (wi_t.mp h2).2⟩
        obtain ⟨τ, A, B, t1, t2⟩ := e_survey hI
        obtain ⟨υ, u1, u2, u3⟩ := e_surveyDays hI t2
        have hI2 := inv_cg u2.1 hI
        refine ⟨lvI s f (t + 1 - f), υ, υ, ?_, ?_, hI2⟩
        · simp only [fX10_lean, e_isDay, ob, h1, h2, b2t, if_false, if_pos c, t1, u1, e_leanOf u3 hft ht]
        · simp only [fX11_lean, e_in, ob, h1, h3, b2t, if_false, r_leanNow hI2 hft ht, eq_lv u2.1]
      · have c : ¬ nI f ≤ nI t := nI_ge (by omega) (by omega)
        have h3 : wi (nI t) (nI f) 9 = false := by
          cases h3 : wi (nI t) (nI f) 9
          · rfl
          · exact absurd (nI_lt (show t < f by omega) (by omega)) (wi_t.mp h3).1
        exact ⟨-9999, s, s, by simp only [fX10_lean, e_isDay, ob, h1, h2, b2t, if_false, if_neg c], by simp only [fX11_lean, e_in, ob, h1, h3, b2f, b2t, if_true, if_false], hI⟩
theorem r_ranNow {s : Sg} (hI : Inv s) (x : Int32) : fX11_ranNow x s = some (if x = 0 then nI (rall s 10).2.1 else nI (rall s 10).2.2, s) := by
  have hin : ∀ i, i < 10 → ∀ st : Int32 × Nat × Nat, lpG (fX11_ranNow_L23 x (nI i)) FU (nI (10 * st.2.1 + st.2.2), st.1, nI i) s = some ((nI (10 * (rrow s i st (10 - i)).2.1 + (rrow s i st (10 - i)).2.2), (rrow s i st (10 - i)).1), s) := by
    intro i hi st
    refine lp_rd (body := fX11_ranNow_L23 x (nI i)) (10 - i) (fun m => (nI (10 * (rrow s i st m).2.1 + (rrow s i st m).2.2), (rrow s i st m).1, nI (i + m))) (fun m hm => ?_) ?_ FU (by unfold FU; omega)
    · have c : ¬ (10 : Int32) ≤ nI (i + m) := nI_ge (b := 10) (by omega) (by decide)
      have er : rrow s i st (m + 1) = if lvI s i (m + 1) ≤ (rrow s i st m).1 then rrow s i st m else (lvI s i (m + 1), i, i + m) := rfl
      have e10 : (10 : Int32) * nI i + nI (i + m) = nI (10 * i + (i + m)) := by rw [show (10 : Int32) = nI 10 from rfl, pk_mul, nI_add]
      simp only [fX11_ranNow_L23, if_neg c, r_leanNow hI (show i ≤ i + m by omega) (show i + m ≤ 9 by omega), show i + m + 1 - i = m + 1 by omega, ob, bd, nI_1, er, e10]
      by_cases g : lvI s i (m + 1) ≤ (rrow s i st m).1
      · simp only [if_pos g, ob]; rfl
      · simp only [if_neg g, ob]; rfl
    · have c : (10 : Int32) ≤ nI (i + (10 - i)) := nI_le (a := 10) (by omega) (by omega)
      simp only [fX11_ranNow_L23, if_pos c]
  have e00 : fX11_leanNow (0 : Int32) (0 : Int32) s = some ((rall s 0).1, s) := by
    have := r_leanNow hI (f := 0) (t := 0) (by decide) (by decide)
    rw [show nI 0 = (0 : Int32) from rfl] at this
    rw [this]
    congr 2
    exact Int32.zero_add _
  have hl : lpG (fX11_ranNow_L12 x) FU ((0 : Int32), (rall s 0).1, (0 : Int32)) s = some (nI (10 * (rall s 10).2.1 + (rall s 10).2.2), s) := by
    refine lp_rd (body := fX11_ranNow_L12 x) 10 (fun k => (nI (10 * (rall s k).2.1 + (rall s k).2.2), (rall s k).1, nI k)) (fun k hk => ?_) ?_ FU (by decide)
    · have c : ¬ (10 : Int32) ≤ nI k := nI_ge (b := 10) hk (by decide)
      simp only [fX11_ranNow_L12, if_neg c, hin k hk, ob, bd, nI_1]
      rfl
    · have c : (10 : Int32) ≤ nI 10 := by decide
      simp only [fX11_ranNow_L12, if_pos c]
  obtain ⟨hb1, hb2⟩ := rall_b s 10 (Nat.le_refl _)
  generalize (rall s 10).2.1 = a at *
  generalize (rall s 10).2.2 = b at *
  have c10 : ¬ (10 : Int32) = 0 := by decide
  have ed : dI (nI (10 * a + b)) (10 : Int32) = some (nI a) := by
    unfold dI
    rw [if_neg c10, show (10 : Int32) = nI 10 from rfl, pk_div (by omega) (by decide) (by decide)]
    congr 2; omega
  have em : mI (nI (10 * a + b)) (10 : Int32) = some (nI b) := by
    unfold mI
    rw [if_neg c10, show (10 : Int32) = nI 10 from rfl, pk_rem (by omega) (by decide) (by decide)]
    congr 2; omega
  simp only [fX11_ranNow, e00, ob, hl, ed, em]
  split <;> rfl
theorem all_ran : ok_ran Inv := by
  intro x s hI
  cases h1 : wi x 0 1
  · exact ⟨-2, s, s, by simp only [fX10_ran, e_isPart, ob, h1, b2f, if_true], by simp only [fX11_ran, e_in, ob, h1, b2f, if_true], hI⟩
  · obtain ⟨τ, A, B, t1, t2⟩ := e_survey hI
    obtain ⟨υ, u1, u2, u3⟩ := e_surveyDays hI t2
    have hI2 := inv_cg u2.1 hI
    refine ⟨if x = 0 then nI (rall s 10).2.1 else nI (rall s 10).2.2, υ, υ, ?_, ?_, hI2⟩
    · simp only [fX10_ran, e_isPart, ob, h1, b2t, if_false, t1, u1, u3.2.1, u3.2.2]
      split <;> rfl
    · simp only [fX11_ran, e_in, ob, h1, b2t, if_false, r_ranNow hI2, eq_rall u2.1]
