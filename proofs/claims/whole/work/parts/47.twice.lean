/-! TWICE: pairs of singles of one swimmer -/
def sN (f : Nat → Nat) : Nat → Nat
  | 0 => 0
  | n + 1 => sN f n + f n
theorem sN_cg {f g : Nat → Nat} {n : Nat} (h : ∀ k, k < n → f k = g k) : sN f n = sN g n := by
  induction n with
  | zero => rfl
  | succ n ih => rw [sN, sN, ih (fun k hk => h k (by omega)), h n (by omega)]
def bump (s : Sg) (j : Nat) (c : Nat → Bool) (ix : Nat → Nat) : Nat → Sg
  | 0 => s
  | n + 1 => if c n = true then sI (bump s j c ix n) j (ix n) (gI (bump s j c ix n) j (ix n) + 1) else bump s j c ix n
theorem bump_ne (s : Sg) (j : Nat) (c : Nat → Bool) (ix : Nat → Nat) (n : Nat) {a b : Nat} (h : a ≠ j) : gI (bump s j c ix n) a b = gI s a b := by
  induction n with
  | zero => rfl
  | succ n ih =>
    rw [bump]
    split
    · rw [gI_ne _ _ (Or.inl h), ih]
    · exact ih
theorem bump_at (s : Sg) (j : Nat) (c : Nat → Bool) (ix : Nat → Nat) (n x : Nat) : gI (bump s j c ix n) j x = gI s j x + nI (cn (fun k => c k && decide (ix k = x)) n) := by
  induction n with
  | zero => rw [bump, cn, nI_0, Int32.add_zero]
  | succ n ih =>
    rw [bump, cn]
    by_cases h : c n = true
    · rw [if_pos h]
      by_cases e : ix n = x
      · subst e
        rw [gI_same, ih, if_pos (by simp [h]), ← nI_1, Int32.add_assoc]
      · rw [gI_ne _ _ (Or.inr (Ne.symm e)), ih, if_neg (by simp [e]), Nat.add_zero]
    · rw [if_neg h, ih, if_neg (by simp [h]), Nat.add_zero]
theorem eqv_bump {s t : Sg} (h : Eqv s t) {j : Nat} (c : Nat → Bool) (ix : Nat → Nat) (hc : ∀ k, core j k = false) : ∀ n, Eqv s (bump t j c ix n) := by
  intro n
  induction n with
  | zero => exact h
  | succ n ih =>
    rw [bump]
    split
    · exact ih.I _ (hc _)
    · exact ih
/-- both singles, of one swimmer, the first quicker -/
def pr1 (s : Sg) (a b : Nat) : Bool := decide (swN s a = swN s b) && (sgl s b && decide (tmr s a 0 < tmr s b 0))
def pr (s : Sg) (a b : Nat) : Bool := sgl s a && pr1 s a b
theorem eq_pr {s t : Sg} (h : Eqv s t) : pr1 t = pr1 s ∧ pr t = pr s := by
  have e : pr1 t = pr1 s := by funext a b; unfold pr1; rw [eq_sw h, eq_sgl h, eq_tm h]
  exact ⟨e, by funext a b; unfold pr; rw [e, eq_sgl h]⟩
def pix (s : Sg) (a b : Nat) : Nat := 8 * laN s a + laN s b
theorem eq_pix {s t : Sg} (h : Eqv s t) : pix t = pix s := by funext a b; unfold pix; rw [eq_la h]
theorem pix_lt {s : Sg} (hI : Inv s) {a b : Nat} (ha : a < nS s) (hb : b < nS s) : pix s a b < 64 := by
  have h1 := (hI.2.2.1 a ha).2.2.2.2.2.2.2.2
  have h2 := (hI.2.2.1 b hb).2.2.2.2.2.2.2.2
  unfold pix
  omega
theorem time0 {s : Sg} {k : Nat} (hk : k < 64) : fX3_timeOf (nI k) (0 : Int32) s = some (tmr s k 0, s) := e_timeOf (l := 0) hk (by decide)
theorem core26 (k : Nat) : core 26 k = false := rfl
theorem e_addPairs {s : Sg} (hI : Inv s) {a : Nat} (ha : a < nS s) : fX6_addPairsOf (nI a) s = some (bump s 26 (pr1 s a) (pix s a) (nS s)) := by
  have a6 := hI.1.2.2.2.2.2
  have hl : lpG (fX6_addPairsOf_L2 (nI a)) FU (0 : Int32) s = some ((), bump s 26 (pr1 s a) (pix s a) (nS s)) := by
    refine lp_run (nS s) (fun z => nI z) (fun z => bump s 26 (pr1 s a) (pix s a) z) (fun b hb => ?_) ?_ FU (by unfold FU; omega)
    · have hE := eqv_bump (Eqv.rf s) (pr1 s a) (pix s a) core26 b
      rw [bump]
      generalize bump s 26 (pr1 s a) (pix s a) b = τ at hE
      have hI2 := inv_cg hE hI
      have a4 := hI2.1.2.2.2.1
      rw [eq_nS hE] at a4
      have c : ¬ gI τ 1 1 ≤ nI b := by rw [a4]; exact nI_ge hb (by omega)
      have hb2 : b < nS τ := by rw [eq_nS hE]; exact hb
      have ha2 : a < nS τ := by rw [eq_nS hE]; exact ha
      obtain ⟨b1, b2, b3, b4, b5, b6, b7, b8, b9⟩ := hI2.2.2.1 b hb2
      obtain ⟨c1, c2, c3, c4, c5, c6, c7, c8, c9⟩ := hI2.2.2.1 a ha2
      rw [eq_sw hE] at b4 b6 c4 c6
      rw [eq_la hE] at b7 b9 c7 c9
      have e8 : nI (laN s a) * (8 : Int32) + nI (laN s b) = nI (pix s a b) := by rw [show (8 : Int32) = nI 8 from rfl, pk_mul, nI_add, Nat.mul_comm]; rfl
      have hp := pix_lt hI ha hb
      simp only [fX6_addPairsOf_L2, if_neg c, aI_n (show a < 64 by omega) (by decide), aI_n (show b < 64 by omega) (by decide), ob, bd, b4, c4, b7, c7, e_isSingle hI2 hb2, time0 (show a < 64 by omega), time0 (show b < 64 by omega), e8, aI_n hp (by decide), wI_n hp (by decide), nI_1, eq_sgl hE, eq_tm hE]
      unfold pr1
      by_cases q1 : swN s a = swN s b
      · rw [if_pos (by rw [q1])]
        cases q2 : sgl s b
        · simp only [b2f, if_true, ob]; simp [q1]
        · simp only [b2t, if_false]
          by_cases q3 : tmr s b 0 ≤ tmr s a 0
          · have : ¬ tmr s a 0 < tmr s b 0 := Int32.not_lt.mpr q3
            rw [if_pos q3, ob]; simp [q1, this]
          · have : tmr s a 0 < tmr s b 0 := Int32.not_le.mp q3
            rw [if_neg q3, ob]; simp [q1, this]
      · rw [if_neg (fun e => q1 (nI_inj (by omega) (by omega) e)), ob]
        simp [q1]
    · have hE := eqv_bump (Eqv.rf s) (pr1 s a) (pix s a) core26 (nS s)
      have a4 := (inv_cg hE hI).1.2.2.2.1
      rw [eq_nS hE] at a4
      have c : gI (bump s 26 (pr1 s a) (pix s a) (nS s)) 1 1 ≤ nI (nS s) := by rw [a4]; exact nI_le (Nat.le_refl _) (by omega)
      simp only [fX6_addPairsOf_L2, if_pos c]
  simp only [fX6_addPairsOf, hl, ob]
/-- all pairs, counted into a row -/
def bump2 (s : Sg) (j : Nat) (c : Nat → Nat → Bool) (ix : Nat → Nat → Nat) (m : Nat) : Nat → Sg
  | 0 => s
  | n + 1 => bump (bump2 s j c ix m n) j (c n) (ix n) m
theorem bump2_ne (s : Sg) (j : Nat) (c : Nat → Nat → Bool) (ix : Nat → Nat → Nat) (m n : Nat) {a b : Nat} (h : a ≠ j) : gI (bump2 s j c ix m n) a b = gI s a b := by
  induction n with
  | zero => rfl
  | succ n ih => rw [bump2, bump_ne _ _ _ _ _ h, ih]
theorem bump2_at (s : Sg) (j : Nat) (c : Nat → Nat → Bool) (ix : Nat → Nat → Nat) (m n x : Nat) : gI (bump2 s j c ix m n) j x = gI s j x + nI (sN (fun a => cn (fun b => c a b && decide (ix a b = x)) m) n) := by
  induction n with
  | zero => rw [bump2, sN, nI_0, Int32.add_zero]
  | succ n ih => rw [bump2, bump_at, ih, sN, ← nI_add, Int32.add_assoc]
theorem eqv_bump2 {s t : Sg} (h : Eqv s t) {j : Nat} (c : Nat → Nat → Bool) (ix : Nat → Nat → Nat) (m : Nat) (hc : ∀ k, core j k = false) : ∀ n, Eqv s (bump2 t j c ix m n) := by
  intro n
  induction n with
  | zero => exact h
  | succ n ih => exact eqv_bump ih _ _ hc m
theorem bump_no (s : Sg) (j : Nat) {c : Nat → Bool} (ix : Nat → Nat) (n : Nat) (h : ∀ k, k < n → c k = false) : bump s j c ix n = s := by
  induction n with
  | zero => rfl
  | succ n ih => rw [bump, if_neg (by rw [h n (by omega)]; decide), ih (fun k hk => h k (by omega))]
theorem bump_cg (s : Sg) (j : Nat) {c c' : Nat → Bool} (ix : Nat → Nat) (n : Nat) (h : ∀ k, k < n → c k = c' k) : bump s j c ix n = bump s j c' ix n := by
  induction n with
  | zero => rfl
  | succ n ih => rw [bump, bump, ih (fun k hk => h k (by omega)), h n (by omega)]
/-- how many pairs a place of the row has -/
def wnN (s : Sg) (x : Nat) : Nat := sN (fun a => cn (fun b => pr s a b && decide (pix s a b = x)) (nS s)) (nS s)
theorem eq_wn {s t : Sg} (h : Eqv s t) : wnN t = wnN s := by funext x; unfold wnN; rw [eq_nS h, (eq_pr h).2, eq_pix h]
def sgT (s : Sg) : Sg := bump2 (frow s 26 0 (fun _ => 0) 64) 26 (pr s) (pix s) (nS s) (nS s)
theorem sgT_E (s : Sg) : Eqv s (sgT s) := eqv_bump2 (eqv_frow (Eqv.rf s) _ core26 64) _ _ _ core26 _
theorem sgT_at (s : Sg) {x : Nat} (h : x < 64) : gI (sgT s) 26 x = nI (wnN s x) := by
  have := frow_at s 26 0 (fun _ => 0) 64 h
  rw [Nat.zero_add] at this
  rw [sgT, bump2_at, this, Int32.zero_add]
  rfl
theorem sgT_ne (s : Sg) {a b : Nat} (h : a ≠ 26) : gI (sgT s) a b = gI s a b := by rw [sgT, bump2_ne _ _ _ _ _ _ h, frow_ne _ _ _ _ _ (Or.inl h)]
theorem e_sgSurvey {s : Sg} (hI : Inv s) : fX6_survey s = some (sgT s) := by
  have a6 := hI.1.2.2.2.2.2
  have h1 : lpG fX6_survey_L2 FU (0 : Int32) s = some ((), frow s 26 0 (fun _ => 0) 64) := by
    refine lp_run 64 (fun z => nI z) (fun z => frow s 26 0 (fun _ => 0) z) (fun z hz => ?_) ?_ FU (by decide)
    · have c : ¬ (64 : Int32) ≤ nI z := nI_ge (b := 64) hz (by decide)
      simp only [fX6_survey_L2, if_neg c, wI_n hz (by decide), ob, bd, nI_1]
      rw [frow, Nat.zero_add]
    · have c : (64 : Int32) ≤ nI 64 := by decide
      simp only [fX6_survey_L2, if_pos c]
  have hE0 := eqv_frow (Eqv.rf s) (j := 26) (o := 0) (fun _ => 0) core26 64
  have h2 : lpG fX6_survey_L23 FU (0 : Int32) (frow s 26 0 (fun _ => 0) 64) = some ((), sgT s) := by
    refine lp_run (nS s) (fun z => nI z) (fun z => bump2 (frow s 26 0 (fun _ => 0) 64) 26 (pr s) (pix s) (nS s) z) (fun z hz => ?_) ?_ FU (by unfold FU; omega)
    · have hE := eqv_bump2 hE0 (pr s) (pix s) (nS s) core26 z
      rw [bump2]
      generalize bump2 (frow s 26 0 (fun _ => 0) 64) 26 (pr s) (pix s) (nS s) z = τ at hE
      have hI2 := inv_cg hE hI
      have a4 := hI2.1.2.2.2.1
      rw [eq_nS hE] at a4
      have c : ¬ gI τ 1 1 ≤ nI z := by rw [a4]; exact nI_ge hz (by omega)
      have hz2 : z < nS τ := by rw [eq_nS hE]; exact hz
      have hp := e_addPairs hI2 hz2
      rw [(eq_pr hE).1, eq_pix hE, eq_nS hE] at hp
      simp only [fX6_survey_L23, if_neg c, e_isSingle hI2 hz2, eq_sgl hE, ob, bd, nI_1, hp]
      cases q : sgl s z
      · simp only [b2f, if_true, ob]
        rw [bump_no _ _ _ _ (fun k _ => by simp [pr, q])]
      · simp only [b2t, if_false, ob]
        rw [bump_cg (c := pr s z) (c' := pr1 s z) _ _ _ _ (fun k _ => by simp [pr, q])]
    · have hE := eqv_bump2 hE0 (pr s) (pix s) (nS s) core26 (nS s)
      have a4 := (inv_cg hE hI).1.2.2.2.1
      rw [eq_nS hE] at a4
      have c : gI (bump2 (frow s 26 0 (fun _ => 0) 64) 26 (pr s) (pix s) (nS s) (nS s)) 1 1 ≤ nI (nS s) := by rw [a4]; exact nI_le (Nat.le_refl _) (by omega)
      simp only [fX6_survey_L23, if_pos c]
      rfl
  simp only [fX6_survey, h1, h2, ob]
/-- the reference's count -/
theorem r_twiceNow {s : Sg} (hI : Inv s) {l m : Nat} (hl : l < 8) (hm : m < 8) : fX11_twiceNow (nI l) (nI m) s = some (nI (wnN s (8 * l + m)), s) := by
  have a5 := hI.1.2.2.2.2.1
  have a6 := hI.1.2.2.2.2.2
  have e40 : ∀ k, (4 : Int32) * nI k = nI (4 * k) := fun k => by rw [show (4 : Int32) = nI 4 from rfl, pk_mul]
  have inner : ∀ j, j < nS s → ∀ n0 : Nat, lpG (fX11_twiceNow_L17 (nI l) (nI m) (nI j)) FU (nI n0, (0 : Int32)) s = some (nI (n0 + cn (fun b => pr s j b && decide (pix s j b = 8 * l + m)) (nS s)), s) := by
    intro j hj n0
    refine lp_rd (nS s) (fun z => (nI (n0 + cn (fun b => pr s j b && decide (pix s j b = 8 * l + m)) z), nI z)) (fun z hz => ?_) ?_ FU (by unfold FU; omega)
    · have c : ¬ gI s 49 3 ≤ nI z := by rw [a5]; exact nI_ge hz (by omega)
      obtain ⟨b1, b2, b3, b4, b5, b6, b7, b8, b9⟩ := hI.2.2.1 z hz
      obtain ⟨c1, c2, c3, c4, c5, c6, c7, c8, c9⟩ := hI.2.2.1 j hj
      have t1 : gI s 55 (4 * z) = tmr s z 0 := row55 hI hz (l := 0) (by decide)
      have t2 : gI s 55 (4 * j) = tmr s j 0 := row55 hI hj (l := 0) (by decide)
      simp only [fX11_twiceNow_L17, if_neg c, r_isSingle hI hz, r_isSingle hI hj, ob, bd, aI_n (show z < 64 by omega) (by decide), aI_n (show j < 64 by omega) (by decide), b5, b8, c5, c8, e40, aI_n (show 4 * z < 256 by omega) (by decide), aI_n (show 4 * j < 256 by omega) (by decide), t1, t2, nI_1]
      rw [cn]
      have hpx : pix s j z = 8 * l + m ↔ laN s j = l ∧ laN s z = m := by unfold pix; omega
      cases q1 : sgl s j
      · simp only [b2f, if_true, ob, Int32.add_zero]
        simp [pr, q1]
      · cases q2 : sgl s z
        · simp only [b2t, b2f, if_true, if_false, ob, Int32.add_zero]
          simp [pr, pr1, q2]
        · simp only [b2t, if_false, ob]
          by_cases q3 : swN s j = swN s z
          · rw [if_pos (by rw [q3])]
            by_cases q4 : laN s j = l
            · rw [if_pos (by rw [q4])]
              by_cases q5 : laN s z = m
              · rw [if_pos (by rw [q5]), ob]
                simp only [z10, if_false]
                by_cases q6 : tmr s z 0 ≤ tmr s j 0
                · have : ¬ tmr s j 0 < tmr s z 0 := Int32.not_lt.mpr q6
                  rw [t1, t2, if_pos q6, ob, Int32.add_zero]
                  simp [pr, pr1, this]
                · have : tmr s j 0 < tmr s z 0 := Int32.not_le.mp q6
                  rw [t1, t2, if_neg q6, ob, nI_1]
                  simp [pr, pr1, this, q1, q2, q3, hpx, q4, q5, Nat.add_assoc]
              · rw [if_neg (fun e => q5 (nI_inj (by omega) (by omega) e)), ob]
                simp only [if_true, ob, Int32.add_zero]
                simp [hpx, q5]
            · rw [if_neg (fun e => q4 (nI_inj (by omega) (by omega) e)), ob]
              simp only [if_true, ob, Int32.add_zero]
              simp [hpx, q4]
          · rw [if_neg (fun e => q3 (nI_inj (by omega) (by omega) e)), ob]
            simp only [if_true, ob, Int32.add_zero]
            simp [pr, pr1, q3]
    · have c : gI s 49 3 ≤ nI (nS s) := by rw [a5]; exact nI_le (Nat.le_refl _) (by omega)
      simp only [fX11_twiceNow_L17, if_pos c]
  have hl : lpG (fX11_twiceNow_L5 (nI l) (nI m)) FU ((0 : Int32), (0 : Int32)) s = some (nI (wnN s (8 * l + m)), s) := by
    refine lp_rd (nS s) (fun z => (nI (sN (fun a => cn (fun b => pr s a b && decide (pix s a b = 8 * l + m)) (nS s)) z), nI z)) (fun z hz => ?_) ?_ FU (by unfold FU; omega)
    · have c : ¬ gI s 49 3 ≤ nI z := by rw [a5]; exact nI_ge hz (by omega)
      simp only [fX11_twiceNow_L5, if_neg c, inner z hz, ob, bd, nI_1]
      rfl
    · have c : gI s 49 3 ≤ nI (nS s) := by rw [a5]; exact nI_le (Nat.le_refl _) (by omega)
      simp only [fX11_twiceNow_L5, if_pos c]
      rfl
  simp only [fX11_twiceNow, hl, ob]
theorem all_twice : ok_twice Inv := by
  intro x y s hI
  cases h1 : wi x 0 7
  · exact ⟨-2, s, s, by simp only [fX10_twice, e_isLane, ob, h1, b2f, if_true], by simp only [fX11_twice, r_isLane, ob, h1, b2f, if_true], hI⟩
  · cases h2 : wi y 0 7
    · exact ⟨-2, s, s, by simp only [fX10_twice, e_isLane, ob, h1, h2, b2f, b2t, if_true, if_false], by simp only [fX11_twice, r_isLane, ob, h1, h2, b2f, b2t, if_true, if_false], hI⟩
    · by_cases hxy : x = y
      · exact ⟨-2, s, s, by simp only [fX10_twice, e_isLane, ob, h1, h2, b2t, if_false, if_pos hxy], by simp only [fX11_twice, r_isLane, ob, h1, h2, b2t, if_false, if_pos hxy], hI⟩
      · obtain ⟨l, hl, rfl⟩ := wi_nat (n := 7) rfl (by decide) h1
        obtain ⟨m, hm, rfl⟩ := wi_nat (n := 7) rfl (by decide) h2
        have hE := sgT_E s
        have hI2 := inv_cg hE hI
        have e8 : nI l * (8 : Int32) + nI m = nI (8 * l + m) := by rw [show (8 : Int32) = nI 8 from rfl, pk_mul, nI_add, Nat.mul_comm]
        refine ⟨nI (wnN s (8 * l + m)), sgT s, sgT s, ?_, ?_, hI2⟩
        · simp only [fX10_twice, e_isLane, ob, h1, h2, b2t, if_false, if_neg hxy, e_sgSurvey hI, e8, aI_n (show 8 * l + m < 64 by omega) (by decide), sgT_at s (show 8 * l + m < 64 by omega)]
        · simp only [fX11_twice, r_isLane, ob, h1, h2, b2t, if_false, if_neg hxy, r_twiceNow hI2 (show l < 8 by omega) (show m < 8 by omega), eq_wn hE]
