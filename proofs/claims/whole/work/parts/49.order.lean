/-! ORDER: class and reference -/
theorem e_pairs {s : Sg} {W B : Nat → Nat} (hW : ∀ x, x < 64 → gI s 26 x = nI (W x)) {c l : Nat} (hc : c < 256) (hl : l < 8) (hB : gI s 27 (rmv c l) = nI (B (rmv c l))) : fX6_pairsIfFirst (nI l) (nI c) s = some (nI (vlN W B c l), s) := by
  obtain ⟨q1, q2, -⟩ := rm_i c hc l hl
  have e8 : ∀ m, nI l * (8 : Int32) + nI m = nI (8 * l + m) := fun m => by rw [show (8 : Int32) = nI 8 from rfl, pk_mul, nI_add, Nat.mul_comm]
  have hlp : lpG (fX6_pairsIfFirst_L19 (nI l) (nI (rmv c l))) FU (nI (B (rmv c l)), (0 : Int32)) s = some (nI (vlN W B c l), s) := by
    refine lp_rd 8 (fun z => (nI (B (rmv c l) + sN (fun m => if (Nat.testBit c m && !(decide (m = l))) = true then W (8 * l + m) else 0) z), nI z)) (fun z hz => ?_) ?_ FU (by decide)
    · have c8 : ¬ (8 : Int32) ≤ nI z := nI_ge (b := 8) hz (by decide)
      have ht := rm_t c hc l hl z hz
      simp only [fX6_pairsIfFirst_L19, if_neg c8, e8, aI_n (show 8 * l + z < 64 by omega) (by decide), hW (8 * l + z) (by omega), ob, bd, nI_1, nI_add]
      rw [sN]
      by_cases q : (Nat.testBit c z && !(decide (z = l))) = true
      · rw [if_pos ((bt_has _ q2 _ hz).mpr (by rw [ht]; exact q)), ob, if_pos q, Nat.add_assoc]
      · rw [if_neg (fun e => q (by rw [← ht]; exact (bt_has _ q2 _ hz).mp e)), ob, if_neg q]
        rfl
    · have c8 : (8 : Int32) ≤ nI 8 := by decide
      simp only [fX6_pairsIfFirst_L19, if_pos c8]
      rfl
  simp only [fX6_pairsIfFirst, bd, q1, aI_n q2 (by decide), hB, ob, hlp]
theorem mx_n {a b : Nat} (ha : a < 2 ^ 31) (hb : b < 2 ^ 31) : mxI (nI a) (nI b) = nI (max a b) := by
  unfold mxI
  by_cases h : a < b
  · rw [if_pos (nI_lt h hb), Nat.max_eq_right (by omega)]
  · rw [if_neg (nI_nlt (by omega) ha), Nat.max_eq_left (by omega)]
theorem mxL_mono (W B : Nat → Nat) (c : Nat) : ∀ l, l ≤ 8 → mxL W B c l ≤ mxL W B c 8 := by
  have step : ∀ l, mxL W B c l ≤ mxL W B c (l + 1) := fun l => by
    rw [mxL]
    split
    · exact Nat.le_max_left _ _
    · exact Nat.le_refl _
  intro l hl
  have : ∀ d, mxL W B c l ≤ mxL W B c (l + d) := by
    intro d
    induction d with
    | zero => exact Nat.le_refl _
    | succ d ih => exact Nat.le_trans ih (step _)
  have h := this (8 - l)
  rw [show l + (8 - l) = 8 by omega] at h
  exact h
theorem bs_lt {W : Nat → Nat} (hW : ∀ x, W x ≤ 4096) {c : Nat} (hc : c < 256) : bsN W c < 2 ^ 20 := by
  have h1 := bs_le hW c hc
  have h2 := pc_8 c
  have : pcN c * 32768 ≤ 8 * 32768 := Nat.mul_le_mul_right _ h2
  omega
theorem vl_le (W : Nat → Nat) {c l : Nat} (hc : c < 256) (hl : l < 8) (ht : Nat.testBit c l = true) : vlN W (bsN W) c l ≤ bsN W c := by
  rw [bs_eq W hc]
  exact mxL_le W (bsN W) c 8 l hl ht
theorem core27 (k : Nat) : core 27 k = false := rfl
theorem core28 (k : Nat) : core 28 k = false := rfl
theorem core63 (k : Nat) : core 63 k = false := rfl
theorem core64 (k : Nat) : core 64 k = false := rfl
/-- the class's rows of best orders -/
theorem e_bestRow {s : Sg} {W : Nat → Nat} (hb : ∀ x, W x ≤ 4096) (hW : ∀ x, x < 64 → gI s 26 x = nI (W x)) : ((wI s 27 256 (0 : Int32) (0 : Int32)).bind fun s1 => lpG fX6_arrange_L9 FU (1 : Int32) s1) = some ((), frow s 27 0 (fun c => nI (bsN W c)) 256) := by
  have z0 : wI s 27 256 (0 : Int32) (0 : Int32) = some (frow s 27 0 (fun c => nI (bsN W c)) 1) := by
    rw [show (0 : Int32) = nI 0 from rfl, wI_n (by decide) (by decide), frow, frow, bs_0]
  rw [z0, ob]
  refine lp_run 255 (fun z => nI (z + 1)) (fun z => frow s 27 0 (fun c => nI (bsN W c)) (z + 1)) (fun z hz => ?_) ?_ FU (by decide)
  · generalize hτ : frow s 27 0 (fun c => nI (bsN W c)) (z + 1) = τ
    have hc : z + 1 < 256 := by omega
    have w26 : ∀ x, x < 64 → gI τ 26 x = nI (W x) := fun x hx => by rw [← hτ, frow_ne _ _ _ _ _ (Or.inl (by decide)), hW x hx]
    have w27 : ∀ x, x < z + 1 → gI τ 27 x = nI (bsN W x) := fun x hx => by
      have := frow_at s 27 0 (fun c => nI (bsN W c)) (z + 1) hx
      rw [Nat.zero_add] at this
      rw [← hτ, this]
    have c : ¬ (255 : Int32) < nI (z + 1) := nI_nlt (a := 255) (by omega) (by decide)
    have hin : lpG (fX6_arrange_L20 (nI (z + 1))) FU ((0 : Int32), (0 : Int32)) τ = some (nI (bsN W (z + 1)), τ) := by
      refine lp_rd 8 (fun l => (nI (mxL W (bsN W) (z + 1) l), nI l)) (fun l hl => ?_) ?_ FU (by decide)
      · have c8 : ¬ (8 : Int32) ≤ nI l := nI_ge (b := 8) hl (by decide)
        simp only [fX6_arrange_L20, if_neg c8, nI_1, bd]
        rw [mxL]
        by_cases q : Nat.testBit (z + 1) l = true
        · rw [if_pos ((bt_has _ hc _ hl).mpr q), if_pos q, e_pairs w26 hc hl (w27 _ ((rm_i _ hc _ hl).2.2 q)), ob, ob]
          have h1 := vl_le W hc hl q
          have h2 := bs_lt hb hc
          have h3 := mxL_mono W (bsN W) (z + 1) l (by omega)
          rw [← bs_eq W hc] at h3
          rw [mx_n (by omega) (by omega)]
        · rw [if_neg (fun e => q ((bt_has _ hc _ hl).mp e)), if_neg q, ob]
      · have c8 : (8 : Int32) ≤ nI 8 := by decide
        simp only [fX6_arrange_L20, if_pos c8]
        rw [← bs_eq W hc]
    simp only [fX6_arrange_L9, if_neg c, hin, ob, wI_n hc (by decide), bd, nI_1]
    rw [frow, hτ, Nat.zero_add]
  · have c : (255 : Int32) < nI (255 + 1) := by decide
    simp only [fX6_arrange_L9, if_pos c]
theorem e_leastFirst {s : Sg} {W : Nat → Nat} (hb : ∀ x, W x ≤ 4096) (hW : ∀ x, x < 64 → gI s 26 x = nI (W x)) (hB : ∀ x, x < 256 → gI s 27 x = nI (bsN W x)) {c l : Nat} (hc : c < 256) (hf : isFl W c l) : fX6_leastFirst (nI c) s = some (nI l, s) := by
  have step : ∀ j, j < 8 → fX6_leastFirst_L2 (nI c) (nI j) s = if (Nat.testBit c j = true ∧ vlN W (bsN W) c j = bsN W c) then some (.inr (.inl (nI j)), s) else some (.inl (nI (j + 1)), s) := by
    intro j hj
    have c8 : ¬ (8 : Int32) ≤ nI j := nI_ge (b := 8) hj (by decide)
    simp only [fX6_leastFirst_L2, if_neg c8, nI_1, bd]
    by_cases q : Nat.testBit c j = true
    · rw [if_pos ((bt_has _ hc _ hj).mpr q), e_pairs hW hc hj (hB _ (rm_i _ hc _ hj).2.1), ob, aI_n hc (by decide), ob, hB c hc]
      have h1 := vl_le W hc hj q
      have h2 := bs_lt hb hc
      by_cases q2 : vlN W (bsN W) c j = bsN W c
      · rw [if_pos (by rw [q2]), if_pos ⟨q, q2⟩]
      · rw [if_neg (fun e => q2 (nI_inj (by omega) (by omega) e)), if_neg (fun h => q2 h.2)]
    · rw [if_neg (fun e => q ((bt_has _ hc _ hj).mp e)), if_neg (fun h => q h.1)]
  have hl : lpG (fX6_leastFirst_L2 (nI c)) FU (0 : Int32) s = some (.inl (nI l), s) := by
    have := hf.1
    refine lp_rd l (fun j => nI j) (fun j hj => ?_) ?_ FU (by unfold FU; omega)
    · rw [step j (by omega), if_neg (hf.2.2 j hj)]
    · rw [step l hf.1, if_pos hf.2.1]
  simp only [fX6_leastFirst, hl, ob, Sum.elim_inl]
/-- the class's state behind arrange -/
def arT (s : Sg) (W F : Nat → Nat) : Sg := frow (sI (frow s 27 0 (fun c => nI (bsN W c)) 256) 25 5 (nI (bsN W 255))) 28 0 (fun i => nI (F i)) 8
theorem arT_E (s : Sg) (W F : Nat → Nat) : Eqv s (arT s W F) := eqv_frow ((eqv_frow (Eqv.rf s) _ core27 256).I _ rfl) _ core28 8
theorem e_arrange {s : Sg} {W : Nat → Nat} (hb : ∀ x, W x ≤ 4096) (hW : ∀ x, x < 64 → gI s 26 x = nI (W x)) {L F : Nat → Nat} (h0 : L 0 = 255) (h : ∀ i, i < 8 → L i < 256 ∧ pcN (L i) = 8 - i ∧ isFl W (L i) (F i) ∧ L (i + 1) = rmv (L i) (F i)) : fX6_arrange s = some (arT s W F) := by
  have h1 := e_bestRow hb hW
  have e1 : ∀ {α : Type} (k : Unit × Sg → Option α), ((wI s 27 256 (0 : Int32) (0 : Int32)).bind fun s1 => (lpG fX6_arrange_L9 FU (1 : Int32) s1).bind k) = (some ((), frow s 27 0 (fun c => nI (bsN W c)) 256)).bind k := by
    intro α k
    rw [← h1]
    cases wI s 27 256 (0 : Int32) (0 : Int32) <;> rfl
  unfold fX6_arrange
  rw [e1, ob]
  have w27 : ∀ x, x < 256 → gI (frow s 27 0 (fun c => nI (bsN W c)) 256) 27 x = nI (bsN W x) := fun x hx => by
    have := frow_at s 27 0 (fun c => nI (bsN W c)) 256 hx
    rw [Nat.zero_add] at this
    exact this
  have w26 : ∀ x, x < 64 → gI (frow s 27 0 (fun c => nI (bsN W c)) 256) 26 x = nI (W x) := fun x hx => by rw [frow_ne _ _ _ _ _ (Or.inl (by decide)), hW x hx]
  have e2 : aI (frow s 27 0 (fun c => nI (bsN W c)) 256) 27 256 (255 : Int32) = some (nI (bsN W 255)) := by
    rw [show (255 : Int32) = nI 255 from rfl, aI_n (by decide) (by decide), w27 255 (by decide)]
  show (((aI (frow s 27 0 (fun c => nI (bsN W c)) 256) 27 256 (255 : Int32)).bind fun v3 => _) = _)
  rw [e2, ob, bd]
  generalize hσ : sI (frow s 27 0 (fun c => nI (bsN W c)) 256) 25 5 (nI (bsN W 255)) = σ
  have v27 : ∀ z x, x < 256 → gI (frow σ 28 0 (fun i => nI (F i)) z) 27 x = nI (bsN W x) := fun z x hx => by rw [frow_ne _ _ _ _ _ (Or.inl (by decide)), ← hσ, gI_ne _ _ (Or.inl (by decide)), w27 x hx]
  have v26 : ∀ z x, x < 64 → gI (frow σ 28 0 (fun i => nI (F i)) z) 26 x = nI (W x) := fun z x hx => by rw [frow_ne _ _ _ _ _ (Or.inl (by decide)), ← hσ, gI_ne _ _ (Or.inl (by decide)), w26 x hx]
  have hl : lpG fX6_arrange_L83 FU ((255 : Int32), (0 : Int32)) σ = some ((), frow σ 28 0 (fun i => nI (F i)) 8) := by
    have := lp_run (body := fX6_arrange_L83) 8 (fun i => (nI (L i), nI i)) (fun i => frow σ 28 0 (fun i => nI (F i)) i) (b := ()) (τ := frow σ 28 0 (fun i => nI (F i)) 8) (fun i hi => ?_) ?_ FU (by decide)
    · rw [h0] at this
      exact this
    · obtain ⟨q1, q2, q3, q4⟩ := h i hi
      have c8 : ¬ (8 : Int32) ≤ nI i := nI_ge (b := 8) hi (by decide)
      have hrm := (rm_i _ q1 _ q3.1).1
      simp only [fX6_arrange_L83, if_neg c8, e_leastFirst hb (v26 i) (v27 i) q1 q3, ob, wI_n hi (by decide), aI_n hi (by decide), gI_same, bd, nI_1, hrm]
      rw [frow, Nat.zero_add, q4]
    · have c8 : (8 : Int32) ≤ nI 8 := by decide
      simp only [fX6_arrange_L83, if_pos c8]
  rw [hl, ob]
  unfold arT
  rw [hσ]
/-! the reference -/
def qT (s : Sg) : Sg := bump2 (frow s 63 0 (fun _ => 0) 64) 63 (fun a b => pr s a b && !(decide (laN s a = laN s b))) (pix s) (nS s) (nS s)
theorem qT_E (s : Sg) : Eqv s (qT s) := eqv_bump2 (eqv_frow (Eqv.rf s) _ core63 64) _ _ _ core63 _
theorem qT_at {s : Sg} (hI : Inv s) {l m : Nat} (hl : l < 8) (hm : m < 8) (hne : l ≠ m) : gI (qT s) 63 (8 * l + m) = nI (wnN s (8 * l + m)) := by
  have := frow_at s 63 0 (fun _ => 0) 64 (show 8 * l + m < 64 by omega)
  rw [Nat.zero_add] at this
  rw [qT, bump2_at, this, Int32.zero_add]
  congr 1
  unfold wnN
  refine sN_cg (fun a ha => cn_cg (fun b hb => ?_))
  have h1 := (hI.2.2.1 a ha).2.2.2.2.2.2.2.2
  have h2 := (hI.2.2.1 b hb).2.2.2.2.2.2.2.2
  by_cases e : pix s a b = 8 * l + m
  · have : ¬ laN s a = laN s b := by unfold pix at e; omega
    simp [e, this]
  · simp [e]
theorem r_quick {s : Sg} (hI : Inv s) : ((lpG fX11_orders_L2 FU (0 : Int32) s).bind fun w1 => lpG fX11_orders_L23 FU (0 : Int32) w1.2) = some ((), qT s) := by
  have a6 := hI.1.2.2.2.2.2
  have h1 : lpG fX11_orders_L2 FU (0 : Int32) s = some ((), frow s 63 0 (fun _ => 0) 64) := by
    refine lp_run 64 (fun z => nI z) (fun z => frow s 63 0 (fun _ => 0) z) (fun z hz => ?_) ?_ FU (by decide)
    · have c : ¬ (64 : Int32) ≤ nI z := nI_ge (b := 64) hz (by decide)
      simp only [fX11_orders_L2, if_neg c, wI_n hz (by decide), ob, bd, nI_1]
      rw [frow, Nat.zero_add]
    · have c : (64 : Int32) ≤ nI 64 := by decide
      simp only [fX11_orders_L2, if_pos c]
  rw [h1, ob]
  have hE0 := eqv_frow (Eqv.rf s) (j := 63) (o := 0) (fun _ => 0) core63 64
  have e40 : ∀ k, (4 : Int32) * nI k = nI (4 * k) := fun k => by rw [show (4 : Int32) = nI 4 from rfl, pk_mul]
  have inner : ∀ (τ : Sg), Eqv s τ → ∀ j, j < nS s → lpG (fX11_orders_L33 (nI j)) FU (0 : Int32) τ = some ((), bump τ 63 (fun b => pr s j b && !(decide (laN s j = laN s b))) (pix s j) (nS s)) := by
    intro τ hτ j hj
    refine lp_run (nS s) (fun z => nI z) (fun z => bump τ 63 (fun b => pr s j b && !(decide (laN s j = laN s b))) (pix s j) z) (fun b hb => ?_) ?_ FU (by unfold FU; omega)
    · have hE := eqv_bump hτ (fun b => pr s j b && !(decide (laN s j = laN s b))) (pix s j) core63 b
      rw [bump]
      generalize bump τ 63 (fun b => pr s j b && !(decide (laN s j = laN s b))) (pix s j) b = υ at hE
      have hI2 := inv_cg hE hI
      have a5 := hI2.1.2.2.2.2.1
      rw [eq_nS hE] at a5
      have c : ¬ gI υ 49 3 ≤ nI b := by rw [a5]; exact nI_ge hb (by omega)
      have hb2 : b < nS υ := by rw [eq_nS hE]; exact hb
      have hj2 : j < nS υ := by rw [eq_nS hE]; exact hj
      obtain ⟨b1, b2, b3, b4, b5, b6, b7, b8, b9⟩ := hI2.2.2.1 b hb2
      obtain ⟨c1, c2, c3, c4, c5, c6, c7, c8, c9⟩ := hI2.2.2.1 j hj2
      rw [eq_sw hE] at b5 b6 c5 c6
      rw [eq_la hE] at b8 b9 c8 c9
      have t1 : gI υ 55 (4 * b) = tmr s b 0 := by rw [← eq_tm hE]; exact row55 hI2 hb2 (l := 0) (by decide)
      have t2 : gI υ 55 (4 * j) = tmr s j 0 := by rw [← eq_tm hE]; exact row55 hI2 hj2 (l := 0) (by decide)
      have e8 : (8 : Int32) * nI (laN s j) + nI (laN s b) = nI (pix s j b) := by rw [show (8 : Int32) = nI 8 from rfl, pk_mul, nI_add]; rfl
      have hp := pix_lt hI hj hb
      simp only [fX11_orders_L33, if_neg c, r_isSingle hI2 hj2, r_isSingle hI2 hb2, eq_sgl hE, ob, bd, aI_n (show b < 64 by omega) (by decide), aI_n (show j < 64 by omega) (by decide), b5, c5, b8, c8, e40, aI_n (show 4 * b < 256 by omega) (by decide), aI_n (show 4 * j < 256 by omega) (by decide), e8, aI_n hp (by decide), wI_n hp (by decide), nI_1]
      cases q1 : sgl s j
      · simp only [b2f, if_true, ob]; simp [pr, q1]
      · simp only [b2t, if_false]
        cases q2 : sgl s b
        · simp only [b2f, if_true, ob]; simp [pr, pr1, q2]
        · simp only [b2t, if_false]
          by_cases q3 : swN s j = swN s b
          · rw [if_pos (by rw [q3])]
            by_cases q4 : laN s j = laN s b
            · rw [if_pos (by rw [q4]), ob]; simp [q4]
            · rw [if_neg (fun e => q4 (nI_inj (by omega) (by omega) e)), t1, t2]
              by_cases q5 : tmr s b 0 ≤ tmr s j 0
              · have : ¬ tmr s j 0 < tmr s b 0 := Int32.not_lt.mpr q5
                rw [if_pos q5, ob]; simp [pr, pr1, this]
              · have : tmr s j 0 < tmr s b 0 := Int32.not_le.mp q5
                rw [if_neg q5, ob]; simp [pr, pr1, this, q1, q2, q3, q4]
          · rw [if_neg (fun e => q3 (nI_inj (by omega) (by omega) e)), ob]
            simp [pr, pr1, q3]
    · have hE := eqv_bump hτ (fun b => pr s j b && !(decide (laN s j = laN s b))) (pix s j) core63 (nS s)
      have a5 := (inv_cg hE hI).1.2.2.2.2.1
      rw [eq_nS hE] at a5
      have c : gI (bump τ 63 (fun b => pr s j b && !(decide (laN s j = laN s b))) (pix s j) (nS s)) 49 3 ≤ nI (nS s) := by rw [a5]; exact nI_le (Nat.le_refl _) (by omega)
      simp only [fX11_orders_L33, if_pos c]
  refine lp_run (nS s) (fun z => nI z) (fun z => bump2 (frow s 63 0 (fun _ => 0) 64) 63 (fun a b => pr s a b && !(decide (laN s a = laN s b))) (pix s) (nS s) z) (fun z hz => ?_) ?_ FU (by unfold FU; omega)
  · have hE := eqv_bump2 hE0 (fun a b => pr s a b && !(decide (laN s a = laN s b))) (pix s) (nS s) core63 z
    rw [bump2]
    generalize bump2 (frow s 63 0 (fun _ => 0) 64) 63 (fun a b => pr s a b && !(decide (laN s a = laN s b))) (pix s) (nS s) z = τ at hE
    have a5 := (inv_cg hE hI).1.2.2.2.2.1
    rw [eq_nS hE] at a5
    have c : ¬ gI τ 49 3 ≤ nI z := by rw [a5]; exact nI_ge hz (by omega)
    simp only [fX11_orders_L23, if_neg c, inner τ hE z hz, ob, bd, nI_1]
  · have hE := eqv_bump2 hE0 (fun a b => pr s a b && !(decide (laN s a = laN s b))) (pix s) (nS s) core63 (nS s)
    have a5 := (inv_cg hE hI).1.2.2.2.2.1
    rw [eq_nS hE] at a5
    have c : gI (bump2 (frow s 63 0 (fun _ => 0) 64) 63 (fun a b => pr s a b && !(decide (laN s a = laN s b))) (pix s) (nS s) (nS s)) 49 3 ≤ nI (nS s) := by rw [a5]; exact nI_le (Nat.le_refl _) (by omega)
    simp only [fX11_orders_L23, if_pos c]
    rfl
