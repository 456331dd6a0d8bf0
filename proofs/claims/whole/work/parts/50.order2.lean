/-! ORDER: the reference's sets, and both together -/
theorem cp_t : ∀ c, c < 256 → ∀ m, m < 8 → Nat.testBit (255 - c) m = !(Nat.testBit c m) := by decide +kernel
theorem cp_o : ∀ c, c < 256 → ∀ l, l < 8 → Nat.testBit c l = true → (255 - c ||| 2 ^ l = 255 - rmv c l) := by decide +kernel
/-- a row filled downwards -/
def drow (s : Sg) (j N : Nat) (f : Nat → Int32) : Nat → Sg
  | 0 => s
  | n + 1 => sI (drow s j N f n) j (N - n) (f n)
theorem drow_ne (s : Sg) (j N : Nat) (f : Nat → Int32) (n : Nat) {a b : Nat} (h : a ≠ j) : gI (drow s j N f n) a b = gI s a b := by
  induction n with
  | zero => rfl
  | succ n ih => rw [drow, gI_ne _ _ (Or.inl h), ih]
theorem drow_at (s : Sg) (j N : Nat) (f : Nat → Int32) (n : Nat) (hN : n ≤ N + 1) {i : Nat} (h : i < n) : gI (drow s j N f n) j (N - i) = f i := by
  induction n with
  | zero => omega
  | succ n ih =>
    rw [drow]
    by_cases e : i = n
    · subst e; rw [gI_same]
    · rw [gI_ne _ _ (Or.inr (by omega))]
      exact ih (by omega) (by omega)
theorem eqv_drow {s t : Sg} (h : Eqv s t) {j N : Nat} (f : Nat → Int32) (hc : ∀ k, core j k = false) : ∀ n, Eqv s (drow t j N f n) := by
  intro n
  induction n with
  | zero => exact h
  | succ n ih => exact ih.I _ (hc _)
theorem r_has {c l : Nat} (hc : c < 256) (hl : l < 8) (s : Sg) : fX11_has (nI c) (nI l) s = some (b2i (Nat.testBit c l), s) := by
  unfold fX11_has
  cases h : Nat.testBit c l
  · rw [if_neg (fun e => by rw [bt_has _ hc _ hl, h] at e; cases e)]; rfl
  · rw [if_pos ((bt_has _ hc _ hl).mpr h)]; rfl
/-- for a set c of lanes left, the reference has those placed: 255 - c -/
theorem r_gain {s : Sg} {W : Nat → Nat} (hW : ∀ l m, l < 8 → m < 8 → l ≠ m → gI s 63 (8 * l + m) = nI (W (8 * l + m))) {c l : Nat} (hc : c < 256) (hl : l < 8) : fX11_gain (nI (255 - c)) (nI l) s = some (nI (gnN W c l), s) := by
  have e8 : ∀ m, (8 : Int32) * nI l + nI m = nI (8 * l + m) := fun m => by rw [show (8 : Int32) = nI 8 from rfl, pk_mul, nI_add]
  have hlp : lpG (fX11_gain_L5 (nI (255 - c)) (nI l)) FU ((0 : Int32), (0 : Int32)) s = some (nI (gnN W c l), s) := by
    refine lp_rd 8 (fun z => (nI (sN (fun m => if (Nat.testBit c m && !(decide (m = l))) = true then W (8 * l + m) else 0) z), nI z)) (fun z hz => ?_) ?_ FU (by decide)
    · have c8 : ¬ (8 : Int32) ≤ nI z := nI_ge (b := 8) hz (by decide)
      have ht := cp_t c hc z hz
      simp only [fX11_gain_L5, if_neg c8, r_has (show 255 - c < 256 by omega) hz, ht, e8, aI_n (show 8 * l + z < 64 by omega) (by decide), ob, bd, nI_1]
      rw [sN]
      cases q : Nat.testBit c z
      · simp only [Bool.not_false, b2t, if_false, ob, Int32.add_zero]
        simp
      · simp only [Bool.not_true, b2f, if_true]
        by_cases q2 : z = l
        · rw [if_pos (by rw [q2]), ob, Int32.add_zero]
          simp [q2]
        · rw [if_neg (fun e => q2 (nI_inj (by omega) (by omega) e)), ob, hW l z hl hz (Ne.symm q2), nI_add]
          simp [q2]
    · have c8 : (8 : Int32) ≤ nI 8 := by decide
      simp only [fX11_gain_L5, if_pos c8]
      rfl
  simp only [fX11_gain, hlp, ob]
theorem or_set {c l : Nat} (hc : c < 256) (hl : l < 8) (ht : Nat.testBit c l = true) : nI (255 - c) ||| ((1 : Int32) <<< (nI l &&& 31)) = nI (255 - rmv c l) := by
  rw [(bt_or _ (show 255 - c < 256 by omega) _ hl).1, cp_o c hc l hl ht]
def odT (s : Sg) (W : Nat → Nat) : Sg := drow s 64 255 (fun c => nI (bsN W c)) 256
theorem r_sets {s : Sg} {W : Nat → Nat} (hb : ∀ x, W x ≤ 4096) (hW : ∀ l m, l < 8 → m < 8 → l ≠ m → gI s 63 (8 * l + m) = nI (W (8 * l + m))) : lpG fX11_orders_L147 FU (255 : Int32) s = some ((), odT s W) := by
  refine lp_run 256 (fun c => if c ≤ 255 then nI (255 - c) else -1) (fun c => drow s 64 255 (fun c => nI (bsN W c)) c) (fun c hc => ?_) ?_ FU (by decide)
  · have h255 : c ≤ 255 := by omega
    simp only [if_pos h255]
    generalize hτ : drow s 64 255 (fun c => nI (bsN W c)) c = τ
    have w63 : ∀ l m, l < 8 → m < 8 → l ≠ m → gI τ 63 (8 * l + m) = nI (W (8 * l + m)) := fun l m h1 h2 h3 => by rw [← hτ, drow_ne _ _ _ _ _ (by decide), hW l m h1 h2 h3]
    have w64 : ∀ x, x < c → gI τ 64 (255 - x) = nI (bsN W x) := fun x hx => by rw [← hτ, drow_at _ _ _ _ _ (by omega) hx]
    have cn0 : ¬ nI (255 - c) < 0 := nI_pos (by omega)
    have hin : lpG (fX11_orders_L155 (nI (255 - c))) FU ((0 : Int32), (0 : Int32)) τ = some (nI (bsN W c), τ) := by
      refine lp_rd 8 (fun l => (nI (mxL W (bsN W) c l), nI l)) (fun l hl => ?_) ?_ FU (by decide)
      · have c8 : ¬ (8 : Int32) ≤ nI l := nI_ge (b := 8) hl (by decide)
        simp only [fX11_orders_L155, if_neg c8, r_has (show 255 - c < 256 by omega) hl, cp_t c hc l hl, nI_1, bd, ob]
        rw [mxL]
        cases q : Nat.testBit c l
        · simp only [Bool.not_false, b2t, if_false, ob]
          rw [if_neg (by decide)]
        · have hr := (rm_i c hc l hl).2.2 q
          simp only [Bool.not_true, b2f, if_true, r_gain w63 hc hl, ob, or_set hc hl q, aI_n (show 255 - rmv c l < 256 by omega) (by decide), w64 _ hr, nI_add]
          have h1 := vl_le W hc hl q
          have h2 := bs_lt hb hc
          have h3 := mxL_mono W (bsN W) c l (by omega)
          rw [← bs_eq W hc] at h3
          have e : gnN W c l + bsN W (rmv c l) = vlN W (bsN W) c l := by unfold vlN; omega
          rw [e]
          by_cases q3 : vlN W (bsN W) c l ≤ mxL W (bsN W) c l
          · rw [if_pos (nI_le q3 (by omega)), ob, ob, Nat.max_eq_left q3]
          · rw [if_neg (nI_ge (by omega) (by omega)), ob, ob, Nat.max_eq_right (by omega)]
      · have c8 : (8 : Int32) ≤ nI 8 := by decide
        simp only [fX11_orders_L155, if_pos c8]
        rw [← bs_eq W hc]
    simp only [fX11_orders_L147, if_neg cn0, hin, ob, wI_n (show 255 - c < 256 by omega) (by decide), bd]
    rw [drow, hτ]
    have e9 : nI (255 - c) + (-1) = (if c + 1 ≤ 255 then nI (255 - (c + 1)) else -1) := by
      by_cases h : c + 1 ≤ 255
      · rw [if_pos h, show 255 - c = (255 - (c + 1)) + 1 by omega, pk_m1]
      · rw [if_neg h, show 255 - c = 0 by omega]
        decide
    rw [e9]
  · have h256 : ¬ (256 : Nat) ≤ 255 := by decide
    have cneg : (-1 : Int32) < 0 := by decide
    simp only [if_neg h256, fX11_orders_L147, if_pos cneg]
    rfl
def orT (s : Sg) : Sg := odT (qT s) (wnN s)
theorem orT_E (s : Sg) : Eqv s (orT s) := eqv_drow (qT_E s) _ core64 256
theorem r_orders {s : Sg} (hI : Inv s) : fX11_orders s = some (orT s) := by
  have h1 := r_quick hI
  have e1 : ∀ {α : Type} (k : Unit × Sg → Option α), ((lpG fX11_orders_L2 FU (0 : Int32) s).bind fun w1 => (lpG fX11_orders_L23 FU (0 : Int32) w1.2).bind k) = (some ((), qT s)).bind k := by
    intro α k
    rw [← h1]
    cases lpG fX11_orders_L2 FU (0 : Int32) s <;> rfl
  unfold fX11_orders
  rw [e1, ob]
  show ((lpG fX11_orders_L147 FU (255 : Int32) (qT s)).bind fun w3 => some w3.2) = _
  rw [r_sets (wn_le hI) (fun l m h1 h2 h3 => qT_at hI h1 h2 h3), ob]
  rfl
theorem orT_63 {s : Sg} (hI : Inv s) : ∀ l m, l < 8 → m < 8 → l ≠ m → gI (orT s) 63 (8 * l + m) = nI (wnN s (8 * l + m)) := fun l m h1 h2 h3 => by
  unfold orT odT
  rw [drow_ne _ _ _ _ _ (by decide), qT_at hI h1 h2 h3]
theorem orT_64 (s : Sg) : ∀ x, x < 256 → gI (orT s) 64 (255 - x) = nI (bsN (wnN s) x) := fun x hx => by
  unfold orT odT
  rw [drow_at _ _ _ _ _ (by decide) hx]
theorem r_found {s : Sg} (hI : Inv s) (p1 p4 : Int32) {c l : Nat} (hc : c < 256) (hf : isFl (wnN s) c l) : lpG (fX11_orderNow_L34 p1 (nI (255 - c)) p4) FU ((-1 : Int32), (0 : Int32)) (orT s) = some (nI l, orT s) := by
  have hl8 := hf.1
  have step : ∀ j, j < 8 → fX11_orderNow_L34 p1 (nI (255 - c)) p4 (-1, nI j) (orT s) = some (.inl (if (Nat.testBit c j = true ∧ vlN (wnN s) (bsN (wnN s)) c j = bsN (wnN s) c) then nI j else -1, nI (j + 1)), orT s) := by
    intro j hj
    have c8 : ¬ (8 : Int32) ≤ nI j := nI_ge (b := 8) hj (by decide)
    simp only [fX11_orderNow_L34, if_neg c8, if_true, r_has (show 255 - c < 256 by omega) hj, cp_t c hc j hj, nI_1, bd, ob]
    cases q : Nat.testBit c j
    · simp only [Bool.not_false, b2t, if_false, ob]
      rw [if_neg (fun h => by cases h.1)]
    · obtain ⟨-, hr2, -⟩ := rm_i c hc j hj
      have w0 : gI (orT s) 64 (255 - c) = nI (bsN (wnN s) c) := orT_64 s c hc
      simp only [Bool.not_true, b2f, if_true, r_gain (orT_63 hI) hc hj, ob, or_set hc hj q, aI_n (show 255 - rmv c j < 256 by omega) (by decide), aI_n (show 255 - c < 256 by omega) (by decide), orT_64 s _ hr2, w0, nI_add]
      have h1 := vl_le (wnN s) hc hj q
      have h2 := bs_lt (wn_le hI) hc
      have e : gnN (wnN s) c j + bsN (wnN s) (rmv c j) = vlN (wnN s) (bsN (wnN s)) c j := by unfold vlN; omega
      rw [e]
      by_cases q3 : vlN (wnN s) (bsN (wnN s)) c j = bsN (wnN s) c
      · rw [if_pos (by rw [q3]), ob, if_pos ⟨trivial, q3⟩]
      · rw [if_neg (fun e => q3 (nI_inj (by omega) (by omega) e)), ob, if_neg (fun h => q3 h.2)]
  refine lp_rd (l + 1) (fun j => (if j ≤ l then -1 else nI l, nI j)) (fun j hj => ?_) ?_ FU (by unfold FU; omega)
  · rw [if_pos (show j ≤ l by omega), step j (by omega)]
    by_cases e : j = l
    · subst e
      rw [if_pos hf.2.1, if_neg (by omega)]
    · rw [if_neg (hf.2.2 j (by omega)), if_pos (by omega)]
  · have c1 : ¬ nI l = -1 := m1_ne (by omega)
    rw [if_neg (show ¬ l + 1 ≤ l by omega)]
    simp only [fX11_orderNow_L34, if_neg c1]
    split <;> rfl
theorem all_order : ok_order Inv := by
  intro x s hI
  cases h1 : wi x (-1) 7
  · exact ⟨-2, s, s, by simp only [fX10_order, e_within, ob, h1, b2f, if_true], by simp only [fX11_order, e_in, ob, h1, b2f, if_true], hI⟩
  · obtain ⟨L, F, h0, hLF⟩ := row_ex (wnN s)
    have hE1 := sgT_E s
    have harr := e_arrange (s := sgT s) (wn_le hI) (fun x hx => sgT_at s hx) h0 hLF
    have hE2 : Eqv s (arT (sgT s) (wnN s) F) := hE1.tr (arT_E _ _ _)
    generalize hτ : arT (sgT s) (wnN s) F = τ at harr hE2
    have hI2 := inv_cg hE2 hI
    have hE3 := orT_E τ
    have hI3 := inv_cg hE3 hI2
    have ho := r_orders hI2
    have ew := eq_wn hE2
    by_cases hx : x = -1
    · refine ⟨nI (bsN (wnN s) 255), τ, orT τ, ?_, ?_, hI3⟩
      · have : gI τ 25 5 = nI (bsN (wnN s) 255) := by
          rw [← hτ]
          unfold arT
          rw [frow_ne _ _ _ _ _ (Or.inl (by decide)), gI_same]
        simp only [fX10_order, e_within, ob, h1, b2t, if_false, e_sgSurvey hI, harr, if_pos hx, this]
      · have : gI (orT τ) 64 0 = nI (bsN (wnN s) 255) := by rw [← ew]; exact orT_64 τ 255 (by decide)
        have e0 : aI (orT τ) 64 256 (0 : Int32) = some (nI (bsN (wnN s) 255)) := by rw [show (0 : Int32) = nI 0 from rfl, aI_n (by decide) (by decide), this]
        simp only [fX11_order, e_in, ob, h1, b2t, if_false, fX11_orderNow, ho, if_pos hx, e0]
    · obtain ⟨p, hp, rfl⟩ : ∃ p : Nat, p < 8 ∧ x = nI p := by
        obtain ⟨q1, q2⟩ := wi_t.mp h1
        rcases pk_ix x (n := 8) (by decide) with h | h | h
        · exfalso
          rw [Int32.lt_iff_toInt_lt] at h q1
          have e1 : (-1 : Int32).toInt = -1 := rfl
          have e0 : (0 : Int32).toInt = 0 := rfl
          apply hx
          rw [← Int32.toInt_inj, e1]
          omega
        · exfalso
          rw [Int32.lt_iff_toInt_lt] at q2
          rw [Int32.le_iff_toInt_le, nI_toInt (by decide)] at h
          have e1 : (7 : Int32).toInt = 7 := rfl
          omega
        · exact h
      refine ⟨nI (F p), τ, orT τ, ?_, ?_, hI3⟩
      · have : gI τ 28 p = nI (F p) := by
          have := frow_at (sI (frow (sgT s) 27 0 (fun c => nI (bsN (wnN s) c)) 256) 25 5 (nI (bsN (wnN s) 255))) 28 0 (fun i => nI (F i)) 8 hp
          rw [Nat.zero_add] at this
          rw [← hτ]
          exact this
        simp only [fX10_order, e_within, ob, h1, b2t, if_false, e_sgSurvey hI, harr, if_neg hx, aI_n hp (by decide), this]
      · have hloop : lpG (fX11_orderNow_L23 (nI p)) FU ((0 : Int32), (-1 : Int32), (0 : Int32)) (orT τ) = some (nI (F p), orT τ) := by
          have := lp_rd (body := fX11_orderNow_L23 (nI p)) (p + 1) (fun i => (nI (255 - L i), (if i = 0 then (-1 : Int32) else nI (F (i - 1))), nI i)) (σ := orT τ) (b := nI (F p)) (fun i hi => ?_) ?_ FU (by unfold FU; omega)
          · rw [h0] at this
            exact this
          · obtain ⟨q1, q2, q3, q4⟩ := hLF i (by omega)
            have c : ¬ nI p < nI i := nI_nlt (by omega) (by omega)
            rw [← ew] at q3
            simp only [fX11_orderNow_L23, if_neg c, r_found hI2 (nI p) (nI i) q1 q3, ob, bd, nI_1, or_set q1 q3.1 q3.2.1.1]
            rw [q4, if_neg (by omega), Nat.add_sub_cancel]
          · have c : nI p < nI (p + 1) := nI_lt (by omega) (by omega)
            simp only [fX11_orderNow_L23, if_pos c]
            rw [if_neg (by omega), Nat.add_sub_cancel]
        simp only [fX11_order, e_in, ob, h1, b2t, if_false, fX11_orderNow, ho, if_neg hx, hloop]
