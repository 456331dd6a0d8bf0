/-! tenths -/
theorem accI_4 (g : Nat → Int32) (n : Nat) : accI g (4 * n) = accI (fun k => accI (fun l => g (4 * k + l)) 4) n := by
  induction n with
  | zero => rfl
  | succ n ih =>
    rw [show 4 * (n + 1) = 4 * n + 1 + 1 + 1 + 1 by omega, accI, accI, accI, accI, ih, accI]
    simp only [accI, Int32.zero_add, Int32.add_assoc]
    rfl
theorem accI_b (P : Nat → Bool) (n : Nat) : accI (fun k => b2i (P k)) n = nI (cn P n) := by
  induction n with
  | zero => rfl
  | succ n ih =>
    rw [accI, ih, cn]
    cases P n
    · simp [b2i]
    · simp [b2i, nI_1]
/-- a time of the race (or of all, -1) that was felt; one that ends in 0 -/
def isT (s : Sg) (x : Int32) (i : Nat) : Bool := !(decide (gI s 7 i = -1)) && inRc s x (i / 4)
def isE (s : Sg) (x : Int32) (i : Nat) : Bool := isT s x i && decide (gI s 7 i - gI s 7 i / 10 * 10 = 0)
def nT (s : Sg) (x : Int32) : Nat := cn (isT s x) (4 * nS s)
def nE (s : Sg) (x : Int32) : Nat := cn (isE s x) (4 * nS s)
theorem m1_10 : (-1 : Int32) - (-1 : Int32) / 10 * 10 = -1 := by decide
theorem eq_inRc {s t : Sg} (h : Eqv s t) : inRc t = inRc s := by funext x k; unfold inRc; rw [h 4 k rfl]
theorem e_feltN {s : Sg} (hI : Inv s) (x : Int32) : fX3_feltInRace x s = some (nI (nT s x), s) := by
  rw [e_feltInRace hI]
  congr 2
  unfold nT
  rw [← accI_b, accI_4]
  refine accI_cg (fun k hk => ?_)
  unfold feltV
  cases h : inRc s x k
  · simp only [Bool.false_eq_true, if_false]
    have : ∀ l, l < 4 → isT s x (4 * k + l) = false := fun l hl => by unfold isT; rw [show (4 * k + l) / 4 = k by omega, h]; simp
    simp only [accI, this 0 (by decide), this 1 (by decide), this 2 (by decide), this 3 (by decide)]
    rfl
  · simp only [if_true]
    refine accI_cg (fun l hl => ?_)
    unfold isT
    rw [show (4 * k + l) / 4 = k by omega, h]
    show feI (gI s 7 (4 * k + l)) = _
    unfold feI
    by_cases q : gI s 7 (4 * k + l) = -1
    · simp [q, b2i]
    · simp [q, b2i]
/-- how many of a swim's times end in 0 -/
def tenV (s : Sg) (k : Nat) : Int32 := accI (fun l => b2i (decide (gI s 7 (4 * k + l) - gI s 7 (4 * k + l) / 10 * 10 = 0))) 4
theorem e_tenthsIn {s : Sg} {k : Nat} (hk : k < 64) : fX3_tenthsIn (nI k) s = some (tenV s k, s) := by
  have hl : lpG (fX3_tenthsIn_L4 (nI k)) FU ((0 : Int32), (0 : Int32)) s = some (accI (fun l => b2i (decide (gI s 7 (4 * k + l) - gI s 7 (4 * k + l) / 10 * 10 = 0))) 4, s) := by
    refine lp_rd 4 (fun z => (accI (fun l => b2i (decide (gI s 7 (4 * k + l) - gI s 7 (4 * k + l) / 10 * 10 = 0))) z, nI z)) (fun z hz => ?_) ?_ FU (by decide)
    · have c : ¬ (4 : Int32) ≤ nI z := nI_ge (b := 4) hz (by decide)
      have c10 : ¬ (10 : Int32) = 0 := by decide
      simp only [fX3_tenthsIn_L4, if_neg c, e_timeOf hk hz, ob, bd, nI_1, mI, if_neg c10]
      rw [accI]
      by_cases h : gI s 7 (4 * k + z) - gI s 7 (4 * k + z) / 10 * 10 = 0
      · rw [if_pos h, ob]; simp [h, b2i]
      · rw [if_neg h, ob]; simp [h, b2i]
    · have c : (4 : Int32) ≤ nI 4 := by decide
      simp only [fX3_tenthsIn_L4, if_pos c]
  simp only [fX3_tenthsIn, hl, ob]
  rfl
theorem e_tenN {s : Sg} (hI : Inv s) (x : Int32) : fX3_tenthsInRace x s = some (nI (nE s x), s) := by
  have a4 := hI.1.2.2.2.1
  have a6 := hI.1.2.2.2.2.2
  have hl : lpG (fX3_tenthsInRace_L4 x) FU ((0 : Int32), (0 : Int32)) s = some (accI (fun k => if inRc s x k = true then tenV s k else 0) (nS s), s) := by
    refine lp_rd (nS s) (fun z => (accI (fun k => if inRc s x k = true then tenV s k else 0) z, nI z)) (fun z hz => ?_) ?_ FU (by unfold FU; omega)
    · have c : ¬ gI s 1 1 ≤ nI z := by rw [a4]; exact nI_ge hz (by omega)
      have h64 : z < 64 := by omega
      simp only [fX3_tenthsInRace_L4, if_neg c, e_tenthsIn h64, aI_n h64 (by decide), ob, bd, nI_1]
      rw [accI]
      unfold inRc
      by_cases q1 : x = -1
      · simp [q1, ob]
      · by_cases q2 : gI s 4 z = x
        · simp [q1, q2, ob]
        · simp [q1, q2, ob]
    · have c : gI s 1 1 ≤ nI (nS s) := by rw [a4]; exact nI_le (Nat.le_refl _) (by omega)
      simp only [fX3_tenthsInRace_L4, if_pos c]
  simp only [fX3_tenthsInRace, hl, ob]
  congr 2
  unfold nE
  rw [← accI_b, accI_4]
  refine accI_cg (fun k hk => ?_)
  cases h : inRc s x k
  · simp only [Bool.false_eq_true, if_false]
    have : ∀ l, l < 4 → isE s x (4 * k + l) = false := fun l hl => by unfold isE isT; rw [show (4 * k + l) / 4 = k by omega, h]; simp
    simp only [accI, this 0 (by decide), this 1 (by decide), this 2 (by decide), this 3 (by decide)]
    rfl
  · simp only [if_true]
    unfold tenV
    refine accI_cg (fun l hl => ?_)
    unfold isE isT
    rw [show (4 * k + l) / 4 = k by omega, h]
    by_cases q : gI s 7 (4 * k + l) = -1
    · have n0 : ¬ ((-1 : Int32) - (-1 : Int32) / 10 * 10 = 0) := by rw [m1_10]; decide
      simp [q, n0]
    · simp [q]
theorem r_tenL {s : Sg} (hI : Inv s) (x y : Int32) : lpG (fX11_tenthsNow_L8 x y) FU ((0 : Int32), (0 : Int32), (0 : Int32)) s = some ((nI (nT s x), nI (nE s x)), s) := by
  have a5 := hI.1.2.2.2.2.1
  have a6 := hI.1.2.2.2.2.2
  have e4 : (4 : Int32) * nI (nS s) = nI (4 * nS s) := by rw [show (4 : Int32) = nI 4 from rfl, pk_mul]
  refine lp_rd (4 * nS s) (fun z => (nI (cn (isT s x) z), nI (cn (isE s x) z), nI z)) (fun z hz => ?_) ?_ FU (by unfold FU; omega)
  · have c : ¬ nI (4 * nS s) ≤ nI z := nI_ge hz (by omega)
    have hk : z / 4 < nS s := by omega
    have hdiv : dI (nI z) (4 : Int32) = some (nI (z / 4)) := by
      unfold dI
      rw [if_neg (by decide), show (4 : Int32) = nI 4 from rfl, pk_div (by omega) (by decide) (by decide)]
    have e55 : gI s 55 z = gI s 7 z := hI.2.2.2.1.1 z hz
    have e52 : gI s 52 (z / 4) = gI s 4 (z / 4) := by
      obtain ⟨b1, b2, -⟩ := hI.2.2.1 (z / 4) hk
      rw [b1, b2]
    have c10 : ¬ (10 : Int32) = 0 := by decide
    simp only [fX11_tenthsNow_L8, a5, e4, if_neg c, aI_n (show z < 256 by omega) (by decide), ob, bd, nI_1, hdiv, aI_n (show z / 4 < 64 by omega) (by decide), e55, e52, mI, if_neg c10]
    rw [cn, cn]
    have hT : isT s x z = (!(decide (gI s 7 z = -1)) && inRc s x (z / 4)) := rfl
    have hE : isE s x z = (isT s x z && decide (gI s 7 z - gI s 7 z / 10 * 10 = 0)) := rfl
    by_cases q : gI s 7 z = -1
    · rw [if_pos q, ob]
      simp only [if_true, ob, Int32.add_zero]
      rw [hE, hT]
      simp [q]
    · rw [if_neg q]
      by_cases qx : x = -1
      · rw [if_pos qx, ob]
        simp only [z10, if_false, ob]
        rw [hE, hT]
        by_cases qe : gI s 7 z - gI s 7 z / 10 * 10 = 0
        · rw [if_pos qe, ob]; simp [q, qx, qe, inRc, nI_1]
        · rw [if_neg qe, ob]; simp [q, qx, qe, inRc, nI_1]
      · rw [if_neg qx]
        by_cases qr : gI s 4 (z / 4) = x
        · rw [if_pos qr, ob]
          simp only [z10, if_false, ob]
          rw [hE, hT]
          by_cases qe : gI s 7 z - gI s 7 z / 10 * 10 = 0
          · rw [if_pos qe, ob]; simp [q, qr, qe, inRc, nI_1]
          · rw [if_neg qe, ob]; simp [q, qr, qe, inRc, nI_1]
        · rw [if_neg qr, ob]
          simp only [if_true, ob, Int32.add_zero]
          rw [hE, hT]
          simp [qx, qr, inRc]
  · have c : nI (4 * nS s) ≤ nI (4 * nS s) := nI_le (Nat.le_refl _) (by omega)
    simp only [fX11_tenthsNow_L8, a5, e4, if_pos c]
    rfl
/-! CHANCE of tenths: of 18 at most -/
def cwN (n : Nat) : Nat → Nat
  | 0 => 1
  | k + 1 => cwN n k * (n - k) / (k + 1)
def csN (n e : Nat) : Nat → Nat
  | 0 => 0
  | k + 1 => csN n e k + (if k < e then 0 else cwN n k * 9 ^ (n - k))
theorem cw_b : ∀ n, n < 19 → ∀ k, k < 20 → cwN n k * (n - k) < 2 ^ 62 ∧ cwN n k < 2 ^ 62 ∧ cwN n k * 9 ^ (n - k) < 2 ^ 62 := by decide +kernel
theorem cs_b : ∀ n, n < 19 → ∀ e, e < 20 → csN n e (n + 1) * 10 ^ (6 - n) < 2 ^ 62 ∧ csN n e (n + 1) < 2 ^ 62 := by decide +kernel
theorem p_b : ∀ m, m < 19 → 9 ^ m < 2 ^ 62 ∧ 10 ^ m < 2 ^ 62 := by decide +kernel
theorem e_power {b m : Nat} (s : Sg) (hm : m < 100) : fX10_power (lI b) (nI m) s = some (lI ((b ^ m : Nat) : Int), s) := by
  have hl : lpG (fX10_power_L5 (lI b) (nI m)) FU ((1 : Int64), (0 : Int32)) s = some (lI ((b ^ m : Nat) : Int), s) := by
    refine lp_rd m (fun z => (lI ((b ^ z : Nat) : Int), nI z)) (fun z hz => ?_) ?_ FU (by unfold FU; omega)
    · have c : ¬ nI m ≤ nI z := nI_ge hz (by omega)
      simp only [fX10_power_L5, if_neg c, bd, nI_1, lI_mul, Nat.pow_succ, Int.natCast_mul]
    · have c : nI m ≤ nI m := nI_le (Nat.le_refl _) (by omega)
      simp only [fX10_power_L5, if_pos c]
  simp only [fX10_power, hl, ob]
theorem e_power0 {x : Int32} (b : Int64) (s : Sg) (hx : x ≤ 0) : fX10_power b x s = some (1, s) := by
  have hl : lpG (fX10_power_L5 b x) FU ((1 : Int64), (0 : Int32)) s = some (1, s) := by
    refine lp_rd 0 (fun z => ((1 : Int64), (0 : Int32))) (fun z hz => by omega) ?_ FU (by unfold FU; omega)
    simp only [fX10_power_L5, if_pos hx]
  simp only [fX10_power, hl, ob]
theorem sub_n {a b : Nat} (h : b ≤ a) : nI a - nI b = nI (a - b) := pk_sub h
theorem sub_l {a b : Nat} (h : b ≤ a) (ha : a < 2 ^ 31) : ((nI a - nI b).toInt64) = lI ((a - b : Nat) : Int) := by rw [sub_n h, nI_lI (by omega)]
theorem dL_N {a b : Nat} (ha : a < 2 ^ 62) (hb0 : 0 < b) (hb : b < 2 ^ 62) : dL (lI a) (lI b) = some (lI ((a / b : Nat) : Int)) := by
  rw [dL_I (bdN ha) (bdN hb) (by omega)]
  rfl
def chT (n e : Nat) : Nat := csN n e (n + 1) * 10 ^ (6 - n) / 10 ^ (n - 6)
theorem e_chance {n e : Nat} (hn : n < 19) (he : e ≤ n) (s : Sg) : fX10_chanceOfTenths (nI n) (nI e) s = some ((lI (chT n e)).toInt32, s) := by
  have c18 : nI n ≤ (18 : Int32) := nI_le (b := 18) (by omega) (by decide)
  have h1 : lpG (fX10_chanceOfTenths_L17 (nI n) (nI e)) FU ((0 : Int64), (1 : Int64), (0 : Int32)) s = some (lI (csN n e (n + 1)), s) := by
    refine lp_rd (n + 1) (fun z => (lI (csN n e z), lI (cwN n z), nI z)) (fun z hz => ?_) ?_ FU (by unfold FU; omega)
    · have c : ¬ nI n < nI z := nI_nlt (by omega) (by omega)
      obtain ⟨q1, q2, q3⟩ := cw_b n hn z (by omega)
      have e2 : (nI (z + 1)).toInt64 = lI ((z + 1 : Nat) : Int) := nI_lI (by omega)
      have e1 : (nI (n - z)).toInt64 = lI ((n - z : Nat) : Int) := nI_lI (by omega)
      have e3 : lI (cwN n z) * lI ((n - z : Nat) : Int) = lI ((cwN n z * (n - z) : Nat) : Int) := by rw [lI_mul, Int.natCast_mul]
      have e9 : (9 : Int64) = lI ((9 : Nat) : Int) := rfl
      simp only [fX10_chanceOfTenths_L17, if_neg c, sub_n (show z ≤ n by omega), nI_1, e1, e2, e3, dL_N q1 (show 0 < z + 1 by omega) (show z + 1 < 2 ^ 62 by omega), ob, bd, e9, e_power s (show n - z < 100 by omega)]
      rw [csN, cwN]
      by_cases q : z < e
      · rw [if_pos (nI_lt q (by omega)), ob, if_pos q]
        rfl
      · rw [if_neg (nI_nlt (by omega) (by omega)), ob, if_neg q, lI_mul, lI_add, ← Int.natCast_mul, ← Int.natCast_add]
    · have c : nI n < nI (n + 1) := nI_lt (by omega) (by omega)
      simp only [fX10_chanceOfTenths_L17, if_pos c]
  obtain ⟨b1, b2⟩ := cs_b n hn e (by omega)
  have h2 : fX10_power (10 : Int64) ((6 : Int32) - nI n) s = some (lI ((10 ^ (6 - n) : Nat) : Int), s) := by
    by_cases h6 : n ≤ 6
    · rw [show (6 : Int32) = nI 6 from rfl, sub_n h6, show (10 : Int64) = lI ((10 : Nat) : Int) from rfl, e_power s (by omega)]
    · rw [e_power0 _ _ (by
        rw [Int32.le_iff_toInt_le, show (6 : Int32) = nI 6 from rfl, pk_sub_toInt (by omega) (by omega)]
        have : (0 : Int32).toInt = 0 := rfl
        omega), show 6 - n = 0 by omega]
      rfl
  have h3 : lI (csN n e (n + 1)) * lI ((10 ^ (6 - n) : Nat) : Int) = lI ((csN n e (n + 1) * 10 ^ (6 - n) : Nat) : Int) := by rw [lI_mul, Int.natCast_mul]
  have h4 : lpG (fX10_chanceOfTenths_L84 (nI n)) FU (lI ((csN n e (n + 1) * 10 ^ (6 - n) / 10 ^ 0 : Nat) : Int), nI (6 + 0)) s = some (lI (chT n e), s) := by
    refine lp_rd (n - 6) (fun z => (lI ((csN n e (n + 1) * 10 ^ (6 - n) / 10 ^ z : Nat) : Int), nI (6 + z))) (fun z hz => ?_) ?_ FU (by unfold FU; omega)
    · have c : ¬ nI n ≤ nI (6 + z) := nI_ge (by omega) (by omega)
      have hlt : csN n e (n + 1) * 10 ^ (6 - n) / 10 ^ z < 2 ^ 62 := Nat.lt_of_le_of_lt (Nat.div_le_self _ _) b1
      have e10 : (10 : Int64) = lI ((10 : Nat) : Int) := rfl
      simp only [fX10_chanceOfTenths_L84, if_neg c, e10, dL_N hlt (show 0 < 10 by decide) (show 10 < 2 ^ 62 by decide), ob, bd, nI_1]
      rw [Nat.div_div_eq_div_mul, ← Nat.pow_succ]
      rfl
    · have c : nI n ≤ nI (6 + (n - 6)) := nI_le (by omega) (by omega)
      simp only [fX10_chanceOfTenths_L84, if_pos c]
      rfl
  rw [Nat.pow_zero, Nat.div_one, show nI (6 + 0) = (6 : Int32) from rfl] at h4
  simp only [fX10_chanceOfTenths, if_pos c18, h1, ob, h2, bd, h3, h4]
theorem r_by {n : Nat} (hn : n < 19) (a b c : Int64) (p4 p11 : Int32) {w j : Nat} (hj : j ≤ n) (s : Sg) : lpG (fX11_tenthsNow_L153 (nI n) p4 a b c p11) FU (lI w, nI j) s = some (lI ((w * 9 ^ (n - j) : Nat) : Int), s) := by
  have h : lpG (fX11_tenthsNow_L153 (nI n) p4 a b c p11) FU (lI ((w * 9 ^ 0 : Nat) : Int), nI (j + 0)) s = some (lI ((w * 9 ^ (n - j) : Nat) : Int), s) := by
    refine lp_rd (n - j) (fun z => (lI ((w * 9 ^ z : Nat) : Int), nI (j + z))) (fun z hz => ?_) ?_ FU (by unfold FU; omega)
    · have c : ¬ nI n ≤ nI (j + z) := nI_ge (by omega) (by omega)
      have e9 : (9 : Int64) = lI ((9 : Nat) : Int) := rfl
      simp only [fX11_tenthsNow_L153, if_neg c, bd, e9, lI_mul, nI_1, ← Int.natCast_mul, Nat.pow_succ, Nat.mul_assoc]
      rfl
    · have c : nI n ≤ nI (j + (n - j)) := nI_le (by omega) (by omega)
      simp only [fX11_tenthsNow_L153, if_pos c]
  rw [Nat.pow_zero, Nat.mul_one, Nat.add_zero] at h
  exact h
theorem r_ten2 {n e : Nat} (hn : n < 19) (he : e ≤ n) (s : Sg) : lpG (fX11_tenthsNow_L139 (nI n) (nI e)) FU ((0 : Int64), (1 : Int64), (1 : Int64), (0 : Int32)) s = some ((lI (csN n e (n + 1)), lI ((10 ^ n : Nat) : Int)), s) := by
  refine lp_rd (n + 1) (fun z => (lI (csN n e z), lI (cwN n z), lI ((10 ^ (min z n) : Nat) : Int), nI z)) (fun z hz => ?_) ?_ FU (by unfold FU; omega)
  · have c : ¬ nI n < nI z := nI_nlt (by omega) (by omega)
    obtain ⟨q1, q2, q3⟩ := cw_b n hn z (by omega)
    have e2 : (nI z).toInt64 + (1 : Int64) = lI ((z + 1 : Nat) : Int) := by rw [nI_lI (by omega), show (1 : Int64) = lI 1 from rfl, lI_add]; rfl
    have e1 : ((nI n - nI z).toInt64) = lI ((n - z : Nat) : Int) := sub_l (by omega) (by omega)
    have e3 : lI (cwN n z) * lI ((n - z : Nat) : Int) = lI ((cwN n z * (n - z) : Nat) : Int) := by rw [lI_mul, Int.natCast_mul]
    simp only [fX11_tenthsNow_L139, if_neg c, r_by hn _ _ _ _ _ (show z ≤ n by omega), e1, e2, e3, dL_N q1 (show 0 < z + 1 by omega) (show z + 1 < 2 ^ 62 by omega), ob, bd, nI_1]
    rw [csN, cwN]
    have hten : ((if nI n ≤ nI z then some (1 : Int64) else some (10 : Int64)) : Option Int64) = some (lI ((if n ≤ z then 1 else 10 : Nat) : Int)) := by
      by_cases q : n ≤ z
      · rw [if_pos (nI_le q (by omega)), if_pos q]; rfl
      · rw [if_neg (nI_ge (by omega) (by omega)), if_neg q]; rfl
    have hmin : 10 ^ (min z n) * (if n ≤ z then 1 else 10) = 10 ^ (min (z + 1) n) := by
      by_cases q : n ≤ z
      · rw [if_pos q, Nat.min_eq_right q, Nat.min_eq_right (by omega), Nat.mul_one]
      · rw [if_neg q, Nat.min_eq_left (by omega), Nat.min_eq_left (by omega), Nat.pow_succ]
    rw [hten]
    by_cases q : z < e
    · rw [if_pos (nI_lt q (by omega)), ob, if_pos q, ob, lI_mul, ← Int.natCast_mul, hmin, show (0 : Int64) = lI 0 from rfl, lI_add, Int.add_zero]
      rfl
    · rw [if_neg (nI_nlt (by omega) (by omega)), ob, if_neg q, ob, lI_mul, ← Int.natCast_mul, hmin, lI_add, ← Int.natCast_add]
  · have c : nI n < nI (n + 1) := nI_lt (by omega) (by omega)
    simp only [fX11_tenthsNow_L139, if_pos c]
    rw [Nat.min_eq_right (by omega)]
/-- what tenths answers -/
def tnV (s : Sg) (x w : Int32) : Int32 := if w = 0 then nI (nT s x) else if w = 1 then nI (nE s x) else if nT s x < 19 then (lI (chT (nT s x) (nE s x))).toInt32 else -4
theorem nE_le (s : Sg) (x : Int32) : nE s x ≤ nT s x := by
  unfold nE nT
  rw [cn_split (isT s x) (fun i => decide (gI s 7 i - gI s 7 i / 10 * 10 = 0))]
  have : cn (isE s x) (4 * nS s) = cn (fun k => isT s x k && decide (gI s 7 k - gI s 7 k / 10 * 10 = 0)) (4 * nS s) := rfl
  omega
theorem nT_le {s : Sg} (hI : Inv s) (x : Int32) : nT s x ≤ 256 := by
  have := cn_le (isT s x) (4 * nS s)
  have := hI.1.2.2.2.2.2
  unfold nT
  omega
theorem w3 {x : Int32} (h : wi x 0 2 = true) : x = 0 ∨ x = 1 ∨ x = 2 := by
  obtain ⟨k, hk, rfl⟩ := wi_nat (n := 2) rfl (by decide) h
  match k, hk with
  | 0, _ => exact Or.inl rfl
  | 1, _ => exact Or.inr (Or.inl rfl)
  | 2, _ => exact Or.inr (Or.inr rfl)
theorem p_pos : ∀ n, n < 19 → 0 < 10 ^ n := by decide +kernel
theorem p10_8 : ∀ n, n < 19 → n < 6 → 1000000 / 10 ^ n = 10 ^ (6 - n) := by decide +kernel
theorem p10_9 : ∀ n, n < 19 → ¬ n < 6 → 10 ^ n / 1000000 = 10 ^ (n - 6) ∧ 0 < 10 ^ (n - 6) := by decide +kernel
theorem p10_l : ∀ n, n < 19 → (10 ^ n < 1000000 ↔ n < 6) := by decide +kernel
theorem r_tenthsNow {s : Sg} (hI : Inv s) (x : Int32) {w : Int32} (hw : wi w 0 2 = true) : fX11_tenthsNow x w s = some (tnV s x w, s) := by
  have hT := nT_le hI x
  have hE := nE_le s x
  simp only [fX11_tenthsNow, r_tenL hI, ob]
  unfold tnV
  rcases w3 hw with rfl | rfl | rfl
  · rfl
  · rfl
  · have c2 : (2 : Int32) ≤ 2 := by decide
    have n0 : ¬ (2 : Int32) = 0 := by decide
    have n1 : ¬ (2 : Int32) = 1 := by decide
    rw [if_pos c2, if_neg n0, if_neg n1]
    by_cases h : nT s x < 19
    · have c18 : nI (nT s x) ≤ (18 : Int32) := nI_le (b := 18) (by omega) (by decide)
      rw [if_pos c18, if_pos h, r_ten2 h hE, ob]
      generalize nT s x = n at *
      generalize nE s x = e at *
      obtain ⟨b1, b2⟩ := cs_b n h e (by omega)
      have hp := (p_b n h).2
      have e6 : (1000000 : Int64) = lI ((1000000 : Nat) : Int) := rfl
      simp only [e6]
      have hc : (lg_cmp (lI ((10 ^ n : Nat) : Int)) (lI ((1000000 : Nat) : Int)) < 0) ↔ n < 6 := by
        rw [lg_cmp_lt, lI_lt (bdN hp) (bdN (by decide)), ← p10_l n h]
        omega
      unfold chT
      by_cases h6 : n < 6
      · rw [if_pos (hc.mpr h6), dL_N (by decide) (p_pos n h) hp, ob, p10_8 n h h6, lI_mul, ← Int.natCast_mul, show n - 6 = 0 by omega]
        simp
      · obtain ⟨q1, q2⟩ := p10_9 n h h6
        rw [if_neg (fun h => h6 (hc.mp h)), dL_N hp (by decide) (by decide), ob, q1, dL_N b2 q2 (by rw [← q1]; exact Nat.lt_of_le_of_lt (Nat.div_le_self _ _) hp), ob, show 6 - n = 0 by omega]
        simp
    · have c : ¬ nI (nT s x) ≤ (18 : Int32) := nI_ge (a := 18) (by omega) (by omega)
      rw [if_neg c, if_neg h]
theorem e_tenthsV {s : Sg} (hI : Inv s) (x : Int32) {w : Int32} (hw : wi w 0 2 = true) : ((fX3_feltInRace x s).bind fun w2 => if w = 0 then some (w2.1, w2.2) else (fX3_tenthsInRace x w2.2).bind fun w3 => if w = (1 : Int32) then some (w3.1, w3.2) else (fX10_chanceOfTenths w2.1 w3.1 w3.2).bind fun w4 => some (w4.1, w4.2)) = some (tnV s x w, s) := by
  have hT := nT_le hI x
  have hE := nE_le s x
  simp only [e_feltN hI, e_tenN hI, ob]
  unfold tnV
  rcases w3 hw with rfl | rfl | rfl
  · rfl
  · rfl
  · have n0 : ¬ (2 : Int32) = 0 := by decide
    have n1 : ¬ (2 : Int32) = 1 := by decide
    rw [if_neg n0, if_neg n1, if_neg n0, if_neg n1]
    by_cases h : nT s x < 19
    · rw [e_chance h hE, ob, if_pos h]
    · have c : ¬ nI (nT s x) ≤ (18 : Int32) := nI_ge (a := 18) (by omega) (by omega)
      simp only [fX10_chanceOfTenths, if_neg c, ob, if_neg h]
theorem all_tenths : ok_tenths Inv := by
  intro x w s hI
  have hA := hI.1
  cases h2 : wi w 0 2
  · refine ⟨-2, s, s, ?_, ?_, hI⟩
    · simp only [fX10_tenths, e_within, e_hasRace, ob, h2, b2f, if_true]
      by_cases q : x = -1
      · rw [if_pos q]
      · rw [if_neg q]; cases hasB s x <;> simp [b2i]
    · simp only [fX11_tenths, e_in, r_isRace hA, ob, h2, b2f, if_true]
      by_cases q : x = -1
      · rw [if_pos q]
      · rw [if_neg q]; cases hasB s x <;> simp [b2i]
  · by_cases q : x = -1
    · refine ⟨tnV s x w, s, s, ?_, ?_, hI⟩
      · simp only [fX10_tenths, if_pos q, e_within, ob, h2, b2t, if_false]
        exact e_tenthsV hI x h2
      · simp only [fX11_tenths, if_pos q, e_in, ob, h2, b2t, if_false, r_tenthsNow hI x h2]
    · cases h1 : hasB s x
      · exact ⟨-2, s, s, by simp only [fX10_tenths, if_neg q, e_hasRace, ob, h1, b2f, if_true], by simp only [fX11_tenths, if_neg q, r_isRace hA, ob, h1, b2f, if_true], hI⟩
      · refine ⟨tnV s x w, s, s, ?_, ?_, hI⟩
        · simp only [fX10_tenths, if_neg q, e_hasRace, e_within, ob, h1, h2, b2t, if_false]
          exact e_tenthsV hI x h2
        · simp only [fX11_tenths, if_neg q, r_isRace hA, e_in, ob, h1, h2, b2t, if_false, r_tenthsNow hI x h2]
