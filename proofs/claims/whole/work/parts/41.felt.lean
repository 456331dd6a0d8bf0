/-! one swim's times: felt, together, doubled means and diffs, singles -/
def accI (f : Nat → Int32) : Nat → Int32
  | 0 => 0
  | n + 1 => accI f n + f n
theorem accI_cg {f g : Nat → Int32} {n : Nat} (h : ∀ k, k < n → f k = g k) : accI f n = accI g n := by
  induction n with
  | zero => rfl
  | succ n ih => rw [accI, accI, ih (fun k hk => h k (by omega)), h n (by omega)]
def tmr (s : Sg) (k : Nat) : Nat → Int32 := fun l => gI s 7 (4 * k + l)
theorem eq_tm {s t : Sg} (h : Eqv s t) : tmr t = tmr s := by funext k l; exact h 7 _ rfl
def feI (v : Int32) : Int32 := if v = -1 then 0 else 1
def toI (v : Int32) : Int32 := if v = -1 then 0 else v
def feltV (t : Nat → Int32) : Int32 := accI (fun l => feI (t l)) 4
def totV (t : Nat → Int32) : Int32 := accI (fun l => toI (t l)) 4
/-- twice the mean on one way -/
def dblM (t : Nat → Int32) (f : Nat) : Int32 := if t f = -1 then (if t (f + 2) = -1 then 0 else 2 * t (f + 2)) else if t (f + 2) = -1 then 2 * t f else t f + t (f + 2)
def hasDV (t : Nat → Int32) : Bool := decide (0 < dblM t 0) && decide (0 < dblM t 1)
def dblD (t : Nat → Int32) : Int32 := dblM t 0 - dblM t 1
theorem e_feltIn {s : Sg} {k : Nat} (hk : k < 64) : fX3_feltIn (nI k) s = some (feltV (tmr s k), s) := by
  have hl : lpG (fX3_feltIn_L4 (nI k)) FU ((0 : Int32), (0 : Int32)) s = some (feltV (tmr s k), s) := by
    refine lp_rd 4 (fun z => (accI (fun l => feI (tmr s k l)) z, nI z)) (fun z hz => ?_) ?_ FU (by decide)
    · have c : ¬ (4 : Int32) ≤ nI z := nI_ge (b := 4) hz (by decide)
      simp only [fX3_feltIn_L4, if_neg c, e_timeOf hk hz, ob, bd, nI_1]
      rw [accI]
      show _ = some (Sum.inl (accI (fun l => feI (tmr s k l)) z + feI (gI s 7 (4 * k + z)), nI (z + 1)), s)
      unfold feI
      by_cases h : gI s 7 (4 * k + z) = -1
      · rw [if_pos h, if_pos h, ob, Int32.add_zero]
      · rw [if_neg h, if_neg h, ob]
    · have c : (4 : Int32) ≤ nI 4 := by decide
      simp only [fX3_feltIn_L4, if_pos c]
      rfl
  simp only [fX3_feltIn, hl, ob]
theorem e_togetherIn {s : Sg} {k : Nat} (hk : k < 64) : fX3_togetherIn (nI k) s = some (totV (tmr s k), s) := by
  have hl : lpG (fX3_togetherIn_L4 (nI k)) FU ((0 : Int32), (0 : Int32)) s = some (totV (tmr s k), s) := by
    refine lp_rd 4 (fun z => (accI (fun l => toI (tmr s k l)) z, nI z)) (fun z hz => ?_) ?_ FU (by decide)
    · have c : ¬ (4 : Int32) ≤ nI z := nI_ge (b := 4) hz (by decide)
      simp only [fX3_togetherIn_L4, if_neg c, e_timeOf hk hz, ob, bd, nI_1]
      rw [accI]
      show _ = some (Sum.inl (accI (fun l => toI (tmr s k l)) z + toI (gI s 7 (4 * k + z)), nI (z + 1)), s)
      unfold toI
      by_cases h : gI s 7 (4 * k + z) = -1
      · rw [if_pos h, if_pos h, ob, Int32.add_zero]
      · rw [if_neg h, if_neg h, ob]
    · have c : (4 : Int32) ≤ nI 4 := by decide
      simp only [fX3_togetherIn_L4, if_pos c]
      rfl
  simp only [fX3_togetherIn, hl, ob]
theorem row55 {s : Sg} (hI : Inv s) {k l : Nat} (hk : k < nS s) (hl : l < 4) : gI s 55 (4 * k + l) = tmr s k l := hI.2.2.2.1.1 _ (by omega)
theorem okTm {s : Sg} (hI : Inv s) {k l : Nat} (hk : k < nS s) (hl : l < 4) : okT (tmr s k l) := hI.2.2.2.1.2.1 _ (by have := hI.1.2.2.2.2.2; omega)
theorem r_feltOf {s : Sg} (hI : Inv s) {k : Nat} (hk : k < nS s) : fX11_feltOf (nI k) s = some (feltV (tmr s k), s) := by
  have h64 : k < 64 := by have := hI.1.2.2.2.2.2; omega
  have hl : lpG (fX11_feltOf_L4 (nI k)) FU ((0 : Int32), (0 : Int32)) s = some (feltV (tmr s k), s) := by
    refine lp_rd 4 (fun z => (accI (fun l => feI (tmr s k l)) z, nI z)) (fun z hz => ?_) ?_ FU (by decide)
    · have c : ¬ (4 : Int32) ≤ nI z := nI_ge (b := 4) hz (by decide)
      simp only [fX11_feltOf_L4, if_neg c, t_ix', aI_n (show 4 * k + z < 256 by omega) (by decide), row55 hI hk hz, ob, bd, nI_1]
      rw [accI]
      unfold feI
      by_cases h : tmr s k z = -1
      · rw [if_pos h, if_pos h, ob]
      · rw [if_neg h, if_neg h, ob]
    · have c : (4 : Int32) ≤ nI 4 := by decide
      simp only [fX11_feltOf_L4, if_pos c]
      rfl
  simp only [fX11_feltOf, hl, ob]
theorem r_totalOf {s : Sg} (hI : Inv s) {k : Nat} (hk : k < nS s) : fX11_totalOf (nI k) s = some (totV (tmr s k), s) := by
  have h64 : k < 64 := by have := hI.1.2.2.2.2.2; omega
  have hl : lpG (fX11_totalOf_L4 (nI k)) FU ((0 : Int32), (0 : Int32)) s = some (totV (tmr s k), s) := by
    refine lp_rd 4 (fun z => (accI (fun l => toI (tmr s k l)) z, nI z)) (fun z hz => ?_) ?_ FU (by decide)
    · have c : ¬ (4 : Int32) ≤ nI z := nI_ge (b := 4) hz (by decide)
      simp only [fX11_totalOf_L4, if_neg c, t_ix', aI_n (show 4 * k + z < 256 by omega) (by decide), row55 hI hk hz, ob, bd, nI_1]
      rw [accI]
      unfold toI
      by_cases h : tmr s k z = -1
      · rw [if_pos h, if_pos h, ob]
      · rw [if_neg h, if_neg h, ob]
    · have c : (4 : Int32) ≤ nI 4 := by decide
      simp only [fX11_totalOf_L4, if_pos c]
      rfl
  simp only [fX11_totalOf, hl, ob]
theorem e_doubledMean {s : Sg} {k f : Nat} (hk : k < 64) (hf : f < 2) : fX3_doubledMean (nI k) (nI f) s = some (dblM (tmr s k) f, s) := by
  have e2 : nI f + (2 : Int32) = nI (f + 2) := nI_add f 2
  simp only [fX3_doubledMean, e_timeOf hk (show f < 4 by omega), e2, e_timeOf hk (show f + 2 < 4 by omega), ob]
  show _ = some (dblM (fun l => gI s 7 (4 * k + l)) f, s)
  unfold dblM
  by_cases h1 : gI s 7 (4 * k + f) = -1
  · by_cases h2 : gI s 7 (4 * k + (f + 2)) = -1
    · simp only [if_pos h1, if_pos h2]
    · simp only [if_pos h1, if_neg h2]
  · by_cases h2 : gI s 7 (4 * k + (f + 2)) = -1
    · simp only [if_neg h1, if_pos h2]
    · simp only [if_neg h1, if_neg h2]
theorem e_hasDiff {s : Sg} {k : Nat} (hk : k < 64) : fX3_hasDiff (nI k) s = some (b2i (hasDV (tmr s k)), s) := by
  have e0 := e_doubledMean (s := s) hk (f := 0) (by decide)
  have e1 := e_doubledMean (s := s) hk (f := 1) (by decide)
  have z0 : nI 0 = (0 : Int32) := rfl
  have z1 : nI 1 = (1 : Int32) := rfl
  rw [z0] at e0
  rw [z1] at e1
  simp only [fX3_hasDiff, e0, e1, ob, hasDV]
  by_cases h1 : dblM (tmr s k) 0 ≤ 0
  · have : ¬ 0 < dblM (tmr s k) 0 := Int32.not_lt.mpr h1
    simp [h1, this, b2i]
  · have h1' : 0 < dblM (tmr s k) 0 := Int32.not_le.mp h1
    by_cases h2 : dblM (tmr s k) 1 ≤ 0
    · have : ¬ 0 < dblM (tmr s k) 1 := Int32.not_lt.mpr h2
      simp [h1, h2, this, b2i]
    · have h2' : 0 < dblM (tmr s k) 1 := Int32.not_le.mp h2
      simp [h1, h1', h2, h2', b2i]
theorem e_doubledDiff {s : Sg} {k : Nat} (hk : k < 64) : fX3_doubledDiff (nI k) s = some (dblD (tmr s k), s) := by
  have e0 := e_doubledMean (s := s) hk (f := 0) (by decide)
  have e1 := e_doubledMean (s := s) hk (f := 1) (by decide)
  have z0 : nI 0 = (0 : Int32) := rfl
  have z1 : nI 1 = (1 : Int32) := rfl
  rw [z0] at e0
  rw [z1] at e1
  simp only [fX3_doubledDiff, e0, e1, ob, dblD]
/-- what the reference finds on one way -/
theorem r_feltOn {s : Sg} (hI : Inv s) {k f : Nat} (hk : k < nS s) (hf : f < 2) : fX11_feltOn (nI k) (nI f) s = some (0 + feI (tmr s k f) + feI (tmr s k (f + 2)), s) := by
  have h64 : k < 64 := by have := hI.1.2.2.2.2.2; omega
  have hl : lpG (fX11_feltOn_L5 (nI k)) FU ((0 : Int32), nI f) s = some (0 + feI (tmr s k f) + feI (tmr s k (f + 2)), s) := by
    refine lp_rd 2 (fun z => (accI (fun i => feI (tmr s k (f + 2 * i))) z, nI (f + 2 * z))) (fun z hz => ?_) ?_ FU (by decide)
    · have c : ¬ (4 : Int32) ≤ nI (f + 2 * z) := nI_ge (b := 4) (by omega) (by decide)
      have e2 : nI (f + 2 * z) + (2 : Int32) = nI (f + 2 * (z + 1)) := nI_add (f + 2 * z) 2
      simp only [fX11_feltOn_L5, if_neg c, t_ix', aI_n (show 4 * k + (f + 2 * z) < 256 by omega) (by decide), row55 hI hk (show f + 2 * z < 4 by omega), ob, bd, e2]
      rw [accI]
      unfold feI
      by_cases h : tmr s k (f + 2 * z) = -1
      · rw [if_pos h, if_pos h, ob]
      · rw [if_neg h, if_neg h, ob]
    · have c : (4 : Int32) ≤ nI (f + 2 * 2) := nI_le (a := 4) (by omega) (by omega)
      simp only [fX11_feltOn_L5, if_pos c]
      rfl
  simp only [fX11_feltOn, hl, ob]
theorem two_n (n : Nat) : (2 : Int32) * nI n = nI (2 * n) := by rw [show (2 : Int32) = nI 2 from rfl, pk_mul]
/-- the doubled mean as a number -/
theorem dblM_n {t : Nat → Int32} {f : Nat} (h1 : okT (t f)) (h2 : okT (t (f + 2))) : ∃ n : Nat, n ≤ 19998 ∧ dblM t f = nI n ∧ ((t f = -1 ∧ t (f + 2) = -1 ∧ n = 0) ∨ (¬ (t f = -1 ∧ t (f + 2) = -1) ∧ 0 < n)) := by
  unfold dblM
  rcases h1 with h1 | ⟨a, ha1, ha2, h1⟩
  · rcases h2 with h2 | ⟨b, hb1, hb2, h2⟩
    · refine ⟨0, by omega, ?_, Or.inl ⟨h1, h2, rfl⟩⟩
      rw [if_pos h1, if_pos h2]; rfl
    · have n2 : ¬ t (f + 2) = -1 := by rw [h2]; exact m1_ne (by omega)
      refine ⟨2 * b, by omega, ?_, Or.inr ⟨fun h => n2 h.2, by omega⟩⟩
      rw [if_pos h1, if_neg n2, h2, two_n]
  · have n1 : ¬ t f = -1 := by rw [h1]; exact m1_ne (by omega)
    rcases h2 with h2 | ⟨b, hb1, hb2, h2⟩
    · refine ⟨2 * a, by omega, ?_, Or.inr ⟨fun h => n1 h.1, by omega⟩⟩
      rw [if_neg n1, if_pos h2, h1, two_n]
    · have n2 : ¬ t (f + 2) = -1 := by rw [h2]; exact m1_ne (by omega)
      refine ⟨a + b, by omega, ?_, Or.inr ⟨fun h => n1 h.1, by omega⟩⟩
      rw [if_neg n1, if_neg n2, h1, h2, nI_add]
theorem feI_le {a b : Int32} : (0 + feI a + feI b ≤ 0) ↔ a = -1 ∧ b = -1 := by
  unfold feI
  by_cases h1 : a = -1 <;> by_cases h2 : b = -1 <;> simp [h1, h2] <;> decide
theorem dblM_pos {t : Nat → Int32} {f : Nat} (h1 : okT (t f)) (h2 : okT (t (f + 2))) : (0 < dblM t f) ↔ ¬ (t f = -1 ∧ t (f + 2) = -1) := by
  obtain ⟨n, hn, e, h⟩ := dblM_n h1 h2
  rw [e]
  rcases h with ⟨q1, q2, q3⟩ | ⟨q1, q2⟩
  · subst q3
    exact ⟨fun h => absurd h (by decide), fun h => absurd ⟨q1, q2⟩ h⟩
  · exact ⟨fun _ => q1, fun _ => nI_lt (a := 0) q2 (by omega)⟩
theorem r_hasDiff {s : Sg} (hI : Inv s) {k : Nat} (hk : k < nS s) : fX11_hasDiff (nI k) s = some (b2i (hasDV (tmr s k)), s) := by
  have e0 := r_feltOn hI hk (f := 0) (by decide)
  have e1 := r_feltOn hI hk (f := 1) (by decide)
  have z0 : nI 0 = (0 : Int32) := rfl
  have z1 : nI 1 = (1 : Int32) := rfl
  rw [z0] at e0
  rw [z1] at e1
  have p0 := dblM_pos (t := tmr s k) (f := 0) (okTm hI hk (by decide)) (okTm hI hk (by decide))
  have p1 := dblM_pos (t := tmr s k) (f := 1) (okTm hI hk (by decide)) (okTm hI hk (by decide))
  simp only [fX11_hasDiff, e0, e1, ob, hasDV]
  by_cases h1 : tmr s k 0 = -1 ∧ tmr s k (0 + 2) = -1
  · have : ¬ 0 < dblM (tmr s k) 0 := fun h => p0.mp h h1
    rw [if_pos (feI_le.mpr h1)]
    simp [this, b2i]
  · have q0 := p0.mpr h1
    rw [if_neg (fun h => h1 (feI_le.mp h))]
    by_cases h2 : tmr s k 1 = -1 ∧ tmr s k (1 + 2) = -1
    · have : ¬ 0 < dblM (tmr s k) 1 := fun h => p1.mp h h2
      rw [if_pos (feI_le.mpr h2)]
      simp [this, b2i]
    · have q1 := p1.mpr h2
      rw [if_neg (fun h => h2 (feI_le.mp h))]
      simp [q0, q1, b2i]
theorem r_twiceMean {s : Sg} (hI : Inv s) {k f : Nat} (hk : k < nS s) (hf : f < 2) : fX11_twiceMean (nI k) (nI f) s = some (dblM (tmr s k) f, s) := by
  have h64 : k < 64 := by have := hI.1.2.2.2.2.2; omega
  have hl : lpG (fX11_twiceMean_L5 (nI k) (nI f)) FU ((0 : Int32), nI f) s = some (0 + toI (tmr s k f) + toI (tmr s k (f + 2)), s) := by
    refine lp_rd 2 (fun z => (accI (fun i => toI (tmr s k (f + 2 * i))) z, nI (f + 2 * z))) (fun z hz => ?_) ?_ FU (by decide)
    · have c : ¬ (4 : Int32) ≤ nI (f + 2 * z) := nI_ge (b := 4) (by omega) (by decide)
      have e2 : nI (f + 2 * z) + (2 : Int32) = nI (f + 2 * (z + 1)) := nI_add (f + 2 * z) 2
      simp only [fX11_twiceMean_L5, if_neg c, t_ix', aI_n (show 4 * k + (f + 2 * z) < 256 by omega) (by decide), row55 hI hk (show f + 2 * z < 4 by omega), ob, bd, e2]
      rw [accI]
      unfold toI
      by_cases h : tmr s k (f + 2 * z) = -1
      · rw [if_pos h, if_pos h, ob]
      · rw [if_neg h, if_neg h, ob]
    · have c : (4 : Int32) ≤ nI (f + 2 * 2) := nI_le (a := 4) (by omega) (by omega)
      simp only [fX11_twiceMean_L5, if_pos c]
      rfl
  simp only [fX11_twiceMean, hl, r_feltOn hI hk hf, ob]
  unfold dblM feI toI
  by_cases h1 : tmr s k f = -1
  · by_cases h2 : tmr s k (f + 2) = -1
    · simp only [if_pos h1, if_pos h2]; rfl
    · simp only [if_pos h1, if_neg h2, Int32.zero_add]
      rfl
  · by_cases h2 : tmr s k (f + 2) = -1
    · simp only [if_neg h1, if_pos h2, Int32.zero_add, Int32.add_zero]
      rfl
    · simp only [if_neg h1, if_neg h2, Int32.zero_add]
      rfl
theorem r_twiceDiff {s : Sg} (hI : Inv s) {k : Nat} (hk : k < nS s) : fX11_twiceDiff (nI k) s = some (dblD (tmr s k), s) := by
  have e0 := r_twiceMean hI hk (f := 0) (by decide)
  have e1 := r_twiceMean hI hk (f := 1) (by decide)
  have z0 : nI 0 = (0 : Int32) := rfl
  have z1 : nI 1 = (1 : Int32) := rfl
  rw [z0] at e0
  rw [z1] at e1
  simp only [fX11_twiceDiff, e0, e1, ob, dblD]
/-- a single -/
def sgl (s : Sg) (k : Nat) : Bool := decide (lnN s (rcN s k) = 1) && !(decide (tmr s k 0 = -1))
theorem eq_sgl {s t : Sg} (h : Eqv s t) : sgl t = sgl s := by funext k; unfold sgl; rw [eq_ln h, eq_rc h, eq_tm h]
theorem ln1 {n : Nat} (h : n ≤ 4) : (nI n = (1 : Int32)) ↔ n = 1 := nI_eq (b := 1) (by omega) (by decide)
theorem e_isSingle {s : Sg} (hI : Inv s) {k : Nat} (hk : k < nS s) : fX3_isSingle (nI k) s = some (b2i (sgl s k), s) := by
  obtain ⟨w0, w1, w2, w3, w4, w5, w6, w7⟩ := sw_facts hI hk
  have e0 := e_timeOf (s := s) w0 (l := 0) (by decide)
  have z0 : nI 0 = (0 : Int32) := rfl
  rw [z0] at e0
  simp only [fX3_isSingle, e_lengthsOf hI hk, e0, ob, sgl]
  by_cases h : lnN s (rcN s k) = 1
  · rw [if_pos ((ln1 w7).mpr h)]
    by_cases h2 : gI s 7 (4 * k + 0) = -1
    · have : tmr s k 0 = -1 := h2
      rw [if_pos h2]; simp [h, this, b2i]
    · have : ¬ tmr s k 0 = -1 := h2
      rw [if_neg h2]; simp [h, this, b2i]
  · rw [if_neg (fun e => h ((ln1 w7).mp e))]
    simp [h, b2i]
theorem r_isSingle {s : Sg} (hI : Inv s) {k : Nat} (hk : k < nS s) : fX11_isSingle (nI k) s = some (b2i (sgl s k), s) := by
  obtain ⟨w0, w1, w2, w3, w4, w5, w6, w7⟩ := sw_facts hI hk
  have e4 : (4 : Int32) * nI k = nI (4 * k) := by rw [show (4 : Int32) = nI 4 from rfl, pk_mul]
  have e55 : gI s 55 (4 * k) = tmr s k 0 := row55 hI hk (l := 0) (by decide)
  simp only [fX11_isSingle, aI_n w0 (by decide), w2, aI_n w3 (by decide), w5, e4, aI_n (show 4 * k < 256 by omega) (by decide), e55, ob, sgl]
  by_cases h : lnN s (rcN s k) = 1
  · rw [if_pos ((ln1 w7).mpr h)]
    by_cases h2 : tmr s k 0 = -1
    · rw [if_pos h2]; simp [h, h2, b2i]
    · rw [if_neg h2]; simp [h, h2, b2i]
  · rw [if_neg (fun e => h ((ln1 w7).mp e))]
    simp [h, b2i]
