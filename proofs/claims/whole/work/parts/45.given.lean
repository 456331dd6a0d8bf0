/-! counting; GIVEN -/
def cn (P : Nat → Bool) : Nat → Nat
  | 0 => 0
  | n + 1 => cn P n + (if P n = true then 1 else 0)
theorem cn_le (P : Nat → Bool) : ∀ n, cn P n ≤ n := by
  intro n
  induction n with
  | zero => exact Nat.le_refl _
  | succ n ih => rw [cn]; split <;> omega
theorem cn_cg {P Q : Nat → Bool} {n : Nat} (h : ∀ k, k < n → P k = Q k) : cn P n = cn Q n := by
  induction n with
  | zero => rfl
  | succ n ih => rw [cn, cn, ih (fun k hk => h k (by omega)), h n (by omega)]
theorem cn_split (P Q : Nat → Bool) (n : Nat) : cn P n = cn (fun k => P k && Q k) n + cn (fun k => P k && !(Q k)) n := by
  induction n with
  | zero => rfl
  | succ n ih =>
    rw [cn, cn, cn, ih]
    cases P n <;> cases Q n <;> simp <;> omega
theorem cn_0 {P : Nat → Bool} {n : Nat} (h : ∀ k, k < n → P k = false) : cn P n = 0 := by
  induction n with
  | zero => rfl
  | succ n ih => rw [cn, ih (fun k hk => h k (by omega)), h n (by omega)]; rfl
theorem cn_1 {P : Nat → Bool} {n : Nat} (h : ∀ j k, j < k → k < n → ¬ (P j = true ∧ P k = true)) : cn P n ≤ 1 := by
  induction n with
  | zero => exact Nat.zero_le _
  | succ n ih =>
    rw [cn]
    by_cases e : P n = true
    · rw [if_pos e, cn_0 (fun k hk => ?_)]
      · omega
      · cases hp : P k
        · rfl
        · exact absurd ⟨hp, e⟩ (h k n hk (by omega))
    · rw [if_neg e]
      exact ih (fun j k hj hk => h j k hj (by omega))
/-- so many things with places of their own below m are m at most -/
theorem pigeon : ∀ (m : Nat) (P : Nat → Bool) (f : Nat → Nat) (n : Nat), (∀ k, k < n → P k = true → f k < m) → (∀ j k, j < k → k < n → P j = true → P k = true → f j ≠ f k) → cn P n ≤ m := by
  intro m
  induction m with
  | zero =>
    intro P f n h1 h2
    rw [cn_0 (fun k hk => ?_)]
    · exact Nat.le_refl _
    · cases hp : P k
      · rfl
      · exact absurd (h1 k hk hp) (by omega)
  | succ m ih =>
    intro P f n h1 h2
    rw [cn_split P (fun k => decide (f k = m)) n]
    have a : cn (fun k => P k && decide (f k = m)) n ≤ 1 := cn_1 (fun j k hjk hk ⟨q1, q2⟩ => by
      simp only [Bool.and_eq_true, decide_eq_true_eq] at q1 q2
      exact h2 j k hjk hk q1.1 q2.1 (by rw [q1.2, q2.2]))
    have b : cn (fun k => P k && !(decide (f k = m))) n ≤ m := ih _ f n (fun k hk q => by
      simp only [Bool.and_eq_true, Bool.not_eq_true', decide_eq_false_iff_not] at q
      have := h1 k hk q.1
      omega) (fun j k hjk hk q1 q2 => by
      simp only [Bool.and_eq_true, Bool.not_eq_true', decide_eq_false_iff_not] at q1 q2
      exact h2 j k hjk hk q1.1 q2.1)
    omega
theorem cn_pos {P : Nat → Bool} {n k : Nat} (hk : k < n) (hp : P k = true) : 1 ≤ cn P n := by
  induction n with
  | zero => omega
  | succ n ih =>
    rw [cn]
    by_cases e : k = n
    · subst e; rw [if_pos hp]; omega
    · have := ih (by omega); omega
theorem cn_lt {P Q : Nat → Bool} {n k : Nat} (h : ∀ j, j < n → Q j = true → P j = true) (hk : k < n) (hp : P k = true) (hq : Q k = false) : cn Q n + 1 ≤ cn P n := by
  rw [cn_split P Q n]
  have a : cn (fun j => P j && Q j) n = cn Q n := cn_cg (fun j hj => by
    cases e : Q j
    · simp
    · simp [h j hj e])
  have b : 1 ≤ cn (fun j => P j && !(Q j)) n := cn_pos hk (by simp [hp, hq])
  omega
/-- one swimmer stands ahead of another by seeds -/
def btr (s : Sg) (a b : Nat) : Bool := decide (sdN s a < sdN s b) || (decide (sdN s a = sdN s b) && decide (a < b))
theorem eq_btr {s t : Sg} (h : Eqv s t) : btr t = btr s := by funext a b; unfold btr; rw [eq_sd h]
theorem btr_self (s : Sg) (a : Nat) : btr s a a = false := by simp [btr]
theorem e_isBetter {s : Sg} (hE : InvE s) {a b : Nat} (ha : a < 24) (hb : b < 24) : fX3_isBetter (nI a) (nI b) s = some (b2i (btr s a b), s) := by
  obtain ⟨a1, a2, a3, a4⟩ := hE a ha
  obtain ⟨b1, b2, b3, b4⟩ := hE b hb
  simp only [fX3_isBetter, aI_n ha (by decide), aI_n hb (by decide), ob, a1, b1]
  unfold btr
  by_cases h1 : sdN s a < sdN s b
  · rw [if_pos (nI_lt h1 (by omega))]
    simp [h1, b2i]
  · rw [if_neg (nI_nlt (by omega) (by omega))]
    by_cases h2 : sdN s a = sdN s b
    · rw [if_pos (by rw [h2])]
      by_cases h3 : a < b
      · rw [if_neg (nI_ge h3 (by omega))]
        simp [h1, h2, h3, b2i]
      · rw [if_pos (nI_le (by omega) (by omega))]
        simp [h2, h3, b2i]
    · rw [if_neg (fun e => h2 (nI_inj (by omega) (by omega) e))]
      simp [h1, h2, b2i]
theorem r_isBetter {s : Sg} (hE : InvE s) {a b : Nat} (ha : a < 24) (hb : b < 24) : fX11_isBetter (nI a) (nI b) s = some (b2i (btr s a b), s) := by
  obtain ⟨a1, a2, a3, a4⟩ := hE a ha
  obtain ⟨b1, b2, b3, b4⟩ := hE b hb
  simp only [fX11_isBetter, aI_n ha (by decide), aI_n hb (by decide), ob, a2, b2]
  unfold btr
  by_cases h1 : sdN s a < sdN s b
  · rw [if_pos (nI_lt h1 (by omega))]
    simp [h1, b2i]
  · rw [if_neg (nI_nlt (by omega) (by omega))]
    by_cases h2 : sdN s a = sdN s b
    · rw [if_pos (by rw [h2])]
      by_cases h3 : a < b
      · rw [if_neg (nI_ge h3 (by omega))]
        simp [h1, h2, h3, b2i]
      · rw [if_pos (nI_le (by omega) (by omega))]
        simp [h2, h3, b2i]
    · rw [if_neg (fun e => h2 (nI_inj (by omega) (by omega) e))]
      simp [h1, h2, b2i]
/-- who is ahead of a swim in its race -/
def ahd (s : Sg) (k j : Nat) : Bool := decide (rcN s j = rcN s k) && btr s (swN s j) (swN s k)
def rnk (s : Sg) (k : Nat) : Nat := cn (ahd s k) (nS s)
theorem eq_rnk {s t : Sg} (h : Eqv s t) : rnk t = rnk s := by funext k; unfold rnk ahd; rw [eq_nS h, eq_rc h, eq_sw h, eq_btr h]
theorem rnk_lt {s : Sg} (hI : Inv s) {k : Nat} (hk : k < nS s) : rnk s k < 8 := by
  have h1 : cn (fun j => decide (rcN s j = rcN s k)) (nS s) ≤ 8 := pigeon 8 _ (laN s) _ (fun j hj _ => (hI.2.2.1 j hj).2.2.2.2.2.2.2.2) (fun i j hij hj p1 p2 => by
    simp only [decide_eq_true_eq] at p1 p2
    exact (hI.2.2.2.2.1 i j hij hj (by rw [p1, p2])).1)
  have h2 : rnk s k + 1 ≤ cn (fun j => decide (rcN s j = rcN s k)) (nS s) := cn_lt (k := k) (fun j _ q => by
    unfold ahd at q
    rw [Bool.and_eq_true] at q
    exact q.1) hk (by simp) (by simp [ahd, btr_self])
  omega
theorem e_rankOf {s : Sg} (hI : Inv s) {k : Nat} (hk : k < nS s) : fX4_rankOf (nI k) s = some (nI (rnk s k), s) := by
  have a4 := hI.1.2.2.2.1
  have a6 := hI.1.2.2.2.2.2
  obtain ⟨b1, b2, b3, b4, b5, b6, -⟩ := hI.2.2.1 k hk
  have a3 := hI.1.2.2.1
  have hl : lpG (fX4_rankOf_L4 (nI k)) FU ((0 : Int32), (0 : Int32)) s = some (nI (rnk s k), s) := by
    refine lp_rd (nS s) (fun z => (nI (cn (ahd s k) z), nI z)) (fun z hz => ?_) ?_ FU (by unfold FU; omega)
    · have c : ¬ gI s 1 1 ≤ nI z := by rw [a4]; exact nI_ge hz (by omega)
      obtain ⟨c1, c2, c3, c4, c5, c6, -⟩ := hI.2.2.1 z hz
      simp only [fX4_rankOf_L4, if_neg c, aI_n (show z < 64 by omega) (by decide), aI_n (show k < 64 by omega) (by decide), ob, bd, b1, b4, c1, c4, e_isBetter hI.2.2.2.2.2.1 c6 b6, nI_1]
      rw [cn]
      unfold ahd
      by_cases q1 : rcN s z = rcN s k
      · rw [if_pos (by rw [q1])]
        cases q2 : btr s (swN s z) (swN s k)
        · simp only [b2f, if_true, ob]; simp [q1]
        · simp only [b2t, if_false, ob]; simp [q1]
      · rw [if_neg (fun e => q1 (nI_inj (by omega) (by omega) e)), ob]
        simp [q1]
    · have c : gI s 1 1 ≤ nI (nS s) := by rw [a4]; exact nI_le (Nat.le_refl _) (by omega)
      simp only [fX4_rankOf_L4, if_pos c]
      rfl
  simp only [fX4_rankOf, hl, ob]
theorem r_rankL {s : Sg} (hI : Inv s) {k : Nat} (hk : k < nS s) {r : Nat} (hr : r < 16) (hrc : rcN s k = r) : lpG (fX11_givenNow_L26 (nI r) (nI k)) FU ((0 : Int32), (0 : Int32)) s = some (nI (rnk s k), s) := by
  have a5 := hI.1.2.2.2.2.1
  have a6 := hI.1.2.2.2.2.2
  have a3 := hI.1.2.2.1
  obtain ⟨b1, b2, b3, b4, b5, b6, -⟩ := hI.2.2.1 k hk
  refine lp_rd (nS s) (fun z => (nI (cn (ahd s k) z), nI z)) (fun z hz => ?_) ?_ FU (by unfold FU; omega)
  · have c : ¬ gI s 49 3 ≤ nI z := by rw [a5]; exact nI_ge hz (by omega)
    obtain ⟨c1, c2, c3, c4, c5, c6, -⟩ := hI.2.2.1 z hz
    simp only [fX11_givenNow_L26, if_neg c, aI_n (show z < 64 by omega) (by decide), aI_n (show k < 64 by omega) (by decide), ob, bd, b2, b5, c2, c5, r_isBetter hI.2.2.2.2.2.1 c6 b6, hrc, if_true]
    rw [cn]
    unfold ahd
    by_cases q1 : rcN s z = r
    · rw [if_pos (by rw [q1])]
      cases q2 : btr s (swN s z) (swN s k)
      · simp only [b2f, if_true, ob]; simp [q1, hrc, nI_1]
      · simp only [b2t, if_false, ob]; simp [q1, hrc, nI_1]
    · rw [if_neg (fun e => q1 (nI_inj (by omega) (by omega) e)), ob]
      simp [q1, hrc, nI_1]
  · have c : gI s 49 3 ≤ nI (nS s) := by rw [a5]; exact nI_le (Nat.le_refl _) (by omega)
    simp only [fX11_givenNow_L26, if_pos c]
    rfl
theorem r_rankO {s : Sg} (hI : Inv s) {k : Nat} (hk : k < nS s) {r : Nat} (hr : r < 16) (hrc : rcN s k ≠ r) : lpG (fX11_givenNow_L26 (nI r) (nI k)) FU ((0 : Int32), (0 : Int32)) s = some (0, s) := by
  have a5 := hI.1.2.2.2.2.1
  have a6 := hI.1.2.2.2.2.2
  have a3 := hI.1.2.2.1
  obtain ⟨b1, b2, b3, b4, b5, b6, -⟩ := hI.2.2.1 k hk
  refine lp_rd (nS s) (fun z => ((0 : Int32), nI z)) (fun z hz => ?_) ?_ FU (by unfold FU; omega)
  · have c : ¬ gI s 49 3 ≤ nI z := by rw [a5]; exact nI_ge hz (by omega)
    have q : ¬ nI (rcN s k) = nI r := fun e => hrc (nI_inj (by omega) (by omega) e)
    simp only [fX11_givenNow_L26, if_neg c, aI_n (show k < 64 by omega) (by decide), ob, bd, b2, if_neg q, nI_1]
    rfl
  · have c : gI s 49 3 ≤ nI (nS s) := by rw [a5]; exact nI_le (Nat.le_refl _) (by omega)
    simp only [fX11_givenNow_L26, if_pos c]
/-- a swim of the race that isn't in its lane -/
def offR (s : Sg) (r k : Nat) : Prop := rcN s k = r ∧ laN s k ≠ rlN s (rnk s k)
def gvV (s : Sg) (K r : Nat) (v : Int32) : Prop := (K ≠ 8 ∧ v = -3) ∨ (K = 8 ∧ ((∃ k, k < nS s ∧ offR s r k) ∧ v = 0 ∨ (∀ k, k < nS s → ¬ offR s r k) ∧ v = 1))
theorem flt8 {K : Nat} (h : K ≤ 8) : (fltV K = -1) ↔ K = 8 := by
  unfold fltV
  by_cases e : K = 8
  · rw [if_pos e]; simp [e]
  · rw [if_neg e]
    exact ⟨fun h => absurd h (m1_ne (by omega)), fun h => absurd h e⟩
theorem e_givenOf {s : Sg} (hI : Inv s) {K r : Nat} (hK : stopR s K) (hr : r < nR s) {v : Int32} (hv : gvV s K r v) : fX10_givenOf (nI r) s = some (v, s) := by
  obtain ⟨x1, x2, x3, -⟩ := hI.2.2.2.2.2.2.1
  have a4 := hI.1.2.2.2.1
  have a6 := hI.1.2.2.2.2.2
  have a3 := hI.1.2.2.1
  have hK8 : K ≤ 8 := by have := hK.1; omega
  simp only [fX10_givenOf, e_faultAt hI hK, ob, flt8 hK8]
  rcases hv with ⟨h1, h2⟩ | ⟨h1, h2⟩
  · rw [if_neg h1, h2]
  · rw [if_pos h1]
    have ht : t0N s = 8 := by have := hK.1; omega
    have hnb : ∀ j, j < 8 → ¬ badR s j := fun j hj => hK.2.1 j (by omega)
    have hlane : ∀ q, q < 8 → fX4_laneFor (nI q) s = some (nI (rlN s q), s) := by
      intro q hq
      have c : ¬ gI s 30 1 ≤ nI q := by rw [x1, ht]; exact nI_ge hq (by decide)
      simp only [fX4_laneFor, if_neg c, aI_n hq (by decide), ob, (okR (hnb q hq)).1]
    have step : ∀ k, k < nS s → ¬ offR s r k → fX4_isKeptBy_L2 (nI r) (nI k) s = some (.inl (nI (k + 1)), s) := by
      intro k hk ho
      have c : ¬ gI s 1 1 ≤ nI k := by rw [a4]; exact nI_ge hk (by omega)
      obtain ⟨c1, c2, c3, c4, c5, c6, c7, c8, c9⟩ := hI.2.2.1 k hk
      simp only [fX4_isKeptBy_L2, if_neg c, aI_n (show k < 64 by omega) (by decide), ob, bd, c1, c7, e_rankOf hI hk, hlane _ (rnk_lt hI hk), nI_1]
      by_cases q : rcN s k = r
      · rw [if_pos (by rw [q])]
        have : laN s k = rlN s (rnk s k) := Classical.not_not.mp (fun h => ho ⟨q, h⟩)
        rw [if_pos (by rw [this])]
      · rw [if_neg (fun e => q (nI_inj (by omega) (by omega) e))]
    rcases h2 with ⟨hex, hv⟩ | ⟨hno, hv⟩
    · rcases first_of (offR s r) (nS s) with ⟨k, hk, hp, hn⟩ | hn
      · have hl : lpG (fX4_isKeptBy_L2 (nI r)) FU (0 : Int32) s = some (.inl 0, s) := by
          refine lp_rd k (fun j => nI j) (fun j hj => step j (by omega) (hn j hj)) ?_ FU (by unfold FU; omega)
          have c : ¬ gI s 1 1 ≤ nI k := by rw [a4]; exact nI_ge hk (by omega)
          obtain ⟨c1, c2, c3, c4, c5, c6, c7, c8, c9⟩ := hI.2.2.1 k hk
          obtain ⟨-, q2, -⟩ := okR (hnb _ (rnk_lt hI hk))
          have q : ¬ nI (laN s k) = nI (rlN s (rnk s k)) := fun e => hp.2 (nI_inj (by omega) (by omega) e)
          simp only [fX4_isKeptBy_L2, if_neg c, aI_n (show k < 64 by omega) (by decide), ob, bd, c1, c7, e_rankOf hI hk, hlane _ (rnk_lt hI hk), hp.1, if_true, if_neg q]
        simp only [fX4_isKeptBy, hl, ob, Sum.elim_inl, if_true, hv]
      · obtain ⟨k, hk, hp⟩ := hex
        exact absurd hp (hn k hk)
    · have hl : lpG (fX4_isKeptBy_L2 (nI r)) FU (0 : Int32) s = some (.inr (), s) := by
        refine lp_rd (nS s) (fun j => nI j) (fun j hj => step j hj (hno j hj)) ?_ FU (by unfold FU; omega)
        have c : gI s 1 1 ≤ nI (nS s) := by rw [a4]; exact nI_le (Nat.le_refl _) (by omega)
        simp only [fX4_isKeptBy_L2, if_pos c]
      simp only [fX4_isKeptBy, hl, ob, Sum.elim_inr, z10, if_false, hv]
theorem r_givenNow {s : Sg} (hI : Inv s) {K r : Nat} (hK : stopR s K) (hr : r < nR s) {v : Int32} (hv : gvV s K r v) : fX11_givenNow (nI r) s = some (v, frow s 67 0 (fun k => nI (rlN s k)) K) := by
  obtain ⟨x1, x2, x3, -⟩ := hI.2.2.2.2.2.2.1
  have hK8 : K ≤ 8 := by have := hK.1; omega
  simp only [fX11_givenNow, r_ruleFault hI hK, ob, flt8 hK8]
  rcases hv with ⟨h1, h2⟩ | ⟨h1, h2⟩
  · rw [if_neg h1, h2]
  · rw [if_pos h1]
    have ht : t0N s = 8 := by have := hK.1; omega
    have hnb : ∀ j, j < 8 → ¬ badR s j := fun j hj => hK.2.1 j (by omega)
    generalize hτ : frow s 67 0 (fun k => nI (rlN s k)) K = τ
    have hE : Eqv s τ := by rw [← hτ]; exact eqv_frow (Eqv.rf s) _ core67 K
    have hI2 := inv_cg hE hI
    have hg : ∀ q, q < 8 → gI τ 67 q = nI (rlN s q) := by
      intro q hq
      have := frow_at s 67 0 (fun k => nI (rlN s k)) K (i := q) (by omega)
      rw [Nat.zero_add] at this
      rw [← hτ, this]
    have a5 := hI2.1.2.2.2.2.1
    rw [eq_nS hE] at a5
    have a6 := hI.1.2.2.2.2.2
    have a3 := hI.1.2.2.1
    have base : ∀ k, k < nS s → lpG (fX11_givenNow_L26 (nI r) (nI k)) FU ((0 : Int32), (0 : Int32)) τ = some (if rcN s k = r then nI (rnk s k) else 0, τ) := by
      intro k hk
      by_cases q : rcN s k = r
      · rw [if_pos q, r_rankL hI2 (by rw [eq_nS hE]; exact hk) (by omega) (by rw [eq_rc hE]; exact q), eq_rnk hE]
      · rw [if_neg q, r_rankO hI2 (by rw [eq_nS hE]; exact hk) (by omega) (by rw [eq_rc hE]; exact q)]
    have step : ∀ k, k < nS s → ¬ offR s r k → fX11_givenNow_L13 (nI r) (nI k) τ = some (.inl (nI (k + 1)), τ) := by
      intro k hk ho
      have c : ¬ gI τ 49 3 ≤ nI k := by rw [a5]; exact nI_ge hk (by omega)
      obtain ⟨c1, c2, c3, c4, c5, c6, c7, c8, c9⟩ := hI2.2.2.1 k (by rw [eq_nS hE]; exact hk)
      rw [eq_rc hE] at c2
      rw [eq_la hE] at c8
      simp only [fX11_givenNow_L13, if_neg c, base k hk, aI_n (show k < 64 by omega) (by decide), ob, bd, c2, c8, nI_1]
      by_cases q : rcN s k = r
      · simp only [if_pos q]
        rw [if_pos (by rw [q]), aI_n (rnk_lt hI hk) (by decide), ob, hg _ (rnk_lt hI hk)]
        have : laN s k = rlN s (rnk s k) := Classical.not_not.mp (fun h => ho ⟨q, h⟩)
        rw [if_pos (by rw [this])]
      · have hrr := (hI.2.2.1 k hk).2.2.1
        rw [if_neg (fun e => q (nI_inj (by omega) (by omega) e))]
    rcases h2 with ⟨hex, hv⟩ | ⟨hno, hv⟩
    · rcases first_of (offR s r) (nS s) with ⟨k, hk, hp, hn⟩ | hn
      · have hl : lpG (fX11_givenNow_L13 (nI r)) FU (0 : Int32) τ = some (.inl 0, τ) := by
          refine lp_rd k (fun j => nI j) (fun j hj => step j (by omega) (hn j hj)) ?_ FU (by unfold FU; omega)
          have c : ¬ gI τ 49 3 ≤ nI k := by rw [a5]; exact nI_ge hk (by omega)
          obtain ⟨c1, c2, c3, c4, c5, c6, c7, c8, c9⟩ := hI2.2.2.1 k (by rw [eq_nS hE]; exact hk)
          rw [eq_rc hE] at c2
          rw [eq_la hE] at c8 c9
          obtain ⟨-, q2, -⟩ := okR (hnb _ (rnk_lt hI hk))
          have q : ¬ nI (laN s k) = nI (rlN s (rnk s k)) := fun e => hp.2 (nI_inj (by omega) (by omega) e)
          simp only [fX11_givenNow_L13, if_neg c, base k hk, aI_n (show k < 64 by omega) (by decide), ob, bd, c2, c8, hp.1, if_true, aI_n (rnk_lt hI hk) (by decide), hg _ (rnk_lt hI hk), if_neg q]
        simp only [hl, ob, Sum.elim_inl, hv]
      · obtain ⟨k, hk, hp⟩ := hex
        exact absurd hp (hn k hk)
    · have hl : lpG (fX11_givenNow_L13 (nI r)) FU (0 : Int32) τ = some (.inr (), τ) := by
        refine lp_rd (nS s) (fun j => nI j) (fun j hj => step j hj (hno j hj)) ?_ FU (by unfold FU; omega)
        have c : gI τ 49 3 ≤ nI (nS s) := by rw [a5]; exact nI_le (Nat.le_refl _) (by omega)
        simp only [fX11_givenNow_L13, if_pos c]
      simp only [hl, ob, Sum.elim_inr, hv]
theorem gvV_ex (s : Sg) (K r : Nat) : ∃ v, gvV s K r v := by
  by_cases h : K = 8
  · by_cases h2 : ∃ k, k < nS s ∧ offR s r k
    · exact ⟨0, Or.inr ⟨h, Or.inl ⟨h2, rfl⟩⟩⟩
    · exact ⟨1, Or.inr ⟨h, Or.inr ⟨fun k hk ho => h2 ⟨k, hk, ho⟩, rfl⟩⟩⟩
  · exact ⟨-3, Or.inl ⟨h, rfl⟩⟩
theorem gvV_eq {s t : Sg} (h : Eqv s t) {K r : Nat} {v : Int32} (hv : gvV s K r v) : gvV t K r v := by
  unfold gvV offR
  rw [eq_nS h, eq_rc h, eq_la h, (rl_eq h).1, eq_rnk h]
  exact hv
theorem all_given : ok_given Inv := by
  intro x s hI
  have hA := hI.1
  cases h1 : hasB s x
  · exact ⟨-2, s, s, by simp only [fX10_given, e_hasRace, ob, h1, b2f, if_true], by simp only [fX11_given, r_isRace hA, ob, h1, b2f, if_true], hI⟩
  · obtain ⟨r, hr, rfl⟩ := hasB_n hA h1
    obtain ⟨K, hK⟩ := stopR_ex s
    obtain ⟨v, hv⟩ := gvV_ex s K r
    refine ⟨v, s, frow s 67 0 (fun k => nI (rlN s k)) K, ?_, ?_, inv_cg (eqv_frow (Eqv.rf s) _ core67 K) hI⟩
    · simp only [fX10_given, e_hasRace, ob, h1, b2t, if_false, e_givenOf hI hK hr hv]
    · simp only [fX11_given, r_isRace hA, ob, h1, b2t, if_false, r_givenNow hI hK hr hv]
