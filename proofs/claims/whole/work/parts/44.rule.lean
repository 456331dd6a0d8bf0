/-! THE RULE: its fault -/
theorem bt_has : ∀ m, m < 256 → ∀ l, l < 8 → ((((nI m >>> (nI l &&& 31)) &&& 1) = (1 : Int32)) ↔ Nat.testBit m l = true) := by decide +kernel
theorem bt_or : ∀ m, m < 256 → ∀ l, l < 8 → (nI m ||| ((1 : Int32) <<< (nI l &&& 31)) = nI (m ||| 2 ^ l) ∧ m ||| 2 ^ l < 256) := by decide +kernel
theorem tb_or (m l j : Nat) : Nat.testBit (m ||| 2 ^ l) j = (Nat.testBit m j || decide (l = j)) := by rw [Nat.testBit_or, Nat.testBit_two_pow]
/-- the rule's lanes, and those seen ahead of a place -/
def rlN (s : Sg) (k : Nat) : Nat := (gI s 31 k - 48).toNatClampNeg
def smN (s : Sg) : Nat → Nat
  | 0 => 0
  | k + 1 => smN s k ||| 2 ^ rlN s k
def badR (s : Sg) (k : Nat) : Prop := ¬ (wi (gI s 31 k - 48) 0 7 = true ∧ Nat.testBit (smN s k) (rlN s k) = false)
theorem okR {s : Sg} {k : Nat} (h : ¬ badR s k) : gI s 31 k - 48 = nI (rlN s k) ∧ rlN s k < 8 ∧ wi (gI s 31 k - 48) 0 7 = true ∧ Nat.testBit (smN s k) (rlN s k) = false := by
  obtain ⟨h1, h2⟩ := Classical.not_not.mp h
  obtain ⟨l, hl, e⟩ := wi_nat (n := 7) rfl (by decide) h1
  have : rlN s k = l := by unfold rlN; rw [e, cl_n (by omega)]
  exact ⟨by rw [this, e], by omega, h1, h2⟩
theorem smN_lt {s : Sg} : ∀ K, (∀ j, j < K → ¬ badR s j) → smN s K < 256 := by
  intro K
  induction K with
  | zero => intro _; show 0 < 256; decide
  | succ K ih =>
    intro h
    obtain ⟨-, q2, -⟩ := okR (h K (by omega))
    exact (bt_or _ (ih (fun j hj => h j (by omega))) _ q2).2
theorem smN_bit {s : Sg} : ∀ K j, Nat.testBit (smN s K) j = true ↔ ∃ i, i < K ∧ rlN s i = j := by
  intro K
  induction K with
  | zero => intro j; simp [smN]
  | succ K ih =>
    intro j
    rw [smN, tb_or, Bool.or_eq_true, ih, decide_eq_true_eq]
    constructor
    · rintro (⟨i, h1, h2⟩ | h)
      · exact ⟨i, by omega, h2⟩
      · exact ⟨K, by omega, h⟩
    · rintro ⟨i, h1, h2⟩
      by_cases e : i = K
      · subst e; exact Or.inr h2
      · exact Or.inl ⟨i, by omega, h2⟩
/-- without a fault ahead of K the lanes are apart -/
theorem rl_inj {s : Sg} {K : Nat} (h : ∀ j, j < K → ¬ badR s j) {i j : Nat} (hij : i < j) (hj : j < K) : rlN s i ≠ rlN s j := by
  intro e
  obtain ⟨-, -, -, q⟩ := okR (h j hj)
  have := (smN_bit (s := s) j (rlN s j)).mpr ⟨i, hij, e⟩
  rw [this] at q
  cases q
theorem rl_eq {s t : Sg} (h : Eqv s t) : rlN t = rlN s ∧ smN t = smN s ∧ badR t = badR s := by
  have e1 : rlN t = rlN s := by funext k; unfold rlN; rw [h 31 k rfl]
  have e2 : smN t = smN s := by
    funext k
    induction k with
    | zero => rfl
    | succ k ih => rw [smN, smN, ih, e1]
  refine ⟨e1, e2, ?_⟩
  funext k
  unfold badR
  rw [h 31 k rfl, e1, e2]
/-- where the rule's text stops -/
def stopR (s : Sg) (K : Nat) : Prop := K ≤ t0N s ∧ (∀ j, j < K → ¬ badR s j) ∧ (K = t0N s ∨ badR s K)
theorem stopR_ex (s : Sg) : ∃ K, stopR s K := by
  rcases first_of (badR s) (t0N s) with ⟨k, h1, h2, h3⟩ | h
  · exact ⟨k, by omega, h3, Or.inr h2⟩
  · exact ⟨t0N s, Nat.le_refl _, h, Or.inl rfl⟩
theorem stopR_eq {s t : Sg} (h : Eqv s t) {K : Nat} (hK : stopR s K) : stopR t K := by
  unfold stopR
  rw [eq_t0 h, (rl_eq h).2.2]
  exact hK
def fltV (K : Nat) : Int32 := if K = 8 then -1 else nI K
theorem e_faultAt {s : Sg} (hI : Inv s) {K : Nat} (hK : stopR s K) : fX4_faultAt s = some (fltV K, s) := by
  obtain ⟨x1, x2, x3, -⟩ := hI.2.2.2.2.2.2.1
  obtain ⟨k1, k2, k3⟩ := hK
  have step : ∀ k, k < K → fX4_faultAt_L4 (nI (smN s k), nI k) s = some (.inl (nI (smN s (k + 1)), nI (k + 1)), s) := by
    intro k hk
    obtain ⟨q1, q2, q3, q4⟩ := okR (k2 k hk)
    have hm := smN_lt k (fun j hj => k2 j (by omega))
    have c : ¬ gI s 30 1 ≤ nI k := by rw [x1]; exact nI_ge (by omega) (by omega)
    have c2 : ¬ ((nI (smN s k) >>> (nI (rlN s k) &&& 31)) &&& 1) = (1 : Int32) := fun h => by rw [bt_has _ hm _ q2, q4] at h; cases h
    simp only [fX4_faultAt_L4, if_neg c, aI_n (show k < 8 by omega) (by decide), ob, bd, e_isLane, q3, b2t, if_false]
    rw [q1, if_neg c2, (bt_or _ hm _ q2).1, nI_1]
    rfl
  by_cases he : K = t0N s
  · have hl : lpG fX4_faultAt_L4 FU ((0 : Int32), (0 : Int32)) s = some (.inr (), s) := by
      refine lp_rd K (fun k => (nI (smN s k), nI k)) step ?_ FU (by unfold FU; omega)
      have c : gI s 30 1 ≤ nI K := by rw [x1, he]; exact nI_le (Nat.le_refl _) (by omega)
      simp only [fX4_faultAt_L4, if_pos c]
    simp only [fX4_faultAt, hl, ob, Sum.elim_inr, x1]
    unfold fltV
    by_cases h8 : K = 8
    · rw [if_pos h8, if_pos (by rw [← he, h8]; decide)]
    · have c8 : ¬ (8 : Int32) ≤ nI (t0N s) := nI_ge (b := 8) (by omega) (by decide)
      rw [if_neg h8, if_neg c8, he]
  · have hbad : badR s K := by rcases k3 with h | h; exact absurd h he; exact h
    have hl : lpG fX4_faultAt_L4 FU ((0 : Int32), (0 : Int32)) s = some (.inl (nI K), s) := by
      refine lp_rd K (fun k => (nI (smN s k), nI k)) step ?_ FU (by unfold FU; omega)
      have hm := smN_lt K k2
      have c : ¬ gI s 30 1 ≤ nI K := by rw [x1]; exact nI_ge (by omega) (by omega)
      simp only [fX4_faultAt_L4, if_neg c, aI_n (show K < 8 by omega) (by decide), ob, bd, e_isLane]
      cases hw : wi (gI s 31 K - 48) 0 7
      · simp only [b2f, if_true]
      · obtain ⟨l, hl, e⟩ := wi_nat (n := 7) rfl (by decide) hw
        have hr : rlN s K = l := by unfold rlN; rw [e, cl_n (by omega)]
        have ht : Nat.testBit (smN s K) l = true := by
          cases h : Nat.testBit (smN s K) l
          · exact absurd ⟨hw, by rw [hr]; exact h⟩ hbad
          · rfl
        have c2 : ((nI (smN s K) >>> (nI l &&& 31)) &&& 1) = (1 : Int32) := (bt_has _ hm _ (by omega)).mpr ht
        simp only [b2t, if_false, e, if_pos c2]
    simp only [fX4_faultAt, hl, ob, Sum.elim_inl]
    unfold fltV
    rw [if_neg (by omega)]
theorem r_ruleFault {s : Sg} (hI : Inv s) {K : Nat} (hK : stopR s K) : fX11_ruleFault s = some (fltV K, frow s 67 0 (fun k => nI (rlN s k)) K) := by
  obtain ⟨x1, x2, x3, x4, x5, x6, x7, x8⟩ := hI.2.2.2.2.2.2.1
  obtain ⟨k1, k2, k3⟩ := hK
  have g66 : ∀ z, aI (frow s 67 0 (fun k => nI (rlN s k)) z) 66 2 (0 : Int32) = some (nI (t0N s)) := fun z => by
    rw [show (0 : Int32) = nI 0 from rfl, aI_n (by decide) (by decide), frow_ne _ _ _ _ _ (Or.inl (by decide)), x2]
  have g65 : ∀ z k, k < t0N s → aI (frow s 67 0 (fun k => nI (rlN s k)) z) 65 120 (nI k) = some (gI s 31 k) := fun z k hk => by
    rw [aI_n (by omega) (by decide), frow_ne _ _ _ _ _ (Or.inl (by decide)), (x7 k hk).1]
  have step : ∀ k, k < K → fX11_ruleFault_L4 (nI (smN s k), nI k) (frow s 67 0 (fun k => nI (rlN s k)) k) = some (.inl (nI (smN s (k + 1)), nI (k + 1)), frow s 67 0 (fun k => nI (rlN s k)) (k + 1)) := by
    intro k hk
    obtain ⟨q1, q2, q3, q4⟩ := okR (k2 k hk)
    have hm := smN_lt k (fun j hj => k2 j (by omega))
    have c : ¬ nI (t0N s) ≤ nI k := nI_ge (by omega) (by omega)
    have c2 : ¬ ((nI (smN s k) >>> (nI (rlN s k) &&& 31)) &&& 1) = (1 : Int32) := fun h => by rw [bt_has _ hm _ q2, q4] at h; cases h
    simp only [fX11_ruleFault_L4, g66, if_neg c, g65 k k (by omega), ob, bd, r_isLane, q3, b2t, if_false, fX11_has]
    simp only [q1, if_neg c2, ob, if_true, (bt_or _ hm _ q2).1, nI_1, wI_n (show k < 8 by omega) (by decide)]
    rw [frow, Nat.zero_add]
    rfl
  by_cases he : K = t0N s
  · have hl : lpG fX11_ruleFault_L4 FU ((0 : Int32), (0 : Int32)) s = some (.inr (), frow s 67 0 (fun k => nI (rlN s k)) K) := by
      refine lp_run K (fun k => (nI (smN s k), nI k)) (fun k => frow s 67 0 (fun k => nI (rlN s k)) k) step ?_ FU (by unfold FU; omega)
      have c : nI (t0N s) ≤ nI K := by rw [he]; exact nI_le (Nat.le_refl _) (by omega)
      simp only [fX11_ruleFault_L4, g66, ob, if_pos c]
    simp only [fX11_ruleFault, hl, ob, Sum.elim_inr, g66]
    unfold fltV
    by_cases h8 : K = 8
    · rw [if_pos h8, if_pos (by rw [← he, h8]; decide)]
    · have c8 : ¬ (8 : Int32) ≤ nI (t0N s) := nI_ge (b := 8) (by omega) (by decide)
      rw [if_neg h8, if_neg c8, he]
  · have hbad : badR s K := by rcases k3 with h | h; exact absurd h he; exact h
    have hl : lpG fX11_ruleFault_L4 FU ((0 : Int32), (0 : Int32)) s = some (.inl (nI K), frow s 67 0 (fun k => nI (rlN s k)) K) := by
      refine lp_run K (fun k => (nI (smN s k), nI k)) (fun k => frow s 67 0 (fun k => nI (rlN s k)) k) step ?_ FU (by unfold FU; omega)
      have hm := smN_lt K k2
      have c : ¬ nI (t0N s) ≤ nI K := nI_ge (by omega) (by omega)
      simp only [fX11_ruleFault_L4, g66, if_neg c, g65 K K (by omega), ob, bd, r_isLane, fX11_has]
      cases hw : wi (gI s 31 K - 48) 0 7
      · simp only [b2f, if_true]
      · obtain ⟨l, hl, e⟩ := wi_nat (n := 7) rfl (by decide) hw
        have hr : rlN s K = l := by unfold rlN; rw [e, cl_n (by omega)]
        have ht : Nat.testBit (smN s K) l = true := by
          cases h : Nat.testBit (smN s K) l
          · exact absurd ⟨hw, by rw [hr]; exact h⟩ hbad
          · rfl
        have c2 : ((nI (smN s K) >>> (nI l &&& 31)) &&& 1) = (1 : Int32) := (bt_has _ hm _ (by omega)).mpr ht
        simp only [b2t, if_false, e, if_pos c2, ob, z10]
    simp only [fX11_ruleFault, hl, ob, Sum.elim_inl]
    unfold fltV
    rw [if_neg (by omega)]
theorem eqv_frow {s t : Sg} (h : Eqv s t) {j o : Nat} (f : Nat → Int32) (hc : ∀ k, core j k = false) : ∀ n, Eqv s (frow t j o f n) := by
  intro n
  induction n with
  | zero => exact h
  | succ n ih => exact ih.I _ (hc _)
theorem core67 (k : Nat) : core 67 k = false := rfl
