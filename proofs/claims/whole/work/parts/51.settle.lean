/-! LEVELS: clear, settle -/
/-- a loop whose states keep a property -/
theorem lp_ex {α β : Type} {body : α → Sg → Option ((α ⊕ β) × Sg)} (N : Nat) (f : Nat → α) (P : Nat → Sg → Prop) {b : β} (hs : ∀ k, k < N → ∀ σ, P k σ → ∃ τ, body (f k) σ = some (.inl (f (k + 1)), τ) ∧ P (k + 1) τ) (hx : ∀ σ, P N σ → body (f N) σ = some (.inr b, σ)) : ∀ n, N < n → ∀ σ, P 0 σ → ∃ τ, lpG body n (f 0) σ = some (b, τ) ∧ P N τ := by
  have key : ∀ (m : Nat) (k n : Nat), k + m = N → m < n → ∀ σ, P k σ → ∃ τ, lpG body n (f k) σ = some (b, τ) ∧ P N τ := by
    intro m
    induction m with
    | zero =>
      intro k n hk hn σ hP
      have : k = N := by omega
      subst this
      obtain ⟨n, rfl⟩ : ∃ n', n = n' + 1 := ⟨n - 1, by omega⟩
      refine ⟨σ, ?_, hP⟩
      rw [lpG, hx σ hP]
    | succ m ih =>
      intro k n hk hn σ hP
      obtain ⟨n, rfl⟩ : ∃ n', n = n' + 1 := ⟨n - 1, by omega⟩
      obtain ⟨τ, h1, h2⟩ := hs k (by omega) σ hP
      obtain ⟨υ, h3, h4⟩ := ih (k + 1) n (by omega) (by omega) τ h2
      refine ⟨υ, ?_, h4⟩
      rw [lpG, h1]
      exact h3
  intro n hn σ hP
  exact key N 0 n (by omega) hn σ hP
theorem core_lv {j : Nat} (h1 : 9 ≤ j) (h2 : j ≤ 29) (k : Nat) : core j k = false := by
  unfold core
  split
  · omega
  · omega
  · simp; omega
theorem core_rf {j : Nat} (h1 : 57 ≤ j) (h2 : j ≤ 64) (k : Nat) : core j k = false := by
  unfold core
  split
  · omega
  · omega
  · simp; omega
theorem e_clear (b0 : Nat) (σ : Sg) : ∃ τ, fX1_clear b0 σ = some τ ∧ (∀ l, l < 8 → gI τ (b0 + 1) l = 0 ∧ gL τ (b0 + 2) l = 0) ∧ (∀ j, j ≠ b0 + 1 → gI τ j = gI σ j) ∧ (∀ j, j ≠ b0 + 2 → gL τ j = gL σ j) := by
  obtain ⟨τ, h1, h2⟩ := lp_ex (body := fX1_clear_L2 b0) (b := ()) 8 (fun z => nI z) (fun z τ => (∀ l, l < z → gI τ (b0 + 1) l = 0 ∧ gL τ (b0 + 2) l = 0) ∧ (∀ j, j ≠ b0 + 1 → gI τ j = gI σ j) ∧ (∀ j, j ≠ b0 + 2 → gL τ j = gL σ j)) (fun z hz τ ⟨p1, p2, p3⟩ => by
      have c8 : ¬ (8 : Int32) ≤ nI z := nI_ge (b := 8) hz (by decide)
      refine ⟨sL (sI τ (b0 + 1) z 0) (b0 + 2) z 0, ?_, ?_, ?_, ?_⟩
      · simp only [fX1_clear_L2, if_neg c8, wI_n hz (by decide), wL_n hz (by decide), ob, bd, nI_1]
      · intro l hl
        rw [gI_sL, gI_set, gL_set, gL_sI]
        by_cases e : l = z
        · subst e; simp
        · simp only [e, and_false, if_false]
          exact p1 l (by omega)
      · intro j hj
        rw [gI_sL, gI_row _ _ hj, p2 j hj]
      · intro j hj
        rw [gL_row _ _ hj, gL_sI, p3 j hj]) (fun τ _ => by
      have c8 : (8 : Int32) ≤ nI 8 := by decide
      simp only [fX1_clear_L2, if_pos c8]) FU (by decide) σ ⟨fun l hl => by omega, fun _ _ => rfl, fun _ _ => rfl⟩
  refine ⟨τ, ?_, h2.1, h2.2.1, h2.2.2⟩
  unfold fX1_clear
  rw [show (0 : Int32) = nI 0 from rfl, h1, ob]
/-- the least common multiple of the counts that are not 0 -/
def lcN (C : Nat → Nat) : Nat → Nat
  | 0 => 1
  | n + 1 => if 0 < C n then Nat.lcm (lcN C n) (C n) else lcN C n
theorem lcN_pos (C : Nat → Nat) : ∀ n, 0 < lcN C n := by
  intro n
  induction n with
  | zero => exact Nat.one_pos
  | succ n ih =>
    rw [lcN]
    split
    · exact Nat.lcm_pos ih (by assumption)
    · exact ih
theorem lcN_mono (C : Nat → Nat) : ∀ n m, lcN C n ∣ lcN C (n + m) := by
  intro n m
  induction m with
  | zero => exact Nat.dvd_refl _
  | succ m ih =>
    show lcN C n ∣ lcN C (n + m + 1)
    rw [lcN]
    split
    · exact Nat.dvd_trans ih (Nat.dvd_lcm_left _ _)
    · exact ih
theorem lcN_dvd {C : Nat → Nat} {n l : Nat} (hl : l < n) (h : 0 < C l) : C l ∣ lcN C n := by
  have := lcN_mono C (l + 1) (n - (l + 1))
  rw [show l + 1 + (n - (l + 1)) = n by omega] at this
  refine Nat.dvd_trans ?_ this
  rw [lcN, if_pos h]
  exact Nat.dvd_lcm_right _ _
theorem lcN_least {C : Nat → Nat} {D : Nat} : ∀ n, (∀ l, l < n → 0 < C l → C l ∣ D) → lcN C n ∣ D := by
  intro n
  induction n with
  | zero => intro _; exact Nat.one_dvd _
  | succ n ih =>
    intro h
    rw [lcN]
    split
    · exact Nat.lcm_dvd (ih (fun l hl => h l (by omega))) (h n (by omega) (by assumption))
    · exact ih (fun l hl => h l (by omega))
theorem e_mult {a b : Nat} (ha : a < 2 ^ 62) (hb : b < 2 ^ 62) (hb0 : 0 < b) (s : Sg) : fX0_commonMultiple (lI a) (lI b) s = some (lI (Nat.lcm a b), s) := by
  have hg : 0 < Nat.gcd a b := Nat.gcd_pos_of_pos_right _ hb0
  have hg2 : Nat.gcd a b ≤ b := Nat.gcd_le_right _ hb0
  have bg : Bd (Nat.gcd a b : Nat) := bdN (by omega)
  have c : ¬ lg_cmp (lI (Nat.gcd a b : Nat)) (0 : Int64) ≤ 0 := by
    rw [lg_cmp_le, show (0 : Int64) = lI 0 from rfl, lI_le bg (by constructor <;> decide)]
    omega
  simp only [fX0_commonMultiple, e_common ha hb, ob, if_neg c, dL_I (bdN ha) bg (by omega)]
  rw [lI_mul]
  congr 3
  unfold Nat.lcm
  rw [← Int.ofNat_tdiv, ← Int.natCast_mul]
  congr 1
  exact (Nat.div_mul_right_comm (Nat.gcd_dvd_left a b) b)
/-- how many lanes are there -/
def psN (C : Nat → Nat) : Nat → Nat := cn (fun l => decide (0 < C l))
def scI (C : Nat → Nat) (S : Nat → Int) (l : Nat) : Int := if 0 < C l then S l * ((lcN C 8 / C l : Nat) : Int) else 0
def sZ (f : Nat → Int) : Nat → Int
  | 0 => 0
  | n + 1 => sZ f n + f n
theorem e_settle {b0 : Nat} {C : Nat → Nat} {S : Nat → Int} (hC : ∀ l, l < 8 → C l ≤ 64) (hD : lcN C 8 < 2 ^ 40) {σ : Sg} (h1 : ∀ l, l < 8 → gI σ (b0 + 1) l = nI (C l)) (h2 : ∀ l, l < 8 → gL σ (b0 + 2) l = lI (S l)) : ∃ τ, fX1_settle b0 σ = some τ ∧ gI τ b0 4 = nI (psN C 8) ∧ gL τ b0 5 = lI (lcN C 8) ∧ gL τ b0 6 = lI (sZ (scI C S) 8) ∧ (∀ l, l < 8 → gL τ (b0 + 3) l = lI (scI C S l)) ∧ (∀ j, j ≠ b0 → gI τ j = gI σ j) ∧ (∀ j, j ≠ b0 → j ≠ b0 + 3 → gL τ j = gL σ j) := by
  have hDn : ∀ n, n ≤ 8 → lcN C n < 2 ^ 40 := fun n hn => by
    have := Nat.le_of_dvd (lcN_pos C 8) (by have := lcN_mono C n (8 - n); rwa [show n + (8 - n) = 8 by omega] at this)
    omega
  have step0 : ∃ τ, lpG (fX1_settle_L17 b0) FU (0 : Int32) (sL (sL (sI σ b0 4 0) b0 5 1) b0 6 0) = some ((), τ) ∧ (gI τ b0 4 = nI (psN C 8) ∧ gL τ b0 5 = lI (lcN C 8) ∧ gL τ b0 6 = lI 0 ∧ (∀ j, j ≠ b0 → gI τ j = gI σ j) ∧ (∀ j, j ≠ b0 → gL τ j = gL σ j)) := by
    refine lp_ex (body := fX1_settle_L17 b0) (b := ()) 8 (fun z => nI z) (fun z τ => gI τ b0 4 = nI (psN C z) ∧ gL τ b0 5 = lI (lcN C z) ∧ gL τ b0 6 = lI 0 ∧ (∀ j, j ≠ b0 → gI τ j = gI σ j) ∧ (∀ j, j ≠ b0 → gL τ j = gL σ j)) (fun z hz τ ⟨p1, p2, p3, p4, p5⟩ => ?_) (fun τ _ => ?_) FU (by decide) _ ?_
    · have c8 : ¬ (8 : Int32) ≤ nI z := nI_ge (b := 8) hz (by decide)
      have e1 : gI τ (b0 + 1) z = nI (C z) := by rw [p4 _ (by omega), h1 z hz]
      have hCz := hC z hz
      by_cases q : 0 < C z
      · have cq : ¬ nI (C z) ≤ 0 := by
          have := nI_ge (a := 0) (b := C z) q (by omega)
          exact this
        refine ⟨sL (sI τ b0 4 (nI (psN C (z + 1)))) b0 5 (lI (lcN C (z + 1))), ?_, ?_, ?_, ?_, ?_, ?_⟩
        · have e2 : gI (sI τ b0 4 (nI (psN C z + 1))) (b0 + 1) z = nI (C z) := by rw [gI_ne _ _ (Or.inl (by omega)), e1]
          have e3 : gL (sI τ b0 4 (nI (psN C z + 1))) b0 5 = lI (lcN C z) := by rw [gL_sI, p2]
          simp only [fX1_settle_L17, if_neg c8, aI_n hz (by decide), ob, bd, e1, if_neg cq, e2, e3, nI_lI (show C z < 2 ^ 31 by omega), e_mult (show lcN C z < 2 ^ 62 by have := hDn z (by omega); omega) (show C z < 2 ^ 62 by omega) q, nI_1, p1]
          rw [show psN C (z + 1) = psN C z + 1 by unfold psN; rw [cn, if_pos (by simp [q])], show lcN C (z + 1) = Nat.lcm (lcN C z) (C z) by rw [lcN, if_pos q]]
        · rw [gI_sL, gI_same]
        · rw [gL_same]
        · rw [gL_ne _ _ (Or.inr (by decide)), gL_sI, p3]
        · intro j hj; rw [gI_sL, gI_row _ _ hj, p4 j hj]
        · intro j hj; rw [gL_row _ _ hj, gL_sI, p5 j hj]
      · have q0 : C z = 0 := by omega
        have cq : nI (C z) ≤ 0 := by rw [q0]; decide
        refine ⟨τ, ?_, ?_, ?_, p3, p4, p5⟩
        · simp only [fX1_settle_L17, if_neg c8, aI_n hz (by decide), ob, bd, e1, if_pos cq, nI_1]
        · rw [p1]; unfold psN; rw [cn, if_neg (by simp [q0])]; rfl
        · rw [p2, lcN, if_neg q]
    · have c8 : (8 : Int32) ≤ nI 8 := by decide
      simp only [fX1_settle_L17, if_pos c8]
    · refine ⟨?_, ?_, ?_, ?_, ?_⟩
      · rw [gI_sL, gI_sL, gI_same]; rfl
      · rw [gL_ne _ _ (Or.inr (by decide)), gL_same]; rfl
      · rw [gL_same]; rfl
      · intro j hj; rw [gI_sL, gI_sL, gI_row _ _ hj]
      · intro j hj; rw [gL_row _ _ hj, gL_row _ _ hj, gL_sI]
  obtain ⟨υ, k1, k2, k3, k4, k5, k6⟩ := step0
  have step1 : ∃ τ, lpG (fX1_settle_L68 b0) FU (0 : Int32) υ = some ((), τ) ∧ (gI τ b0 4 = nI (psN C 8) ∧ gL τ b0 5 = lI (lcN C 8) ∧ gL τ b0 6 = lI (sZ (scI C S) 8) ∧ (∀ l, l < 8 → gL τ (b0 + 3) l = lI (scI C S l)) ∧ (∀ j, j ≠ b0 → gI τ j = gI σ j) ∧ (∀ j, j ≠ b0 → j ≠ b0 + 3 → gL τ j = gL σ j)) := by
    refine lp_ex (body := fX1_settle_L68 b0) (b := ()) 8 (fun z => nI z) (fun z τ => gI τ b0 4 = nI (psN C 8) ∧ gL τ b0 5 = lI (lcN C 8) ∧ gL τ b0 6 = lI (sZ (scI C S) z) ∧ (∀ l, l < z → gL τ (b0 + 3) l = lI (scI C S l)) ∧ (∀ j, j ≠ b0 → gI τ j = gI σ j) ∧ (∀ j, j ≠ b0 → j ≠ b0 + 3 → gL τ j = gL σ j)) (fun z hz τ ⟨p1, p2, p3, p4, p5, p6⟩ => ?_) (fun τ _ => ?_) FU (by decide) _ ?_
    · have c8 : ¬ (8 : Int32) ≤ nI z := nI_ge (b := 8) hz (by decide)
      have e1 : gI τ (b0 + 1) z = nI (C z) := by rw [p5 _ (by omega), h1 z hz]
      have e2 : gL τ (b0 + 2) z = lI (S z) := by rw [p6 _ (by omega) (by omega), h2 z hz]
      have hCz := hC z hz
      have h8 := hDn 8 (by decide)
      refine ⟨sL (sL τ (b0 + 3) z (lI (scI C S z))) b0 6 (lI (sZ (scI C S) (z + 1))), ?_, ?_, ?_, ?_, ?_, ?_, ?_⟩
      · have ev : (if nI (C z) ≤ 0 then some (0 : Int64) else (dL (lI (lcN C 8)) ((nI (C z)).toInt64)).bind fun v12 => some (lI (S z) * v12)) = some (lI (scI C S z)) := by
          unfold scI
          by_cases q : 0 < C z
          · have cq : ¬ nI (C z) ≤ 0 := by
              have := nI_ge (a := 0) (b := C z) q (by omega)
              exact this
            rw [if_neg cq, if_pos q, nI_lI (by omega), dL_I (bdN (by omega)) (bdN (by omega)) (by omega), ob, lI_mul, ← Int.ofNat_tdiv]
          · have q0 : C z = 0 := by omega
            have cq : nI (C z) ≤ 0 := by rw [q0]; decide
            rw [if_pos cq, if_neg q]; rfl
        have e3 : gL (sL τ (b0 + 3) z (lI (scI C S z))) b0 6 = lI (sZ (scI C S) z) := by rw [gL_ne _ _ (Or.inl (by omega)), p3]
        simp only [fX1_settle_L68, if_neg c8, aI_n hz (by decide), aL_n hz (by decide), ob, bd, e1, e2, p2, ev, wL_n hz (by decide), e3, gL_same, lI_add, nI_1]
        rfl
      · rw [gI_sL, gI_sL, p1]
      · rw [gL_ne _ _ (Or.inr (by decide)), gL_ne _ _ (Or.inl (by omega)), p2]
      · rw [gL_same]
      · intro l hl
        rw [gL_ne _ _ (Or.inl (by omega)), gL_set]
        by_cases e : l = z
        · rw [if_pos ⟨rfl, e⟩, e]
        · rw [if_neg (fun h => e h.2)]
          exact p4 l (by omega)
      · intro j hj; rw [gI_sL, gI_sL, p5 j hj]
      · intro j hj hj2; rw [gL_row _ _ hj, gL_row _ _ hj2, p6 j hj hj2]
    · have c8 : (8 : Int32) ≤ nI 8 := by decide
      simp only [fX1_settle_L68, if_pos c8]
    · exact ⟨k2, k3, k4, fun l hl => by omega, k5, fun j hj _ => k6 j hj⟩
  obtain ⟨τ, m1, m2⟩ := step1
  refine ⟨τ, ?_, m2⟩
  simp only [fX1_settle, bd, k1, ob, m1]
