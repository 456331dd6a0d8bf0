/-! LEVELS: the class's survey, whole -/
theorem cube3 : ∀ n : Nat, n * n * n ≤ 3 ^ n := by
  intro n
  rcases (show n ≤ 3 ∨ 3 ≤ n by omega) with g | g
  · have : n = 0 ∨ n = 1 ∨ n = 2 ∨ n = 3 := by omega
    rcases this with rfl | rfl | rfl | rfl <;> decide
  · obtain ⟨m, rfl⟩ : ∃ m, n = 3 + m := ⟨n - 3, by omega⟩
    clear g
    induction m with
    | zero => decide
    | succ m ih =>
      have e : 3 ^ (3 + (m + 1)) = 3 * 3 ^ (3 + m) := by rw [show 3 + (m + 1) = (3 + m) + 1 by omega, Nat.pow_succ, Nat.mul_comm]
      rw [e]
      refine Nat.le_trans ?_ (Nat.mul_le_mul_left 3 ih)
      have : (3 + (m + 1)) * (3 + (m + 1)) * (3 + (m + 1)) ≤ 3 * ((3 + m) * (3 + m) * (3 + m)) := by
        have q : m * m * m = m * m * m := rfl
        grind
      exact this
/-- one count a block, multiplied -/
def pdN (P : Nat → Bool) (f : Nat → Nat) : Nat → Nat
  | 0 => 1
  | n + 1 => if P n = true then pdN P f n * f n else pdN P f n
theorem pd_dvd {P : Nat → Bool} {f : Nat → Nat} : ∀ n l, l < n → P l = true → f l ∣ pdN P f n := by
  intro n
  induction n with
  | zero => intro l hl; omega
  | succ n ih =>
    intro l hl hp
    rw [pdN]
    by_cases e : l = n
    · subst e; rw [if_pos hp]; exact Nat.dvd_mul_left _ _
    · have := ih l (by omega) hp
      split
      · exact Nat.dvd_trans this (Nat.dvd_mul_right _ _)
      · exact this
theorem pd_pos {P : Nat → Bool} {f : Nat → Nat} : ∀ n, (∀ l, l < n → P l = true → 0 < f l) → 0 < pdN P f n := by
  intro n
  induction n with
  | zero => intro _; exact Nat.one_pos
  | succ n ih =>
    intro h
    have := ih (fun l hl => h l (by omega))
    rw [pdN]
    split
    · exact Nat.mul_pos this (h n (by omega) (by assumption))
    · exact this
theorem pd_cube {P : Nat → Bool} {f : Nat → Nat} : ∀ n, pdN P f n * pdN P f n * pdN P f n ≤ 3 ^ (sN (fun l => if P l = true then f l else 0) n) := by
  intro n
  induction n with
  | zero => exact Nat.le_refl 1
  | succ n ih =>
    rw [pdN, sN]
    by_cases h : P n = true
    · rw [if_pos h, if_pos h, Nat.pow_add]
      have := Nat.mul_le_mul ih (cube3 (f n))
      grind
    · rw [if_neg h, if_neg h]
      exact ih
/-- the blocks' counts together -/
theorem sum_blocks {c : Nat → Nat} {x : Nat → Int} {A B : Nat → Nat} (hF : Fit c x) (h : ShOk c x A B) : ∀ n, n ≤ 8 → ∀ m, n ≤ m → m ≤ 8 → (∀ l, l < n → (decide (0 < c l) && decide (A l = l)) = true → B l ≤ m) → ((sN (fun l => if (decide (0 < c l) && decide (A l = l)) = true then bN c A B l else 0) n : Nat) : Int) ≤ pC c m := by
  intro n
  induction n with
  | zero =>
    intro _ m _ _ _
    have := pC_le (c := c) (Nat.zero_le m)
    exact this
  | succ n ih =>
    intro hn m h1 h2 h3
    rw [sN]
    by_cases q : (decide (0 < c n) && decide (A n = n)) = true
    · rw [if_pos q]
      have q2 := h3 n (by omega) q
      simp only [Bool.and_eq_true, decide_eq_true_eq] at q
      obtain ⟨-, -, f3⟩ := bN_le hF h (show n < 8 by omega) q.1
      obtain ⟨-, p2, -⟩ := h n (by omega) q.1
      have a1 := ih (by omega) n (Nat.le_refl _) (by omega) (fun l hl hp => by
        simp only [Bool.and_eq_true, decide_eq_true_eq] at hp
        obtain ⟨r1, r2, r3, r4, r5, r6, -⟩ := h l (by omega) hp.1
        rcases Nat.lt_or_ge n (B l) with g | g
        · have := (r6 n (by omega) g q.1).1
          omega
        · exact g)
      have a2 := pC_le (c := c) q2
      unfold bC at f3
      rw [q.2] at f3
      omega
    · rw [if_neg q]
      exact ih (by omega) m (by omega) h2 (fun l hl hp => h3 l (by omega) hp)
def shC (c : Nat → Nat) (A B : Nat → Nat) (l : Nat) : Nat := if 0 < c l then bN c A B l else 0
def shS (c : Nat → Nat) (x : Nat → Int) (A B : Nat → Nat) (l : Nat) : Int := if 0 < c l then bS x A B l else 0
theorem cube_lt {a : Nat} (h : a * a * a ≤ 3 ^ 64) : a < 2 ^ 34 := by
  rcases Nat.lt_or_ge a (2 ^ 34) with g | g
  · exact g
  · have := Nat.mul_le_mul (Nat.mul_le_mul g g) g
    have e : (3 : Nat) ^ 64 < 2 ^ 34 * 2 ^ 34 * 2 ^ 34 := by decide
    omega
theorem sh_lcm {c : Nat → Nat} {x : Nat → Int} {A B : Nat → Nat} (hF : Fit c x) (h : ShOk c x A B) : lcN (shC c A B) 8 < 2 ^ 34 := by
  generalize hP : (fun l => decide (0 < c l) && decide (A l = l)) = P
  have hPl : ∀ l, P l = (decide (0 < c l) && decide (A l = l)) := fun l => by rw [← hP]
  have hpos : 0 < pdN P (bN c A B) 8 := pd_pos 8 (fun l hl hp => by
    rw [hPl] at hp
    simp only [Bool.and_eq_true, decide_eq_true_eq] at hp
    exact (bN_le hF h hl hp.1).2.1)
  have hdv : lcN (shC c A B) 8 ∣ pdN P (bN c A B) 8 := lcN_least 8 (fun l hl h0 => by
    unfold shC at h0 ⊢
    by_cases q : 0 < c l
    · rw [if_pos q]
      obtain ⟨r1, r2, r3, r4, r5, r6, -⟩ := h l hl q
      obtain ⟨s1, s2⟩ := r6 (A l) (Nat.le_refl _) (by omega) r4
      have e : bN c A B l = bN c A B (A l) := by unfold bN bC; rw [s1, s2]
      rw [e]
      exact pd_dvd 8 (A l) (by omega) (by rw [hPl]; simp [r4, s1])
    · rw [if_neg q] at h0; omega)
  have hle := Nat.le_of_dvd hpos hdv
  have hcb := pd_cube (P := P) (f := bN c A B) 8
  have hs := sum_blocks hF h 8 (Nat.le_refl _) 8 (Nat.le_refl _) (Nat.le_refl _) (fun l hl hp => by
    simp only [Bool.and_eq_true, decide_eq_true_eq] at hp
    exact (h l hl hp.1).2.2.1)
  have e : (fun l => if (decide (0 < c l) && decide (A l = l)) = true then bN c A B l else 0) = (fun l => if P l = true then bN c A B l else 0) := by funext l; rw [hPl]
  rw [e] at hs
  have h64 := hF.2.1
  have : sN (fun l => if P l = true then bN c A B l else 0) 8 ≤ 64 := by omega
  have := Nat.le_trans hcb (Nat.pow_le_pow_right (by decide) this)
  have := cube_lt this
  omega
