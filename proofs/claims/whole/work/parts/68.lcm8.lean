/-! a sharper bound of the scale -/
theorem pow8 : ∀ c, c < 65 → c ^ 8 ≤ 5 ^ 8 * 2 ^ c := by decide +kernel
theorem pd_8 {P : Nat → Bool} {f : Nat → Nat} : ∀ n, (∀ l, l < n → P l = true → f l ≤ 64) → (pdN P f n) ^ 8 ≤ 5 ^ (8 * n) * 2 ^ (sN (fun l => if P l = true then f l else 0) n) := by
  intro n
  induction n with
  | zero => intro _; exact Nat.le_refl 1
  | succ n ih =>
    intro hf
    have h1 := ih (fun l hl => hf l (by omega))
    rw [pdN, sN]
    by_cases h : P n = true
    · rw [if_pos h, if_pos h, Nat.mul_pow, Nat.pow_add, show 8 * (n + 1) = 8 * n + 8 by omega, Nat.pow_add]
      have h2 := pow8 (f n) (by have := hf n (by omega) h; omega)
      refine Nat.le_trans (Nat.mul_le_mul h1 h2) (Nat.le_of_eq ?_)
      generalize 5 ^ (8 * n) = a
      generalize 2 ^ sN (fun l => if P l = true then f l else 0) n = b
      generalize 2 ^ f n = d
      generalize 5 ^ 8 = e
      rw [Nat.mul_assoc, Nat.mul_assoc, Nat.mul_left_comm b e d]
    · rw [if_neg h, if_neg h]
      refine Nat.le_trans h1 (Nat.mul_le_mul_right _ (Nat.pow_le_pow_right (by decide) (by omega)))
theorem e8_le {a : Nat} (h : a ^ 8 ≤ 5 ^ (8 * 8) * 2 ^ 64) : a ≤ 100000000 := by
  rcases Nat.lt_or_ge 100000000 a with g | g
  · have h1 := Nat.pow_le_pow_left (show 100000001 ≤ a by omega) 8
    have h2 : 5 ^ (8 * 8) * 2 ^ 64 < 100000001 ^ 8 := by decide +kernel
    exact absurd (Nat.le_trans h1 h) (Nat.not_le.mpr h2)
  · exact g
theorem sh_lcm8 {c : Nat → Nat} {x : Nat → Int} {A B : Nat → Nat} (hF : Fit c x) (h : ShOk c x A B) : lcN (shC c A B) 8 ≤ 100000000 := by
  generalize hP : (fun l => decide (0 < c l) && decide (A l = l)) = P
  have hPl : ∀ l, P l = (decide (0 < c l) && decide (A l = l)) := fun l => by rw [← hP]
  have hPc : ∀ l, P l = true → 0 < c l := fun l hp => by
    rw [hPl] at hp
    simp only [Bool.and_eq_true, decide_eq_true_eq] at hp
    exact hp.1
  have hpos : 0 < pdN P (bN c A B) 8 := pd_pos 8 (fun l hl hp => (bN_le hF h hl (hPc l hp)).2.1)
  have hdv : lcN (shC c A B) 8 ∣ pdN P (bN c A B) 8 := lcN_least 8 (fun l hl h0 => by
    unfold shC at h0 ⊢
    by_cases q : 0 < c l
    · rw [if_pos q]
      obtain ⟨r1, r2, r3, r4, r5, r6, -⟩ := h l hl q
      obtain ⟨s1, s2⟩ := r6 (A l) (Nat.le_refl _) (by omega) r4
      have e : bN c A B l = bN c A B (A l) := by unfold bN bC; rw [s1, s2]
      rw [e]
      exact pd_dvd 8 (A l) (by omega) (by rw [hPl]; simp [r4, s1])
    · rw [if_neg q] at h0; omega)
  have hle := Nat.le_of_dvd hpos hdv
  have hcb := pd_8 (P := P) (f := bN c A B) 8 (fun l hl hp => (bN_le hF h hl (hPc l hp)).1)
  have hs := sum_blocks hF h 8 (Nat.le_refl _) 8 (Nat.le_refl _) (Nat.le_refl _) (fun l hl hp => by
    simp only [Bool.and_eq_true, decide_eq_true_eq] at hp
    exact (h l hl hp.1).2.2.1)
  have e : (fun l => if (decide (0 < c l) && decide (A l = l)) = true then bN c A B l else 0) = (fun l => if P l = true then bN c A B l else 0) := by funext l; rw [hPl]
  rw [e] at hs
  have h64 := hF.2.1
  have : sN (fun l => if P l = true then bN c A B l else 0) 8 ≤ 64 := by omega
  have := e8_le (Nat.le_trans hcb (Nat.mul_le_mul_left _ (Nat.pow_le_pow_right (by decide) this)))
  omega
theorem lc_lcm8 {s : Sg} (hI : Inv s) : lcN (lc s) 8 ≤ 100000000 := by
  have := sh_lcm8 (fit hI) (sh_id (lc s) (lx s))
  have e : shC (lc s) (fun l => l) (fun l => l + 1) = lc s := by
    funext l
    unfold shC
    rw [bN_id]
    split <;> omega
  rwa [e] at this
