/-! swim -/
/-- a swim that bars another one -/
def tkn (s : Sg) (x y z : Int32) (k : Nat) : Prop := gI s 4 k = x ∧ (gI s 5 k = y ∨ gI s 6 k = z)
theorem e_isTaken {s : Sg} (hA : InvA s) (x y z : Int32) : (∃ k, k < nS s ∧ tkn s x y z k) ∧ fX3_isTaken x y z s = some (1, s) ∨ (∀ k, k < nS s → ¬ tkn s x y z k) ∧ fX3_isTaken x y z s = some (0, s) := by
  have a4 := hA.2.2.2.1
  have a6 := hA.2.2.2.2.2
  have step : ∀ k, k < nS s → ¬ tkn s x y z k → fX3_isTaken_L3 x y z (nI k) s = some (.inl (nI (k + 1)), s) := by
    intro k hk ht
    have c : ¬ gI s 1 1 ≤ nI k := by rw [a4]; exact nI_ge hk (by omega)
    have h64 : k < 64 := by omega
    simp only [fX3_isTaken_L3, if_neg c, aI_n h64 (by decide), ob, bd, nI_1]
    by_cases q1 : gI s 4 k = x
    · rw [if_pos q1]
      have q2 : ¬ gI s 5 k = y := fun h => ht ⟨q1, Or.inl h⟩
      have q3 : ¬ gI s 6 k = z := fun h => ht ⟨q1, Or.inr h⟩
      rw [if_neg q2, if_neg q3]
    · rw [if_neg q1]
  rcases first_of (tkn s x y z) (nS s) with ⟨k, hk, hp, hn⟩ | hn
  · left
    refine ⟨⟨k, hk, hp⟩, ?_⟩
    have hl : lpG (fX3_isTaken_L3 x y z) FU (0 : Int32) s = some (.inl 1, s) := by
      refine lp_rd k (fun j => nI j) (fun j hj => step j (by omega) (hn j hj)) ?_ FU (by unfold FU; omega)
      have c : ¬ gI s 1 1 ≤ nI k := by rw [a4]; exact nI_ge hk (by omega)
      have h64 : k < 64 := by omega
      simp only [fX3_isTaken_L3, if_neg c, aI_n h64 (by decide), ob, bd, if_pos hp.1]
      rcases hp.2 with h | h
      · rw [if_pos h]
      · by_cases q2 : gI s 5 k = y
        · rw [if_pos q2]
        · rw [if_neg q2, if_pos h]
    simp only [fX3_isTaken, hl, ob]
    rfl
  · right
    refine ⟨hn, ?_⟩
    have hl : lpG (fX3_isTaken_L3 x y z) FU (0 : Int32) s = some (.inr (), s) := by
      refine lp_rd (nS s) (fun j => nI j) (fun j hj => step j hj (hn j hj)) ?_ FU (by unfold FU; omega)
      have c : gI s 1 1 ≤ nI (nS s) := by rw [a4]; exact nI_le (Nat.le_refl _) (by omega)
      simp only [fX3_isTaken_L3, if_pos c]
    simp only [fX3_isTaken, hl, ob]
    rfl
theorem r_taken {s : Sg} (hA : InvA s) (hS : InvS s) (x y z : Int32) : ((∃ k, k < nS s ∧ tkn s x y z k) → lpG (fX11_swim_L28 x y z) FU (0 : Int32) s = some (.inl (-2), s)) ∧ ((∀ k, k < nS s → ¬ tkn s x y z k) → lpG (fX11_swim_L28 x y z) FU (0 : Int32) s = some (.inr (), s)) := by
  have a5 := hA.2.2.2.2.1
  have a6 := hA.2.2.2.2.2
  have row : ∀ k, k < nS s → gI s 52 k = gI s 4 k ∧ gI s 53 k = gI s 5 k ∧ gI s 54 k = gI s 6 k := by
    intro k hk
    obtain ⟨b1, b2, b3, b4, b5, b6, b7, b8, b9⟩ := hS k hk
    exact ⟨b2.trans b1.symm, b5.trans b4.symm, b8.trans b7.symm⟩
  have step : ∀ k, k < nS s → ¬ tkn s x y z k → fX11_swim_L28 x y z (nI k) s = some (.inl (nI (k + 1)), s) := by
    intro k hk ht
    have c : ¬ gI s 49 3 ≤ nI k := by rw [a5]; exact nI_ge hk (by omega)
    have h64 : k < 64 := by omega
    obtain ⟨r1, r2, r3⟩ := row k hk
    simp only [fX11_swim_L28, if_neg c, aI_n h64 (by decide), ob, bd, nI_1, r1, r2, r3]
    by_cases q1 : gI s 4 k = x
    · rw [if_pos q1]
      have q2 : ¬ gI s 5 k = y := fun h => ht ⟨q1, Or.inl h⟩
      have q3 : ¬ gI s 6 k = z := fun h => ht ⟨q1, Or.inr h⟩
      rw [if_neg q2, if_neg q3]
    · rw [if_neg q1]
  constructor
  · intro hex
    rcases first_of (tkn s x y z) (nS s) with ⟨k, hk, hp, hn⟩ | hn
    · refine lp_rd k (fun j => nI j) (fun j hj => step j (by omega) (hn j hj)) ?_ FU (by unfold FU; omega)
      have c : ¬ gI s 49 3 ≤ nI k := by rw [a5]; exact nI_ge hk (by omega)
      have h64 : k < 64 := by omega
      obtain ⟨r1, r2, r3⟩ := row k hk
      simp only [fX11_swim_L28, if_neg c, aI_n h64 (by decide), ob, bd, r1, r2, r3, if_pos hp.1]
      rcases hp.2 with h | h
      · rw [if_pos h]
      · by_cases q2 : gI s 5 k = y
        · rw [if_pos q2]
        · rw [if_neg q2, if_pos h]
    · obtain ⟨k, hk, hp⟩ := hex
      exact absurd hp (hn k hk)
  · intro hn
    refine lp_rd (nS s) (fun j => nI j) (fun j hj => step j hj (hn j hj)) ?_ FU (by unfold FU; omega)
    have c : gI s 49 3 ≤ nI (nS s) := by rw [a5]; exact nI_le (Nat.le_refl _) (by omega)
    simp only [fX11_swim_L28, if_pos c]
/-- the class's side of a swim more -/
def swUp (s : Sg) (n : Nat) (x y z : Int32) : Sg := sI (sI (sI (sI s 4 n x) 5 n y) 6 n z) 1 1 (nI (n + 1))
/-- the reference's side -/
def swUp' (s : Sg) (n : Nat) (x y z : Int32) : Sg := sI (frow (sI (sI (sI s 52 n x) 53 n y) 54 n z) 55 (4 * n) (fun _ => -1) 4) 49 3 (nI (n + 1))
theorem e_addSwim {s : Sg} {n : Nat} (e1 : gI s 1 1 = nI n) (h : n < 64) (x y z : Int32) : fX3_addSwim x y z s = some (nI n, swUp s n x y z) := by
  have h64 : nI n < (64 : Int32) := nI_lt (b := 64) h (by decide)
  have g1 : gI (sI s 4 n x) 1 1 = nI n := by rw [gI_ne _ _ (Or.inl (by decide)), e1]
  have g2 : gI (sI (sI s 4 n x) 5 n y) 1 1 = nI n := by rw [gI_ne _ _ (Or.inl (by decide)), g1]
  have g3 : gI (sI (sI (sI s 4 n x) 5 n y) 6 n z) 1 1 = nI n := by rw [gI_ne _ _ (Or.inl (by decide)), g2]
  unfold fX3_addSwim
  rw [e1, if_pos h64, wI_n h (by decide), ob, g1, wI_n h (by decide), ob, g2, wI_n h (by decide), ob, g3, bd, nI_1, gI_same, nI_pred]
  rfl
theorem r_swimMore {s : Sg} {n : Nat} (e1 : gI s 49 3 = nI n) (h : n < 64) (x y z : Int32) : fX11_swimMore x y z s = some (nI n, swUp' s n x y z) := by
  have g1 : gI (sI s 52 n x) 49 3 = nI n := by rw [gI_ne _ _ (Or.inl (by decide)), e1]
  have g2 : gI (sI (sI s 52 n x) 53 n y) 49 3 = nI n := by rw [gI_ne _ _ (Or.inl (by decide)), g1]
  have g3 : gI (sI (sI (sI s 52 n x) 53 n y) 54 n z) 49 3 = nI n := by rw [gI_ne _ _ (Or.inl (by decide)), g2]
  have hl : ∀ σ : Sg, gI σ 49 3 = nI n → lpG fX11_swimMore_L33 FU (0 : Int32) σ = some ((), frow σ 55 (4 * n) (fun _ => -1) 4) := by
    intro σ hσ
    refine lp_run 4 (fun k => nI k) (fun k => frow σ 55 (4 * n) (fun _ => -1) k) (fun k hk => ?_) ?_ FU (by decide)
    · have c : ¬ (4 : Int32) ≤ nI k := nI_ge (b := 4) hk (by decide)
      have e : gI (frow σ 55 (4 * n) (fun _ => -1) k) 49 3 = nI n := by rw [frow_ne _ _ _ _ _ (Or.inl (by decide)), hσ]
      simp only [fX11_swimMore_L33, if_neg c, e, t_ix', wI_n (show 4 * n + k < 256 by omega) (by decide), ob, bd, nI_1]
      rw [frow]
    · have c : (4 : Int32) ≤ nI 4 := by decide
      simp only [fX11_swimMore_L33, if_pos c]
  have g4 : gI (frow (sI (sI (sI s 52 n x) 53 n y) 54 n z) 55 (4 * n) (fun _ => -1) 4) 49 3 = nI n := by rw [frow_ne _ _ _ _ _ (Or.inl (by decide)), g3]
  unfold fX11_swimMore
  rw [e1, wI_n h (by decide), ob, g1, wI_n h (by decide), ob, g2, wI_n h (by decide), ob, hl _ g3, ob, g4, bd, nI_1, gI_same, nI_pred]
  rfl
theorem swUp_ne (s : Sg) (n : Nat) (x y z : Int32) {a b : Nat} (h : a ≠ 1 ∨ b ≠ 1) (h2 : a = 4 ∨ a = 5 ∨ a = 6 → b ≠ n) : gI (swUp s n x y z) a b = gI s a b := by
  unfold swUp
  rw [gI_ne _ _ (by omega), gI_ne _ _ (by omega), gI_ne _ _ (by omega), gI_ne _ _ (by omega)]
theorem swUp'_ne (s : Sg) (n : Nat) (x y z : Int32) {a b : Nat} (h : a ≠ 49 ∨ b ≠ 3) (h2 : a = 52 ∨ a = 53 ∨ a = 54 → b ≠ n) (h3 : a = 55 → b < 4 * n ∨ 4 * n + 4 ≤ b) : gI (swUp' s n x y z) a b = gI s a b := by
  unfold swUp'
  rw [gI_ne _ _ (by omega), frow_ne _ _ _ _ _ (by omega), gI_ne _ _ (by omega), gI_ne _ _ (by omega), gI_ne _ _ (by omega)]
theorem inv_swim {s : Sg} (hI : Inv s) (h : nS s < 64) {a b c : Nat} (ha : a < nR s) (hb : b < 24) (hc : c < 8) (hfree : ∀ k, k < nS s → rcN s k = a → swN s k ≠ b ∧ laN s k ≠ c) : Inv (swUp' (swUp s (nS s) (nI a) (nI b) (nI c)) (nS s) (nI a) (nI b) (nI c)) := by
  obtain ⟨hA, hR, hS, hT, hD, hE, hX, hH, hF⟩ := hI
  generalize hn : nS s = n at *
  generalize hτ : swUp' (swUp s n (nI a) (nI b) (nI c)) n (nI a) (nI b) (nI c) = τ
  have hnR := hA.2.2.1
  have ne : ∀ i j, (i ≠ 1 ∨ j ≠ 1) → (i ≠ 49 ∨ j ≠ 3) → (i = 4 ∨ i = 5 ∨ i = 6 ∨ i = 52 ∨ i = 53 ∨ i = 54 → j ≠ n) → (i = 55 → j < 4 * n ∨ 4 * n + 4 ≤ j) → gI τ i j = gI s i j := by
    intro i j h1 h2 h3 h4
    rw [← hτ, swUp'_ne _ _ _ _ _ h2 (by omega) h4, swUp_ne _ _ _ _ _ h1 (by omega)]
  have row : ∀ i, (i == 1 || i == 49 || i == 4 || i == 5 || i == 6 || i == 52 || i == 53 || i == 54 || i == 55) = false → gI τ i = gI s i := by
    intro i hi
    simp only [Bool.or_eq_false_iff, beq_eq_false_iff_ne, ne_eq] at hi
    funext j
    exact ne i j (by omega) (by omega) (by omega) (by omega)
  have v11 : gI τ 1 1 = nI (n + 1) := by
    rw [← hτ, swUp'_ne _ _ _ _ _ (by omega) (by omega) (by omega)]
    unfold swUp; rw [gI_same]
  have v49 : gI τ 49 3 = nI (n + 1) := by rw [← hτ]; unfold swUp'; rw [gI_same]
  have v4 : gI τ 4 n = nI a := by
    rw [← hτ, swUp'_ne _ _ _ _ _ (by omega) (by omega) (by omega)]
    unfold swUp; rw [gI_ne _ _ (by omega), gI_ne _ _ (by omega), gI_ne _ _ (by omega), gI_same]
  have v5 : gI τ 5 n = nI b := by
    rw [← hτ, swUp'_ne _ _ _ _ _ (by omega) (by omega) (by omega)]
    unfold swUp; rw [gI_ne _ _ (by omega), gI_ne _ _ (by omega), gI_same]
  have v6 : gI τ 6 n = nI c := by
    rw [← hτ, swUp'_ne _ _ _ _ _ (by omega) (by omega) (by omega)]
    unfold swUp; rw [gI_ne _ _ (by omega), gI_same]
  have v52 : gI τ 52 n = nI a := by
    rw [← hτ]; unfold swUp'; rw [gI_ne _ _ (by omega), frow_ne _ _ _ _ _ (by omega), gI_ne _ _ (by omega), gI_ne _ _ (by omega), gI_same]
  have v53 : gI τ 53 n = nI b := by
    rw [← hτ]; unfold swUp'; rw [gI_ne _ _ (by omega), frow_ne _ _ _ _ _ (by omega), gI_ne _ _ (by omega), gI_same]
  have v54 : gI τ 54 n = nI c := by
    rw [← hτ]; unfold swUp'; rw [gI_ne _ _ (by omega), frow_ne _ _ _ _ _ (by omega), gI_same]
  have v55 : ∀ l, l < 4 → gI τ 55 (4 * n + l) = -1 := by
    intro l hl
    rw [← hτ]; unfold swUp'; rw [gI_ne _ _ (by omega), frow_at _ _ _ _ _ hl]
  have q0 : nR τ = nR s := by unfold nR; rw [ne 1 0 (by omega) (by omega) (by omega) (by omega)]
  have q1 : nS τ = n + 1 := by unfold nS; rw [v11, cl_n (by omega)]
  have qr : ∀ k, rcN τ k = if k = n then a else rcN s k := by
    intro k
    unfold rcN
    by_cases e : k = n
    · subst e; rw [v4, if_pos rfl, cl_n (by omega)]
    · rw [if_neg e, ne 4 k (by omega) (by omega) (by omega) (by omega)]
  have qs : ∀ k, swN τ k = if k = n then b else swN s k := by
    intro k
    unfold swN
    by_cases e : k = n
    · subst e; rw [v5, if_pos rfl, cl_n (by omega)]
    · rw [if_neg e, ne 5 k (by omega) (by omega) (by omega) (by omega)]
  have ql : ∀ k, laN τ k = if k = n then c else laN s k := by
    intro k
    unfold laN
    by_cases e : k = n
    · subst e; rw [v6, if_pos rfl, cl_n (by omega)]
    · rw [if_neg e, ne 6 k (by omega) (by omega) (by omega) (by omega)]
  have qn : lnN τ = lnN s := by funext r; unfold lnN; rw [row 2 rfl]
  refine ⟨?_, cgR (ne 1 0 (by omega) (by omega) (by omega) (by omega)) (row 2 rfl) (row 3 rfl) (row 50 rfl) (row 51 rfl) hR, ?_, ?_, ?_, cgE (row 8 rfl) (row 56 rfl) hE, cgX (by rw [row 30 rfl]) (by rw [row 32 rfl]) (row 31 rfl) (row 33 rfl) (row 66 rfl) (row 65 rfl) hX, cgH (fun j i h1 h2 => by rw [row j (by simp; omega)]) (row 69 rfl) (row 70 rfl) (row 71 rfl) (row 72 rfl) hH, cgF (ne 49 33 (by omega) (by omega) (by omega) (by omega)) (by rw [row 0 rfl]) hF⟩
  · obtain ⟨a1, a2, a3, a4, a5, a6⟩ := hA
    unfold InvA
    rw [q0, q1, v11, v49]
    exact ⟨by rw [ne 1 0 (by omega) (by omega) (by omega) (by omega)]; exact a1, by rw [ne 49 0 (by omega) (by omega) (by omega) (by omega)]; exact a2, a3, rfl, rfl, by omega⟩
  · intro k hk
    rw [q1] at hk
    rw [q0, qr, qs, ql]
    by_cases e : k = n
    · subst e
      simp only [if_true]
      exact ⟨v4, v52, ha, v5, v53, hb, v6, v54, hc⟩
    · simp only [if_neg e]
      obtain ⟨b1, b2, b3, b4, b5, b6, b7, b8, b9⟩ := hS k (by omega)
      exact ⟨by rw [ne 4 k (by omega) (by omega) (by omega) (by omega)]; exact b1, by rw [ne 52 k (by omega) (by omega) (by omega) (by omega)]; exact b2, b3, by rw [ne 5 k (by omega) (by omega) (by omega) (by omega)]; exact b4, by rw [ne 53 k (by omega) (by omega) (by omega) (by omega)]; exact b5, b6, by rw [ne 6 k (by omega) (by omega) (by omega) (by omega)]; exact b7, by rw [ne 54 k (by omega) (by omega) (by omega) (by omega)]; exact b8, b9⟩
  · obtain ⟨c1, c2, c3⟩ := hT
    unfold InvT
    rw [q1, qn, row 7 rfl]
    refine ⟨fun i hi => ?_, c2, fun k l hk hl hx => ?_⟩
    · by_cases e : 4 * n ≤ i
      · have h1 := v55 (i - 4 * n) (by omega)
        have h2 := c3 n (i - 4 * n) (by omega) (by omega) (Or.inl (by omega))
        rw [show 4 * n + (i - 4 * n) = i by omega] at h1 h2
        rw [h1, h2]
      · rw [ne 55 i (by omega) (by omega) (by omega) (by omega)]
        exact c1 i (by omega)
    · rw [qr] at hx
      by_cases e : k = n
      · exact c3 k l hk hl (Or.inl (by omega))
      · rw [if_neg e] at hx
        exact c3 k l hk hl (by omega)
  · intro j k hjk hk hrc
    rw [q1] at hk
    rw [qr, qr] at hrc
    rw [ql, ql, qs, qs]
    have ej : ¬ j = n := by omega
    rw [if_neg ej] at hrc ⊢
    rw [if_neg ej]
    by_cases e : k = n
    · rw [if_pos e] at hrc
      rw [if_pos e, if_pos e]
      obtain ⟨f1, f2⟩ := hfree j (by omega) hrc
      exact ⟨f2, f1⟩
    · rw [if_neg e] at hrc
      rw [if_neg e, if_neg e]
      exact hD j k hjk (by omega) hrc
theorem all_swim : ok_swim Inv := by
  intro x y z s hI
  have hA := hI.1
  have hS := hI.2.2.1
  cases h1 : hasB s x
  · exact ⟨-2, s, s, by simp only [fX10_swim, e_hasRace, ob, h1, b2f, if_true], by simp only [fX11_swim, r_isRace hA, ob, h1, b2f, if_true], hI⟩
  · cases h2 : wi y 0 23
    · exact ⟨-2, s, s, by simp only [fX10_swim, e_hasRace, e_isSwimmer, ob, h1, h2, b2f, b2t, if_true, if_false], by simp only [fX11_swim, r_isRace hA, r_isSwimmer, ob, h1, h2, b2f, b2t, if_true, if_false], hI⟩
    · cases h3 : wi z 0 7
      · exact ⟨-2, s, s, by simp only [fX10_swim, e_hasRace, e_isSwimmer, e_isLane, ob, h1, h2, h3, b2f, b2t, if_true, if_false], by simp only [fX11_swim, r_isRace hA, r_isSwimmer, r_isLane, ob, h1, h2, h3, b2f, b2t, if_true, if_false], hI⟩
      · obtain ⟨rt1, rt2⟩ := r_taken hA hS x y z
        have k9 : ¬ (1 : Int32) = 0 := by decide
        rcases e_isTaken hA x y z with ⟨hex, he⟩ | ⟨hno, he⟩
        · refine ⟨-2, s, s, ?_, ?_, hI⟩
          · simp only [fX10_swim, e_hasRace, e_isSwimmer, e_isLane, ob, h1, h2, h3, b2t, if_false, he, k9]
          · simp only [fX11_swim, r_isRace hA, r_isSwimmer, r_isLane, ob, h1, h2, h3, b2t, if_false, rt1 hex]
            rfl
        · by_cases hf : nS s = 64
          · have c1 : ¬ gI s 1 1 < 64 := by rw [hA.2.2.2.1, hf]; decide
            have c2 : gI s 49 3 = 64 := by rw [hA.2.2.2.2.1, hf]; rfl
            refine ⟨-4, s, s, ?_, ?_, hI⟩
            · simp only [fX10_swim, e_hasRace, e_isSwimmer, e_isLane, ob, h1, h2, h3, b2t, if_false, he, if_true, if_neg c1]
            · simp only [fX11_swim, r_isRace hA, r_isSwimmer, r_isLane, ob, h1, h2, h3, b2t, if_false, rt2 hno, Sum.elim_inr, if_pos c2]
          · have hlt : nS s < 64 := by have := hA.2.2.2.2.2; omega
            have c1 : gI s 1 1 < 64 := by rw [hA.2.2.2.1]; exact nI_lt (b := 64) hlt (by decide)
            obtain ⟨a, ha, rfl⟩ := hasB_n hA h1
            obtain ⟨b, hb, rfl⟩ := wi_nat (n := 23) rfl (by decide) h2
            obtain ⟨c, hc, rfl⟩ := wi_nat (n := 7) rfl (by decide) h3
            generalize hτ : swUp s (nS s) (nI a) (nI b) (nI c) = τ
            have ne : ∀ i j, (i ≠ 1 ∨ j ≠ 1) → (i = 4 ∨ i = 5 ∨ i = 6 → j ≠ nS s) → gI τ i j = gI s i j := by
              intro i j q1 q2
              rw [← hτ, swUp_ne _ _ _ _ _ q1 q2]
            have e49 : gI τ 49 3 = nI (nS s) := by rw [ne 49 3 (by omega) (by omega), hA.2.2.2.2.1]
            have e490 : gI τ 49 0 = nI (nR s) := by rw [ne 49 0 (by omega) (by omega), hA.2.1]
            have k0 := hA.2.2.1
            have hrace : fX11_isRace (nI a) τ = some (b2i true, τ) := by
              simp only [fX11_isRace, e_in, ob, zr_b]
              rw [wi_pred e490 (by omega), e490]
              have : (decide (0 ≤ nI a) && decide (nI a < nI (nR s))) = true := by
                rw [Bool.and_eq_true, decide_eq_true_eq, decide_eq_true_eq]
                exact ⟨nI_pos' (by omega), nI_lt ha (by omega)⟩
              rw [this]
            have hloop : lpG (fX11_swim_L28 (nI a) (nI b) (nI c)) FU (0 : Int32) τ = some (.inr (), τ) := by
              refine lp_rd (nS s) (fun j => nI j) (fun k hk => ?_) ?_ FU (by unfold FU; omega)
              · have cc : ¬ gI τ 49 3 ≤ nI k := by rw [e49]; exact nI_ge hk (by omega)
                have h64 : k < 64 := by omega
                obtain ⟨b1, b2, b3, b4, b5, b6, b7, b8, b9⟩ := hS k hk
                have ht := hno k hk
                simp only [fX11_swim_L28, if_neg cc, aI_n h64 (by decide), ob, bd, nI_1, ne 52 k (by omega) (by omega), ne 53 k (by omega) (by omega), ne 54 k (by omega) (by omega), b2.trans b1.symm, b5.trans b4.symm, b8.trans b7.symm]
                by_cases q1 : gI s 4 k = nI a
                · rw [if_pos q1]
                  have q2 : ¬ gI s 5 k = nI b := fun h => ht ⟨q1, Or.inl h⟩
                  have q3 : ¬ gI s 6 k = nI c := fun h => ht ⟨q1, Or.inr h⟩
                  rw [if_neg q2, if_neg q3]
                · rw [if_neg q1]
              · have cc : gI τ 49 3 ≤ nI (nS s) := by rw [e49]; exact nI_le (Nat.le_refl _) (by omega)
                simp only [fX11_swim_L28, if_pos cc]
            refine ⟨nI (nS s), τ, swUp' τ (nS s) (nI a) (nI b) (nI c), ?_, ?_, ?_⟩
            · simp only [fX10_swim, e_hasRace, e_isSwimmer, e_isLane, ob, h1, h2, h3, b2t, if_false, he, if_true, if_pos c1, e_addSwim hA.2.2.2.1 hlt, hτ]
            · have c2 : ¬ nI (nS s) = (64 : Int32) := fun e => hf (nI_inj (b := 64) (by omega) (by decide) e)
              simp only [fX11_swim, hrace, r_isSwimmer, r_isLane, ob, h2, h3, b2t, if_false, hloop, Sum.elim_inr, e49, if_neg c2, r_swimMore e49 hlt]
            · rw [← hτ]
              refine inv_swim hI hlt ha (by omega) (by omega) (fun k hk hrc => ?_)
              obtain ⟨b1, b2, b3, b4, b5, b6, b7, b8, b9⟩ := hS k hk
              refine ⟨fun e => hno k hk ⟨by rw [b1, hrc], Or.inl (by rw [b4, e])⟩, fun e => hno k hk ⟨by rw [b1, hrc], Or.inr (by rw [b7, e])⟩⟩
