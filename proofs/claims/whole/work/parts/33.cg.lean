/-! each part of the invariant rests on some rows alone -/
theorem cgA {σ τ : Sg} (h1 : gI τ 1 0 = gI σ 1 0) (h2 : gI τ 1 1 = gI σ 1 1) (h3 : gI τ 49 0 = gI σ 49 0) (h4 : gI τ 49 3 = gI σ 49 3) (h : InvA σ) : InvA τ := by
  have e1 : nR τ = nR σ := by unfold nR; rw [h1]
  have e2 : nS τ = nS σ := by unfold nS; rw [h2]
  unfold InvA
  rw [e1, e2, h1, h2, h3, h4]
  exact h
theorem cgR {σ τ : Sg} (h1 : gI τ 1 0 = gI σ 1 0) (h2 : gI τ 2 = gI σ 2) (h3 : gI τ 3 = gI σ 3) (h4 : gI τ 50 = gI σ 50) (h5 : gI τ 51 = gI σ 51) (h : InvR σ) : InvR τ := by
  have e1 : nR τ = nR σ := by unfold nR; rw [h1]
  have e2 : lnN τ = lnN σ := by funext r; unfold lnN; rw [h2]
  have e3 : dyN τ = dyN σ := by funext r; unfold dyN; rw [h3]
  unfold InvR
  rw [e1, e2, e3, h2, h3, h4, h5]
  exact h
theorem cgS {σ τ : Sg} (h0 : gI τ 1 0 = gI σ 1 0) (h1 : gI τ 1 1 = gI σ 1 1) (h4 : gI τ 4 = gI σ 4) (h5 : gI τ 5 = gI σ 5) (h6 : gI τ 6 = gI σ 6) (g4 : gI τ 52 = gI σ 52) (g5 : gI τ 53 = gI σ 53) (g6 : gI τ 54 = gI σ 54) (h : InvS σ) : InvS τ := by
  have e1 : nR τ = nR σ := by unfold nR; rw [h0]
  have e2 : nS τ = nS σ := by unfold nS; rw [h1]
  have e4 : rcN τ = rcN σ := by funext r; unfold rcN; rw [h4]
  have e5 : swN τ = swN σ := by funext r; unfold swN; rw [h5]
  have e6 : laN τ = laN σ := by funext r; unfold laN; rw [h6]
  unfold InvS
  rw [e1, e2, e4, e5, e6, h4, h5, h6, g4, g5, g6]
  exact h
theorem cgT {σ τ : Sg} (h1 : gI τ 1 1 = gI σ 1 1) (h2 : gI τ 2 = gI σ 2) (h4 : gI τ 4 = gI σ 4) (h7 : gI τ 7 = gI σ 7) (g7 : gI τ 55 = gI σ 55) (h : InvT σ) : InvT τ := by
  have e2 : nS τ = nS σ := by unfold nS; rw [h1]
  have e3 : lnN τ = lnN σ := by funext r; unfold lnN; rw [h2]
  have e4 : rcN τ = rcN σ := by funext r; unfold rcN; rw [h4]
  unfold InvT
  rw [e2, e3, e4, h7, g7]
  exact h
theorem cgD {σ τ : Sg} (h1 : gI τ 1 1 = gI σ 1 1) (h4 : gI τ 4 = gI σ 4) (h5 : gI τ 5 = gI σ 5) (h6 : gI τ 6 = gI σ 6) (h : InvD σ) : InvD τ := by
  have e2 : nS τ = nS σ := by unfold nS; rw [h1]
  have e4 : rcN τ = rcN σ := by funext r; unfold rcN; rw [h4]
  have e5 : swN τ = swN σ := by funext r; unfold swN; rw [h5]
  have e6 : laN τ = laN σ := by funext r; unfold laN; rw [h6]
  unfold InvD
  rw [e2, e4, e5, e6]
  exact h
theorem cgE {σ τ : Sg} (h8 : gI τ 8 = gI σ 8) (g8 : gI τ 56 = gI σ 56) (h : InvE σ) : InvE τ := by
  have e5 : sdN τ = sdN σ := by funext r; unfold sdN; rw [h8]
  unfold InvE
  rw [e5, h8, g8]
  exact h
theorem cgX {σ τ : Sg} (h1 : gI τ 30 1 = gI σ 30 1) (h2 : gI τ 32 1 = gI σ 32 1) (h3 : gI τ 31 = gI σ 31) (h4 : gI τ 33 = gI σ 33) (g1 : gI τ 66 = gI σ 66) (g2 : gI τ 65 = gI σ 65) (h : InvX σ) : InvX τ := by
  have e1 : t0N τ = t0N σ := by unfold t0N; rw [h1]
  have e2 : t1N τ = t1N σ := by unfold t1N; rw [h2]
  unfold InvX
  rw [e1, e2, h1, h2, h3, h4, g1, g2]
  exact h
theorem cgH {σ τ : Sg} (h : ∀ j i, 40 ≤ j → j ≤ 47 → gI τ j i = gI σ j i) (g1 : gI τ 69 = gI σ 69) (g2 : gI τ 70 = gI σ 70) (g3 : gI τ 71 = gI σ 71) (g4 : gI τ 72 = gI σ 72) (hh : InvH σ) : InvH τ := by
  intro k hk
  obtain ⟨b1, b2, b3, b4, b5, b6⟩ := hh k hk
  simp only [h (40 + 2 * k) _ (by omega) (by omega), h (40 + 2 * k + 1) _ (by omega) (by omega), g1, g2, g3, g4]
  exact ⟨b1, b2, b3, b4, b5, b6⟩
theorem cgF {σ τ : Sg} (h1 : gI τ 49 33 = gI σ 49 33) (h2 : gI τ 0 9 = gI σ 0 9) (h : InvF σ) : InvF τ := by
  unfold InvF
  rw [h1, h2]
  exact h
theorem gIr (σ : Sg) {j k a : Nat} (v : Int32) (h : (a == j) = false) : gI (sI σ j k v) a = gI σ a := gI_row σ v (by simpa using h)
theorem gIc (σ : Sg) {j k a b : Nat} (v : Int32) (h : (a == j && b == k) = false) : gI (sI σ j k v) a b = gI σ a b := by
  rw [gI_set, if_neg]
  intro e
  simp [e.1, e.2] at h
/-- a finding, on both sides -/
def fnd (s : Sg) (v : Int32) : Sg := sI (sI s 0 9 v) 49 33 v
theorem inv_fnd {s : Sg} (hI : Inv s) (v : Int32) : Inv (fnd s v) := by
  obtain ⟨hA, hR, hS, hT, hD, hE, hX, hH, hF⟩ := hI
  have r : ∀ a, (a == 49) = false → (a == 0) = false → gI (fnd s v) a = gI s a := fun a h1 h2 => by unfold fnd; rw [gIr _ _ h1, gIr _ _ h2]
  have c : ∀ b, (b == 33) = false → gI (fnd s v) 49 b = gI s 49 b := fun b h => by unfold fnd; rw [gIc _ _ (by simpa using h), gIc _ _ rfl]
  refine ⟨cgA ?_ ?_ (c 0 rfl) (c 3 rfl) hA, cgR ?_ (r 2 rfl rfl) (r 3 rfl rfl) (r 50 rfl rfl) (r 51 rfl rfl) hR, cgS ?_ ?_ (r 4 rfl rfl) (r 5 rfl rfl) (r 6 rfl rfl) (r 52 rfl rfl) (r 53 rfl rfl) (r 54 rfl rfl) hS, cgT ?_ (r 2 rfl rfl) (r 4 rfl rfl) (r 7 rfl rfl) (r 55 rfl rfl) hT, cgD ?_ (r 4 rfl rfl) (r 5 rfl rfl) (r 6 rfl rfl) hD, cgE (r 8 rfl rfl) (r 56 rfl rfl) hE, cgX ?_ ?_ (r 31 rfl rfl) (r 33 rfl rfl) (r 66 rfl rfl) (r 65 rfl rfl) hX, cgH (fun j i h1 h2 => ?_) (r 69 rfl rfl) (r 70 rfl rfl) (r 71 rfl rfl) (r 72 rfl rfl) hH, ?_⟩
  all_goals try (first | rw [r 1 rfl rfl] | rw [r 30 rfl rfl] | rw [r 32 rfl rfl])
  · rw [r j (by simp; omega) (by simp; omega)]
  · unfold InvF fnd
    rw [gI_same, gIc _ _ rfl, gI_same]
theorem e_found (v : Int32) (s : Sg) : fX10_found v s = some (-10 - v, sI s 0 9 v) := rfl
theorem r_meets (v : Int32) (s : Sg) : fX11_meets v s = some (-10 - v, sI s 49 33 v) := rfl
theorem fnd_e (s : Sg) (v : Int32) : sI (sI s 0 9 v) 49 33 v = fnd s v := rfl
theorem fnd_sh (s : Sg) (v : Int32) {j i : Nat} (h : 1 ≤ j) (h2 : j ≠ 49) : gI (sI s 0 9 v) j i = gI s j i := gI_ne s v (Or.inl (by omega))
theorem b2t : (b2i true = 0) = False := by simp [b2i]
theorem b2f : (b2i false = 0) = True := by simp [b2i]
/-! seeds -/
def seedUp (s : Sg) (k : Nat) (v : Int32) : Sg := sI (sI s 8 k v) 56 k v
theorem inv_seed {s : Sg} (hI : Inv s) {k n : Nat} (hn : 1 ≤ n) (hn2 : n ≤ 9999) : Inv (seedUp s k (nI n)) := by
  obtain ⟨hA, hR, hS, hT, hD, hE, hX, hH, hF⟩ := hI
  have r : ∀ a, (a == 56) = false → (a == 8) = false → gI (seedUp s k (nI n)) a = gI s a := fun a h1 h2 => by unfold seedUp; rw [gIr _ _ h1, gIr _ _ h2]
  refine ⟨cgA ?_ ?_ ?_ ?_ hA, cgR ?_ (r 2 rfl rfl) (r 3 rfl rfl) (r 50 rfl rfl) (r 51 rfl rfl) hR, cgS ?_ ?_ (r 4 rfl rfl) (r 5 rfl rfl) (r 6 rfl rfl) (r 52 rfl rfl) (r 53 rfl rfl) (r 54 rfl rfl) hS, cgT ?_ (r 2 rfl rfl) (r 4 rfl rfl) (r 7 rfl rfl) (r 55 rfl rfl) hT, cgD ?_ (r 4 rfl rfl) (r 5 rfl rfl) (r 6 rfl rfl) hD, ?_, cgX ?_ ?_ (r 31 rfl rfl) (r 33 rfl rfl) (r 66 rfl rfl) (r 65 rfl rfl) hX, cgH (fun j i h1 h2 => ?_) (r 69 rfl rfl) (r 70 rfl rfl) (r 71 rfl rfl) (r 72 rfl rfl) hH, cgF ?_ ?_ hF⟩
  all_goals try (first | rw [r 1 rfl rfl] | rw [r 30 rfl rfl] | rw [r 32 rfl rfl] | rw [r 49 rfl rfl] | rw [r 0 rfl rfl])
  · intro i hi
    obtain ⟨b1, b2, b3, b4⟩ := hE i hi
    by_cases e : i = k
    · subst e
      have : gI (seedUp s i (nI n)) 8 i = nI n := by unfold seedUp; rw [gIc _ _ rfl, gI_same]
      have h2 : gI (seedUp s i (nI n)) 56 i = nI n := by unfold seedUp; rw [gI_same]
      have h3 : sdN (seedUp s i (nI n)) i = n := by unfold sdN; rw [this, cl_n (by omega)]
      rw [this, h2, h3]
      exact ⟨rfl, rfl, hn, hn2⟩
    · have : gI (seedUp s k (nI n)) 8 i = gI s 8 i := by unfold seedUp; rw [gIc _ _ rfl, gI_ne _ _ (Or.inr e)]
      have h2 : gI (seedUp s k (nI n)) 56 i = gI s 56 i := by unfold seedUp; rw [gI_ne _ _ (Or.inr e), gIc _ _ rfl]
      have h3 : sdN (seedUp s k (nI n)) i = sdN s i := by unfold sdN; rw [this]
      rw [this, h2, h3]
      exact ⟨b1, b2, b3, b4⟩
  · rw [r j (by simp; omega) (by simp; omega)]
theorem all_seeds : ok_seeds Inv := by
  intro x y s hI
  cases h1 : wi x 0 23
  · exact ⟨-2, s, s, by simp only [fX10_seeds, e_isSwimmer, ob, h1, b2f, if_true], by simp only [fX11_seeds, r_isSwimmer, ob, h1, b2f, if_true], hI⟩
  · cases h2 : wi y 1 9999
    · exact ⟨-2, s, s, by simp only [fX10_seeds, e_isSwimmer, e_within, ob, h1, h2, b2f, b2t, if_true, if_false], by simp only [fX11_seeds, r_isSwimmer, e_in, ob, h1, h2, b2f, b2t, if_true, if_false], hI⟩
    · obtain ⟨k, hk, rfl⟩ := wi_nat (n := 23) rfl (by decide) h1
      obtain ⟨n, hn1, hn2, rfl⟩ := wi_nat1 (a := 1) (n := 9999) rfl (by decide) rfl (by decide) h2
      have hk' : k < 24 := by omega
      obtain ⟨b1, b2, b3, b4⟩ := hI.2.2.2.2.2.1 k hk'
      refine ⟨gI s 8 k, sI s 8 k (nI n), seedUp s k (nI n), ?_, ?_, inv_seed hI hn1 hn2⟩
      · simp only [fX10_seeds, e_isSwimmer, e_within, ob, h1, h2, b2t, if_false, aI_n hk' (by decide), wI_n hk' (by decide)]
      · simp only [fX11_seeds, r_isSwimmer, e_in, ob, h1, h2, b2t, if_false, aI_n hk' (by decide), wI_n hk' (by decide)]
        rw [gIc _ _ rfl, b1, b2]
        rfl
