/-! the invariant: class and reference hold the same meet, texts, sheets -/
def nR (σ : Sg) : Nat := (gI σ 1 0).toNatClampNeg
def nS (σ : Sg) : Nat := (gI σ 1 1).toNatClampNeg
def lnN (σ : Sg) (r : Nat) : Nat := (gI σ 2 r).toNatClampNeg
def dyN (σ : Sg) (r : Nat) : Nat := (gI σ 3 r).toNatClampNeg
def rcN (σ : Sg) (k : Nat) : Nat := (gI σ 4 k).toNatClampNeg
def swN (σ : Sg) (k : Nat) : Nat := (gI σ 5 k).toNatClampNeg
def laN (σ : Sg) (k : Nat) : Nat := (gI σ 6 k).toNatClampNeg
def sdN (σ : Sg) (k : Nat) : Nat := (gI σ 8 k).toNatClampNeg
def t0N (σ : Sg) : Nat := (gI σ 30 1).toNatClampNeg
def t1N (σ : Sg) : Nat := (gI σ 32 1).toNatClampNeg
/-- a time: not felt, or from 1 to 9999 -/
def okT (v : Int32) : Prop := v = -1 ∨ ∃ n : Nat, 1 ≤ n ∧ n ≤ 9999 ∧ v = nI n
def okB (v : Int32) : Prop := ∃ n : Nat, n ≤ 255 ∧ v = nI n
def InvA (σ : Sg) : Prop := gI σ 1 0 = nI (nR σ) ∧ gI σ 49 0 = nI (nR σ) ∧ nR σ ≤ 16 ∧ gI σ 1 1 = nI (nS σ) ∧ gI σ 49 3 = nI (nS σ) ∧ nS σ ≤ 64
def InvR (σ : Sg) : Prop := ∀ r, r < nR σ → gI σ 2 r = nI (lnN σ r) ∧ gI σ 50 r = nI (lnN σ r) ∧ 1 ≤ lnN σ r ∧ lnN σ r ≤ 4 ∧ gI σ 3 r = nI (dyN σ r) ∧ gI σ 51 r = nI (dyN σ r) ∧ dyN σ r ≤ 9
def InvS (σ : Sg) : Prop := ∀ k, k < nS σ → gI σ 4 k = nI (rcN σ k) ∧ gI σ 52 k = nI (rcN σ k) ∧ rcN σ k < nR σ ∧ gI σ 5 k = nI (swN σ k) ∧ gI σ 53 k = nI (swN σ k) ∧ swN σ k < 24 ∧ gI σ 6 k = nI (laN σ k) ∧ gI σ 54 k = nI (laN σ k) ∧ laN σ k < 8
def InvT (σ : Sg) : Prop := (∀ i, i < 4 * nS σ → gI σ 55 i = gI σ 7 i) ∧ (∀ i, i < 256 → okT (gI σ 7 i)) ∧ (∀ k l, k < 64 → l < 4 → (nS σ ≤ k ∨ lnN σ (rcN σ k) ≤ l) → gI σ 7 (4 * k + l) = -1)
def InvD (σ : Sg) : Prop := ∀ j k, j < k → k < nS σ → rcN σ j = rcN σ k → laN σ j ≠ laN σ k ∧ swN σ j ≠ swN σ k
def InvE (σ : Sg) : Prop := ∀ k, k < 24 → gI σ 8 k = nI (sdN σ k) ∧ gI σ 56 k = nI (sdN σ k) ∧ 1 ≤ sdN σ k ∧ sdN σ k ≤ 9999
def InvX (σ : Sg) : Prop := gI σ 30 1 = nI (t0N σ) ∧ gI σ 66 0 = nI (t0N σ) ∧ t0N σ ≤ 8 ∧ gI σ 32 1 = nI (t1N σ) ∧ gI σ 66 1 = nI (t1N σ) ∧ t1N σ ≤ 60 ∧ (∀ i, i < t0N σ → gI σ 65 i = gI σ 31 i ∧ okB (gI σ 31 i)) ∧ (∀ i, i < t1N σ → gI σ 65 (60 + i) = gI σ 33 i ∧ okB (gI σ 33 i))
def InvH (σ : Sg) : Prop := ∀ k, k < 4 → ((gI σ (40 + 2 * k) 0 = 0 ∧ gI σ 69 k = 1) ∨ (gI σ (40 + 2 * k) 0 = 1 ∧ gI σ 69 k = 0)) ∧ gI σ 70 k = gI σ (40 + 2 * k) 1 ∧ gI σ 71 k = gI σ (40 + 2 * k) 2 ∧ (∃ n : Nat, n ≤ 2 ∧ gI σ (40 + 2 * k) 1 = nI n) ∧ (∃ n : Nat, n ≤ 48 ∧ gI σ (40 + 2 * k) 2 = nI n) ∧ ∀ i, i < 48 → gI σ 72 (48 * k + i) = gI σ (40 + 2 * k + 1) i
def InvF (σ : Sg) : Prop := gI σ 49 33 = gI σ 0 9
def Inv (σ : Sg) : Prop := InvA σ ∧ InvR σ ∧ InvS σ ∧ InvT σ ∧ InvD σ ∧ InvE σ ∧ InvX σ ∧ InvH σ ∧ InvF σ
/-- what the invariant speaks of -/
def core (j k : Nat) : Bool := match j with
  | 0 => k == 9
  | 49 => k == 0 || k == 3 || k == 33
  | j => (1 ≤ j && j ≤ 8) || (30 ≤ j && j ≤ 33) || (40 ≤ j && j ≤ 47) || (50 ≤ j && j ≤ 56) || (65 ≤ j && j ≤ 66) || (69 ≤ j && j ≤ 72)
def Eqv (σ τ : Sg) : Prop := ∀ j k, core j k = true → gI τ j k = gI σ j k
theorem Eqv.rf (σ : Sg) : Eqv σ σ := fun _ _ _ => rfl
theorem Eqv.tr {σ τ υ : Sg} (h : Eqv σ τ) (h2 : Eqv τ υ) : Eqv σ υ := fun j k hc => (h2 j k hc).trans (h j k hc)
theorem Eqv.I {σ τ : Sg} (h : Eqv σ τ) {j k : Nat} (v : Int32) (hc : core j k = false) : Eqv σ (sI τ j k v) := by
  intro a b hab
  rw [gI_ne τ v ?_]
  · exact h a b hab
  · by_cases e : a = j
    · right
      intro e2
      rw [e, e2, hc] at hab
      cases hab
    · exact Or.inl e
theorem Eqv.L {σ τ : Sg} (h : Eqv σ τ) (j k : Nat) (v : Int64) : Eqv σ (sL τ j k v) := fun a b hab => by rw [gI_sL]; exact h a b hab
theorem Eqv.row {σ τ : Sg} (h : Eqv σ τ) (j : Nat) (hc : ∀ k, core j k = true) : gI τ j = gI σ j := by funext k; exact h j k (hc k)
theorem core_sh {k i : Nat} (h : k < 4) : core (40 + 2 * k) i = true ∧ core (40 + 2 * k + 1) i = true := by
  match k, h with
  | 0, _ => exact ⟨rfl, rfl⟩
  | 1, _ => exact ⟨rfl, rfl⟩
  | 2, _ => exact ⟨rfl, rfl⟩
  | 3, _ => exact ⟨rfl, rfl⟩
theorem eq_nR {σ τ : Sg} (h : Eqv σ τ) : nR τ = nR σ := by unfold nR; rw [h 1 0 rfl]
theorem eq_nS {σ τ : Sg} (h : Eqv σ τ) : nS τ = nS σ := by unfold nS; rw [h 1 1 rfl]
theorem eq_ln {σ τ : Sg} (h : Eqv σ τ) : lnN τ = lnN σ := by funext k; unfold lnN; rw [h 2 k rfl]
theorem eq_dy {σ τ : Sg} (h : Eqv σ τ) : dyN τ = dyN σ := by funext k; unfold dyN; rw [h 3 k rfl]
theorem eq_rc {σ τ : Sg} (h : Eqv σ τ) : rcN τ = rcN σ := by funext k; unfold rcN; rw [h 4 k rfl]
theorem eq_sw {σ τ : Sg} (h : Eqv σ τ) : swN τ = swN σ := by funext k; unfold swN; rw [h 5 k rfl]
theorem eq_la {σ τ : Sg} (h : Eqv σ τ) : laN τ = laN σ := by funext k; unfold laN; rw [h 6 k rfl]
theorem eq_sd {σ τ : Sg} (h : Eqv σ τ) : sdN τ = sdN σ := by funext k; unfold sdN; rw [h 8 k rfl]
theorem eq_t0 {σ τ : Sg} (h : Eqv σ τ) : t0N τ = t0N σ := by unfold t0N; rw [h 30 1 rfl]
theorem eq_t1 {σ τ : Sg} (h : Eqv σ τ) : t1N τ = t1N σ := by unfold t1N; rw [h 32 1 rfl]
theorem inv_cg {σ τ : Sg} (h : Eqv σ τ) (hI : Inv σ) : Inv τ := by
  obtain ⟨hA, hR, hS, hT, hD, hE, hX, hH, hF⟩ := hI
  refine ⟨?_, ?_, ?_, ?_, ?_, ?_, ?_, ?_, ?_⟩
  · unfold InvA
    rw [eq_nR h, eq_nS h, h 1 0 rfl, h 49 0 rfl, h 1 1 rfl, h 49 3 rfl]
    exact hA
  · unfold InvR
    rw [eq_nR h, eq_ln h, eq_dy h, h.row 2 (fun _ => rfl), h.row 50 (fun _ => rfl), h.row 3 (fun _ => rfl), h.row 51 (fun _ => rfl)]
    exact hR
  · unfold InvS
    rw [eq_nS h, eq_nR h, eq_rc h, eq_sw h, eq_la h, h.row 4 (fun _ => rfl), h.row 5 (fun _ => rfl), h.row 6 (fun _ => rfl), h.row 52 (fun _ => rfl), h.row 53 (fun _ => rfl), h.row 54 (fun _ => rfl)]
    exact hS
  · unfold InvT
    rw [eq_nS h, eq_ln h, eq_rc h, h.row 7 (fun _ => rfl), h.row 55 (fun _ => rfl)]
    exact hT
  · unfold InvD
    rw [eq_nS h, eq_rc h, eq_la h, eq_sw h]
    exact hD
  · unfold InvE
    rw [eq_sd h, h.row 8 (fun _ => rfl), h.row 56 (fun _ => rfl)]
    exact hE
  · unfold InvX
    rw [eq_t0 h, eq_t1 h, h 30 1 rfl, h 66 0 rfl, h 32 1 rfl, h 66 1 rfl, h.row 65 (fun _ => rfl), h.row 31 (fun _ => rfl), h.row 33 (fun _ => rfl)]
    exact hX
  · intro k hk
    obtain ⟨h1, h2, h3, h4, h5, h6⟩ := hH k hk
    have c := fun i => (core_sh (i := i) hk)
    rw [h _ 0 (c 0).1, h _ 1 (c 1).1, h _ 2 (c 2).1, h 69 k rfl, h 70 k rfl, h 71 k rfl]
    refine ⟨h1, h2, h3, h4, h5, fun i hi => ?_⟩
    rw [h 72 _ rfl, h _ i (c i).2]
    exact h6 i hi
  · unfold InvF
    rw [h 49 33 rfl, h 0 9 rfl]
    exact hF
/-- small tests -/
theorem e_within (v lo hi : Int32) (s : Sg) : fX10_within v lo hi s = some (b2i (wi v lo hi), s) := by
  unfold fX10_within wi b2i
  by_cases h : v < lo <;> by_cases h2 : hi < v <;> simp [h, h2]
theorem e_in (v lo hi : Int32) (s : Sg) : fX11_in v lo hi s = some (b2i (wi v lo hi), s) := by
  unfold fX11_in wi b2i
  by_cases h : v < lo <;> by_cases h2 : hi < v <;> simp [h, h2]
theorem e_isLane (v : Int32) (s : Sg) : fX10_isLane v s = some (b2i (wi v 0 7), s) := by simp only [fX10_isLane, e_within, ob, zr_b]
theorem e_isSwimmer (v : Int32) (s : Sg) : fX10_isSwimmer v s = some (b2i (wi v 0 23), s) := by simp only [fX10_isSwimmer, e_within, ob, zr_b]
theorem e_isDay (v : Int32) (s : Sg) : fX10_isDay v s = some (b2i (wi v 0 9), s) := by simp only [fX10_isDay, e_within, ob, zr_b]
theorem e_isSheet (v : Int32) (s : Sg) : fX10_isSheet v s = some (b2i (wi v 0 3), s) := by simp only [fX10_isSheet, e_within, ob, zr_b]
theorem e_isType (v : Int32) (s : Sg) : fX10_isType v s = some (b2i (wi v 0 2), s) := by simp only [fX10_isType, e_within, ob, zr_b]
theorem e_isText (v : Int32) (s : Sg) : fX10_isText v s = some (b2i (wi v 0 1), s) := by simp only [fX10_isText, e_within, ob, zr_b]
theorem e_isPart (v : Int32) (s : Sg) : fX10_isPart v s = some (b2i (wi v 0 1), s) := by simp only [fX10_isPart, e_within, ob, zr_b]
theorem r_isLane (v : Int32) (s : Sg) : fX11_isLane v s = some (b2i (wi v 0 7), s) := by simp only [fX11_isLane, e_in, ob, zr_b]
theorem r_isSwimmer (v : Int32) (s : Sg) : fX11_isSwimmer v s = some (b2i (wi v 0 23), s) := by simp only [fX11_isSwimmer, e_in, ob, zr_b]
theorem r_isSheet (v : Int32) (s : Sg) : fX11_isSheet v s = some (b2i (wi v 0 3), s) := by simp only [fX11_isSheet, e_in, ob, zr_b]
theorem r_isText (v : Int32) (s : Sg) : fX11_isText v s = some (b2i (wi v 0 1), s) := by simp only [fX11_isText, e_in, ob, zr_b]
theorem e_mayBeRace (a b : Int32) (s : Sg) : fX10_mayBeRace a b s = some (b2i (wi a 1 4 && wi b 0 9), s) := by
  simp only [fX10_mayBeRace, e_within, e_isDay, ob, b2i_0]
  cases wi a 1 4 <;> cases wi b 0 9 <;> rfl
def tmo (v : Int32) : Bool := decide (v = -1) || wi v 1 9999
theorem e_mayBeTime (v : Int32) (s : Sg) : fX10_mayBeTime v s = some (b2i (tmo v), s) := by
  simp only [fX10_mayBeTime, e_within, ob, b2i_0, tmo]
  by_cases h : v = -1
  · simp [h, b2i]
  · cases hw : wi v 1 9999 <;> simp [h, b2i]
theorem r_isTime (v : Int32) (s : Sg) : fX11_isTime v s = some (b2i (tmo v), s) := by
  simp only [fX11_isTime, e_in, ob, b2i_0, tmo]
  by_cases h : v = -1
  · simp [h, b2i]
  · cases hw : wi v 1 9999 <;> simp [h, b2i]
theorem tmo_ok {v : Int32} (h : tmo v = true) : okT v := by
  unfold tmo at h
  rw [Bool.or_eq_true] at h
  rcases h with h | h
  · exact Or.inl (by simpa using h)
  · obtain ⟨k, h1, h2, rfl⟩ := wi_nat1 (a := 1) (n := 9999) rfl (by decide) rfl (by decide) h
    exact Or.inr ⟨k, h1, h2, rfl⟩
/-- which races and swims there are -/
theorem has_n {x y : Int32} {n : Nat} (hy : y = nI n) (hn : n ≤ 100) : (decide (0 ≤ x) && decide (x < y)) = true → ∃ k : Nat, k < n ∧ x = nI k := by
  intro h
  simp only [Bool.and_eq_true, decide_eq_true_eq] at h
  rw [hy] at h
  rcases pk_ix x (n := n) (by omega) with h1 | h1 | h1
  · exact absurd h1 (Int32.not_lt.mpr h.1)
  · exact absurd h.2 (Int32.not_lt.mpr h1)
  · exact h1
def hasB (σ : Sg) (x : Int32) : Bool := decide (0 ≤ x) && decide (x < gI σ 1 0)
def hasW (σ : Sg) (x : Int32) : Bool := decide (0 ≤ x) && decide (x < gI σ 1 1)
theorem e_hasRace (x : Int32) (s : Sg) : fX3_hasRace x s = some (b2i (hasB s x), s) := by
  unfold fX3_hasRace hasB b2i
  by_cases h : x < 0
  · have : ¬ 0 ≤ x := Int32.not_le.mpr h
    simp [h, this]
  · have h' : 0 ≤ x := Int32.not_lt.mp h
    by_cases h2 : gI s 1 0 ≤ x
    · have : ¬ x < gI s 1 0 := Int32.not_lt.mpr h2
      simp [h, h', h2, this]
    · have : x < gI s 1 0 := Int32.not_le.mp h2
      simp [h, h', h2, this]
theorem e_hasSwim (x : Int32) (s : Sg) : fX3_hasSwim x s = some (b2i (hasW s x), s) := by
  unfold fX3_hasSwim hasW b2i
  by_cases h : x < 0
  · have : ¬ 0 ≤ x := Int32.not_le.mpr h
    simp [h, this]
  · have h' : 0 ≤ x := Int32.not_lt.mp h
    by_cases h2 : gI s 1 1 ≤ x
    · have : ¬ x < gI s 1 1 := Int32.not_lt.mpr h2
      simp [h, h', h2, this]
    · have : x < gI s 1 1 := Int32.not_le.mp h2
      simp [h, h', h2, this]
theorem wi_pred {x y : Int32} {n : Nat} (hy : y = nI n) (hn : n ≤ 100) : wi x 0 (y - 1) = (decide (0 ≤ x) && decide (x < y)) := by
  have e : (y - 1 < x) ↔ (y ≤ x) ∨ x < 0 ∧ n = 0 ∧ (-1 : Int32) < x := by
    rw [hy]
    rcases Nat.eq_zero_or_pos n with h0 | h0
    · subst h0
      have e1 : nI 0 - 1 = -1 := rfl
      have e0 : nI 0 = 0 := rfl
      rw [e1, e0]
      constructor
      · intro h
        rw [Int32.lt_iff_toInt_lt] at h
        rw [Int32.le_iff_toInt_le]
        have h1 : (-1 : Int32).toInt = -1 := rfl
        have h2 : (0 : Int32).toInt = 0 := rfl
        left; omega
      · intro h
        rcases h with h | h
        · rw [Int32.le_iff_toInt_le] at h
          rw [Int32.lt_iff_toInt_lt]
          have h1 : (-1 : Int32).toInt = -1 := rfl
          have h2 : (0 : Int32).toInt = 0 := rfl
          omega
        · exact h.2.2
    · obtain ⟨m, rfl⟩ : ∃ m, n = m + 1 := ⟨n - 1, by omega⟩
      rw [nI_pred]
      constructor
      · intro h
        rw [Int32.lt_iff_toInt_lt, nI_toInt (by omega)] at h
        left
        rw [Int32.le_iff_toInt_le, nI_toInt (by omega)]
        omega
      · intro h
        rcases h with h | h
        · rw [Int32.le_iff_toInt_le, nI_toInt (by omega)] at h
          rw [Int32.lt_iff_toInt_lt, nI_toInt (by omega)]
          omega
        · omega
  unfold wi
  by_cases h0 : x < 0
  · have : ¬ 0 ≤ x := Int32.not_le.mpr h0
    simp [h0, this]
  · have h0' : 0 ≤ x := Int32.not_lt.mp h0
    by_cases h1 : y ≤ x
    · have h2 : ¬ x < y := Int32.not_lt.mpr h1
      have h3 : y - 1 < x := e.mpr (Or.inl h1)
      simp [h0, h2, h3]
    · have h2 : x < y := Int32.not_le.mp h1
      have h3 : ¬ y - 1 < x := fun h => by
        rcases e.mp h with h | h
        · exact h1 h
        · exact h0 h.1
      simp [h0, h0', h2, h3]
theorem r_isRace {s : Sg} (hA : InvA s) (x : Int32) : fX11_isRace x s = some (b2i (hasB s x), s) := by
  simp only [fX11_isRace, e_in, ob, zr_b]
  rw [wi_pred hA.2.1 (by have := hA.2.2.1; omega), hasB, hA.1, hA.2.1]
theorem r_isSwim {s : Sg} (hA : InvA s) (x : Int32) : fX11_isSwim x s = some (b2i (hasW s x), s) := by
  simp only [fX11_isSwim, e_in, ob, zr_b]
  rw [wi_pred hA.2.2.2.2.1 (by have := hA.2.2.2.2.2; omega), hasW, hA.2.2.2.1, hA.2.2.2.2.1]
theorem hasB_n {s : Sg} (hA : InvA s) {x : Int32} (h : hasB s x = true) : ∃ k : Nat, k < nR s ∧ x = nI k := has_n hA.1 (by have := hA.2.2.1; omega) h
theorem hasW_n {s : Sg} (hA : InvA s) {x : Int32} (h : hasW s x = true) : ∃ k : Nat, k < nS s ∧ x = nI k := has_n hA.2.2.2.1 (by have := hA.2.2.2.2.2; omega) h
