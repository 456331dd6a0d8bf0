/-! sheets: put, get, copy, write -/
def lkV (σ : Sg) (k : Nat) (x y : Int32) : Int32 := if gI σ (40 + 2 * k) 0 = 0 then if gI σ (40 + 2 * k) 1 = x then if (decide (0 ≤ y) && decide (y < gI σ (40 + 2 * k) 2)) = true then 0 else 2 else 3 else 1
theorem e_findingAt (s : Sg) (k : Nat) (x y : Int32) : fX5_findingAt (40 + 2 * k) x y s = some (lkV s k x y, s) := by
  unfold fX5_findingAt lkV
  by_cases h1 : gI s (40 + 2 * k) 0 = 0
  · rw [if_pos h1, if_pos h1]
    by_cases h2 : gI s (40 + 2 * k) 1 = x
    · rw [if_pos h2, if_pos h2]
      by_cases h3 : y < 0
      · have : ¬ 0 ≤ y := Int32.not_le.mpr h3
        simp [h3, this]
      · have h3' : 0 ≤ y := Int32.not_lt.mp h3
        by_cases h4 : gI s (40 + 2 * k) 2 ≤ y
        · have : ¬ y < gI s (40 + 2 * k) 2 := Int32.not_lt.mpr h4
          simp [h3, h4, this]
        · have : y < gI s (40 + 2 * k) 2 := Int32.not_le.mp h4
          simp [h3, h3', h4, this]
    · rw [if_neg h2, if_neg h2]
  · rw [if_neg h1, if_neg h1]
theorem r_lacks {s : Sg} {k : Nat} (hk : k < 4) (h : HP s k) (x y : Int32) : fX11_lacks (nI k) x y s = some (lkV s k x y, s) := by
  obtain ⟨c1, c2, c3, c4, ⟨n, hn, c5⟩, c6⟩ := h
  unfold fX11_lacks lkV
  simp only [aI_n hk (by decide), ob, e_in]
  rcases c1 with ⟨l1, l2⟩ | ⟨l1, l2⟩
  · rw [l1, l2, c2, c3, wi_pred c5 (by omega)]
    simp only [z10, if_false, if_true]
    by_cases h2 : gI s (40 + 2 * k) 1 = x
    · rw [if_pos h2, if_pos h2]
      cases hb : (decide (0 ≤ y) && decide (y < gI s (40 + 2 * k) 2)) <;> simp [b2i]
    · rw [if_neg h2, if_neg h2]
  · rw [l1, l2]
    simp
theorem lkV_le (s : Sg) (k : Nat) (x y : Int32) : (lkV s k x y ≤ 0) ↔ lkV s k x y = 0 := by
  unfold lkV
  split
  · split
    · split <;> decide
    · decide
  · decide
theorem lkV_0 {s : Sg} {k : Nat} {x y : Int32} (h : HP s k) (h0 : lkV s k x y = 0) : gI s (40 + 2 * k) 0 = 0 ∧ ∃ i : Nat, i < 48 ∧ y = nI i := by
  obtain ⟨c1, c2, c3, c4, ⟨n, hn, c5⟩, c6⟩ := h
  unfold lkV at h0
  by_cases h1 : gI s (40 + 2 * k) 0 = 0
  · rw [if_pos h1] at h0
    refine ⟨h1, ?_⟩
    by_cases h2 : gI s (40 + 2 * k) 1 = x
    · rw [if_pos h2] at h0
      by_cases h3 : (decide (0 ≤ y) && decide (y < gI s (40 + 2 * k) 2)) = true
      · obtain ⟨i, hi, e⟩ := has_n c5 (by omega) h3
        exact ⟨i, by omega, e⟩
      · rw [if_neg h3] at h0
        exact absurd h0 (by decide)
    · rw [if_neg h2] at h0
      exact absurd h0 (by decide)
  · rw [if_neg h1] at h0
    exact absurd h0 (by decide)
/-- an item's lowest bits, by the type -/
def cutI (t v : Int32) : Int32 := if t = 0 then v.toInt8.toInt32 else if t = 1 then v.toInt16.toInt32 else v
theorem e_setItem {s : Sg} {b i : Nat} (hi : i < 48) (v : Int32) : fX5_setItem b (nI i) v s = some (sI s (b + 1) i (cutI (gI s b 1) v)) := by
  unfold fX5_setItem cutI
  simp only [wI_n hi (by decide), ob]
  split
  · rfl
  · split <;> rfl
theorem r_keep {s : Sg} {k i : Nat} (hk : k < 4) (hi : i < 48) (v : Int32) : fX11_keep (nI k) (nI i) v s = some (sI s 72 (48 * k + i) (cutI (gI s 70 k) v)) := by
  have e : (48 : Int32) * nI k + nI i = nI (48 * k + i) := by rw [show (48 : Int32) = nI 48 from rfl, pk_mul, nI_add]
  unfold fX11_keep cutI
  simp only [aI_n hk (by decide), ob, e, wI_n (show 48 * k + i < 192 by omega) (by decide)]
  split
  · rfl
  · split <;> rfl
/-- a row filled from o on -/
def frow (s : Sg) (j o : Nat) (f : Nat → Int32) : Nat → Sg
  | 0 => s
  | n + 1 => sI (frow s j o f n) j (o + n) (f n)
theorem frow_ne (s : Sg) (j o : Nat) (f : Nat → Int32) (n : Nat) {a b : Nat} (h : a ≠ j ∨ b < o ∨ o + n ≤ b) : gI (frow s j o f n) a b = gI s a b := by
  induction n with
  | zero => rfl
  | succ n ih =>
    unfold frow
    rw [gI_ne _ _ (by omega)]
    exact ih (by omega)
theorem frow_at (s : Sg) (j o : Nat) (f : Nat → Int32) (n : Nat) {i : Nat} (h : i < n) : gI (frow s j o f n) j (o + i) = f i := by
  induction n with
  | zero => omega
  | succ n ih =>
    unfold frow
    by_cases e : i = n
    · subst e; rw [gI_same]
    · rw [gI_ne _ _ (Or.inr (by omega))]
      exact ih (by omega)
/-- items of one sheet change on both sides alike -/
theorem inv_items {s τ : Sg} (hI : Inv s) {k : Nat} (hk : k < 4) (h1 : ∀ a b, a ≠ 40 + 2 * k + 1 → a ≠ 72 → a ≠ 73 → gI τ a b = gI s a b) (h2 : ∀ b, (b < 48 * k ∨ 48 * k + 48 ≤ b) → gI τ 72 b = gI s 72 b) (h3 : ∀ i, i < 48 → gI τ 72 (48 * k + i) = gI τ (40 + 2 * k + 1) i) : Inv τ := by
  refine inv_sheet (fun a ha => ?_) (fun u hu => ?_) hI
  · simp at ha
    funext b
    exact h1 a b (by omega) (by omega) (by omega)
  · have hu' := hI.2.2.2.2.2.2.2.1 u hu
    by_cases e : u = k
    · subst e
      obtain ⟨c1, c2, c3, c4, c5, c6⟩ := hu'
      have z : ∀ a b, a ≠ 40 + 2 * u + 1 → a ≠ 72 → a ≠ 73 → gI τ a b = gI s a b := h1
      rw [z (40 + 2 * u) 0 (by omega) (by omega) (by omega), z (40 + 2 * u) 1 (by omega) (by omega) (by omega), z (40 + 2 * u) 2 (by omega) (by omega) (by omega), z 69 u (by omega) (by omega) (by omega), z 70 u (by omega) (by omega) (by omega), z 71 u (by omega) (by omega) (by omega)]
      exact ⟨c1, c2, c3, c4, c5, h3⟩
    · exact sh_keep (fun b => h1 _ b (by omega) (by omega) (by omega)) (fun b => h1 _ b (by omega) (by omega) (by omega)) (h1 69 u (by omega) (by omega) (by omega)) (h1 70 u (by omega) (by omega) (by omega)) (h1 71 u (by omega) (by omega) (by omega)) (fun i hi => h2 _ (by omega)) hu'
theorem HPof {s : Sg} (hI : Inv s) {k : Nat} (hk : k < 4) : HP s k := hI.2.2.2.2.2.2.2.1 k hk
theorem HPf {s : Sg} {k : Nat} (h : HP s k) (v : Int32) : HP (sI s 0 9 v) k := sh_keep (fun b => gI_ne _ _ (Or.inl (by omega))) (fun b => gI_ne _ _ (Or.inl (by omega))) (gI_ne _ _ (Or.inl (by omega))) (gI_ne _ _ (Or.inl (by omega))) (gI_ne _ _ (Or.inl (by omega))) (fun _ _ => gI_ne _ _ (Or.inl (by omega))) h
theorem lkVf (s : Sg) (k : Nat) (x y v : Int32) : lkV (sI s 0 9 v) k x y = lkV s k x y := by
  unfold lkV
  rw [gI_ne (b := 0) _ _ (Or.inl (by omega)), gI_ne (b := 1) _ _ (Or.inl (by omega)), gI_ne (b := 2) _ _ (Or.inl (by omega))]
theorem all_put : ok_put Inv := by
  intro x y z v s hI
  cases h1 : wi x 0 3
  · exact ⟨-2, s, s, by simp only [fX10_put, e_isSheet, ob, h1, b2f, if_true], by simp only [fX11_put, r_isSheet, ob, h1, b2f, if_true], hI⟩
  · cases h2 : wi y 0 2
    · exact ⟨-2, s, s, by simp only [fX10_put, e_isSheet, e_isType, ob, h1, h2, b2f, b2t, if_true, if_false], by simp only [fX11_put, r_isSheet, e_in, ob, h1, h2, b2f, b2t, if_true, if_false], hI⟩
    · obtain ⟨k, hk, rfl⟩ := wi_nat (n := 3) rfl (by decide) h1
      have hk' : k < 4 := by omega
      have hp := HPof hI hk'
      by_cases hl : lkV s k y z = 0
      · obtain ⟨l1, i, hi, rfl⟩ := lkV_0 hp hl
        obtain ⟨c1, c2, c3, c4, c5, c6⟩ := hp
        have e70 : gI (sI s (40 + 2 * k + 1) i (cutI (gI s (40 + 2 * k) 1) v)) 70 k = gI s (40 + 2 * k) 1 := by rw [gI_ne _ _ (Or.inl (by omega)), c2]
        refine ⟨1, sI s (40 + 2 * k + 1) i (cutI (gI s (40 + 2 * k) 1) v), sI (sI s (40 + 2 * k + 1) i (cutI (gI s (40 + 2 * k) 1) v)) 72 (48 * k + i) (cutI (gI s (40 + 2 * k) 1) v), ?_, ?_, ?_⟩
        · simp only [fX10_put, e_isSheet, e_isType, ob, h1, h2, b2t, if_false, aR_n hk' (by decide), rix1, e_findingAt, hl, if_true, e_setItem hi]
        · have hp2 : HP (sI s (40 + 2 * k + 1) i (cutI (gI s (40 + 2 * k) 1) v)) k → True := fun _ => trivial
          have hlk : fX11_lacks (nI k) y (nI i) (sI s (40 + 2 * k + 1) i (cutI (gI s (40 + 2 * k) 1) v)) = some (0, sI s (40 + 2 * k + 1) i (cutI (gI s (40 + 2 * k) 1) v)) := by
            have hh := r_lacks hk' (HPof hI hk') y (nI i)
            rw [hl] at hh
            unfold fX11_lacks at hh ⊢
            simp only [aI_n hk' (by decide), ob, e_in, gI_ne (a := 69) _ _ (Or.inl (show 69 ≠ 40 + 2 * k + 1 by omega)), gI_ne (a := 70) _ _ (Or.inl (show 70 ≠ 40 + 2 * k + 1 by omega)), gI_ne (a := 71) _ _ (Or.inl (show 71 ≠ 40 + 2 * k + 1 by omega))] at hh ⊢
            revert hh
            split
            · intro hh; cases hh
            · split
              · split
                · intro hh; cases hh
                · intro _; rfl
              · intro hh; cases hh
          have le0 : ((0 : Int32) ≤ 0) = True := by simp
          simp only [fX11_put, r_isSheet, e_in, ob, h1, h2, b2t, if_false, hlk, le0, if_true, r_keep hk' hi, e70]
        · refine inv_items hI hk' (fun a b q1 q2 q3 => ?_) (fun b hb => ?_) (fun j hj => ?_)
          · rw [gI_ne _ _ (Or.inl q2), gI_ne _ _ (Or.inl q1)]
          · rw [gI_ne _ _ (Or.inr (by omega)), gI_ne _ _ (Or.inl (by omega))]
          · by_cases e : j = i
            · subst e
              rw [gI_same, gI_ne _ _ (Or.inl (by omega)), gI_same]
            · rw [gI_ne _ _ (Or.inr (by omega)), gI_ne _ _ (Or.inl (by omega)), gI_ne (a := 40 + 2 * k + 1) _ _ (Or.inl (by omega)), gI_ne (a := 40 + 2 * k + 1) _ _ (Or.inr e)]
              exact c6 j hj
      · have hl2 : ¬ lkV s k y z ≤ 0 := fun h => hl ((lkV_le s k y z).mp h)
        refine ⟨-10 - lkV s k y z, sI s 0 9 (lkV s k y z), fnd s (lkV s k y z), ?_, ?_, inv_fnd hI _⟩
        · simp only [fX10_put, e_isSheet, e_isType, ob, h1, h2, b2t, if_false, aR_n hk' (by decide), rix1, e_findingAt, if_neg hl, e_found]
        · simp only [fX11_put, r_isSheet, e_in, ob, h1, h2, b2t, if_false, r_lacks hk' (HPf hp _), lkVf, if_neg hl2, r_meets]
          rfl
theorem all_get : ok_get Inv := by
  intro x y z s hI
  cases h1 : wi x 0 3
  · exact ⟨-2147483648, s, s, by simp only [fX10_get, e_isSheet, ob, h1, b2f, if_true], by simp only [fX11_get, r_isSheet, ob, h1, b2f, if_true], hI⟩
  · cases h2 : wi y 0 2
    · exact ⟨-2147483648, s, s, by simp only [fX10_get, e_isSheet, e_isType, ob, h1, h2, b2f, b2t, if_true, if_false], by simp only [fX11_get, r_isSheet, e_in, ob, h1, h2, b2f, b2t, if_true, if_false], hI⟩
    · obtain ⟨k, hk, rfl⟩ := wi_nat (n := 3) rfl (by decide) h1
      have hk' : k < 4 := by omega
      have hp := HPof hI hk'
      by_cases hl : lkV s k y z = 0
      · obtain ⟨l1, i, hi, rfl⟩ := lkV_0 hp hl
        have le0 : ((0 : Int32) ≤ 0) = True := by simp
        have e : (48 : Int32) * nI k + nI i = nI (48 * k + i) := by rw [show (48 : Int32) = nI 48 from rfl, pk_mul, nI_add]
        refine ⟨gI s (40 + 2 * k + 1) i, s, s, ?_, ?_, hI⟩
        · simp only [fX10_get, e_isSheet, e_isType, ob, h1, h2, b2t, if_false, aR_n hk' (by decide), rix1, e_findingAt, hl, if_true, aI_n hi (by decide)]
        · simp only [fX11_get, r_isSheet, e_in, ob, h1, h2, b2t, if_false, r_lacks hk' hp, hl, le0, if_true, e, aI_n (show 48 * k + i < 192 by omega) (by decide), hp.2.2.2.2.2 i hi]
      · have hl2 : ¬ lkV s k y z ≤ 0 := fun h => hl ((lkV_le s k y z).mp h)
        refine ⟨-2147483648, sI s 0 9 (lkV s k y z), fnd s (lkV s k y z), ?_, ?_, inv_fnd hI _⟩
        · simp only [fX10_get, e_isSheet, e_isType, ob, h1, h2, b2t, if_false, aR_n hk' (by decide), rix1, e_findingAt, if_neg hl, e_found]
        · simp only [fX11_get, r_isSheet, e_in, ob, h1, h2, b2t, if_false, r_lacks hk' (HPf hp _), lkVf, if_neg hl2, bd]
          rfl
