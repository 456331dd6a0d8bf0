/-! race, seeds -/
theorem e_addRace {s : Sg} (hA : InvA s) (h : nR s < 16) (x y : Int32) : fX3_addRace x y s = some (nI (nR s), sI (sI (sI s 2 (nR s) x) 3 (nR s) y) 1 0 (nI (nR s + 1))) := by
  have e1 := hA.1
  have h16 : nI (nR s) < (16 : Int32) := nI_lt (b := 16) h (by decide)
  have g1 : gI (sI s 2 (nR s) x) 1 0 = nI (nR s) := by rw [gI_ne s x (Or.inl (by decide)), e1]
  have g2 : gI (sI (sI s 2 (nR s) x) 3 (nR s) y) 1 0 = nI (nR s) := by rw [gI_ne _ y (Or.inl (by decide)), g1]
  unfold fX3_addRace
  rw [e1, if_pos h16, wI_n h (by decide), ob, g1, wI_n h (by decide), ob, g2, bd, nI_1, gI_same, nI_pred]
theorem r_raceMore {s : Sg} {n : Nat} (e1 : gI s 49 0 = nI n) (h : n < 16) (x y : Int32) : fX11_raceMore x y s = some (nI n, sI (sI (sI s 50 n x) 51 n y) 49 0 (nI (n + 1))) := by
  have g1 : gI (sI s 50 n x) 49 0 = nI n := by rw [gI_ne s x (Or.inl (by decide)), e1]
  have g2 : gI (sI (sI s 50 n x) 51 n y) 49 0 = nI n := by rw [gI_ne _ y (Or.inl (by decide)), g1]
  unfold fX11_raceMore
  rw [e1, wI_n h (by decide), ob, g1, wI_n h (by decide), ob, g2, bd, nI_1, gI_same, nI_pred]
/-- a race more, on both sides -/
def raceUp (s : Sg) (n : Nat) (x y : Int32) : Sg := sI (sI (sI (sI (sI (sI s 2 n x) 3 n y) 1 0 (nI (n + 1))) 50 n x) 51 n y) 49 0 (nI (n + 1))
theorem inv_race {s : Sg} (hI : Inv s) (h : nR s < 16) {a b : Nat} (ha : 1 ≤ a) (ha2 : a ≤ 4) (hb : b ≤ 9) : Inv (raceUp s (nR s) (nI a) (nI b)) := by
  obtain ⟨hA, hR, hS, hT, hD, hE, hX, hH, hF⟩ := hI
  generalize hn : nR s = n at *
  have hnS : n < 2 ^ 31 := by omega
  have q0 : nR (raceUp s n (nI a) (nI b)) = n + 1 := by
    unfold nR raceUp
    simp only [gI_set]
    simp [cl_n (show n + 1 < 2 ^ 31 by omega)]
  have q1 : nS (raceUp s n (nI a) (nI b)) = nS s := by unfold nS raceUp; simp [gI_set]
  have q2 : ∀ r, lnN (raceUp s n (nI a) (nI b)) r = if r = n then a else lnN s r := by
    intro r
    unfold lnN raceUp
    simp only [gI_set]
    by_cases e : r = n
    · simp [e, cl_n (show a < 2 ^ 31 by omega)]
    · simp [e]
  have q3 : ∀ r, dyN (raceUp s n (nI a) (nI b)) r = if r = n then b else dyN s r := by
    intro r
    unfold dyN raceUp
    simp only [gI_set]
    by_cases e : r = n
    · simp [e, cl_n (show b < 2 ^ 31 by omega)]
    · simp [e]
  have q4 : rcN (raceUp s n (nI a) (nI b)) = rcN s := by funext k; unfold rcN raceUp; simp [gI_set]
  have q5 : swN (raceUp s n (nI a) (nI b)) = swN s := by funext k; unfold swN raceUp; simp [gI_set]
  have q6 : laN (raceUp s n (nI a) (nI b)) = laN s := by funext k; unfold laN raceUp; simp [gI_set]
  have q8 : sdN (raceUp s n (nI a) (nI b)) = sdN s := by funext k; unfold sdN raceUp; simp [gI_set]
  have qt0 : t0N (raceUp s n (nI a) (nI b)) = t0N s := by unfold t0N raceUp; simp [gI_set]
  have qt1 : t1N (raceUp s n (nI a) (nI b)) = t1N s := by unfold t1N raceUp; simp [gI_set]
  refine ⟨?_, ?_, ?_, ?_, ?_, ?_, ?_, ?_, ?_⟩
  · obtain ⟨a1, a2, a3, a4, a5, a6⟩ := hA
    unfold InvA
    rw [q0, q1]
    refine ⟨by simp [raceUp, gI_set], by simp [raceUp, gI_set], by omega, by simp [raceUp, gI_set, a4], by simp [raceUp, gI_set, a5], a6⟩
  · intro r hr
    rw [q0] at hr
    rw [q2, q3]
    by_cases e : r = n
    · subst e
      simp [raceUp, gI_set]
      omega
    · obtain ⟨b1, b2, b3, b4, b5, b6, b7⟩ := hR r (by omega)
      simp only [if_neg e]
      exact ⟨by simp [raceUp, gI_set, e, b1], by simp [raceUp, gI_set, e, b2], b3, b4, by simp [raceUp, gI_set, e, b5], by simp [raceUp, gI_set, e, b6], b7⟩
  · intro k hk
    rw [q1] at hk
    obtain ⟨b1, b2, b3, b4, b5, b6, b7, b8, b9⟩ := hS k hk
    rw [q0, q4, q5, q6]
    exact ⟨by simp [raceUp, gI_set, b1], by simp [raceUp, gI_set, b2], by omega, by simp [raceUp, gI_set, b4], by simp [raceUp, gI_set, b5], b6, by simp [raceUp, gI_set, b7], by simp [raceUp, gI_set, b8], b9⟩
  · obtain ⟨c1, c2, c3⟩ := hT
    unfold InvT
    rw [q1, q4]
    refine ⟨fun i hi => ?_, fun i hi => ?_, fun k l hk hl hx => ?_⟩
    · simp [raceUp, gI_set]; exact c1 i hi
    · simp [raceUp, gI_set]; exact c2 i hi
    · have : gI (raceUp s n (nI a) (nI b)) 7 (4 * k + l) = gI s 7 (4 * k + l) := by simp [raceUp, gI_set]
      rw [this]
      refine c3 k l hk hl ?_
      rcases hx with hx | hx
      · exact Or.inl hx
      · by_cases hks : nS s ≤ k
        · exact Or.inl hks
        · right
          rw [q2, if_neg (by have := (hS k (by omega)).2.2.1; omega)] at hx
          exact hx
  · unfold InvD
    rw [q1, q4, q5, q6]
    exact hD
  · intro k hk
    obtain ⟨b1, b2, b3, b4⟩ := hE k hk
    rw [q8]
    exact ⟨by simp [raceUp, gI_set, b1], by simp [raceUp, gI_set, b2], b3, b4⟩
  · obtain ⟨x1, x2, x3, x4, x5, x6, x7, x8⟩ := hX
    unfold InvX
    rw [qt0, qt1]
    refine ⟨by simp [raceUp, gI_set, x1], by simp [raceUp, gI_set, x2], x3, by simp [raceUp, gI_set, x4], by simp [raceUp, gI_set, x5], x6, fun i hi => ?_, fun i hi => ?_⟩
    · simp [raceUp, gI_set]; exact x7 i hi
    · simp [raceUp, gI_set]; exact x8 i hi
  · intro k hk
    have hz : ∀ j i, j ≠ 1 → j ≠ 2 → j ≠ 3 → j ≠ 49 → j ≠ 50 → j ≠ 51 → gI (raceUp s n (nI a) (nI b)) j i = gI s j i := by
      intro j i h1 h2 h3 h4 h5 h6
      simp [raceUp, gI_set, h1, h2, h3, h4, h5, h6]
    obtain ⟨b1, b2, b3, b4, b5, b6⟩ := hH k hk
    simp only [hz (40 + 2 * k) _ (by omega) (by omega) (by omega) (by omega) (by omega) (by omega), hz (40 + 2 * k + 1) _ (by omega) (by omega) (by omega) (by omega) (by omega) (by omega), hz 69 _ (by omega) (by omega) (by omega) (by omega) (by omega) (by omega), hz 70 _ (by omega) (by omega) (by omega) (by omega) (by omega) (by omega), hz 71 _ (by omega) (by omega) (by omega) (by omega) (by omega) (by omega), hz 72 _ (by omega) (by omega) (by omega) (by omega) (by omega) (by omega)]
    exact ⟨b1, b2, b3, b4, b5, b6⟩
  · unfold InvF
    simp [raceUp, gI_set]
    exact hF
theorem all_race : ok_race Inv := by
  intro x y s hI
  have hA := hI.1
  cases h1 : wi x 1 4 && wi y 0 9
  · refine ⟨-2, s, s, ?_, ?_, hI⟩
    · simp only [fX10_race, e_mayBeRace, ob, h1, b2i_0, if_true]
    · simp only [fX11_race, e_in, ob, b2i_0]
      cases h2 : wi x 1 4 <;> cases h3 : wi y 0 9 <;> simp_all
  · rw [Bool.and_eq_true] at h1
    obtain ⟨a, ha1, ha2, rfl⟩ := wi_nat1 (a := 1) (n := 4) rfl (by decide) rfl (by decide) h1.1
    obtain ⟨b, hb, rfl⟩ := wi_nat (n := 9) rfl (by decide) h1.2
    have hb1 : (b2i true = 0) = False := by simp [b2i]
    by_cases hf : nR s = 16
    · refine ⟨-4, s, s, ?_, ?_, hI⟩
      · have : ¬ gI s 1 0 < 16 := by rw [hA.1, hf]; decide
        simp only [fX10_race, e_mayBeRace, ob, h1.1, h1.2, Bool.and_self, hb1, if_false, if_neg this]
      · have : gI s 49 0 = 16 := by rw [hA.2.1, hf]; rfl
        simp only [fX11_race, e_in, ob, h1.1, h1.2, hb1, if_false, if_pos this]
    · have hlt : nR s < 16 := by have := hA.2.2.1; omega
      have h16 : gI s 1 0 < 16 := by rw [hA.1]; exact nI_lt (b := 16) hlt (by decide)
      refine ⟨nI (nR s), sI (sI (sI s 2 (nR s) (nI a)) 3 (nR s) (nI b)) 1 0 (nI (nR s + 1)), raceUp s (nR s) (nI a) (nI b), ?_, ?_, inv_race hI hlt ha1 ha2 hb⟩
      · simp only [fX10_race, e_mayBeRace, ob, h1.1, h1.2, Bool.and_self, hb1, if_false, if_pos h16, e_addRace hA hlt]
      · have g1 : gI (sI (sI (sI s 2 (nR s) (nI a)) 3 (nR s) (nI b)) 1 0 (nI (nR s + 1))) 49 0 = nI (nR s) := by
          rw [gI_ne _ _ (Or.inl (by decide)), gI_ne _ _ (Or.inl (by decide)), gI_ne _ _ (Or.inl (by decide)), hA.2.1]
        have g2 : ¬ nI (nR s) = (16 : Int32) := fun e => hf (nI_inj (b := 16) (by omega) (by decide) e)
        simp only [fX11_race, e_in, ob, h1.1, h1.2, hb1, if_false, g1, if_neg g2, r_raceMore g1 hlt]
        rfl
