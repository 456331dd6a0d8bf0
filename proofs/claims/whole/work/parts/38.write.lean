/-! times of a swim: write, time, read -/
theorem sw_facts {s : Sg} (hI : Inv s) {k : Nat} (hk : k < nS s) : k < 64 ∧ gI s 4 k = nI (rcN s k) ∧ gI s 52 k = nI (rcN s k) ∧ rcN s k < 16 ∧ gI s 2 (rcN s k) = nI (lnN s (rcN s k)) ∧ gI s 50 (rcN s k) = nI (lnN s (rcN s k)) ∧ 1 ≤ lnN s (rcN s k) ∧ lnN s (rcN s k) ≤ 4 := by
  have a6 := hI.1.2.2.2.2.2
  have a3 := hI.1.2.2.1
  obtain ⟨b1, b2, b3, -⟩ := hI.2.2.1 k hk
  obtain ⟨r1, r2, r3, r4, -⟩ := hI.2.1 (rcN s k) b3
  exact ⟨by omega, b1, b2, by omega, r1, r2, r3, r4⟩
theorem e_lengthsOf {s : Sg} (hI : Inv s) {k : Nat} (hk : k < nS s) : fX3_lengthsOf (nI k) s = some (nI (lnN s (rcN s k)), s) := by
  obtain ⟨h0, h1, h2, h3, h4, h5, h6, h7⟩ := sw_facts hI hk
  simp only [fX3_lengthsOf, aI_n h0 (by decide), ob, h1, aI_n h3 (by decide), h4]
theorem t_ix (k l : Nat) : nI k * (4 : Int32) + nI l = nI (4 * k + l) := by rw [show (4 : Int32) = nI 4 from rfl, pk_mul, nI_add, Nat.mul_comm]
theorem t_ix' (k l : Nat) : (4 : Int32) * nI k + nI l = nI (4 * k + l) := by rw [show (4 : Int32) = nI 4 from rfl, pk_mul, nI_add]
theorem e_timeOf {s : Sg} {k l : Nat} (hk : k < 64) (hl : l < 4) : fX3_timeOf (nI k) (nI l) s = some (gI s 7 (4 * k + l), s) := by
  simp only [fX3_timeOf, t_ix, aI_n (show 4 * k + l < 256 by omega) (by decide), ob]
theorem e_setTime {s : Sg} {k l : Nat} (hk : k < 64) (hl : l < 4) (v : Int32) : fX3_setTime (nI k) (nI l) v s = some (sI s 7 (4 * k + l) v) := by
  simp only [fX3_setTime, t_ix, wI_n (show 4 * k + l < 256 by omega) (by decide), ob]
theorem mn_n {a b : Nat} (ha : a < 2 ^ 31) (hb : b < 2 ^ 31) : mnI (nI a) (nI b) = nI (min a b) := by
  unfold mnI
  by_cases h : b < a
  · rw [if_pos ((nI_ltI hb ha).mpr h), Nat.min_eq_right (by omega)]
  · rw [if_neg (fun e => h ((nI_ltI hb ha).mp e)), Nat.min_eq_left (by omega)]
theorem e_writeL {s : Sg} {p k m : Nat} (hp : p < 64) (hk : k < 4) (hm : m ≤ 4) (t : Int32) (ht : gI s (40 + 2 * k) 1 = t) : lpG (fX10_write_L61 (nI p) (40 + 2 * k) (nI m)) FU (0 : Int32) s = some ((), frow s (40 + 2 * k + 1) 0 (fun l => cutI t (gI s 7 (4 * p + l))) m) := by
  refine lp_run m (fun z => nI z) (fun z => frow s (40 + 2 * k + 1) 0 (fun l => cutI t (gI s 7 (4 * p + l))) z) (fun z hz => ?_) ?_ FU (by unfold FU; omega)
  · have c : ¬ nI m ≤ nI z := nI_ge hz (by omega)
    simp only [fX10_write_L61, if_neg c, e_timeOf hp (show z < 4 by omega), ob, e_setItem (show z < 48 by omega), bd, nI_1]
    rw [frow_ne (a := 7) _ _ _ _ _ (Or.inl (by omega)), frow_ne (a := 40 + 2 * k) _ _ _ _ _ (Or.inl (by omega)), ht, frow, Nat.zero_add]
  · have c : nI m ≤ nI m := nI_le (Nat.le_refl _) (by omega)
    simp only [fX10_write_L61, if_pos c]
theorem all_write : ok_write Inv := by
  intro x y s hI
  have hA := hI.1
  cases h1 : hasW s x
  · exact ⟨-2, s, s, by simp only [fX10_write, e_hasSwim, ob, h1, b2f, if_true], by simp only [fX11_write, r_isSwim hA, ob, h1, b2f, if_true], hI⟩
  · cases h2 : wi y 0 3
    · exact ⟨-2, s, s, by simp only [fX10_write, e_hasSwim, e_isSheet, ob, h1, h2, b2f, b2t, if_true, if_false], by simp only [fX11_write, r_isSwim hA, r_isSheet, ob, h1, h2, b2f, b2t, if_true, if_false], hI⟩
    · obtain ⟨p, hp, rfl⟩ := hasW_n hA h1
      obtain ⟨k, hk, rfl⟩ := wi_nat (n := 3) rfl (by decide) h2
      have hk' : k < 4 := by omega
      obtain ⟨c1, c2, c3, c4, ⟨m, hm, c5⟩, c6⟩ := HPof hI hk'
      obtain ⟨w0, w1, w2, w3, w4, w5, w6, w7⟩ := sw_facts hI hp
      rcases c1 with ⟨l1, l2⟩ | ⟨l1, l2⟩
      · generalize hn : min m (lnN s (rcN s p)) = n
        have hn4 : n ≤ 4 := by omega
        generalize hτ : frow s (40 + 2 * k + 1) 0 (fun l => cutI (gI s (40 + 2 * k) 1) (gI s 7 (4 * p + l))) n = τ
        have rw' : ∀ a b, a ≠ 40 + 2 * k + 1 → gI τ a b = gI s a b := by
          intro a b ha
          rw [← hτ, frow_ne _ _ _ _ _ (Or.inl ha)]
        have hrow : ∀ z, z ≤ n → gI (frow τ 72 (48 * k) (fun l => cutI (gI s (40 + 2 * k) 1) (gI s 7 (4 * p + l))) z) 70 k = gI s (40 + 2 * k) 1 := by
          intro z _
          rw [frow_ne _ _ _ _ _ (Or.inl (by decide)), rw' 70 k (by omega), c2]
        refine ⟨nI n, τ, frow τ 72 (48 * k) (fun l => cutI (gI s (40 + 2 * k) 1) (gI s 7 (4 * p + l))) n, ?_, ?_, ?_⟩
        · simp only [fX10_write, e_hasSwim, e_isSheet, ob, h1, h2, b2t, if_false, aR_n hk' (by decide), rix1, l1, if_true, e_lengthsOf hI hp, bd, c5, mn_n (show m < 2 ^ 31 by omega) (show lnN s (rcN s p) < 2 ^ 31 by omega), hn, e_writeL w0 hk' hn4 _ rfl, hτ]
        · have hA2 : InvA τ := cgA (rw' 1 0 (by omega)) (rw' 1 1 (by omega)) (rw' 49 0 (by omega)) (rw' 49 3 (by omega)) hA
          have hw2 : hasW τ (nI p) = true := by
            unfold hasW
            rw [rw' 1 1 (by omega)]
            exact h1
          have k9 : ¬ (1 : Int32) = 0 := by decide
          have hloop : lpG (fX11_write_L35 (nI p) (nI k)) FU (0 : Int32) τ = some (nI n, frow τ 72 (48 * k) (fun l => cutI (gI s (40 + 2 * k) 1) (gI s 7 (4 * p + l))) n) := by
            refine lp_run n (fun z => nI z) (fun z => frow τ 72 (48 * k) (fun l => cutI (gI s (40 + 2 * k) 1) (gI s 7 (4 * p + l))) z) (fun z hz => ?_) ?_ FU (by unfold FU; omega)
            · have e52 : gI (frow τ 72 (48 * k) (fun l => cutI (gI s (40 + 2 * k) 1) (gI s 7 (4 * p + l))) z) 52 p = nI (rcN s p) := by rw [frow_ne _ _ _ _ _ (Or.inl (by decide)), rw' 52 p (by omega), w2]
              have e50 : gI (frow τ 72 (48 * k) (fun l => cutI (gI s (40 + 2 * k) 1) (gI s 7 (4 * p + l))) z) 50 (rcN s p) = nI (lnN s (rcN s p)) := by rw [frow_ne _ _ _ _ _ (Or.inl (by decide)), rw' 50 _ (by omega), w5]
              have e71 : gI (frow τ 72 (48 * k) (fun l => cutI (gI s (40 + 2 * k) 1) (gI s 7 (4 * p + l))) z) 71 k = nI m := by rw [frow_ne _ _ _ _ _ (Or.inl (by decide)), rw' 71 _ (by omega), c3, c5]
              have e55 : gI (frow τ 72 (48 * k) (fun l => cutI (gI s (40 + 2 * k) 1) (gI s 7 (4 * p + l))) z) 55 (4 * p + z) = gI s 7 (4 * p + z) := by rw [frow_ne _ _ _ _ _ (Or.inl (by decide)), rw' 55 _ (by omega), hI.2.2.2.1.1 _ (by omega)]
              have q1 : ¬ nI (lnN s (rcN s p)) ≤ nI z := nI_ge (by omega) (by omega)
              have q2 : ¬ nI m ≤ nI z := nI_ge (by omega) (by omega)
              simp only [fX11_write_L35, aI_n w0 (by decide), ob, e52, aI_n w3 (by decide), e50, if_neg q1, aI_n hk' (by decide), e71, if_neg q2, t_ix', aI_n (show 4 * p + z < 256 by omega) (by decide), e55, r_keep hk' (show z < 48 by omega), hrow z (by omega), bd, nI_1]
              rw [frow]
            · have e52 : gI (frow τ 72 (48 * k) (fun l => cutI (gI s (40 + 2 * k) 1) (gI s 7 (4 * p + l))) n) 52 p = nI (rcN s p) := by rw [frow_ne _ _ _ _ _ (Or.inl (by decide)), rw' 52 p (by omega), w2]
              have e50 : gI (frow τ 72 (48 * k) (fun l => cutI (gI s (40 + 2 * k) 1) (gI s 7 (4 * p + l))) n) 50 (rcN s p) = nI (lnN s (rcN s p)) := by rw [frow_ne _ _ _ _ _ (Or.inl (by decide)), rw' 50 _ (by omega), w5]
              have e71 : gI (frow τ 72 (48 * k) (fun l => cutI (gI s (40 + 2 * k) 1) (gI s 7 (4 * p + l))) n) 71 k = nI m := by rw [frow_ne _ _ _ _ _ (Or.inl (by decide)), rw' 71 _ (by omega), c3, c5]
              simp only [fX11_write_L35, aI_n w0 (by decide), ob, e52, aI_n w3 (by decide), e50, aI_n hk' (by decide), e71]
              by_cases q1 : lnN s (rcN s p) ≤ n
              · rw [if_pos (nI_le q1 (by omega))]
              · rw [if_neg (nI_ge (by omega) (by omega)), if_pos (nI_le (show m ≤ n by omega) (by omega))]
          simp only [fX11_write, r_isSwim hA2, r_isSheet, ob, hw2, h2, b2t, if_false, aI_n hk' (by decide), rw' 69 _ (show 69 ≠ 40 + 2 * k + 1 by omega), l2, k9, hloop]
        · refine inv_items hI hk' (fun a b z1 z2 z3 => ?_) (fun b hb' => ?_) (fun z hz => ?_)
          · rw [frow_ne _ _ _ _ _ (Or.inl z2), rw' a b z1]
          · rw [frow_ne _ _ _ _ _ (by omega), rw' 72 b (by omega)]
          · rw [frow_ne (a := 40 + 2 * k + 1) _ _ _ _ _ (Or.inl (by omega)), ← hτ]
            by_cases hz2 : z < n
            · rw [frow_at _ _ _ _ _ hz2]
              have := frow_at s (40 + 2 * k + 1) 0 (fun l => cutI (gI s (40 + 2 * k) 1) (gI s 7 (4 * p + l))) n hz2
              rw [Nat.zero_add] at this
              rw [this]
            · rw [frow_ne _ _ _ _ _ (by omega), frow_ne _ _ _ _ _ (Or.inl (by omega)), frow_ne _ _ _ _ _ (by omega), c6 z hz]
      · have k9 : ¬ (1 : Int32) = 0 := by decide
        have hA2 : InvA (sI s 0 9 1) := cgA (gIc _ _ rfl) (gIc _ _ rfl) (gIc _ _ rfl) (gIc _ _ rfl) hA
        have hw2 : hasW (sI s 0 9 1) (nI p) = true := by
          unfold hasW
          rw [gIc _ _ rfl]
          exact h1
        refine ⟨-10 - 1, sI s 0 9 1, fnd s 1, ?_, ?_, inv_fnd hI 1⟩
        · simp only [fX10_write, e_hasSwim, e_isSheet, ob, h1, h2, b2t, if_false, aR_n hk' (by decide), rix1, l1, k9, e_found]
        · simp only [fX11_write, r_isSwim hA2, r_isSheet, ob, hw2, h2, b2t, if_false, aI_n hk' (by decide), gI_ne (a := 69) s 1 (Or.inl (show 69 ≠ 0 by omega)), l2, if_true, r_meets]
          rfl
