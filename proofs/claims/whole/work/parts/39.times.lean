/-! time, read -/
theorem inv_times {σ τ : Sg} (r : ∀ a, (a == 7 || a == 55) = false → gI τ a = gI σ a) (hT' : InvT τ) (hI : Inv σ) : Inv τ := by
  obtain ⟨hA, hR, hS, hT, hD, hE, hX, hH, hF⟩ := hI
  refine ⟨cgA ?_ ?_ ?_ ?_ hA, cgR ?_ (r 2 rfl) (r 3 rfl) (r 50 rfl) (r 51 rfl) hR, cgS ?_ ?_ (r 4 rfl) (r 5 rfl) (r 6 rfl) (r 52 rfl) (r 53 rfl) (r 54 rfl) hS, hT', cgD ?_ (r 4 rfl) (r 5 rfl) (r 6 rfl) hD, cgE (r 8 rfl) (r 56 rfl) hE, cgX ?_ ?_ (r 31 rfl) (r 33 rfl) (r 66 rfl) (r 65 rfl) hX, cgH (fun j i h1 h2 => ?_) (r 69 rfl) (r 70 rfl) (r 71 rfl) (r 72 rfl) hH, cgF ?_ ?_ hF⟩
  all_goals try (first | rw [r 1 rfl] | rw [r 49 rfl] | rw [r 0 rfl] | rw [r 30 rfl] | rw [r 32 rfl])
  rw [r j (by simp; omega)]
/-- times of one swim change on both sides alike, at lengths that it has -/
theorem inv_swimT {s τ : Sg} (hI : Inv s) {p n : Nat} (hp : p < nS s) (hn : n ≤ lnN s (rcN s p)) (r : ∀ a, (a == 7 || a == 55) = false → gI τ a = gI s a) (h7 : ∀ b, (b < 4 * p ∨ 4 * p + n ≤ b) → gI τ 7 b = gI s 7 b) (h55 : ∀ b, (b < 4 * p ∨ 4 * p + n ≤ b) → gI τ 55 b = gI s 55 b) (hin : ∀ l, l < n → gI τ 55 (4 * p + l) = gI τ 7 (4 * p + l) ∧ okT (gI τ 7 (4 * p + l))) : Inv τ := by
  obtain ⟨w0, w1, w2, w3, w4, w5, w6, w7⟩ := sw_facts hI hp
  refine inv_times r ?_ hI
  obtain ⟨c1, c2, c3⟩ := hI.2.2.2.1
  have e2 : nS τ = nS s := by unfold nS; rw [r 1 rfl]
  have e3 : lnN τ = lnN s := by funext x; unfold lnN; rw [r 2 rfl]
  have e4 : rcN τ = rcN s := by funext x; unfold rcN; rw [r 4 rfl]
  unfold InvT
  rw [e2, e3, e4]
  refine ⟨fun i hi => ?_, fun i hi => ?_, fun k l hk hl hx => ?_⟩
  · by_cases h : 4 * p ≤ i ∧ i < 4 * p + n
    · have := (hin (i - 4 * p) (by omega)).1
      rw [show 4 * p + (i - 4 * p) = i by omega] at this
      exact this
    · rw [h55 i (by omega), h7 i (by omega)]
      exact c1 i hi
  · by_cases h : 4 * p ≤ i ∧ i < 4 * p + n
    · have := (hin (i - 4 * p) (by omega)).2
      rw [show 4 * p + (i - 4 * p) = i by omega] at this
      exact this
    · rw [h7 i (by omega)]
      exact c2 i hi
  · have hne : 4 * k + l < 4 * p ∨ 4 * p + n ≤ 4 * k + l := by
      by_cases e : k = p
      · subst e
        rcases hx with hx | hx
        · omega
        · omega
      · omega
    rw [h7 _ hne]
    exact c3 k l hk hl hx
theorem all_time : ok_time Inv := by
  intro x y v s hI
  have hA := hI.1
  cases h1 : hasW s x
  · exact ⟨-5, s, s, by simp only [fX10_time, e_hasSwim, ob, h1, b2f, if_true], by simp only [fX11_time, r_isSwim hA, ob, h1, b2f, if_true], hI⟩
  · obtain ⟨p, hp, rfl⟩ := hasW_n hA h1
    obtain ⟨w0, w1, w2, w3, w4, w5, w6, w7⟩ := sw_facts hI hp
    cases h2 : wi y 0 (nI (lnN s (rcN s p)) - 1)
    · refine ⟨-5, s, s, ?_, ?_, hI⟩
      · simp only [fX10_time, e_hasSwim, ob, h1, b2t, if_false, e_lengthsOf hI hp, e_within, h2, b2f, if_true]
      · simp only [fX11_time, r_isSwim hA, ob, h1, b2t, if_false, aI_n w0 (by decide), w2, aI_n w3 (by decide), w5, e_in, h2, b2f, if_true]
    · cases h3 : tmo v
      · refine ⟨-5, s, s, ?_, ?_, hI⟩
        · simp only [fX10_time, e_hasSwim, ob, h1, b2t, if_false, e_lengthsOf hI hp, e_within, h2, e_mayBeTime, h3, b2f, if_true]
        · simp only [fX11_time, r_isSwim hA, ob, h1, b2t, if_false, aI_n w0 (by decide), w2, aI_n w3 (by decide), w5, e_in, h2, r_isTime, h3, b2f, if_true]
      · have h2' := h2
        rw [wi_pred rfl (by omega)] at h2
        obtain ⟨l, hl, rfl⟩ := has_n rfl (by omega) h2
        have ix : 4 * p + l < 256 := by omega
        have rw' : ∀ a b, a ≠ 7 → gI (sI s 7 (4 * p + l) v) a b = gI s a b := fun a b h => gI_ne _ _ (Or.inl h)
        refine ⟨gI s 7 (4 * p + l), sI s 7 (4 * p + l) v, sI (sI s 7 (4 * p + l) v) 55 (4 * p + l) v, ?_, ?_, ?_⟩
        · simp only [fX10_time, e_hasSwim, ob, h1, b2t, if_false, e_lengthsOf hI hp, e_within, h2', e_mayBeTime, h3, e_timeOf w0 (show l < 4 by omega), e_setTime w0 (show l < 4 by omega)]
        · have hA2 : InvA (sI s 7 (4 * p + l) v) := cgA (rw' 1 0 (by omega)) (rw' 1 1 (by omega)) (rw' 49 0 (by omega)) (rw' 49 3 (by omega)) hA
          have hw2 : hasW (sI s 7 (4 * p + l) v) (nI p) = true := by
            unfold hasW
            rw [rw' 1 1 (by omega)]
            exact h1
          have e55 := hI.2.2.2.1.1 (4 * p + l) (by omega)
          simp only [fX11_time, r_isSwim hA2, ob, hw2, b2t, if_false, aI_n w0 (by decide), rw' 52 p (by omega), w2, aI_n w3 (by decide), rw' 50 _ (by omega), w5, e_in, h2', r_isTime, h3, t_ix', aI_n ix (by decide), wI_n ix (by decide), rw' 55 _ (by omega), e55]
        · refine inv_swimT hI hp (n := lnN s (rcN s p)) (Nat.le_refl _) (fun a ha => ?_) (fun b hb => ?_) (fun b hb => ?_) (fun j hj => ?_)
          · simp only [Bool.or_eq_false_iff, beq_eq_false_iff_ne, ne_eq] at ha
            rw [gI_row _ _ ha.2, gI_row _ _ ha.1]
          · rw [gI_ne _ _ (Or.inl (by decide)), gI_ne _ _ (Or.inr (by omega))]
          · rw [gI_ne _ _ (Or.inr (by omega)), gI_ne _ _ (Or.inl (by decide))]
          · by_cases e : j = l
            · subst e
              rw [gI_same, gI_ne _ _ (Or.inl (by decide)), gI_same]
              exact ⟨rfl, tmo_ok h3⟩
            · rw [gI_ne (a := 55) _ _ (Or.inr (by omega)), gI_ne (a := 55) _ _ (Or.inl (by decide)), gI_ne (a := 7) _ _ (Or.inl (by decide)), gI_ne (a := 7) _ _ (Or.inr (by omega))]
              exact ⟨hI.2.2.2.1.1 _ (by omega), hI.2.2.2.1.2.1 _ (by omega)⟩
theorem all_read : ok_read Inv := by
  intro y x s hI
  have hA := hI.1
  cases h2 : wi y 0 3
  · exact ⟨-2, s, s, by simp only [fX10_read, e_isSheet, ob, h2, b2f, if_true], by simp only [fX11_read, r_isSheet, ob, h2, b2f, if_true], hI⟩
  · cases h1 : hasW s x
    · exact ⟨-2, s, s, by simp only [fX10_read, e_hasSwim, e_isSheet, ob, h1, h2, b2f, b2t, if_true, if_false], by simp only [fX11_read, r_isSwim hA, r_isSheet, ob, h1, h2, b2f, b2t, if_true, if_false], hI⟩
    · obtain ⟨p, hp, rfl⟩ := hasW_n hA h1
      obtain ⟨k, hk, rfl⟩ := wi_nat (n := 3) rfl (by decide) h2
      have hk' : k < 4 := by omega
      obtain ⟨c1, c2, c3, c4, ⟨m, hm, c5⟩, c6⟩ := HPof hI hk'
      obtain ⟨w0, w1, w2, w3, w4, w5, w6, w7⟩ := sw_facts hI hp
      rcases c1 with ⟨l1, l2⟩ | ⟨l1, l2⟩
      · generalize hM : min m (lnN s (rcN s p)) = M
        have hM4 : M ≤ 4 := by omega
        obtain ⟨n, hnM, hnl, hnx⟩ : ∃ n, n ≤ M ∧ (∀ j, j < n → tmo (gI s (40 + 2 * k + 1) j) = true) ∧ (n = M ∨ tmo (gI s (40 + 2 * k + 1) n) = false) := by
          rcases first_of (fun j => tmo (gI s (40 + 2 * k + 1) j) = false) M with ⟨n, h1, h2, h3⟩ | h
          · exact ⟨n, by omega, fun j hj => by simpa using h3 j hj, Or.inr h2⟩
          · exact ⟨M, Nat.le_refl _, fun j hj => by simpa using h j hj, Or.inl rfl⟩
        generalize hf : (fun l => gI s (40 + 2 * k + 1) l) = f
        have hfz : ∀ z, gI s (40 + 2 * k + 1) z = f z := fun z => by rw [← hf]
        have hcl : lpG (fX10_read_L61 (nI p) (40 + 2 * k) (nI M)) FU (0 : Int32) s = some (nI n, frow s 7 (4 * p) f n) := by
          refine lp_run n (fun z => nI z) (fun z => frow s 7 (4 * p) f z) (fun z hz => ?_) ?_ FU (by unfold FU; omega)
          · have c : ¬ nI M ≤ nI z := nI_ge (by omega) (by omega)
            have e1 : gI (frow s 7 (4 * p) f z) (40 + 2 * k + 1) z = f z := by rw [frow_ne _ _ _ _ _ (Or.inl (by omega)), hfz]
            have e2 : tmo (f z) = true := by rw [← hfz]; exact hnl z hz
            simp only [fX10_read_L61, if_neg c, aI_n (show z < 48 by omega) (by decide), ob, e1, e_mayBeTime, e2, b2t, if_false, e_setTime w0 (show z < 4 by omega), bd, nI_1]
            rw [frow]
          · rcases hnx with e | e
            · subst e
              have c : nI n ≤ nI n := nI_le (Nat.le_refl _) (by omega)
              simp only [fX10_read_L61, if_pos c]
            · by_cases hnM2 : n = M
              · subst hnM2
                have c : nI n ≤ nI n := nI_le (Nat.le_refl _) (by omega)
                simp only [fX10_read_L61, if_pos c]
              · have c : ¬ nI M ≤ nI n := nI_ge (by omega) (by omega)
                have e1 : gI (frow s 7 (4 * p) f n) (40 + 2 * k + 1) n = f n := by rw [frow_ne _ _ _ _ _ (Or.inl (by omega)), hfz]
                have e2 : tmo (f n) = false := by rw [← hfz]; exact e
                simp only [fX10_read_L61, if_neg c, aI_n (show n < 48 by omega) (by decide), ob, e1, e_mayBeTime, e2, b2f, if_true]
        generalize hτ : frow s 7 (4 * p) f n = τ
        have rw' : ∀ a b, a ≠ 7 → gI τ a b = gI s a b := by
          intro a b ha
          rw [← hτ, frow_ne _ _ _ _ _ (Or.inl ha)]
        refine ⟨nI n, τ, frow τ 55 (4 * p) f n, ?_, ?_, ?_⟩
        · simp only [fX10_read, e_hasSwim, e_isSheet, ob, h1, h2, b2t, if_false, aR_n hk' (by decide), rix1, l1, if_true, e_lengthsOf hI hp, bd, c5, mn_n (show m < 2 ^ 31 by omega) (show lnN s (rcN s p) < 2 ^ 31 by omega), hM, hcl, hτ]
        · have hA2 : InvA τ := cgA (rw' 1 0 (by omega)) (rw' 1 1 (by omega)) (rw' 49 0 (by omega)) (rw' 49 3 (by omega)) hA
          have hw2 : hasW τ (nI p) = true := by
            unfold hasW
            rw [rw' 1 1 (by omega)]
            exact h1
          have k9 : ¬ (1 : Int32) = 0 := by decide
          have e71 : ∀ z, gI (frow τ 55 (4 * p) f z) 71 k = nI m := fun z => by rw [frow_ne _ _ _ _ _ (Or.inl (by decide)), rw' 71 _ (by omega), c3, c5]
          have e52 : ∀ z, gI (frow τ 55 (4 * p) f z) 52 p = nI (rcN s p) := fun z => by rw [frow_ne _ _ _ _ _ (Or.inl (by decide)), rw' 52 _ (by omega), w2]
          have e50 : ∀ z, gI (frow τ 55 (4 * p) f z) 50 (rcN s p) = nI (lnN s (rcN s p)) := fun z => by rw [frow_ne _ _ _ _ _ (Or.inl (by decide)), rw' 50 _ (by omega), w5]
          have e72 : ∀ z j, j < 48 → gI (frow τ 55 (4 * p) f z) 72 (48 * k + j) = f j := fun z j hj => by rw [frow_ne _ _ _ _ _ (Or.inl (by decide)), rw' 72 _ (by omega), c6 j hj, hfz]
          have e48 : ∀ z, (48 : Int32) * nI k + nI z = nI (48 * k + z) := fun z => by rw [show (48 : Int32) = nI 48 from rfl, pk_mul, nI_add]
          have hloop : lpG (fX11_read_L35 (nI k) (nI p)) FU (0 : Int32) τ = some (nI n, frow τ 55 (4 * p) f n) := by
            refine lp_run n (fun z => nI z) (fun z => frow τ 55 (4 * p) f z) (fun z hz => ?_) ?_ FU (by unfold FU; omega)
            · have q1 : ¬ nI (lnN s (rcN s p)) ≤ nI z := nI_ge (by omega) (by omega)
              have q2 : ¬ nI m ≤ nI z := nI_ge (by omega) (by omega)
              have e2 : tmo (f z) = true := by rw [← hfz]; exact hnl z hz
              simp only [fX11_read_L35, aI_n hk' (by decide), ob, e71, if_neg q2, aI_n w0 (by decide), e52, aI_n w3 (by decide), e50, if_neg q1, e48, aI_n (show 48 * k + z < 192 by omega) (by decide), e72 z z (by omega), r_isTime, e2, b2t, if_false, t_ix', wI_n (show 4 * p + z < 256 by omega) (by decide), bd, nI_1]
              rw [frow]
            · simp only [fX11_read_L35, aI_n hk' (by decide), ob, e71, aI_n w0 (by decide), e52, aI_n w3 (by decide), e50]
              by_cases q2 : m ≤ n
              · rw [if_pos (nI_le q2 (by omega))]
              · rw [if_neg (nI_ge (by omega) (by omega))]
                by_cases q1 : lnN s (rcN s p) ≤ n
                · rw [if_pos (nI_le q1 (by omega))]
                · rw [if_neg (nI_ge (by omega) (by omega))]
                  have e2 : tmo (f n) = false := by
                    rcases hnx with e | e
                    · omega
                    · rw [← hfz]; exact e
                  simp only [e48, aI_n (show 48 * k + n < 192 by omega) (by decide), ob, e72 n n (by omega), r_isTime, e2, b2f, if_true]
          simp only [fX11_read, r_isSwim hA2, r_isSheet, ob, hw2, h2, b2t, if_false, aI_n hk' (by decide), rw' 69 _ (show 69 ≠ 7 by omega), l2, k9, hloop]
        · refine inv_swimT hI hp (n := n) (by omega) (fun a ha => ?_) (fun b hb => ?_) (fun b hb => ?_) (fun j hj => ?_)
          · simp only [Bool.or_eq_false_iff, beq_eq_false_iff_ne, ne_eq] at ha
            funext b
            rw [frow_ne _ _ _ _ _ (Or.inl ha.2), rw' a b ha.1]
          · rw [frow_ne _ _ _ _ _ (Or.inl (by decide)), ← hτ, frow_ne _ _ _ _ _ (by omega)]
          · rw [frow_ne _ _ _ _ _ (by omega), rw' 55 b (by omega)]
          · rw [frow_at _ _ _ _ _ hj, frow_ne _ _ _ _ _ (Or.inl (by decide)), ← hτ, frow_at _ _ _ _ _ hj]
            exact ⟨rfl, by rw [← hfz]; exact tmo_ok (hnl j hj)⟩
      · have k9 : ¬ (1 : Int32) = 0 := by decide
        have hA2 : InvA (sI s 0 9 1) := cgA (gIc _ _ rfl) (gIc _ _ rfl) (gIc _ _ rfl) (gIc _ _ rfl) hA
        have hw2 : hasW (sI s 0 9 1) (nI p) = true := by
          unfold hasW
          rw [gIc _ _ rfl]
          exact h1
        refine ⟨-10 - 1, sI s 0 9 1, fnd s 1, ?_, ?_, inv_fnd hI 1⟩
        · simp only [fX10_read, e_hasSwim, e_isSheet, ob, h1, h2, b2t, if_false, aR_n hk' (by decide), rix1, l1, k9, e_found]
        · simp only [fX11_read, r_isSwim hA2, r_isSheet, ob, hw2, h2, b2t, if_false, aI_n hk' (by decide), gI_ne (a := 69) s 1 (Or.inl (show 69 ≠ 0 by omega)), l2, if_true, r_meets]
          rfl
