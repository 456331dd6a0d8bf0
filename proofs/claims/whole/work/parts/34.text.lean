/-! texts: type, wipe -/
theorem inv_text {σ τ : Sg} (r : ∀ a, (a == 30 || a == 31 || a == 32 || a == 33 || a == 65 || a == 66) = false → gI τ a = gI σ a) (hX' : InvX τ) (hI : Inv σ) : Inv τ := by
  obtain ⟨hA, hR, hS, hT, hD, hE, hX, hH, hF⟩ := hI
  refine ⟨cgA ?_ ?_ ?_ ?_ hA, cgR ?_ (r 2 rfl) (r 3 rfl) (r 50 rfl) (r 51 rfl) hR, cgS ?_ ?_ (r 4 rfl) (r 5 rfl) (r 6 rfl) (r 52 rfl) (r 53 rfl) (r 54 rfl) hS, cgT ?_ (r 2 rfl) (r 4 rfl) (r 7 rfl) (r 55 rfl) hT, cgD ?_ (r 4 rfl) (r 5 rfl) (r 6 rfl) hD, cgE (r 8 rfl) (r 56 rfl) hE, hX', cgH (fun j i h1 h2 => ?_) (r 69 rfl) (r 70 rfl) (r 71 rfl) (r 72 rfl) hH, cgF ?_ ?_ hF⟩
  all_goals try (first | rw [r 1 rfl] | rw [r 49 rfl] | rw [r 0 rfl])
  rw [r j (by simp; omega)]
theorem rix0 (k : Nat) : rix 0 k = 30 + 2 * k := rfl
theorem rix1 (k : Nat) : rix 1 k = 40 + 2 * k := rfl
/-- the text's size, on both sides, by its number -/
theorem tx_facts {s : Sg} (hX : InvX s) {t : Nat} (ht : t < 2) : ∃ n : Nat, n ≤ tlen t ∧ gI s (30 + 2 * t) 1 = nI n ∧ gI s 66 t = nI n ∧ ∀ i, i < n → gI s 65 (60 * t + i) = gI s (30 + 2 * t + 1) i ∧ okB (gI s (30 + 2 * t + 1) i) := by
  obtain ⟨x1, x2, x3, x4, x5, x6, x7, x8⟩ := hX
  match t, ht with
  | 0, _ => exact ⟨t0N s, x3, x1, x2, fun i hi => by simpa using x7 i hi⟩
  | 1, _ => exact ⟨t1N s, x6, x4, x5, fun i hi => x8 i hi⟩
theorem tx_back {s : Sg} (h : ∀ t, t < 2 → ∃ n : Nat, n ≤ tlen t ∧ gI s (30 + 2 * t) 1 = nI n ∧ gI s 66 t = nI n ∧ ∀ i, i < n → gI s 65 (60 * t + i) = gI s (30 + 2 * t + 1) i ∧ okB (gI s (30 + 2 * t + 1) i)) : InvX s := by
  obtain ⟨n, h1, h2, h3, h4⟩ := h 0 (by decide)
  obtain ⟨m, g1, g2, g3, g4⟩ := h 1 (by decide)
  have l0 : n ≤ 8 := h1
  have l1 : m ≤ 60 := g1
  have e0 : t0N s = n := by unfold t0N; rw [show (30 : Nat) = 30 + 2 * 0 from rfl, h2, cl_n (by omega)]
  have e1 : t1N s = m := by unfold t1N; rw [show (32 : Nat) = 30 + 2 * 1 from rfl, g2, cl_n (by omega)]
  unfold InvX
  rw [e0, e1]
  exact ⟨h2, h3, l0, g2, g3, l1, fun i hi => by simpa using h4 i hi, fun i hi => g4 i hi⟩
theorem tlen_le (t : Nat) : tlen t ≤ 60 := by
  unfold tlen
  split <;> omega
theorem all_wipe : ok_wipe Inv := by
  intro x s hI
  cases h1 : wi x 0 1
  · exact ⟨-2, s, s, by simp only [fX10_wipe, e_isText, ob, h1, b2f, if_true], by simp only [fX11_wipe, r_isText, ob, h1, b2f, if_true], hI⟩
  · obtain ⟨t, ht, rfl⟩ := wi_nat (n := 1) rfl (by decide) h1
    have ht' : t < 2 := by omega
    obtain ⟨n, k1, k2, k3, k4⟩ := tx_facts hI.2.2.2.2.2.2.1 ht'
    refine ⟨nI n, sI s (30 + 2 * t) 1 0, sI (sI s (30 + 2 * t) 1 0) 66 t 0, ?_, ?_, ?_⟩
    · simp only [fX10_wipe, e_isText, ob, h1, b2t, if_false, aR_n ht' (by decide), fX7_clear, bd, rix0, k2]
    · simp only [fX11_wipe, r_isText, ob, h1, b2t, if_false, aI_n ht' (by decide), wI_n ht' (by decide)]
      rw [gI_ne _ _ (Or.inl (by omega)), k3]
    · refine inv_text (fun a ha => ?_) (tx_back (fun u hu => ?_)) hI
      · simp only [Bool.or_eq_false_iff, beq_eq_false_iff_ne, ne_eq] at ha
        rw [gI_row _ _ (by omega), gI_row _ _ (by omega)]
      · by_cases e : u = t
        · subst e
          refine ⟨0, by omega, ?_, ?_, fun i hi => by omega⟩
          · rw [gI_ne _ _ (Or.inl (by omega)), gI_same]; rfl
          · rw [gI_same]; rfl
        · obtain ⟨m, g1, g2, g3, g4⟩ := tx_facts hI.2.2.2.2.2.2.1 hu
          refine ⟨m, g1, ?_, ?_, fun i hi => ?_⟩
          · rw [gI_ne _ _ (Or.inl (by omega)), gI_ne _ _ (Or.inl (by omega)), g2]
          · rw [gI_ne _ _ (Or.inr e), gI_ne _ _ (Or.inl (by omega)), g3]
          · rw [gI_ne _ _ (Or.inl (by omega)), gI_ne _ _ (Or.inl (by omega)), gI_ne _ _ (Or.inl (by omega)), gI_ne _ _ (Or.inl (by omega))]
            exact g4 i hi
theorem tl_eq {t : Nat} (h : t < 2) (s : Sg) : ((if nI t = 0 then some (8 : Int32) else some (60 : Int32)) : Option Int32) = some (nI (tlen t)) := by
  match t, h with
  | 0, _ => rfl
  | 1, _ => rfl
theorem all_type : ok_type Inv := by
  intro x y s hI
  cases h1 : wi x 0 1
  · exact ⟨-2, s, s, by simp only [fX10_type, e_isText, ob, h1, b2f, if_true], by simp only [fX11_type, r_isText, ob, h1, b2f, if_true], hI⟩
  · cases h2 : wi y 0 255
    · exact ⟨-2, s, s, by simp only [fX10_type, e_isText, e_within, ob, h1, h2, b2f, b2t, if_true, if_false], by simp only [fX11_type, r_isText, e_in, ob, h1, h2, b2f, b2t, if_true, if_false], hI⟩
    · obtain ⟨t, ht, rfl⟩ := wi_nat (n := 1) rfl (by decide) h1
      obtain ⟨v, hv, rfl⟩ := wi_nat (n := 255) rfl (by decide) h2
      have ht' : t < 2 := by omega
      have hl := tlen_le t
      obtain ⟨n, k1, k2, k3, k4⟩ := tx_facts hI.2.2.2.2.2.2.1 ht'
      have z10 : ((1 : Int32) = 0) = False := by simp
      by_cases hf : n = tlen t
      · have c1 : ¬ nI n < Int32.ofNat (tlen t) := nI_nlt (b := tlen t) (by omega) (by omega)
        refine ⟨-4, s, s, ?_, ?_, hI⟩
        · simp only [fX10_type, e_isText, e_within, ob, h1, h2, b2t, if_false, aR_n ht' (by decide), fX7_isFull, rix0, k2, if_neg c1, z10]
        · simp only [fX11_type, r_isText, e_in, ob, h1, h2, b2t, if_false, aI_n ht' (by decide), tl_eq ht' s, k3, hf, if_true]
      · have hn : n < tlen t := by omega
        have c1 : nI n < Int32.ofNat (tlen t) := nI_lt (b := tlen t) hn (by omega)
        have c2 : ¬ nI n = nI (tlen t) := fun e => hf (nI_inj (by omega) (by omega) e)
        have w1 : wI s (30 + 2 * t + 1) (tlen t) (nI n) (nI v) = some (sI s (30 + 2 * t + 1) n (nI v)) := wI_n hn (by omega)
        have g1 : gI (sI s (30 + 2 * t + 1) n (nI v)) (30 + 2 * t) 1 = nI n := by rw [gI_ne _ _ (Or.inl (by omega)), k2]
        refine ⟨nI (n + 1), sI (sI s (30 + 2 * t + 1) n (nI v)) (30 + 2 * t) 1 (nI (n + 1)), sI (sI (sI (sI s (30 + 2 * t + 1) n (nI v)) (30 + 2 * t) 1 (nI (n + 1))) 65 (60 * t + n) (nI v)) 66 t (nI (n + 1)), ?_, ?_, ?_⟩
        · simp only [fX10_type, e_isText, e_within, ob, h1, h2, b2t, if_false, aR_n ht' (by decide), fX7_isFull, fX7_append, bd, rix0, k2, if_pos c1, if_true, w1, g1, nI_1, gI_same]
        · have e66 : ∀ τ : Sg, gI (sI (sI τ (30 + 2 * t + 1) n (nI v)) (30 + 2 * t) 1 (nI (n + 1))) 66 t = gI τ 66 t := fun τ => by rw [gI_ne _ _ (Or.inl (by omega)), gI_ne _ _ (Or.inl (by omega))]
          have e7 : (60 : Int32) * nI t + nI n = nI (60 * t + n) := by rw [show (60 : Int32) = nI 60 from rfl, pk_mul, nI_add]
          have w2 : ∀ τ : Sg, wI τ 65 120 (nI (60 * t + n)) (nI v) = some (sI τ 65 (60 * t + n) (nI v)) := fun τ => wI_n (by omega) (by decide)
          simp only [fX11_type, r_isText, e_in, ob, h1, h2, b2t, if_false, aI_n ht' (by decide), wI_n ht' (by decide), tl_eq ht' s, e66, k3, if_neg c2, e7, w2, gI_same]
          rw [gI_ne _ _ (Or.inl (by omega)), e66, k3, nI_1]
        · refine inv_text (fun a ha => ?_) (tx_back (fun u hu => ?_)) hI
          · simp only [Bool.or_eq_false_iff, beq_eq_false_iff_ne, ne_eq] at ha
            rw [gI_row _ _ (by omega), gI_row _ _ (by omega), gI_row _ _ (by omega), gI_row _ _ (by omega)]
          · by_cases e : u = t
            · subst e
              refine ⟨n + 1, by omega, ?_, by rw [gI_same], fun i hi => ?_⟩
              · rw [gI_ne _ _ (Or.inl (by omega)), gI_ne _ _ (Or.inl (by omega)), gI_same]
              · rw [gI_ne _ _ (Or.inl (by omega) : 65 ≠ 66 ∨ _), gI_ne (a := 30 + 2 * u + 1) _ _ (Or.inl (by omega)), gI_ne (a := 30 + 2 * u + 1) _ _ (Or.inl (by omega)), gI_ne (a := 30 + 2 * u + 1) _ _ (Or.inl (by omega))]
                by_cases ei : i = n
                · subst ei
                  rw [gI_same, gI_same]
                  exact ⟨rfl, v, hv, rfl⟩
                · rw [gI_ne _ _ (Or.inr (by omega)), gI_ne _ _ (Or.inl (by omega)), gI_ne _ _ (Or.inl (by omega)), gI_ne _ _ (Or.inr ei)]
                  exact k4 i (by omega)
            · obtain ⟨m, g1, g2, g3, g4⟩ := tx_facts hI.2.2.2.2.2.2.1 hu
              refine ⟨m, g1, ?_, ?_, fun i hi => ?_⟩
              · rw [gI_ne _ _ (Or.inl (by omega)), gI_ne _ _ (Or.inl (by omega)), gI_ne _ _ (Or.inl (by omega)), gI_ne _ _ (Or.inl (by omega)), g2]
              · rw [gI_ne _ _ (Or.inr e), gI_ne _ _ (Or.inl (by omega)), gI_ne _ _ (Or.inl (by omega)), gI_ne _ _ (Or.inl (by omega)), g3]
              · have hm := tlen_le u
                rw [gI_ne (a := 65) _ _ (Or.inl (by omega)), gI_ne (a := 65) _ _ (Or.inr (by omega)), gI_ne (a := 65) _ _ (Or.inl (by omega)), gI_ne (a := 65) _ _ (Or.inl (by omega)), gI_ne (a := 30 + 2 * u + 1) _ _ (Or.inl (by omega)), gI_ne (a := 30 + 2 * u + 1) _ _ (Or.inl (by omega)), gI_ne (a := 30 + 2 * u + 1) _ _ (Or.inl (by omega)), gI_ne (a := 30 + 2 * u + 1) _ _ (Or.inl (by omega))]
                exact g4 i hi
