/-! sheets: sheet, lose, put, get -/
theorem inv_sheet {σ τ : Sg} (r : ∀ a, (decide (40 ≤ a ∧ a ≤ 47) || decide (69 ≤ a ∧ a ≤ 73)) = false → gI τ a = gI σ a) (hH' : InvH τ) (hI : Inv σ) : Inv τ := by
  obtain ⟨hA, hR, hS, hT, hD, hE, hX, hH, hF⟩ := hI
  refine ⟨cgA ?_ ?_ ?_ ?_ hA, cgR ?_ (r 2 rfl) (r 3 rfl) (r 50 rfl) (r 51 rfl) hR, cgS ?_ ?_ (r 4 rfl) (r 5 rfl) (r 6 rfl) (r 52 rfl) (r 53 rfl) (r 54 rfl) hS, cgT ?_ (r 2 rfl) (r 4 rfl) (r 7 rfl) (r 55 rfl) hT, cgD ?_ (r 4 rfl) (r 5 rfl) (r 6 rfl) hD, cgE (r 8 rfl) (r 56 rfl) hE, cgX ?_ ?_ (r 31 rfl) (r 33 rfl) (r 66 rfl) (r 65 rfl) hX, hH', cgF ?_ ?_ hF⟩
  all_goals (first | rw [r 1 rfl] | rw [r 49 rfl] | rw [r 0 rfl] | rw [r 30 rfl] | rw [r 32 rfl])
/-- one sheet on both sides -/
def HP (σ : Sg) (k : Nat) : Prop := ((gI σ (40 + 2 * k) 0 = 0 ∧ gI σ 69 k = 1) ∨ (gI σ (40 + 2 * k) 0 = 1 ∧ gI σ 69 k = 0)) ∧ gI σ 70 k = gI σ (40 + 2 * k) 1 ∧ gI σ 71 k = gI σ (40 + 2 * k) 2 ∧ (∃ n : Nat, n ≤ 2 ∧ gI σ (40 + 2 * k) 1 = nI n) ∧ (∃ n : Nat, n ≤ 48 ∧ gI σ (40 + 2 * k) 2 = nI n) ∧ ∀ i, i < 48 → gI σ 72 (48 * k + i) = gI σ (40 + 2 * k + 1) i
theorem sh_keep {σ τ : Sg} {u : Nat} (h1 : ∀ b, gI τ (40 + 2 * u) b = gI σ (40 + 2 * u) b) (h2 : ∀ b, gI τ (40 + 2 * u + 1) b = gI σ (40 + 2 * u + 1) b) (h3 : gI τ 69 u = gI σ 69 u) (h4 : gI τ 70 u = gI σ 70 u) (h5 : gI τ 71 u = gI σ 71 u) (h6 : ∀ i, i < 48 → gI τ 72 (48 * u + i) = gI σ 72 (48 * u + i)) (h : HP σ u) : HP τ u := by
  obtain ⟨c1, c2, c3, c4, c5, c6⟩ := h
  unfold HP
  rw [h1 0, h1 1, h1 2, h3, h4, h5]
  exact ⟨c1, c2, c3, c4, c5, fun i hi => by rw [h6 i hi, h2 i]; exact c6 i hi⟩
theorem wZ0 {σ : Sg} {k : Nat} (h : k < 4) : wZ σ 69 4 (nI k) 0 = some (sI σ 69 k 0) := wZ_n (b := false) h (by decide)
theorem wZ1 {σ : Sg} {k : Nat} (h : k < 4) : wZ σ 69 4 (nI k) 1 = some (sI σ 69 k 1) := wZ_n (b := true) h (by decide)
theorem z10 : ((1 : Int32) = 0) = False := by simp
theorem all_lose : ok_lose Inv := by
  intro x s hI
  cases h1 : wi x 0 3
  · exact ⟨-2, s, s, by simp only [fX10_lose, e_isSheet, ob, h1, b2f, if_true], by simp only [fX11_lose, r_isSheet, ob, h1, b2f, if_true], hI⟩
  · obtain ⟨k, hk, rfl⟩ := wi_nat (n := 3) rfl (by decide) h1
    have hk' : k < 4 := by omega
    obtain ⟨b1, b2, b3, b4, b5, b6⟩ := hI.2.2.2.2.2.2.2.1 k hk'
    rcases b1 with ⟨l1, l2⟩ | ⟨l1, l2⟩
    · refine ⟨gI s (40 + 2 * k) 2, sI s (40 + 2 * k) 0 1, sI (sI s (40 + 2 * k) 0 1) 69 k 0, ?_, ?_, ?_⟩
      · simp only [fX10_lose, e_isSheet, ob, h1, b2t, if_false, aR_n hk' (by decide), rix1, l1, if_true, bd]
        rw [gI_ne _ _ (Or.inr (by decide))]
      · have e1 : gI (sI s (40 + 2 * k) 0 1) 69 k = 1 := by rw [gI_ne _ _ (Or.inl (by omega)), l2]
        simp only [fX11_lose, r_isSheet, ob, h1, b2t, if_false, aI_n hk' (by decide), e1, z10, wZ0 hk']
        rw [gI_ne _ _ (Or.inl (by omega)), gI_ne _ _ (Or.inl (by omega)), b3]
      · refine inv_sheet (fun a ha => ?_) (fun u hu => ?_) hI
        · simp at ha
          rw [gI_row _ _ (by omega), gI_row _ _ (by omega)]
        · obtain ⟨c1, c2, c3, c4, c5, c6⟩ := hI.2.2.2.2.2.2.2.1 u hu
          by_cases e : u = k
          · subst e
            rw [gI_ne (a := 40 + 2 * u) (b := 0) _ _ (Or.inl (by omega)), gI_same, gI_same, gI_ne (a := 40 + 2 * u) (b := 1) _ _ (Or.inl (by omega)), gI_ne (a := 40 + 2 * u) (b := 1) _ _ (Or.inr (by omega)), gI_ne (a := 40 + 2 * u) (b := 2) _ _ (Or.inl (by omega)), gI_ne (a := 40 + 2 * u) (b := 2) _ _ (Or.inr (by omega)), gI_ne (a := 70) _ _ (Or.inl (by omega)), gI_ne (a := 70) _ _ (Or.inl (by omega)), gI_ne (a := 71) _ _ (Or.inl (by omega)), gI_ne (a := 71) _ _ (Or.inl (by omega))]
            refine ⟨Or.inr ⟨rfl, rfl⟩, c2, c3, c4, c5, fun i hi => ?_⟩
            rw [gI_ne (a := 72) _ _ (Or.inl (by omega)), gI_ne (a := 72) _ _ (Or.inl (by omega)), gI_ne (a := 40 + 2 * u + 1) _ _ (Or.inl (by omega)), gI_ne (a := 40 + 2 * u + 1) _ _ (Or.inl (by omega))]
            exact c6 i hi
          · have z : ∀ a b, (a = 69 → b ≠ k) → a ≠ 40 + 2 * k → gI (sI (sI s (40 + 2 * k) 0 1) 69 k 0) a b = gI s a b := by
              intro a b q1 q2
              rw [gI_ne _ _ (by by_cases h : a = 69; exact Or.inr (q1 h); exact Or.inl h), gI_ne _ _ (Or.inl q2)]
            exact sh_keep (fun b => z _ b (by omega) (by omega)) (fun b => z _ b (by omega) (by omega)) (z 69 u (by omega) (by omega)) (z 70 u (by omega) (by omega)) (z 71 u (by omega) (by omega)) (fun i _ => z 72 _ (by omega) (by omega)) ⟨c1, c2, c3, c4, c5, c6⟩
    · have n1 : ¬ gI s (40 + 2 * k) 0 = 0 := by rw [l1]; decide
      refine ⟨-10 - 1, sI s 0 9 1, fnd s 1, ?_, ?_, inv_fnd hI 1⟩
      · simp only [fX10_lose, e_isSheet, ob, h1, b2t, if_false, aR_n hk' (by decide), rix1, if_neg n1, e_found]
      · have e1 : gI (sI s 0 9 1) 69 k = 0 := by rw [gI_ne _ _ (Or.inl (by omega)), l2]
        simp only [fX11_lose, r_isSheet, ob, h1, b2t, if_false, aI_n hk' (by decide), e1, if_true, r_meets]
        rfl
/-- the rows of one sheet behind a loop that makes its items 0 -/
def zrow (s : Sg) (j o : Nat) : Nat → Sg
  | 0 => s
  | k + 1 => sI (zrow s j o k) j (o + k) 0
theorem zrow_ne (s : Sg) (j o n : Nat) {a b : Nat} (h : a ≠ j ∨ b < o ∨ o + n ≤ b) : gI (zrow s j o n) a b = gI s a b := by
  induction n with
  | zero => rfl
  | succ n ih =>
    unfold zrow
    rw [gI_ne _ _ (by omega)]
    exact ih (by omega)
theorem zrow_at (s : Sg) (j o n : Nat) {i : Nat} (h : i < n) : gI (zrow s j o n) j (o + i) = 0 := by
  induction n with
  | zero => omega
  | succ n ih =>
    unfold zrow
    by_cases e : i = n
    · subst e; rw [gI_same]
    · rw [gI_ne _ _ (Or.inr (by omega))]
      exact ih (by omega)
theorem e_renew (s : Sg) (b : Nat) (x y : Int32) : fX5_renew b x y s = some (zrow (sI (sI (sI s b 0 0) b 1 x) b 2 y) (b + 1) 0 48) := by
  have hl : ∀ σ : Sg, lpG (fX5_renew_L17 b) FU (0 : Int32) σ = some ((), zrow σ (b + 1) 0 48) := by
    intro σ
    refine lp_run 48 (fun k => nI k) (fun k => zrow σ (b + 1) 0 k) (fun k hk => ?_) ?_ FU (by decide)
    · have c : ¬ (48 : Int32) ≤ nI k := nI_ge (b := 48) hk (by decide)
      simp only [fX5_renew_L17, if_neg c, wI_n hk (by decide), ob, bd, nI_1]
      rw [zrow, Nat.zero_add]
    · have c : (48 : Int32) ≤ nI 48 := by decide
      simp only [fX5_renew_L17, if_pos c]
  simp only [fX5_renew, bd, hl, ob]
theorem r_sheetL {k : Nat} (hk : k < 4) (y : Int32) (s : Sg) : lpG (fX11_sheet_L59 (nI k) y) FU (0 : Int32) s = some ((), zrow s 72 (48 * k) 48) := by
  refine lp_run 48 (fun k => nI k) (fun i => zrow s 72 (48 * k) i) (fun i hi => ?_) ?_ FU (by decide)
  · have c : ¬ (48 : Int32) ≤ nI i := nI_ge (b := 48) hi (by decide)
    have e : (48 : Int32) * nI k + nI i = nI (48 * k + i) := by rw [show (48 : Int32) = nI 48 from rfl, pk_mul, nI_add]
    simp only [fX11_sheet_L59, if_neg c, e, wI_n (show 48 * k + i < 192 by omega) (by decide), ob, bd, nI_1]
    rw [zrow]
  · have c : (48 : Int32) ≤ nI 48 := by decide
    simp only [fX11_sheet_L59, if_pos c]
theorem all_sheet : ok_sheet Inv := by
  intro x y v s hI
  cases h1 : wi x 0 3
  · exact ⟨-2, s, s, by simp only [fX10_sheet, e_isSheet, ob, h1, b2f, if_true], by simp only [fX11_sheet, r_isSheet, ob, h1, b2f, if_true], hI⟩
  · cases h2 : wi y 0 2
    · exact ⟨-2, s, s, by simp only [fX10_sheet, e_isSheet, e_isType, ob, h1, h2, b2f, b2t, if_true, if_false], by simp only [fX11_sheet, r_isSheet, e_in, ob, h1, h2, b2f, b2t, if_true, if_false], hI⟩
    · obtain ⟨k, hk, rfl⟩ := wi_nat (n := 3) rfl (by decide) h1
      obtain ⟨t, ht, rfl⟩ := wi_nat (n := 2) rfl (by decide) h2
      have hk' : k < 4 := by omega
      by_cases c1 : v ≤ 48
      · by_cases c2 : 0 ≤ v
        · obtain ⟨n, hn, rfl⟩ := nI_of2 (x := v) (M := 48) (n := 48) rfl (Int32.not_lt.mpr c2) c1
          refine ⟨nI n, zrow (sI (sI (sI s (40 + 2 * k) 0 0) (40 + 2 * k) 1 (nI t)) (40 + 2 * k) 2 (nI n)) (40 + 2 * k + 1) 0 48, zrow (sI (sI (sI (zrow (sI (sI (sI s (40 + 2 * k) 0 0) (40 + 2 * k) 1 (nI t)) (40 + 2 * k) 2 (nI n)) (40 + 2 * k + 1) 0 48) 69 k 1) 70 k (nI t)) 71 k (nI n)) 72 (48 * k) 48, ?_, ?_, ?_⟩
          · simp only [fX10_sheet, e_isSheet, e_isType, ob, h1, h2, b2t, if_false, if_pos c1, if_pos c2, aR_n hk' (by decide), rix1, e_renew]
          · simp only [fX11_sheet, r_isSheet, e_in, ob, h1, h2, b2t, if_false, if_pos c1, if_pos c2, wZ1 hk', wI_n hk' (by decide), r_sheetL hk']
          · have z : ∀ a b, (40 + 2 * k ≠ a ∧ 40 + 2 * k + 1 ≠ a) → (a = 69 ∨ a = 70 ∨ a = 71 → b ≠ k) → (a = 72 → b < 48 * k ∨ 48 * k + 48 ≤ b) → gI (zrow (sI (sI (sI (zrow (sI (sI (sI s (40 + 2 * k) 0 0) (40 + 2 * k) 1 (nI t)) (40 + 2 * k) 2 (nI n)) (40 + 2 * k + 1) 0 48) 69 k 1) 70 k (nI t)) 71 k (nI n)) 72 (48 * k) 48) a b = gI s a b := by
              intro a b q1 q2 q3
              rw [zrow_ne _ _ _ _ (by omega), gI_ne _ _ (by omega), gI_ne _ _ (by omega), gI_ne _ _ (by omega), zrow_ne _ _ _ _ (by omega), gI_ne _ _ (by omega), gI_ne _ _ (by omega), gI_ne _ _ (by omega)]
            refine inv_sheet (fun a ha => ?_) (fun u hu => ?_) hI
            · simp at ha
              funext b
              exact z a b (by omega) (by omega) (by omega)
            · obtain ⟨d1, d2, d3, d4, d5, d6⟩ := hI.2.2.2.2.2.2.2.1 u hu
              by_cases e : u = k
              · subst e
                have y0 : ∀ b, gI (zrow (sI (sI (sI (zrow (sI (sI (sI s (40 + 2 * u) 0 0) (40 + 2 * u) 1 (nI t)) (40 + 2 * u) 2 (nI n)) (40 + 2 * u + 1) 0 48) 69 u 1) 70 u (nI t)) 71 u (nI n)) 72 (48 * u) 48) (40 + 2 * u) b = gI (sI (sI (sI s (40 + 2 * u) 0 0) (40 + 2 * u) 1 (nI t)) (40 + 2 * u) 2 (nI n)) (40 + 2 * u) b := by
                  intro b
                  rw [zrow_ne _ _ _ _ (by omega), gI_ne _ _ (by omega), gI_ne _ _ (by omega), gI_ne _ _ (by omega), zrow_ne _ _ _ _ (by omega)]
                rw [y0 0, y0 1, y0 2]
                have k0 : gI (sI (sI (sI s (40 + 2 * u) 0 0) (40 + 2 * u) 1 (nI t)) (40 + 2 * u) 2 (nI n)) (40 + 2 * u) 0 = 0 := by rw [gI_ne _ _ (by omega), gI_ne _ _ (by omega), gI_same]
                have k1 : gI (sI (sI (sI s (40 + 2 * u) 0 0) (40 + 2 * u) 1 (nI t)) (40 + 2 * u) 2 (nI n)) (40 + 2 * u) 1 = nI t := by rw [gI_ne _ _ (by omega), gI_same]
                have k2 : gI (sI (sI (sI s (40 + 2 * u) 0 0) (40 + 2 * u) 1 (nI t)) (40 + 2 * u) 2 (nI n)) (40 + 2 * u) 2 = nI n := by rw [gI_same]
                rw [k0, k1, k2]
                refine ⟨Or.inl ⟨rfl, ?_⟩, ?_, ?_, ⟨t, ht, rfl⟩, ⟨n, hn, rfl⟩, fun i hi => ?_⟩
                · rw [zrow_ne _ _ _ _ (by omega), gI_ne _ _ (by omega), gI_ne _ _ (by omega), gI_same]
                · rw [zrow_ne _ _ _ _ (by omega), gI_ne _ _ (by omega), gI_same]
                · rw [zrow_ne _ _ _ _ (by omega), gI_same]
                · rw [zrow_at _ _ _ _ hi, zrow_ne _ _ _ _ (by omega), gI_ne _ _ (by omega), gI_ne _ _ (by omega), gI_ne _ _ (by omega), ← Nat.zero_add i, zrow_at _ _ _ _ hi]
              · exact sh_keep (fun b => z _ b (by omega) (by omega) (by omega)) (fun b => z _ b (by omega) (by omega) (by omega)) (z 69 u (by omega) (by omega) (by omega)) (z 70 u (by omega) (by omega) (by omega)) (z 71 u (by omega) (by omega) (by omega)) (fun i _ => z 72 _ (by omega) (by omega) (by omega)) ⟨d1, d2, d3, d4, d5, d6⟩
        · refine ⟨-10 - 5, sI s 0 9 5, fnd s 5, ?_, ?_, inv_fnd hI 5⟩
          · simp only [fX10_sheet, e_isSheet, e_isType, ob, h1, h2, b2t, if_false, if_pos c1, if_neg c2, e_found]
          · simp only [fX11_sheet, r_isSheet, e_in, ob, h1, h2, b2t, if_false, if_pos c1, if_neg c2, r_meets]
            rfl
      · refine ⟨-2, s, s, ?_, ?_, hI⟩
        · simp only [fX10_sheet, e_isSheet, e_isType, ob, h1, h2, b2t, if_false, if_neg c1]
        · simp only [fX11_sheet, r_isSheet, e_in, ob, h1, h2, b2t, if_false, if_neg c1]
