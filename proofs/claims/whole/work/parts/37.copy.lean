/-! copy -/
def hiB (m x y : Int32) : Bool := !(decide (x < 0)) && !(decide (y < 0)) && !(decide (m < x)) && !(decide (m - x < y))
theorem e_hasItems (s : Sg) (b : Nat) (x y : Int32) : fX5_hasItems b x y s = some (b2i (hiB (gI s b 2) x y), s) := by
  unfold fX5_hasItems hiB b2i
  by_cases h1 : x < 0
  · simp [h1]
  · by_cases h2 : y < 0
    · simp [h1, h2]
    · by_cases h3 : gI s b 2 < x
      · simp [h1, h2, h3]
      · by_cases h4 : gI s b 2 - x < y
        · simp [h1, h2, h3, h4]
        · simp [h1, h2, h3, h4]
theorem hiB_of {m : Nat} (hm : m ≤ 48) {i n : Nat} (h : i + n ≤ m) : hiB (nI m) (nI i) (nI n) = true := by
  unfold hiB
  have h1 : ¬ nI i < 0 := nI_pos (by omega)
  have h2 : ¬ nI n < 0 := nI_pos (by omega)
  have h3 : ¬ nI m < nI i := nI_nlt (by omega) (by omega)
  have h4 : ¬ nI m - nI i < nI n := by rw [pk_sub (by omega)]; exact nI_nlt (by omega) (by omega)
  simp [h1, h2, h3, h4]
theorem hiB_is {m : Nat} (hm : m ≤ 48) {x y : Int32} (h : hiB (nI m) x y = true) : ∃ i n : Nat, x = nI i ∧ y = nI n ∧ i + n ≤ m := by
  unfold hiB at h
  simp only [Bool.and_eq_true, Bool.not_eq_true', decide_eq_false_iff_not] at h
  obtain ⟨⟨⟨h1, h2⟩, h3⟩, h4⟩ := h
  obtain ⟨i, hi, rfl⟩ := nI_of h1
  obtain ⟨n, hn, rfl⟩ := nI_of h2
  rw [nI_ltI (by omega) hi] at h3
  rw [pk_sub (by omega), nI_ltI (by omega) hn] at h4
  exact ⟨i, n, rfl, rfl, by omega⟩
theorem copy_ref {s : Sg} {k t i j n : Nat} (hk : k < 4) (ht : t < 4) (h1 : i + n ≤ 48) (h2 : j + n ≤ 48) : lpG (fX11_copy_L120 (nI k) (nI i) (nI t) (nI j) (nI n)) FU (0 : Int32) s = some ((), frow s 73 0 (fun z => gI s 72 (48 * k + i + z)) n) := by
  refine lp_run n (fun z => nI z) (fun z => frow s 73 0 (fun z => gI s 72 (48 * k + i + z)) z) (fun z hz => ?_) ?_ FU (by unfold FU; omega)
  · have c : ¬ nI n ≤ nI z := nI_ge hz (by omega)
    have e : (48 : Int32) * nI k + nI i + nI z = nI (48 * k + i + z) := by rw [show (48 : Int32) = nI 48 from rfl, pk_mul, nI_add, nI_add]
    simp only [fX11_copy_L120, if_neg c, e, aI_n (show 48 * k + i + z < 192 by omega) (by decide), ob, wI_n (show z < 48 by omega) (by decide), bd, nI_1]
    rw [frow_ne _ _ _ _ _ (Or.inl (by decide)), frow, Nat.zero_add]
  · have c : nI n ≤ nI n := nI_le (Nat.le_refl _) (by omega)
    simp only [fX11_copy_L120, if_pos c]
theorem copy_ref2 {s : Sg} {t j n : Nat} (ht : t < 4) (h2 : j + n ≤ 48) : lpG (fX11_copy_L157 (nI t) (nI j) (nI n)) FU (0 : Int32) s = some ((), frow s 72 (48 * t + j) (fun z => gI s 73 z) n) := by
  refine lp_run n (fun z => nI z) (fun z => frow s 72 (48 * t + j) (fun z => gI s 73 z) z) (fun z hz => ?_) ?_ FU (by unfold FU; omega)
  · have c : ¬ nI n ≤ nI z := nI_ge hz (by omega)
    have e : (48 : Int32) * nI t + nI j + nI z = nI (48 * t + j + z) := by rw [show (48 : Int32) = nI 48 from rfl, pk_mul, nI_add, nI_add]
    simp only [fX11_copy_L157, if_neg c, e, aI_n (show z < 48 by omega) (by decide), ob, wI_n (show 48 * t + j + z < 192 by omega) (by decide), bd, nI_1]
    rw [frow_ne _ _ _ _ _ (Or.inl (by decide)), frow]
  · have c : nI n ≤ nI n := nI_le (Nat.le_refl _) (by omega)
    simp only [fX11_copy_L157, if_pos c]
theorem cp_row (s : Sg) (a b sp dp n j i : Nat) : gI (cpI s a b sp dp n) j i = if j = b then va_cpy (gI s a) (gI s b) sp dp n i else gI s j i := by
  unfold cpI gI
  by_cases h : j = b
  · simp only [h, if_true]
  · simp only [h, if_false]
theorem cpO_n {s : Sg} {a b sp dp n : Nat} (h1 : sp + n ≤ 48) (h2 : dp + n ≤ 48) : cpO s a 48 b 48 (nI sp) (nI dp) (nI n) = some (cpI s a b sp dp n) := by
  unfold cpO
  rw [if_neg, cl_n (by omega), cl_n (by omega), cl_n (by omega)]
  intro h
  rw [cl_n (by omega), cl_n (by omega), cl_n (by omega)] at h
  rcases h with h | h | h | h | h
  · exact nI_pos (by omega) h
  · exact nI_pos (by omega) h
  · exact nI_pos (by omega) h
  · omega
  · omega
theorem lg_nn {a b m : Nat} (ha : a < 2 ^ 31) (hb : b < 2 ^ 31) (hm : m < 2 ^ 31) : (0 < lg_cmp ((nI a).toInt64 + (nI b).toInt64) (nI m).toInt64) ↔ m < a + b := by
  rw [lg_cmp_gt, nI_l ha, nI_l hb, nI_l hm, lN_add, pk_lLT (by omega) (by omega)]
theorem lg_le {x y : Int64} : (lg_cmp x y ≤ 0) ↔ ¬ (0 < lg_cmp x y) := by rw [lg_cmp_le, lg_cmp_gt, Int64.not_lt]
theorem all_copy : ok_copy Inv := by
  intro x i' y j' n' s hI
  cases h1 : wi x 0 3
  · exact ⟨-2, s, s, by simp only [fX10_copy, e_isSheet, ob, h1, b2f, if_true], by simp only [fX11_copy, r_isSheet, ob, h1, b2f, if_true], hI⟩
  · cases h2 : wi y 0 3
    · exact ⟨-2, s, s, by simp only [fX10_copy, e_isSheet, ob, h1, h2, b2f, b2t, if_true, if_false], by simp only [fX11_copy, r_isSheet, ob, h1, h2, b2f, b2t, if_true, if_false], hI⟩
    · obtain ⟨k, hk, rfl⟩ := wi_nat (n := 3) rfl (by decide) h1
      obtain ⟨t, ht, rfl⟩ := wi_nat (n := 3) rfl (by decide) h2
      have hk' : k < 4 := by omega
      have ht' : t < 4 := by omega
      obtain ⟨c1, c2, c3, c4, ⟨mk, hmk, c5⟩, c6⟩ := HPof hI hk'
      obtain ⟨d1, d2, d3, d4, ⟨mt, hmt, d5⟩, d6⟩ := HPof hI ht'
      have f69 : ∀ v a, gI (sI s 0 9 v) 69 a = gI s 69 a := fun v a => gI_ne _ _ (Or.inl (by omega))
      have f70 : ∀ v a, gI (sI s 0 9 v) 70 a = gI s 70 a := fun v a => gI_ne _ _ (Or.inl (by omega))
      have f71 : ∀ v a, gI (sI s 0 9 v) 71 a = gI s 71 a := fun v a => gI_ne _ _ (Or.inl (by omega))
      rcases c1 with ⟨l1, l2⟩ | ⟨l1, l2⟩
      · rcases d1 with ⟨m1, m2⟩ | ⟨m1, m2⟩
        · by_cases hkind : gI s (40 + 2 * k) 1 = gI s (40 + 2 * t) 1
          · by_cases hb : (hiB (nI mk) i' n' && hiB (nI mt) j' n') = true
            · rw [Bool.and_eq_true] at hb
              obtain ⟨i, n, rfl, rfl, hin⟩ := hiB_is hmk hb.1
              obtain ⟨j, n2, rfl, e2, hjn⟩ := hiB_is hmt hb.2
              have hn2 : n2 < 2 ^ 31 := by omega
              have en : n = n2 := nI_inj (by omega) hn2 e2
              subst en
              have q1 : ¬ nI i < 0 := nI_pos (by omega)
              have q2 : ¬ nI j < 0 := nI_pos (by omega)
              have q3 : ¬ nI n < 0 := nI_pos (by omega)
              have q4 : ¬ 0 < lg_cmp ((nI i).toInt64 + (nI n).toInt64) (nI mk).toInt64 := by rw [lg_nn (by omega) (by omega) (by omega)]; omega
              have q5 : lg_cmp ((nI j).toInt64 + (nI n).toInt64) (nI mt).toInt64 ≤ 0 := by rw [lg_le, lg_nn (by omega) (by omega) (by omega)]; omega
              generalize hτ : cpI s (40 + 2 * k + 1) (40 + 2 * t + 1) i j n = τ
              have rw' : ∀ a b, a ≠ 40 + 2 * t + 1 → gI τ a b = gI s a b := by
                intro a b ha
                rw [← hτ, cp_row, if_neg ha]
              refine ⟨1, τ, frow (frow τ 73 0 (fun z => gI τ 72 (48 * k + i + z)) n) 72 (48 * t + j) (fun z => gI (frow τ 73 0 (fun z => gI τ 72 (48 * k + i + z)) n) 73 z) n, ?_, ?_, ?_⟩
              · simp only [fX10_copy, e_isSheet, ob, h1, h2, b2t, if_false, aR_n hk' (by decide), aR_n ht' (by decide), rix1, l1, m1, if_true, if_pos hkind, e_hasItems, c5, d5, hb.1, hb.2, cpO_n (show i + n ≤ 48 by omega) (show j + n ≤ 48 by omega), hτ]
              · have k9 : ¬ (1 : Int32) = 0 := by decide
                simp only [fX11_copy, r_isSheet, ob, h1, h2, b2t, if_false, aI_n hk' (by decide), aI_n ht' (by decide), rw' 69 _ (show 69 ≠ 40 + 2 * t + 1 by omega), rw' 70 _ (show 70 ≠ 40 + 2 * t + 1 by omega), rw' 71 _ (show 71 ≠ 40 + 2 * t + 1 by omega), l2, m2, k9, c2, d2, c3, d3, c5, d5, if_pos hkind, if_neg q1, if_neg q2, if_neg q3, if_neg q4, if_pos q5, copy_ref hk' ht' (show i + n ≤ 48 by omega) (show j + n ≤ 48 by omega), copy_ref2 ht' (show j + n ≤ 48 by omega)]
              · refine inv_items hI ht' (fun a b z1 z2 z3 => ?_) (fun b hb' => ?_) (fun z hz => ?_)
                · rw [frow_ne _ _ _ _ _ (Or.inl z2), frow_ne _ _ _ _ _ (Or.inl z3), rw' a b z1]
                · rw [frow_ne _ _ _ _ _ (by omega), frow_ne _ _ _ _ _ (Or.inl (by decide)), rw' 72 b (by omega)]
                · rw [frow_ne (a := 40 + 2 * t + 1) _ _ _ _ _ (Or.inl (by omega)), frow_ne (a := 40 + 2 * t + 1) _ _ _ _ _ (Or.inl (by omega)), ← hτ, cp_row (j := 40 + 2 * t + 1), if_pos rfl]
                  by_cases hin2 : j ≤ z ∧ z < j + n
                  · rw [pk_cpy_in hin2.1 hin2.2, show 48 * t + z = 48 * t + j + (z - j) by omega, frow_at _ _ _ _ _ (by omega)]
                    rw [show (z - j : Nat) = 0 + (z - j) by omega, frow_at _ _ _ _ _ (by omega), cp_row, if_neg (by omega), show 48 * k + i + (z - j) = 48 * k + (i + (z - j)) by omega, c6 _ (by omega), Nat.zero_add]
                  · rw [pk_cpy_out (by omega), frow_ne _ _ _ _ _ (by omega), frow_ne _ _ _ _ _ (Or.inl (by decide)), cp_row, if_neg (by omega), d6 z hz]
            · refine ⟨-10 - 2, sI s 0 9 2, fnd s 2, ?_, ?_, inv_fnd hI 2⟩
              · simp only [fX10_copy, e_isSheet, ob, h1, h2, b2t, if_false, aR_n hk' (by decide), aR_n ht' (by decide), rix1, l1, m1, if_true, if_pos hkind, e_hasItems, c5, d5]
                cases g1 : hiB (nI mk) i' n'
                · simp only [b2f, if_true, e_found, ob]
                · cases g2 : hiB (nI mt) j' n'
                  · simp only [b2f, b2t, if_true, if_false, e_found, ob]
                  · rw [g1, g2] at hb; exact absurd rfl hb
              · have k9 : ¬ (1 : Int32) = 0 := by decide
                simp only [fX11_copy, r_isSheet, ob, h1, h2, b2t, if_false, aI_n hk' (by decide), aI_n ht' (by decide), f69, f70, f71, l2, m2, k9, c2, d2, c3, d3, c5, d5, if_pos hkind, r_meets]
                by_cases q1 : i' < 0
                · rw [if_pos q1]; rfl
                · by_cases q2 : j' < 0
                  · rw [if_neg q1, if_pos q2]; rfl
                  · by_cases q3 : n' < 0
                    · rw [if_neg q1, if_neg q2, if_pos q3]; rfl
                    · obtain ⟨i, hi, rfl⟩ := nI_of q1
                      obtain ⟨j, hj, rfl⟩ := nI_of q2
                      obtain ⟨n, hn, rfl⟩ := nI_of q3
                      rw [if_neg q1, if_neg q2, if_neg q3]
                      by_cases q4 : mk < i + n
                      · rw [if_pos ((lg_nn hi hn (by omega)).mpr q4)]; rfl
                      · rw [if_neg (fun h => q4 ((lg_nn hi hn (by omega)).mp h))]
                        by_cases q5 : mt < j + n
                        · rw [if_neg (fun h => lg_le.mp h ((lg_nn hj hn (by omega)).mpr q5))]; rfl
                        · exfalso
                          apply hb
                          rw [hiB_of hmk (by omega), hiB_of hmt (by omega)]
                          rfl
          · refine ⟨-10 - 4, sI s 0 9 4, fnd s 4, ?_, ?_, inv_fnd hI 4⟩
            · simp only [fX10_copy, e_isSheet, ob, h1, h2, b2t, if_false, aR_n hk' (by decide), aR_n ht' (by decide), rix1, l1, m1, if_true, e_found]
              exact if_neg hkind
            · have k9 : ¬ (1 : Int32) = 0 := by decide
              simp only [fX11_copy, r_isSheet, ob, h1, h2, b2t, if_false, aI_n hk' (by decide), aI_n ht' (by decide), f69, f70, f71, l2, m2, k9, c2, d2, if_neg hkind, r_meets]
              rfl
        · have k9 : ¬ (1 : Int32) = 0 := by decide
          refine ⟨-10 - 1, sI s 0 9 1, fnd s 1, ?_, ?_, inv_fnd hI 1⟩
          · simp only [fX10_copy, e_isSheet, ob, h1, h2, b2t, if_false, aR_n hk' (by decide), aR_n ht' (by decide), rix1, l1, m1, if_true, k9, e_found]
          · simp only [fX11_copy, r_isSheet, ob, h1, h2, b2t, if_false, aI_n hk' (by decide), aI_n ht' (by decide), f69, l2, m2, k9, if_true, r_meets]
            rfl
      · have k9 : ¬ (1 : Int32) = 0 := by decide
        refine ⟨-10 - 1, sI s 0 9 1, fnd s 1, ?_, ?_, inv_fnd hI 1⟩
        · simp only [fX10_copy, e_isSheet, ob, h1, h2, b2t, if_false, aR_n hk' (by decide), aR_n ht' (by decide), rix1, l1, k9, e_found]
        · simp only [fX11_copy, r_isSheet, ob, h1, h2, b2t, if_false, aI_n hk' (by decide), aI_n ht' (by decide), f69, l2, if_true, r_meets]
          rfl
