/-! DIGEST: the class, whole -/
noncomputable def dgV (s : Sg) (A B F : Nat → Nat) (K : Nat) (gv : Nat → Int32) : Int64 := fld (gWd s) (fld (gSw s) (fld (gRc s A B gv) (mx (mx (fld (gOr F) (mx (hDy s (fld (gLn s A B) (fld (gCn s) 17 8) 8)) (nI (bsN (wnN s) 255)).toInt64) 8) (fltV K).toInt64) (wF s).toInt64) (nR s)) (nS s)) 10
theorem c_first {s : Sg} (hI : Inv s) {L F : Nat → Nat} (h0 : L 0 = 255) (hLF : ∀ i, i < 8 → L i < 256 ∧ pcN (L i) = 8 - i ∧ isFl (wnN s) (L i) (F i) ∧ L (i + 1) = rmv (L i) (F i)) : ∃ t1 t2 t5 A B, fX8_survey s = some t1 ∧ fX8_surveyDays t1 = some t2 ∧ fX6_survey t2 = some (sgT t2) ∧ fX6_arrange (sgT t2) = some (arT (sgT t2) (wnN s) F) ∧ fX6_putRight (arT (sgT t2) (wnN s) F) = some t5 ∧ DgQ s A B F t5 := by
  obtain ⟨t1, A, B, a1, a2⟩ := e_survey hI
  obtain ⟨t2, b1, b2, b3⟩ := e_surveyDays hI a2
  have hE2 := b2.1
  have hI2 := inv_cg hE2 hI
  have ew := eq_wn hE2
  have harr := e_arrange (s := sgT t2) (wn_le hI) (fun x hx => by rw [← ew]; exact sgT_at t2 hx) h0 hLF
  generalize hτ : arT (sgT t2) (wnN s) F = τ at harr
  have hE3 : Eqv s τ := by rw [← hτ]; exact (hE2.tr (sgT_E t2)).tr (arT_E _ _ _)
  have gi : ∀ j, j ≠ 25 → j ≠ 26 → j ≠ 27 → j ≠ 28 → gI τ j = gI t2 j := fun j j1 j2 j3 j4 => by
    funext b
    rw [← hτ]
    unfold arT
    rw [frow_ne _ _ _ _ _ (Or.inl j4), gI_ne _ _ (Or.inl j1), frow_ne _ _ _ _ _ (Or.inl j3), sgT_ne _ j2]
  have gl : gL τ = gL t2 := by
    rw [← hτ]
    unfold arT
    rw [frow_gL, gL_sI, frow_gL]
    unfold sgT
    rw [bump2_gL, frow_gL]
  have hS : SvQ s A B τ := svq_cg b2 hE3 (fun j p q _ => gi j (by omega) (by omega) (by omega) (by omega)) (fun j _ _ => by rw [gl])
  obtain ⟨t5, d1, d2, d3, d4⟩ := e_putRight hI hS
  refine ⟨t1, t2, t5, A, B, a1, b1, e_sgSurvey hI2, hτ ▸ harr, hτ ▸ d1, ?_⟩
  have hE5 : Eqv s t5 := fun j k hc => by rw [d2]; exact hE3 j k hc
  refine ⟨svq_cg hS hE5 (fun j _ _ _ => by rw [d2]) (fun j _ _ => d3 j (by omega) (by omega)), ⟨fun d hd => ?_, ?_, ?_⟩, ?_, fun i hi => ?_, d4⟩
  · rw [d2, gi 22 (by decide) (by decide) (by decide) (by decide)]; exact b3.1 d hd
  · rw [d2, gi 19 (by decide) (by decide) (by decide) (by decide)]; exact b3.2.1
  · rw [d2, gi 19 (by decide) (by decide) (by decide) (by decide)]; exact b3.2.2
  · rw [d2, ← hτ]
    unfold arT
    rw [frow_ne _ _ _ _ _ (Or.inl (by decide)), gI_same]
  · have := frow_at (sI (frow (sgT t2) 27 0 (fun c => nI (bsN (wnN s) c)) 256) 25 5 (nI (bsN (wnN s) 255))) 28 0 (fun i => nI (F i)) 8 hi
    rw [Nat.zero_add] at this
    rw [d2, ← hτ]
    exact this
theorem c_world {s τ : Sg} (h36 : ∀ k, k < 10 → gI τ 36 k = wV s k) (h : Int64) : lpG fX10_digest_L122 FU (h, (0 : Int32)) τ = some (fld (gWd s) h 10, τ) := by
  refine lp_rd (body := fX10_digest_L122) 10 (fun k => (fld (gWd s) h k, nI k)) (fun k hk => ?_) ?_ FU (by decide)
  · have c : ¬ (9 : Int32) < nI k := nI_nlt (a := 9) (by omega) (by decide)
    simp only [fX10_digest_L122, if_neg c, aI_n hk (by decide), h36 k hk, ob, bd, e_mix, nI_1]
    rfl
  · have c : (9 : Int32) < nI 10 := by decide
    simp only [fX10_digest_L122, if_pos c]
theorem c_chain {s t1 t2 t3 t4 t5 t6 t7 t8 t9 ta tb tc td te : Sg} {v1 v2 v3 v4 v5 v6 v7 : Int64} {i1 i2 : Int32} (a1 : fX8_survey s = some t1) (a2 : fX8_surveyDays t1 = some t2) (a3 : fX6_survey t2 = some t3) (a4 : fX6_arrange t3 = some t4) (a5 : fX6_putRight t4 = some t5) (b1 : lpG fX10_digest_L41 FU ((17 : Int64), (0 : Int32)) t5 = some (v1, t6)) (b2 : fX10_mixLanes v1 t6 = some (v2, t7)) (b3 : fX10_mixDays v2 t7 = some (v3, t8)) (b4 : fX10_mixOrder v3 t8 = some (v4, t9)) (b5 : fX4_faultAt t9 = some (i1, ta)) (b6 : fX9_parse ta = some (i2, tb)) (b7 : fX10_mixRaces (mx (mx v4 i1.toInt64) i2.toInt64) tb = some (v5, tc)) (b8 : fX10_mixSwims v5 tc = some (v6, td)) (b9 : lpG fX10_digest_L122 FU (v6, (0 : Int32)) td = some (v7, te)) : fX10_digest s = some (v7, te) := by
  simp only [fX10_digest, a1, a2, a3, a4, a5, b1, b2, b3, b4, b5, b6, b7, b8, b9, ob2, e_mix]
theorem c_digest {s : Sg} (hI : Inv s) {L F : Nat → Nat} (h0 : L 0 = 255) (hLF : ∀ i, i < 8 → L i < 256 ∧ pcN (L i) = 8 - i ∧ isFl (wnN s) (L i) (F i) ∧ L (i + 1) = rmv (L i) (F i)) {K : Nat} (hK : stopR s K) {gv : Nat → Int32} (hg : ∀ r, gvV s K r (gv r)) : ∃ t A B, fX10_digest s = some (dgV s A B F K gv, t) ∧ Eqv s t ∧ ShOk (lc s) (lx s) A B ∧ NoFall (lc s) (lx s) A B := by
  obtain ⟨t1, t2, t5, A, B, a1, a0, a2, a3, a4, hQ⟩ := c_first hI h0 hLF
  have b1 := c_counts hI hQ.1.1 17
  obtain ⟨t7, d1, hQ7⟩ := c_lanes hI hQ (fld (gCn s) 17 8)
  obtain ⟨t8, e1, hQ8⟩ := c_days hI hQ7 (fld (gLn s A B) (fld (gCn s) 17 8) 8)
  have f1 := c_order hQ8 (hDy s (fld (gLn s A B) (fld (gCn s) 17 8) 8))
  have g1 := e_faultAt (inv_cg hQ8.1.1 hI) (stopR_eq hQ8.1.1 hK)
  obtain ⟨t9, i1, i2⟩ := e_wld hI hQ8.1.1
  have hQ9 : DgQ s A B F t9 := dgq_cg hQ8 (fun j _ p q => i2.1 j p q) (fun j _ _ => by rw [i2.2.1])
  have j1 := fun h => c_races hI hQ9 hK hg h
  have k1 := fun h => c_swims hI hQ9.1.1 h
  have l1 := fun h => c_world (s := s) i2.2.2 h
  refine ⟨t9, A, B, ?_, hQ9.1.1, hQ9.1.2.2.2.1, hQ9.1.2.2.2.2.1⟩
  unfold dgV
  exact c_chain a1 a0 a2 a3 a4 b1 d1 e1 f1 g1 i1 (j1 _) (k1 _) (l1 _)
