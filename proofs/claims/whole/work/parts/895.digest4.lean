/-! DIGEST: the reference -/
theorem rr_counts {s τ : Sg} (hI : Inv s) (hE : Eqv s τ) (h : Int64) : lpG fX11_digest_L6 FU (h, (0 : Int32)) τ = some (fld (gCn s) h 8, τ) := by
  refine lp_rd (body := fX11_digest_L6) 8 (fun k => (fld (gCn s) h k, nI k)) (fun k hk => ?_) ?_ FU (by decide)
  · have c : ¬ (8 : Int32) ≤ nI k := nI_ge (b := 8) hk (by decide)
    simp only [fX11_digest_L6, if_neg c, r_count (inv_cg hE hI), eq_cnt hE, ob, bd, nI_1]
    rfl
  · have c : (8 : Int32) ≤ nI 8 := by decide
    simp only [fX11_digest_L6, if_pos c]
theorem rr_lanes {s τ : Sg} {A B : Nat → Nat} (hI : Inv s) (hE : Eqv s τ) (hS : ShOk (lc s) (lx s) A B) (hN : NoFall (lc s) (lx s) A B) (h : Int64) : ∃ t, lpG fX11_digest_L33 FU (h, (0 : Int32)) τ = some (fld (gLn s A B) h 8, t) ∧ Eqv s t := by
  exact lp_ex (body := fX11_digest_L33) (b := fld (gLn s A B) h 8) 8 (fun k => (fld (gLn s A B) h k, nI k)) (fun _ t => Eqv s t) (fun l hl τ hE => by
      have c : ¬ (8 : Int32) ≤ nI l := nI_ge (b := 8) hl (by decide)
      obtain ⟨υ, v1, hE2⟩ := rr_cts hI hE hl
      obtain ⟨t, u1, u2⟩ := lp_ex (body := fX11_digest_L55 (nI l)) (b := fld (gLw s A B l) (mx (fld (gLn s A B) h l) (nI (lc s l)).toInt64) 3) 3 (fun w => (fld (gLw s A B l) (mx (fld (gLn s A B) h l) (nI (lc s l)).toInt64) w, nI w)) (fun _ t => Eqv s t) (fun w hw τ hE => by
          have c : ¬ (3 : Int32) ≤ nI w := nI_ge (b := 3) hw (by decide)
          obtain ⟨t, a1, a2⟩ := rr_lane hI hE hS hN hl hw 0
          obtain ⟨t', b1, b2⟩ := rr_lane hI a2 hS hN hl hw 1
          refine ⟨t', ?_, b2⟩
          simp only [fX11_digest_L55, if_neg c, a1, b1, ob, bd, nI_1]
          rfl) (fun τ _ => by
          have c : (3 : Int32) ≤ nI 3 := by decide
          simp only [fX11_digest_L55, if_pos c]) FU (by decide) υ hE2
      refine ⟨t, ?_, u2⟩
      simp only [fX11_digest_L33, if_neg c, v1, ob, bd, nI_1]
      rw [show (0 : Int32) = nI 0 from rfl]
      have u1' : lpG (fX11_digest_L55 (nI l)) FU ((31 : Int64) * (fld (gLn s A B) h l) + (nI (lc s l)).toInt64, nI 0) υ = _ := u1
      rw [u1', ob]
      rfl) (fun τ _ => by
      have c : (8 : Int32) ≤ nI 8 := by decide
      simp only [fX11_digest_L33, if_pos c]) FU (by decide) τ hE
theorem rr_ord1 {s τ : Sg} (hI : Inv s) (hE : Eqv s τ) : ∃ t, fX11_orderNow (-1 : Int32) τ = some (nI (bsN (wnN s) 255), t) ∧ Eqv s t := by
  have hI2 := inv_cg hE hI
  have ho := r_orders hI2
  have this : gI (orT τ) 64 0 = nI (bsN (wnN s) 255) := by rw [← eq_wn hE]; exact orT_64 τ 255 (by decide)
  have e0 : aI (orT τ) 64 256 (0 : Int32) = some (nI (bsN (wnN s) 255)) := by rw [show (0 : Int32) = nI 0 from rfl, aI_n (by decide) (by decide), this]
  refine ⟨orT τ, ?_, hE.tr (orT_E τ)⟩
  simp only [fX11_orderNow, ho, ob, if_true, e0]
theorem rr_ord2 {s τ : Sg} (hI : Inv s) (hE : Eqv s τ) {L F : Nat → Nat} (h0 : L 0 = 255) (hLF : ∀ i, i < 8 → L i < 256 ∧ pcN (L i) = 8 - i ∧ isFl (wnN s) (L i) (F i) ∧ L (i + 1) = rmv (L i) (F i)) {p : Nat} (hp : p < 8) : ∃ t, fX11_orderNow (nI p) τ = some (nI (F p), t) ∧ Eqv s t := by
  have hI2 := inv_cg hE hI
  have ho := r_orders hI2
  have ew := eq_wn hE
  have hx : ¬ nI p = (-1 : Int32) := fun e => by
    have := congrArg Int32.toInt e
    rw [nI_toInt (by omega)] at this
    have e1 : (-1 : Int32).toInt = -1 := rfl
    omega
  have hloop : lpG (fX11_orderNow_L23 (nI p)) FU ((0 : Int32), (-1 : Int32), (0 : Int32)) (orT τ) = some (nI (F p), orT τ) := by
    have := lp_rd (body := fX11_orderNow_L23 (nI p)) (p + 1) (fun i => (nI (255 - L i), (if i = 0 then (-1 : Int32) else nI (F (i - 1))), nI i)) (σ := orT τ) (b := nI (F p)) (fun i hi => ?_) ?_ FU (by unfold FU; omega)
    · rw [h0] at this
      exact this
    · obtain ⟨q1, q2, q3, q4⟩ := hLF i (by omega)
      have c : ¬ nI p < nI i := nI_nlt (by omega) (by omega)
      rw [← ew] at q3
      simp only [fX11_orderNow_L23, if_neg c, r_found hI2 (nI p) (nI i) q1 q3, ob, bd, nI_1, or_set q1 q3.1 q3.2.1.1]
      rw [q4, if_neg (by omega), Nat.add_sub_cancel]
    · have c : nI p < nI (p + 1) := nI_lt (by omega) (by omega)
      simp only [fX11_orderNow_L23, if_pos c]
      rw [if_neg (by omega), Nat.add_sub_cancel]
  refine ⟨orT τ, ?_, hE.tr (orT_E τ)⟩
  simp only [fX11_orderNow, ho, ob, if_neg hx, hloop]
theorem rr_order {s τ : Sg} (hI : Inv s) (hE : Eqv s τ) {L F : Nat → Nat} (h0 : L 0 = 255) (hLF : ∀ i, i < 8 → L i < 256 ∧ pcN (L i) = 8 - i ∧ isFl (wnN s) (L i) (F i) ∧ L (i + 1) = rmv (L i) (F i)) (h : Int64) : ∃ t, lpG fX11_digest_L158 FU (h, (-1 : Int32)) τ = some (fld (gOr F) (mx h (nI (bsN (wnN s) 255)).toInt64) 8, t) ∧ Eqv s t := by
  obtain ⟨υ, v1, hE2⟩ := rr_ord1 hI hE
  have c : ¬ (8 : Int32) ≤ (-1 : Int32) := by decide
  have z : (-1 : Int32) + (1 : Int32) = nI 0 := rfl
  have st : fX11_digest_L158 (h, (-1 : Int32)) τ = some (.inl (mx h (nI (bsN (wnN s) 255)).toInt64, nI 0), υ) := by
    simp only [fX11_digest_L158, if_neg c, v1, ob, bd, z]
    rfl
  have eF : FU = 999999 + 1 := by unfold FU; omega
  rw [eF, lpG_s st]
  exact lp_ex (body := fX11_digest_L158) (b := fld (gOr F) (mx h (nI (bsN (wnN s) 255)).toInt64) 8) 8 (fun k => (fld (gOr F) (mx h (nI (bsN (wnN s) 255)).toInt64) k, nI k)) (fun _ t => Eqv s t) (fun k hk τ hE => by
      have c : ¬ (8 : Int32) ≤ nI k := nI_ge (b := 8) hk (by decide)
      obtain ⟨t, a1, a2⟩ := rr_ord2 hI hE h0 hLF hk
      refine ⟨t, ?_, a2⟩
      simp only [fX11_digest_L158, if_neg c, a1, ob, bd, nI_1]
      rfl) (fun τ _ => by
      have c : (8 : Int32) ≤ nI 8 := by decide
      simp only [fX11_digest_L158, if_pos c]) 999999 (by omega) υ hE2
theorem rr_races {s τ : Sg} {A B : Nat → Nat} (hI : Inv s) (hE : Eqv s τ) (hS : ShOk (lc s) (lx s) A B) (hN : NoFall (lc s) (lx s) A B) {K : Nat} (hK : stopR s K) {gv : Nat → Int32} (hg : ∀ r, gvV s K r (gv r)) (h : Int64) : ∃ t, lpG fX11_digest_L209 FU (h, (0 : Int32)) τ = some (fld (gRc s A B gv) h (nR s), t) ∧ Eqv s t := by
  have a3 := hI.1.2.2.1
  exact lp_ex (body := fX11_digest_L209) (b := fld (gRc s A B gv) h (nR s)) (nR s) (fun k => (fld (gRc s A B gv) h k, nI k)) (fun _ t => Eqv s t) (fun r hr τ hE => by
      have hIt := inv_cg hE hI
      have g0 : gI τ 49 0 = nI (nR s) := by rw [hIt.1.2.1, eq_nR hE]
      have c : ¬ nI (nR s) ≤ nI r := nI_ge hr (by omega)
      have w0 : fX11_tenthsNow (nI r) (0 : Int32) τ = some (nI (nT s (nI r)), τ) := by
        rw [r_tenthsNow hIt (nI r) (show wi 0 0 2 = true from rfl), ← (eq_nT hE).1]; rfl
      have w1 : fX11_tenthsNow (nI r) (1 : Int32) τ = some (nI (nE s (nI r)), τ) := by
        rw [r_tenthsNow hIt (nI r) (show wi 1 0 2 = true from rfl), ← (eq_nT hE).2]; rfl
      have w2 := r_givenNow hIt (stopR_eq hE hK) (show r < nR τ by rw [eq_nR hE]; exact hr) (gvV_eq hE (hg r))
      have hE2 : Eqv s (frow τ 67 0 (fun k => nI (rlN τ k)) K) := eqv_frow hE _ core67 K
      obtain ⟨t, m1, m2⟩ := r_medalsNow hI hE2 hS hN hr
      refine ⟨t, ?_, m2⟩
      simp only [fX11_digest_L209, g0, if_neg c, w0, w1, w2, m1, ob, bd, nI_1]
      rfl) (fun τ hE => by
      have hIt := inv_cg hE hI
      have g0 : gI τ 49 0 = nI (nR s) := by rw [hIt.1.2.1, eq_nR hE]
      have c : nI (nR s) ≤ nI (nR s) := Int32.le_refl _
      simp only [fX11_digest_L209, g0, if_pos c]) FU (by unfold FU; omega) τ hE
theorem rr_swims {s τ : Sg} (hI : Inv s) (hE : Eqv s τ) (h : Int64) : lpG fX11_digest_L279 FU (h, (0 : Int32)) τ = some (fld (gSw s) h (nS s), τ) := by
  have a6 := hI.1.2.2.2.2.2
  have hIt := inv_cg hE hI
  have g3 : gI τ 49 3 = nI (nS s) := by rw [hIt.1.2.2.2.2.1, eq_nS hE]
  have hT := hI.2.2.2.1.1
  exact lp_rd (body := fX11_digest_L279) (b := fld (gSw s) h (nS s)) (nS s) (fun k => (fld (gSw s) h k, nI k)) (σ := τ) (fun k hk => by
      have c : ¬ nI (nS s) ≤ nI k := nI_ge hk (by omega)
      obtain ⟨f0, -, f2, f3, -, f5, -, f7⟩ := sw_facts hI hk
      have v52 : aI τ 52 64 (nI k) = some (nI (rcN s k)) := by rw [aI_n f0 (by decide), hE 52 _ rfl, f2]
      have v50 : aI τ 50 16 (nI (rcN s k)) = some (nI (lnN s (rcN s k))) := by rw [aI_n f3 (by decide), hE 50 _ rfl, f5]
      have m1 := lp_rd (body := fX11_digest_L290 (nI k)) (b := fld (gSl s k) (fld (gSw s) h k) (lnN s (rcN s k))) (lnN s (rcN s k)) (fun l => (fld (gSl s k) (fld (gSw s) h k) l, nI l)) (σ := τ) (fun l hl => by
          have c : ¬ nI (lnN s (rcN s k)) ≤ nI l := nI_ge hl (by omega)
          have e4 : (4 : Int32) * nI k + nI l = nI (4 * k + l) := by rw [show (4 : Int32) = nI 4 from rfl, pk_mul, nI_add]
          have v55 : aI τ 55 256 (nI (4 * k + l)) = some (gI s 7 (4 * k + l)) := by rw [aI_n (by omega) (by decide), hE 55 _ rfl, hT _ (by omega)]
          simp only [fX11_digest_L290, v52, v50, ob, bd, if_neg c, e4, v55, nI_1]
          rfl) (by
          have c : nI (lnN s (rcN s k)) ≤ nI (lnN s (rcN s k)) := Int32.le_refl _
          simp only [fX11_digest_L290, v52, v50, ob, if_pos c]) FU (by unfold FU; omega)
      have m2 : lpG (fX11_digest_L290 (nI k)) FU (fld (gSw s) h k, (0 : Int32)) τ = _ := m1
      simp only [fX11_digest_L279, g3, if_neg c, m2, ob, bd, nI_1]
      rfl) (by
      have c : nI (nS s) ≤ nI (nS s) := Int32.le_refl _
      simp only [fX11_digest_L279, g3, if_pos c]) FU (by unfold FU; omega)
theorem rr_world {s τ : Sg} (hI : Inv s) (hE : Eqv s τ) (h : Int64) : ∃ t, lpG fX11_digest_L339 FU (h, (0 : Int32)) τ = some (fld (gWd s) h 10, t) ∧ Eqv s t := by
  exact lp_ex (body := fX11_digest_L339) (b := fld (gWd s) h 10) 10 (fun k => (fld (gWd s) h k, nI k)) (fun _ t => Eqv s t) (fun k hk τ hE => by
      have c : ¬ (10 : Int32) ≤ nI k := nI_ge (b := 10) hk (by decide)
      obtain ⟨t, a1, a2⟩ := r_worldNow hI hE (show k ≤ 9 by omega)
      refine ⟨t, ?_, a2⟩
      simp only [fX11_digest_L339, if_neg c, a1, ob, bd, nI_1]
      rfl) (fun τ _ => by
      have c : (10 : Int32) ≤ nI 10 := by decide
      simp only [fX11_digest_L339, if_pos c]) FU (by decide) τ hE
theorem rr_chain {s t1 t2 t3 t4 t5 t6 t7 t8 t9 ta tb tc : Sg} {v1 v2 v3 v4 v5 v6 : Int64} {i1 i2 i3 i4 i5 i6 : Int32} (e1 : lpG fX11_digest_L6 FU ((17 : Int64), (0 : Int32)) s = some (v1, t1)) (e2 : lpG fX11_digest_L33 FU (v1, (0 : Int32)) t1 = some (v2, t2)) (e3 : fX11_leanNow (0 : Int32) (9 : Int32) t2 = some (i1, t3)) (e4 : fX11_chanceNow t3 = some (i2, t4)) (e5 : fX11_ranNow (0 : Int32) t4 = some (i3, t5)) (e6 : fX11_ranNow (1 : Int32) t5 = some (i4, t6)) (e7 : lpG fX11_digest_L158 FU (mx (mx (mx (mx v2 i1.toInt64) i2.toInt64) i3.toInt64) i4.toInt64, (-1 : Int32)) t6 = some (v3, t7)) (e8 : fX11_ruleFault t7 = some (i5, t8)) (e9 : fX11_worldFault t8 = some (i6, t9)) (ea : lpG fX11_digest_L209 FU (mx (mx v3 i5.toInt64) i6.toInt64, (0 : Int32)) t9 = some (v4, ta)) (eb : lpG fX11_digest_L279 FU (v4, (0 : Int32)) ta = some (v5, tb)) (ec : lpG fX11_digest_L339 FU (v5, (0 : Int32)) tb = some (v6, tc)) : fX11_digest s = some (v6, tc) := by
  unfold mx at e7 ea
  simp only [fX11_digest, e1, e2, e3, e4, e5, e6, e7, e8, e9, ea, eb, ec, ob2, bd2]
theorem rr_digest {s τ : Sg} {A B : Nat → Nat} (hI : Inv s) (hE : Eqv s τ) (hS : ShOk (lc s) (lx s) A B) (hN : NoFall (lc s) (lx s) A B) {L F : Nat → Nat} (h0 : L 0 = 255) (hLF : ∀ i, i < 8 → L i < 256 ∧ pcN (L i) = 8 - i ∧ isFl (wnN s) (L i) (F i) ∧ L (i + 1) = rmv (L i) (F i)) {K : Nat} (hK : stopR s K) {gv : Nat → Int32} (hg : ∀ r, gvV s K r (gv r)) : ∃ t, fX11_digest τ = some (dgV s A B F K gv, t) ∧ Eqv s t := by
  have e1 := rr_counts hI hE 17
  obtain ⟨t2, e2, hE2⟩ := rr_lanes hI hE hS hN (fld (gCn s) 17 8)
  have hI2 := inv_cg hE2 hI
  have e3 : fX11_leanNow (0 : Int32) (9 : Int32) t2 = some (lvI t2 0 10, t2) := r_leanNow hI2 (f := 0) (t := 9) (by decide) (by decide)
  rw [eq_lv hE2] at e3
  obtain ⟨t4, e4, hE4'⟩ := ch_r hI2
  rw [eq_chV hE2] at e4
  have hE4 := hE2.tr hE4'
  have hI4 := inv_cg hE4 hI
  have e5 : fX11_ranNow (0 : Int32) t4 = some (nI (rall s 10).2.1, t4) := by rw [r_ranNow hI4, eq_rall hE4, if_pos rfl]
  have e6 : fX11_ranNow (1 : Int32) t4 = some (nI (rall s 10).2.2, t4) := by rw [r_ranNow hI4, eq_rall hE4, if_neg (by decide)]
  obtain ⟨t7, e7, hE7⟩ := rr_order hI hE4 h0 hLF (hDy s (fld (gLn s A B) (fld (gCn s) 17 8) 8))
  have e8 := r_ruleFault (inv_cg hE7 hI) (stopR_eq hE7 hK)
  have hE8 : Eqv s (frow t7 67 0 (fun k => nI (rlN t7 k)) K) := eqv_frow hE7 _ core67 K
  obtain ⟨t9, e9, b9, -⟩ := r_wld hI hE8
  have hE9 := kb_E hE8 b9
  obtain ⟨ta, ea, hEa⟩ := rr_races hI hE9 hS hN hK hg (mx (mx (fld (gOr F) (mx (hDy s (fld (gLn s A B) (fld (gCn s) 17 8) 8)) (nI (bsN (wnN s) 255)).toInt64) 8) (fltV K).toInt64) (wF s).toInt64)
  have eb := rr_swims hI hEa (fld (gRc s A B gv) (mx (mx (fld (gOr F) (mx (hDy s (fld (gLn s A B) (fld (gCn s) 17 8) 8)) (nI (bsN (wnN s) 255)).toInt64) 8) (fltV K).toInt64) (wF s).toInt64) (nR s))
  obtain ⟨tc, ec, hEc⟩ := rr_world hI hEa (fld (gSw s) (fld (gRc s A B gv) (mx (mx (fld (gOr F) (mx (hDy s (fld (gLn s A B) (fld (gCn s) 17 8) 8)) (nI (bsN (wnN s) 255)).toInt64) 8) (fltV K).toInt64) (wF s).toInt64) (nR s)) (nS s))
  refine ⟨tc, ?_, hEc⟩
  unfold dgV
  unfold hDy at e7 ea eb ec ⊢
  exact rr_chain e1 e2 e3 e4 e5 e6 e7 e8 e9 ea eb ec
