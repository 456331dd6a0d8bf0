/-! MADE: the reference; both -/
theorem r_ruleFault2 {s : Sg} (hX : InvX s) {K : Nat} (hK : stopR s K) : fX11_ruleFault s = some (fltV K, frow s 67 0 (fun k => nI (rlN s k)) K) := by
  obtain ⟨x1, x2, x3, x4, x5, x6, x7, x8⟩ := hX
  obtain ⟨k1, k2, k3⟩ := hK
  have g66 : ∀ z, aI (frow s 67 0 (fun k => nI (rlN s k)) z) 66 2 (0 : Int32) = some (nI (t0N s)) := fun z => by
    rw [show (0 : Int32) = nI 0 from rfl, aI_n (by decide) (by decide), frow_ne _ _ _ _ _ (Or.inl (by decide)), x2]
  have g65 : ∀ z k, k < t0N s → aI (frow s 67 0 (fun k => nI (rlN s k)) z) 65 120 (nI k) = some (gI s 31 k) := fun z k hk => by
    rw [aI_n (by omega) (by decide), frow_ne _ _ _ _ _ (Or.inl (by decide)), (x7 k hk).1]
  have step : ∀ k, k < K → fX11_ruleFault_L4 (nI (smN s k), nI k) (frow s 67 0 (fun k => nI (rlN s k)) k) = some (.inl (nI (smN s (k + 1)), nI (k + 1)), frow s 67 0 (fun k => nI (rlN s k)) (k + 1)) := by
    intro k hk
    obtain ⟨q1, q2, q3, q4⟩ := okR (k2 k hk)
    have hm := smN_lt k (fun j hj => k2 j (by omega))
    have c : ¬ nI (t0N s) ≤ nI k := nI_ge (by omega) (by omega)
    have c2 : ¬ ((nI (smN s k) >>> (nI (rlN s k) &&& 31)) &&& 1) = (1 : Int32) := fun h => by rw [bt_has _ hm _ q2, q4] at h; cases h
    simp only [fX11_ruleFault_L4, g66, if_neg c, g65 k k (by omega), ob, bd, r_isLane, q3, b2t, if_false, fX11_has]
    simp only [q1, if_neg c2, ob, if_true, (bt_or _ hm _ q2).1, nI_1, wI_n (show k < 8 by omega) (by decide)]
    rw [frow, Nat.zero_add]
    rfl
  by_cases he : K = t0N s
  · have hl : lpG fX11_ruleFault_L4 FU ((0 : Int32), (0 : Int32)) s = some (.inr (), frow s 67 0 (fun k => nI (rlN s k)) K) := by
      refine lp_run K (fun k => (nI (smN s k), nI k)) (fun k => frow s 67 0 (fun k => nI (rlN s k)) k) step ?_ FU (by unfold FU; omega)
      have c : nI (t0N s) ≤ nI K := by rw [he]; exact nI_le (Nat.le_refl _) (by omega)
      simp only [fX11_ruleFault_L4, g66, ob, if_pos c]
    simp only [fX11_ruleFault, hl, ob, Sum.elim_inr, g66]
    unfold fltV
    by_cases h8 : K = 8
    · rw [if_pos h8, if_pos (by rw [← he, h8]; decide)]
    · have c8 : ¬ (8 : Int32) ≤ nI (t0N s) := nI_ge (b := 8) (by omega) (by decide)
      rw [if_neg h8, if_neg c8, he]
  · have hbad : badR s K := by rcases k3 with h | h; exact absurd h he; exact h
    have hl : lpG fX11_ruleFault_L4 FU ((0 : Int32), (0 : Int32)) s = some (.inl (nI K), frow s 67 0 (fun k => nI (rlN s k)) K) := by
      refine lp_run K (fun k => (nI (smN s k), nI k)) (fun k => frow s 67 0 (fun k => nI (rlN s k)) k) step ?_ FU (by unfold FU; omega)
      have hm := smN_lt K k2
      have c : ¬ nI (t0N s) ≤ nI K := nI_ge (by omega) (by omega)
      simp only [fX11_ruleFault_L4, g66, if_neg c, g65 K K (by omega), ob, bd, r_isLane, fX11_has]
      cases hw : wi (gI s 31 K - 48) 0 7
      · simp only [b2f, if_true]
      · obtain ⟨l, hl, e⟩ := wi_nat (n := 7) rfl (by decide) hw
        have hr : rlN s K = l := by unfold rlN; rw [e, cl_n (by omega)]
        have ht : Nat.testBit (smN s K) l = true := by
          cases h : Nat.testBit (smN s K) l
          · exact absurd ⟨hw, by rw [hr]; exact h⟩ hbad
          · rfl
        have c2 : ((nI (smN s K) >>> (nI l &&& 31)) &&& 1) = (1 : Int32) := (bt_has _ hm _ (by omega)).mpr ht
        simp only [b2t, if_false, e, if_pos c2, ob, z10]
    simp only [fX11_ruleFault, hl, ob, Sum.elim_inl]
    unfold fltV
    rw [if_neg (by omega)]
theorem r_lot {σ : Sg} {q : Nat → Int32} (hq : ∀ t, 1103515245 * q t + 12345 = q (t + 1)) {t d : Nat} (hd : d ≤ 9) (h : gI σ 49 27 = q t) : fX11_lot (nI (2 * d + 1)) σ = some (lotV (q (t + 1)) d, sI σ 49 27 (q (t + 1))) := by
  have e : (1103515245 : Int32) * gI σ 49 27 + 12345 = q (t + 1) := by rw [h, hq]
  have em := m_lot (q (t + 1)) d hd
  unfold shU at em
  simp only [fX11_lot, bd2, e, gI_same, em, ob2]
theorem r_makeTimes {τ : Sg} {n a sw lane d t0 : Nat} {q : Nat → Int32} (hq : ∀ t, 1103515245 * q t + 12345 = q (t + 1)) {v : Nat → Int32} (hn : n < 64) (ha4 : a ≤ 4) (hsw : sw < 24) (hl : lane < 8) (hV : KV v τ) (h9 : v 9 = nI d) (hd : d ≤ 9) (hx : gI τ 49 27 = q t0) (p3 p4 p6 p8 : Int32) : ∃ τ', lpG (fX11_made_L198 (nI a) p3 p4 p6 p8 (nI sw) (nI lane) (nI n)) FU (0 : Int32) τ = some ((), τ') ∧ (gI τ' 49 27 = q (t0 + a) ∧ ∀ j k, (j ≠ 49 ∨ k ≠ 27) → gI τ' j k = gI (frow τ 55 (4 * n) (tmF (gI τ 56 sw) v q t0 lane d) a) j k) := by
  generalize hT : tmF (gI τ 56 sw) v q t0 lane d = T
  refine lp_ex (body := fX11_made_L198 (nI a) p3 p4 p6 p8 (nI sw) (nI lane) (nI n)) (b := ()) a (fun z => nI z) (fun z τ' => gI τ' 49 27 = q (t0 + z) ∧ ∀ j k, (j ≠ 49 ∨ k ≠ 27) → gI τ' j k = gI (frow τ 55 (4 * n) T z) j k) (fun z hz τ1 ⟨p1, p2⟩ => ?_) (fun τ1 ⟨p1, p2⟩ => ?_) FU (by unfold FU; omega) τ ⟨by rw [Nat.add_zero]; exact hx, fun _ _ _ => rfl⟩
  · have z4 : z < 4 := by omega
    have ne : ∀ j k, (j ≠ 49 ∨ k ≠ 27) → j ≠ 55 → gI τ1 j k = gI τ j k := fun j k g1 g2 => by rw [p2 j k g1, frow_ne _ _ _ _ _ (Or.inl g2)]
    have c : ¬ nI a ≤ nI z := nI_ge hz (by omega)
    have w24 : gI τ1 49 24 = nI d := by rw [ne 49 24 (by decide) (by decide), hV.2.2, h9]
    have w23 : gI τ1 49 23 = v 8 := by rw [ne 49 23 (by decide) (by decide), hV.2.1]
    have w68 : gI τ1 68 lane = v lane := by rw [ne 68 lane (Or.inl (by decide)) (by decide), hV.1 lane hl]
    have w56 : gI τ1 56 sw = gI τ 56 sw := ne 56 sw (Or.inl (by decide)) (by decide)
    have w24' : gI (sI τ1 49 27 (q (t0 + z + 1))) 49 24 = nI d := by rw [gI_ne _ _ (Or.inr (by decide)), w24]
    refine ⟨sI (sI τ1 49 27 (q (t0 + z + 1))) 55 (4 * n + z) (T z), ?_, ?_, fun j k hj => ?_⟩
    · simp only [fX11_made_L198, if_neg c, aI_n hsw (by decide), ob2, bd2, w56, m2 (show z < 2 ^ 31 by omega), aI_n hl (by decide), w68, push_v, w24, w23, r2d, r_lot hq hd p1, w24', r_clm, t_ix', wI_n (show 4 * n + z < 256 by omega) (by decide), nI_1]
      rw [← hT]
      unfold tmF
      rw [h9]
    · rw [gI_ne _ _ (Or.inl (by decide)), gI_same, Nat.add_assoc]
    · rw [frow]
      refine pt_sI ?_ _ _ _
      rw [gI_ne _ _ hj]
      exact p2 j k hj
  · have c : nI a ≤ nI a := nI_le (Nat.le_refl _) (by omega)
    simp only [fX11_made_L198, if_pos c]
theorem r_rankM {s τ : Sg} (hE : InvE τ) (hs : sdN τ = sdN s) {f m k : Nat} (hf : f + m ≤ 24) (hk : k < m) (p1 p6 p8 : Int32) : lpG (fX11_made_L126 p1 (nI f) (nI m) p6 p8 (nI (f + k))) FU ((0 : Int32), nI f) τ = some (nI (rkM s f m k), τ) := by
  have eb : btr τ = btr s := by funext a b; unfold btr; rw [hs]
  refine lp_rd (body := fX11_made_L126 p1 (nI f) (nI m) p6 p8 (nI (f + k))) m (fun z => (nI (cn (fun j => btr s (f + j) (f + k)) z), nI (f + z))) (fun z hz => ?_) ?_ FU (by unfold FU; omega)
  · have c : ¬ nI f + nI m ≤ nI (f + z) := by rw [nI_add]; exact nI_ge (by omega) (by omega)
    have ec : cn (fun j => btr s (f + j) (f + k)) (z + 1) = cn (fun j => btr s (f + j) (f + k)) z + (if btr s (f + z) (f + k) = true then 1 else 0) := rfl
    simp only [fX11_made_L126, if_neg c, r_isBetter hE (show f + z < 24 by omega) (show f + k < 24 by omega), ob, bd, eb, nI_1, ec]
    cases g : btr s (f + z) (f + k)
    · simp only [b2f, if_true, ob, Int32.add_zero]; rfl
    · simp only [b2t, if_false, ob, if_true, nI_1]; rfl
  · have c : nI f + nI m ≤ nI (f + m) := by rw [nI_add]; exact nI_le (Nat.le_refl _) (by omega)
    simp only [fX11_made_L126, if_pos c]
    rfl
/-- the reference's state while it fills -/
def MR (s : Sg) (x : Int32) (a dy f m K z : Nat) (τ : Sg) : Prop := (∀ j k, j < 49 → core j k = true → gI τ j k = gI (mUp s x a dy f m K m) j k) ∧ (∀ j k, 49 ≤ j → core j k = true → gI τ j k = gI (mUp s x a dy f m K z) j k) ∧ KV (wV s) τ ∧ gI τ 49 27 = sdq x (a * z) ∧ (K = 8 → ∀ i, i < 8 → gI τ 67 i = nI (rlN s i))
theorem r_fillStep {s τ : Sg} {x : Int32} {a dy f m K z : Nat} (hI : Inv s) (hR : nR s < 16) (ha1 : 1 ≤ a) (ha4 : a ≤ 4) (hdy : dy ≤ 9) (hf : f + m ≤ 24) (hm : m ≤ 8) (hn : nS s + m ≤ 64) (hK : stopR s K) (hz : z < m) (h : MR s x a dy f m K z τ) : ∃ τ', fX11_made_L111 (nI a) (nI f) (nI m) (if K = 8 then 1 else 0) (nI (nR s)) (nI (f + z)) τ = some (.inl (nI (f + (z + 1))), τ') ∧ MR s x a dy f m K (z + 1) τ' := by
  obtain ⟨i1, i2, i3, i4, i5, i6, i7⟩ := m_facts (x := x) hI hR ha1 ha4 hdy hf hm hn hK z (by omega)
  obtain ⟨-, -, -, k4, -⟩ := m_facts (x := x) hI hR ha1 ha4 hdy hf hm hn hK m (Nat.le_refl _)
  obtain ⟨h1, h2, h3, h4, h5⟩ := h
  have hlt := ln_lt (f := f) hK hm hz
  obtain ⟨d, hd, hv9⟩ := q9_wV s
  have e49 : gI τ 49 3 = nI (nS s + z) := by rw [h2 49 3 (by decide) rfl, ← i2]; exact i1.1.2.2.2.2.1
  have r8 : gI τ 8 = gI s 8 := by funext k; rw [h1 8 k (by decide) rfl, k4 8 rfl]
  have r56 : gI τ 56 = gI s 56 := by funext k; rw [h2 56 k (by decide) rfl, i4 56 rfl]
  have hsd : sdN τ = sdN s := by funext k; unfold sdN; rw [r8]
  have hIE : InvE τ := cgE r8 r56 hI.2.2.2.2.2.1
  have c : ¬ nI f + nI m ≤ nI (f + z) := by rw [nI_add]; exact nI_ge (by omega) (by omega)
  have hlane : (if (if K = 8 then (1 : Int32) else 0) = 0 then some (nI (f + z) - nI f) else (aI τ 67 8 (nI (rkM s f m z))).bind fun v32 => some v32) = some (nI (lnM s K f m z)) := by
    unfold lnM
    by_cases g : K = 8
    · have hrk := rk_lt (s := s) (f := f) hz
      simp only [if_pos g]
      rw [if_neg (by decide), aI_n (show rkM s f m z < 8 by omega) (by decide), h5 g _ (by omega), ob]
    · simp only [if_neg g, if_true]
      rw [pk_sub (by omega), show f + z - f = z by omega]
  have qV : KV (wV s) (swUp' τ (nS s + z) (nI (nR s)) (nI (f + z)) (nI (lnM s K f m z))) := ⟨fun k hk => by rw [swUp'_ne _ _ _ _ _ (by omega) (by omega) (by omega)]; exact h3.1 k hk, by rw [swUp'_ne _ _ _ _ _ (by omega) (by omega) (by omega)]; exact h3.2.1, by rw [swUp'_ne _ _ _ _ _ (by omega) (by omega) (by omega)]; exact h3.2.2⟩
  have q27 : gI (swUp' τ (nS s + z) (nI (nR s)) (nI (f + z)) (nI (lnM s K f m z))) 49 27 = sdq x (a * z) := by rw [swUp'_ne _ _ _ _ _ (by omega) (by omega) (by omega), h4]
  have q56 : gI (swUp' τ (nS s + z) (nI (nR s)) (nI (f + z)) (nI (lnM s K f m z))) 56 (f + z) = gI s 8 (f + z) := by
    rw [swUp'_ne _ _ _ _ _ (by omega) (by omega) (by omega), r56]
    obtain ⟨g1, g2, -⟩ := hI.2.2.2.2.2.1 (f + z) (by omega)
    rw [g1, g2]
  obtain ⟨τ', k1, k2, k3⟩ := r_makeTimes (q := sdq x) (sw := f + z) (lane := lnM s K f m z) (n := nS s + z) (fun _ => rfl) (by omega) ha4 (by omega) hlt qV hv9 hd q27 (nI f) (nI m) (if K = 8 then 1 else 0) (nI (nR s))
  rw [q56] at k3
  have eT : tmF (gI s 8 (f + z)) (wV s) (sdq x) (a * z) (lnM s K f m z) d = tmM s x (a * z) (f + z) (lnM s K f m z) := by
    funext l
    unfold tmF tmM
    rw [show (wV s 9).toNatClampNeg = d by rw [hv9, cl_n (by omega)]]
  rw [eT] at k3
  refine ⟨τ', ?_, fun j k hj hc => ?_, fun j k hj hc => ?_, ⟨fun k hk => ?_, ?_, ?_⟩, ?_, fun g i hi => ?_⟩
  · simp only [fX11_made_L111, if_neg c, r_rankM hIE hsd hf hz, hlane, ob2, r_swimMore e49 (show nS s + z < 64 by omega), k1, bd2, nI_1]
    rfl
  · rw [k3 j k (Or.inl (by omega)), frow_ne _ _ _ _ _ (Or.inl (by omega)), swUp'_ne _ _ _ _ _ (by omega) (by omega) (by omega)]
    exact h1 j k hj hc
  · have h27 : j ≠ 49 ∨ k ≠ 27 := by
      by_cases e : j = 49
      · right
        intro e2
        rw [e, e2] at hc
        exact absurd hc Bool.false_ne_true
      · exact Or.inl e
    rw [k3 j k h27, mUp]
    refine pt_frow ?_ _ _ _ _
    rw [frow_ne _ 7 _ _ _ (Or.inl (by omega))]
    refine pt_swUp' ?_ _ _ _ _
    rw [swUp_ne _ _ _ _ _ (by omega) (by omega)]
    exact h2 j k hj hc
  · rw [k3 68 k (by omega), frow_ne _ _ _ _ _ (Or.inl (by decide))]; exact qV.1 k hk
  · rw [k3 49 23 (by omega), frow_ne _ _ _ _ _ (Or.inl (by decide))]; exact qV.2.1
  · rw [k3 49 24 (by omega), frow_ne _ _ _ _ _ (Or.inl (by decide))]; exact qV.2.2
  · rw [k2, Nat.mul_succ]
  · rw [k3 67 i (by omega), frow_ne _ _ _ _ _ (Or.inl (by decide)), swUp'_ne _ _ _ _ _ (by omega) (by omega) (by omega)]
    exact h5 g i hi
theorem all_made : ok_made Inv := by
  intro x0 x1 x2 x3 x s hI
  obtain ⟨a1, a2, a3, a4, a5, a6⟩ := hI.1
  have bad : fX10_made x0 x1 x2 x3 x s = some (-2, s) → fX11_made x0 x1 x2 x3 x s = some (-2, s) → ∃ (r : Int32) (s1 s2 : Sg), fX10_made x0 x1 x2 x3 x s = some (r, s1) ∧ fX11_made x0 x1 x2 x3 x s1 = some (r, s2) ∧ Inv s2 := fun h1 h2 => ⟨-2, s, s, h1, h2, hI⟩
  cases h1 : wi x0 1 4
  · exact bad (by simp only [fX10_made, e_mayBeRace, ob, h1, Bool.false_and, b2f, if_true]) (by simp only [fX11_made, e_in, ob, h1, b2f, if_true])
  · cases h2 : wi x1 0 9
    · exact bad (by simp only [fX10_made, e_mayBeRace, ob, h1, h2, Bool.and_false, b2f, if_true]) (by simp only [fX11_made, e_in, ob, h1, h2, b2f, b2t, if_true, if_false])
    · cases h3 : wi x2 0 23
      · exact bad (by simp only [fX10_made, e_mayBeRace, e_isSwimmer, ob, h1, h2, h3, Bool.and_self, b2f, b2t, if_true, if_false]) (by simp only [fX11_made, e_in, r_isSwimmer, ob, h1, h2, h3, b2f, b2t, if_true, if_false])
      · cases h4 : wi x3 1 8
        · exact bad (by simp only [fX10_made, e_mayBeRace, e_isSwimmer, e_within, ob, h1, h2, h3, h4, Bool.and_self, b2f, b2t, if_true, if_false]) (by simp only [fX11_made, e_in, r_isSwimmer, ob, h1, h2, h3, h4, b2f, b2t, if_true, if_false])
        · obtain ⟨a, ha1, ha4, rfl⟩ := wi_nat1 (a := 1) (n := 4) rfl (by decide) rfl (by decide) h1
          obtain ⟨dy, hdy, rfl⟩ := wi_nat (n := 9) rfl (by decide) h2
          obtain ⟨f, hf, rfl⟩ := wi_nat (n := 23) rfl (by decide) h3
          obtain ⟨m, hm1, hm8, rfl⟩ := wi_nat1 (a := 1) (n := 8) rfl (by decide) rfl (by decide) h4
          have e5 : nI f + nI m - 1 = nI (f + m - 1) := by
            rw [nI_add, show f + m = (f + m - 1) + 1 by omega, nI_pred]; rfl
          by_cases h5 : f + m ≤ 24
          · have w5 : wi (nI (f + m - 1)) 0 23 = true := wi_n (n := 23) (by omega) (by decide)
            have c5 : nI f + nI m ≤ (24 : Int32) := by rw [nI_add]; exact nI_le (b := 24) h5 (by decide)
            by_cases h6 : nR s = 16
            · have c6 : (16 : Int32) ≤ gI s 1 0 := by rw [a1, h6]; decide
              have c6' : gI s 49 0 = 16 := by rw [a2, h6]; rfl
              exact ⟨-4, s, s, by simp only [fX10_made, e_mayBeRace, e_isSwimmer, e_within, ob, h1, h2, h3, h4, Bool.and_self, b2t, if_false, e5, w5, if_pos c6], by simp only [fX11_made, e_in, r_isSwimmer, ob, h1, h2, h3, h4, b2t, if_false, if_pos c5, if_pos c6'], hI⟩
            · have hR : nR s < 16 := by omega
              have c6 : ¬ (16 : Int32) ≤ gI s 1 0 := by rw [a1]; exact nI_ge (b := 16) hR (by decide)
              by_cases h7 : nS s + m ≤ 64
              · have c7 : gI s 1 1 + nI m ≤ (64 : Int32) := by rw [a4, nI_add]; exact nI_le (b := 64) h7 (by decide)
                obtain ⟨K, hK⟩ := stopR_ex s
                obtain ⟨τ, t1, t2⟩ := e_fill (x := x) hI hR ha1 ha4 hdy h5 hm8 h7 hK
                obtain ⟨i1, i2, i3, i4, i5, i6, i7⟩ := m_facts (x := x) hI hR ha1 ha4 hdy h5 hm8 h7 hK m (Nat.le_refl _)
                obtain ⟨m1, m2, m3, m4⟩ := t2
                have hX := hI.2.2.2.2.2.2.1
                -- rows of the reference are those of s
                have e0 : gI τ 49 0 = nI (nR s) := by rw [m2 49 0 (by decide) rfl, a2]
                have e3 : gI τ 49 3 = nI (nS s) := by rw [m2 49 3 (by decide) rfl, a5]
                have c6' : ¬ gI τ 49 0 = 16 := by
                  rw [e0]
                  exact fun e => h6 (nI_inj (b := 16) (by omega) (by decide) e)
                have c7' : gI τ 49 3 + nI m ≤ (64 : Int32) := by rw [e3, nI_add]; exact nI_le (b := 64) h7 (by decide)
                have x30 : gI τ 30 1 = gI s 30 1 := by rw [m1 30 1 (by decide) rfl, i4 30 rfl]
                have x31 : gI τ 31 = gI s 31 := by funext k; rw [m1 31 k (by decide) rfl, i4 31 rfl]
                have x65 : gI τ 65 = gI s 65 := by funext k; exact m2 65 k (by decide) rfl
                have x66 : gI τ 66 = gI s 66 := by funext k; exact m2 66 k (by decide) rfl
                have mX := i1.2.2.2.2.2.2.1
                have x32 : gI τ 32 1 = gI s 32 1 ∧ gI τ 33 = gI s 33 := by
                  have key : ∀ z, z ≤ m → ∀ j k, (j = 32 ∨ j = 33) → gI (mUp s x a dy f m K z) j k = gI s j k := by
                    intro z
                    induction z with
                    | zero => intro _ j k hj; rw [mUp]; exact raceUp_ne _ _ _ _ (by omega)
                    | succ z ih =>
                      intro hz j k hj
                      rw [mUp, frow_ne _ _ _ _ _ (Or.inl (by omega)), frow_ne _ _ _ _ _ (Or.inl (by omega)), swUp'_ne _ _ _ _ _ (by omega) (by omega) (by omega), swUp_ne _ _ _ _ _ (by omega) (by omega)]
                      exact ih (by omega) j k hj
                  exact ⟨by rw [m1 32 1 (by decide) rfl]; exact key m (Nat.le_refl _) 32 1 (Or.inl rfl), by funext k; rw [m1 33 k (by decide) rfl]; exact key m (Nat.le_refl _) 33 k (Or.inr rfl)⟩
                have hXτ : InvX τ := cgX x30 x32.1 x31 x32.2 x66 x65 hX
                have rlτ : rlN τ = rlN s := by funext k; unfold rlN; rw [x31]
                have er := r_ruleFault2 hXτ (stopR_row x30 x31 hK)
                rw [rlτ] at er
                have hK8 : K ≤ 8 := by have := hK.1; have := hX.2.2.1; omega
                have hruled : (if fltV K = (-1 : Int32) then some (1 : Int32) else some (0 : Int32)) = some (if K = 8 then 1 else 0) := by
                  by_cases g : K = 8
                  · rw [if_pos ((flt8 hK8).mpr g), if_pos g]
                  · rw [if_neg (fun e => g ((flt8 hK8).mp e)), if_neg g]
                have hW : WR (t1N s) (gI s 33) (frow τ 67 0 (fun k => nI (rlN s k)) K) := by
                  have := wr_s hI (Eqv.rf s)
                  refine ⟨this.1, ?_, fun i hi => ?_⟩
                  · rw [frow_ne _ _ _ _ _ (Or.inl (by decide)), x66]; exact this.2.1
                  · rw [frow_ne _ _ _ _ _ (Or.inl (by decide)), x65]; exact this.2.2 i hi
                obtain ⟨υ, u1, u2, u3⟩ := r_worldFault hW
                have v0 : gI (sI υ 49 27 x) 49 0 = nI (nR s) := by
                  rw [gI_ne _ _ (Or.inr (by decide)), u2.2.1 0 (by decide) (by decide) (by decide) (by decide), frow_ne _ _ _ _ _ (Or.inl (by decide)), e0]
                have erm := r_raceMore v0 hR (nI a) (nI dy)
                generalize hω : sI (sI (sI (sI υ 49 27 x) 50 (nR s) (nI a)) 51 (nR s) (nI dy)) 49 0 (nI (nR s + 1)) = ω at erm
                have ωne : ∀ j k, j ≠ 49 → j ≠ 50 → j ≠ 51 → gI ω j k = gI υ j k := fun j k g1 g2 g3 => by
                  rw [← hω, gI_ne _ _ (Or.inl g1), gI_ne _ _ (Or.inl g3), gI_ne _ _ (Or.inl g2), gI_ne _ _ (Or.inl g1)]
                have ω49 : ∀ k, k ≠ 0 → k ≠ 27 → gI ω 49 k = gI υ 49 k := fun k g1 g2 => by
                  rw [← hω, gI_ne _ _ (Or.inr g1), gI_ne _ _ (Or.inl (by decide)), gI_ne _ _ (Or.inl (by decide)), gI_ne _ _ (Or.inr g2)]
                have h0 : MR s x a dy f m K 0 ω := by
                  refine ⟨fun j k hj hc => ?_, fun j k hj hc => ?_, ⟨fun k hk => ?_, ?_, ?_⟩, ?_, fun g i hi => ?_⟩
                  · rw [ωne j k (by omega) (by omega) (by omega), u2.1 j (by omega) (by omega), frow_ne _ _ _ _ _ (Or.inl (by omega))]
                    exact m1 j k hj hc
                  · have n67 : j ≠ 67 := fun e => by rw [e] at hc; exact absurd hc Bool.false_ne_true
                    have n68 : j ≠ 68 := fun e => by rw [e] at hc; exact absurd hc Bool.false_ne_true
                    have hυ : gI (sI υ 49 27 x) j k = gI s j k := by
                      by_cases e : j = 49
                      · subst e
                        have d0 : k ≠ 23 ∧ k ≠ 24 ∧ k ≠ 25 ∧ k ≠ 26 ∧ k ≠ 27 := by
                          refine ⟨?_, ?_, ?_, ?_, ?_⟩ <;> (intro e; rw [e] at hc; exact absurd hc Bool.false_ne_true)
                        rw [gI_ne _ _ (Or.inr d0.2.2.2.2), u2.2.1 k d0.1 d0.2.1 d0.2.2.1 d0.2.2.2.1, frow_ne _ _ _ _ _ (Or.inl (by decide))]
                        exact m2 49 k (by decide) hc
                      · rw [gI_ne _ _ (Or.inl e), u2.1 j e n68, frow_ne _ _ _ _ _ (Or.inl n67)]
                        exact m2 j k hj hc
                    rw [← hω, mUp]
                    unfold raceUp
                    refine pt_sI (pt_sI (pt_sI ?_ _ _ _) _ _ _) _ _ _
                    rw [hυ, gI_ne _ _ (Or.inl (by omega)), gI_ne _ _ (Or.inl (by omega)), gI_ne _ _ (Or.inl (by omega))]
                  · rw [ωne 68 k (by decide) (by decide) (by decide)]; exact u3.1 k hk
                  · rw [ω49 23 (by decide) (by decide)]; exact u3.2.1
                  · rw [ω49 24 (by decide) (by decide)]; exact u3.2.2
                  · rw [← hω, gI_ne _ _ (Or.inr (by decide)), gI_ne _ _ (Or.inl (by decide)), gI_ne _ _ (Or.inl (by decide)), gI_same]; rfl
                  · rw [ωne 67 i (by decide) (by decide) (by decide), u2.1 67 (by decide) (by decide)]
                    have := frow_at τ 67 0 (fun k => nI (rlN s k)) K (i := i) (by omega)
                    rw [Nat.zero_add] at this
                    exact this
                have key : ∃ τ', lpG (fX11_made_L111 (nI a) (nI f) (nI m) (if K = 8 then 1 else 0) (nI (nR s))) FU (nI f) ω = some ((), τ') ∧ MR s x a dy f m K m τ' := by
                  refine lp_ex (body := fX11_made_L111 (nI a) (nI f) (nI m) (if K = 8 then 1 else 0) (nI (nR s))) (b := ()) m (fun z => nI (f + z)) (fun z τ' => MR s x a dy f m K z τ') (fun z hz τ' h => r_fillStep hI hR ha1 ha4 hdy h5 hm8 h7 hK hz h) (fun τ' h => ?_) FU (by unfold FU; omega) ω h0
                  have c : nI f + nI m ≤ nI (f + m) := by rw [nI_add]; exact nI_le (Nat.le_refl _) (by omega)
                  simp only [fX11_made_L111, if_pos c]
                obtain ⟨τ', k1, k2⟩ := key
                refine ⟨nI (nR s), τ, τ', ?_, ?_, inv_cg (σ := mUp s x a dy f m K m) (fun j k hc => ?_) i1⟩
                · simp only [fX10_made, e_mayBeRace, e_isSwimmer, e_within, ob, h1, h2, h3, h4, Bool.and_self, b2t, if_false, e5, w5, if_neg c6, if_pos c7, e_addRace hI.1 hR, t1]
                · simp only [fX11_made, e_in, r_isSwimmer, ob, h1, h2, h3, h4, b2t, if_false, if_pos c5, if_neg c6', if_pos c7', er, hruled, u1, bd, erm, k1]
                · rcases Nat.lt_or_ge j 49 with g | g
                  · exact k2.1 j k g hc
                  · exact k2.2.1 j k g hc
              · have c7 : ¬ gI s 1 1 + nI m ≤ (64 : Int32) := by rw [a4, nI_add]; exact nI_ge (a := 64) (by omega) (by omega)
                have c6' : ¬ gI s 49 0 = 16 := by
                  rw [a2]
                  exact fun e => h6 (nI_inj (b := 16) (by omega) (by decide) e)
                have c7' : ¬ gI s 49 3 + nI m ≤ (64 : Int32) := by rw [a5, nI_add]; exact nI_ge (a := 64) (by omega) (by omega)
                exact ⟨-4, s, s, by simp only [fX10_made, e_mayBeRace, e_isSwimmer, e_within, ob, h1, h2, h3, h4, Bool.and_self, b2t, if_false, e5, w5, if_neg c6, if_neg c7], by simp only [fX11_made, e_in, r_isSwimmer, ob, h1, h2, h3, h4, b2t, if_false, if_pos c5, if_neg c6', if_neg c7'], hI⟩
          · have w5 : wi (nI (f + m - 1)) 0 23 = false := by
              cases q : wi (nI (f + m - 1)) 0 23
              · rfl
              · exact absurd (nI_lt (a := 23) (show 23 < f + m - 1 by omega) (by omega)) (wi_t.mp q).2
            have c5 : ¬ nI f + nI m ≤ (24 : Int32) := by rw [nI_add]; exact nI_ge (a := 24) (by omega) (by omega)
            exact ⟨-2, s, s, by simp only [fX10_made, e_mayBeRace, e_isSwimmer, e_within, ob, h1, h2, h3, h4, Bool.and_self, b2t, if_false, e5, w5, b2f, if_true], by simp only [fX11_made, e_in, r_isSwimmer, ob, h1, h2, h3, h4, b2t, if_false, if_neg c5], hI⟩
