/-! MADE: the class -/
theorem stopR_row {s t : Sg} (h1 : gI t 30 1 = gI s 30 1) (h2 : gI t 31 = gI s 31) {K : Nat} (hK : stopR s K) : stopR t K := by
  have e0 : t0N t = t0N s := by unfold t0N; rw [h1]
  have e1 : rlN t = rlN s := by funext k; unfold rlN; rw [h2]
  have e2 : smN t = smN s := by
    funext k
    induction k with
    | zero => rfl
    | succ k ih => rw [smN, smN, ih, e1]
  have e3 : badR t = badR s := by funext k; unfold badR; rw [h2, e1, e2]
  unfold stopR
  rw [e0, e3]
  exact hK
theorem e_faultAt2 {s : Sg} (x1 : gI s 30 1 = nI (t0N s)) (x3 : t0N s ≤ 8) {K : Nat} (hK : stopR s K) : fX4_faultAt s = some (fltV K, s) := by
  obtain ⟨k1, k2, k3⟩ := hK
  have step : ∀ k, k < K → fX4_faultAt_L4 (nI (smN s k), nI k) s = some (.inl (nI (smN s (k + 1)), nI (k + 1)), s) := by
    intro k hk
    obtain ⟨q1, q2, q3, q4⟩ := okR (k2 k hk)
    have hm := smN_lt k (fun j hj => k2 j (by omega))
    have c : ¬ gI s 30 1 ≤ nI k := by rw [x1]; exact nI_ge (by omega) (by omega)
    have c2 : ¬ ((nI (smN s k) >>> (nI (rlN s k) &&& 31)) &&& 1) = (1 : Int32) := fun h => by rw [bt_has _ hm _ q2, q4] at h; cases h
    simp only [fX4_faultAt_L4, if_neg c, aI_n (show k < 8 by omega) (by decide), ob, bd, e_isLane, q3, b2t, if_false]
    rw [q1, if_neg c2, (bt_or _ hm _ q2).1, nI_1]
    rfl
  by_cases he : K = t0N s
  · have hl : lpG fX4_faultAt_L4 FU ((0 : Int32), (0 : Int32)) s = some (.inr (), s) := by
      refine lp_rd K (fun k => (nI (smN s k), nI k)) step ?_ FU (by unfold FU; omega)
      have c : gI s 30 1 ≤ nI K := by rw [x1, he]; exact nI_le (Nat.le_refl _) (by omega)
      simp only [fX4_faultAt_L4, if_pos c]
    simp only [fX4_faultAt, hl, ob, Sum.elim_inr, x1]
    unfold fltV
    by_cases h8 : K = 8
    · rw [if_pos h8, if_pos (by rw [← he, h8]; decide)]
    · have c8 : ¬ (8 : Int32) ≤ nI (t0N s) := nI_ge (b := 8) (by omega) (by decide)
      rw [if_neg h8, if_neg c8, he]
  · have hbad : badR s K := by rcases k3 with h | h; exact absurd h he; exact h
    have hl : lpG fX4_faultAt_L4 FU ((0 : Int32), (0 : Int32)) s = some (.inl (nI K), s) := by
      refine lp_rd K (fun k => (nI (smN s k), nI k)) step ?_ FU (by unfold FU; omega)
      have hm := smN_lt K k2
      have c : ¬ gI s 30 1 ≤ nI K := by rw [x1]; exact nI_ge (by omega) (by omega)
      simp only [fX4_faultAt_L4, if_neg c, aI_n (show K < 8 by omega) (by decide), ob, bd, e_isLane]
      cases hw : wi (gI s 31 K - 48) 0 7
      · simp only [b2f, if_true]
      · obtain ⟨l, hl, e⟩ := wi_nat (n := 7) rfl (by decide) hw
        have hr : rlN s K = l := by unfold rlN; rw [e, cl_n (by omega)]
        have ht : Nat.testBit (smN s K) l = true := by
          cases h : Nat.testBit (smN s K) l
          · exact absurd ⟨hw, by rw [hr]; exact h⟩ hbad
          · rfl
        have c2 : ((nI (smN s K) >>> (nI l &&& 31)) &&& 1) = (1 : Int32) := (bt_has _ hm _ (by omega)).mpr ht
        simp only [b2t, if_false, e, if_pos c2]
    simp only [fX4_faultAt, hl, ob, Sum.elim_inl]
    unfold fltV
    rw [if_neg (by omega)]
theorem ob2 {α β : Type} (a : α) (f : α → Option β) : (some a).bind f = f a := id rfl
theorem bd2 {α β : Type} (a : α) (f : α → Option β) : bnd a f = f a := id rfl
theorem pt_sI {σ τ : Sg} {a b : Nat} (h : gI σ a b = gI τ a b) (j k : Nat) (v : Int32) : gI (sI σ j k v) a b = gI (sI τ j k v) a b := by rw [gI_set, gI_set, h]
theorem pt_frow {σ τ : Sg} {a b : Nat} (h : gI σ a b = gI τ a b) (j o : Nat) (f : Nat → Int32) : ∀ n, gI (frow σ j o f n) a b = gI (frow τ j o f n) a b := by
  intro n
  induction n with
  | zero => exact h
  | succ n ih => rw [frow, frow]; exact pt_sI ih _ _ _
theorem pt_swUp {σ τ : Sg} {a b : Nat} (h : gI σ a b = gI τ a b) (n : Nat) (x y z : Int32) : gI (swUp σ n x y z) a b = gI (swUp τ n x y z) a b := pt_sI (pt_sI (pt_sI (pt_sI h _ _ _) _ _ _) _ _ _) _ _ _
theorem pt_swUp' {σ τ : Sg} {a b : Nat} (h : gI σ a b = gI τ a b) (n : Nat) (x y z : Int32) : gI (swUp' σ n x y z) a b = gI (swUp' τ n x y z) a b := pt_sI (pt_frow (pt_sI (pt_sI (pt_sI h _ _ _) _ _ _) _ _ _) _ _ _ _) _ _ _
theorem m2 {z : Nat} (hz : z < 2 ^ 31) : mI (nI z) (2 : Int32) = some (nI (z % 2)) := by
  have c : ¬ (2 : Int32) = 0 := by decide
  unfold mI
  rw [if_neg c, show (2 : Int32) = nI 2 from rfl, pk_rem hz (by decide) (by decide)]
theorem push_v {z : Nat} (A B : Int32) : (if nI (z % 2) = 0 then some A else some B) = some (if z % 2 = 0 then A else B) := by
  by_cases h : z % 2 = 0
  · rw [if_pos h, if_pos (by rw [h]; rfl)]
  · rw [if_neg h, if_neg (nI_ne0 (by omega) (by omega))]
theorem m_lot (x : Int32) (d : Nat) (hd : d ≤ 9) : mI (shU x) (nI (2 * d + 1)) = some (lotV x d) := by
  unfold mI lotV
  rw [if_neg (nI_ne0 (by omega) (by omega))]
theorem r2d (d : Nat) : (2 : Int32) * nI d + 1 = nI (2 * d + 1) := by rw [two_n, nI_1]
/-- the formula of a made time -/
def tmF (sd : Int32) (v : Nat → Int32) (q : Nat → Int32) (t0 lane d l : Nat) : Int32 := clm (sd + nI l * v 8 + (if l % 2 = 0 then v lane else -(v lane)) + lotV (q (t0 + l + 1)) d - v 9)
theorem e_lot {σ : Sg} {q : Nat → Int32} (hq : ∀ t, 1103515245 * q t + 12345 = q (t + 1)) {t d : Nat} (hd : d ≤ 9) (h : gI σ 37 3 = q t) : fX2_lot (nI (2 * d + 1)) σ = some (lotV (q (t + 1)) d, sI σ 37 3 (q (t + 1))) := by
  have c : ¬ nI (2 * d + 1) ≤ 0 := nI_nle (by omega) (by omega)
  have e : (1103515245 : Int32) * gI σ 37 3 + 12345 = q (t + 1) := by rw [h, hq]
  have em := m_lot (q (t + 1)) d hd
  unfold shU at em
  simp only [fX2_lot, bd, e, if_neg c, gI_same, em, ob]
theorem e_makeTimes {τ : Sg} {n r a sw lane d t0 : Nat} {q : Nat → Int32} (hq : ∀ t, 1103515245 * q t + 12345 = q (t + 1)) {v : Nat → Int32} (h4 : gI τ 4 n = nI r) (hn : n < 64) (hr : r < 16) (h2 : gI τ 2 r = nI a) (ha4 : a ≤ 4) (hsw : sw < 24) (hl : lane < 8) (hv : ∀ k, k < 10 → gI τ 36 k = v k) (h9 : v 9 = nI d) (hd : d ≤ 9) (hx : gI τ 37 3 = q t0) : ∃ τ', fX2_makeTimes (nI n) (nI sw) (nI lane) τ = some τ' ∧ gI τ' 37 3 = q (t0 + a) ∧ ∀ j k, j ≠ 37 → gI τ' j k = gI (frow τ 7 (4 * n) (tmF (gI τ 8 sw) v q t0 lane d) a) j k := by
  generalize hT : tmF (gI τ 8 sw) v q t0 lane d = T
  have key : ∃ τ', lpG (fX2_makeTimes_L15 (nI n) (nI sw) (nI lane) (nI d)) FU (0 : Int32) τ = some ((), τ') ∧ (gI τ' 37 3 = q (t0 + a) ∧ ∀ j k, j ≠ 37 → gI τ' j k = gI (frow τ 7 (4 * n) T a) j k) := by
    refine lp_ex (body := fX2_makeTimes_L15 (nI n) (nI sw) (nI lane) (nI d)) (b := ()) a (fun z => nI z) (fun z τ' => gI τ' 37 3 = q (t0 + z) ∧ ∀ j k, j ≠ 37 → gI τ' j k = gI (frow τ 7 (4 * n) T z) j k) (fun z hz τ1 ⟨p1, p2⟩ => ?_) (fun τ1 ⟨p1, p2⟩ => ?_) FU (by unfold FU; omega) τ ⟨by rw [Nat.add_zero]; exact hx, fun _ _ _ => rfl⟩
    · have z4 : z < 4 := by omega
      have ne : ∀ j k, j ≠ 37 → j ≠ 7 → gI τ1 j k = gI τ j k := fun j k g1 g2 => by rw [p2 j k g1, frow_ne _ _ _ _ _ (Or.inl g2)]
      have c : ¬ nI a ≤ nI z := nI_ge hz (by omega)
      have w36 : ∀ k, k < 10 → aI τ1 36 10 (nI k) = some (v k) := fun k hk => by rw [aI_n hk (by decide), ne 36 k (by decide) (by decide), hv k hk]
      have w8 := w36 8 (by decide)
      rw [show nI 8 = (8 : Int32) from rfl] at w8
      refine ⟨sI (sI τ1 37 3 (q (t0 + z + 1))) 7 (4 * n + z) (T z), ?_, ?_, fun j k hj => ?_⟩
      · have ec : ∀ y, mxI 1 (mnI 9999 y) = clm y := fun _ => rfl
        simp only [fX2_makeTimes_L15, ec, fX3_lengthsOf, aI_n hn (by decide), ob2, bd2, ne 4 n (by decide) (by decide), h4, aI_n hr (by decide), ne 2 r (by decide) (by decide), h2, if_neg c, m2 (show z < 2 ^ 31 by omega), w36 lane (by omega), push_v, aI_n hsw (by decide), ne 8 sw (by decide) (by decide), w8, r2d, e_lot hq hd p1, e_setTime hn z4, nI_1]
        rw [← hT]
        unfold tmF
        rw [h9]
      · rw [gI_ne _ _ (Or.inl (by decide)), gI_same, Nat.add_assoc]
      · rw [frow]
        refine pt_sI ?_ _ _ _
        rw [gI_ne _ _ (Or.inl hj)]
        exact p2 j k hj
    · have ne : ∀ j k, j ≠ 37 → j ≠ 7 → gI τ1 j k = gI τ j k := fun j k g1 g2 => by rw [p2 j k g1, frow_ne _ _ _ _ _ (Or.inl g2)]
      have c : nI a ≤ nI a := nI_le (Nat.le_refl _) (by omega)
      simp only [fX2_makeTimes_L15, fX3_lengthsOf, aI_n hn (by decide), ob, ne 4 n (by decide) (by decide), h4, aI_n hr (by decide), ne 2 r (by decide) (by decide), h2, if_pos c]
  obtain ⟨τ', k1, k2⟩ := key
  refine ⟨τ', ?_, k2⟩
  have w9 : aI τ 36 10 (9 : Int32) = some (nI d) := by rw [show (9 : Int32) = nI 9 from rfl, aI_n (by decide) (by decide), hv 9 (by decide), h9]
  simp only [fX2_makeTimes, w9, ob, k1]
theorem e_rankAmong {s τ : Sg} (hE : InvE τ) (hs : sdN τ = sdN s) {f m k : Nat} (hf : f + m ≤ 24) (hk : k < m) : fX2_rankAmong (nI (f + k)) (nI f) (nI m) τ = some (nI (rkM s f m k), τ) := by
  have eb : btr τ = btr s := by funext a b; unfold btr; rw [hs]
  have hl : lpG (fX2_rankAmong_L6 (nI (f + k)) (nI f) (nI m)) FU ((0 : Int32), nI f) τ = some (nI (rkM s f m k), τ) := by
    refine lp_rd (body := fX2_rankAmong_L6 (nI (f + k)) (nI f) (nI m)) m (fun z => (nI (cn (fun j => btr s (f + j) (f + k)) z), nI (f + z))) (fun z hz => ?_) ?_ FU (by unfold FU; omega)
    · have c : ¬ nI f + nI m ≤ nI (f + z) := by rw [nI_add]; exact nI_ge (by omega) (by omega)
      have ec : cn (fun j => btr s (f + j) (f + k)) (z + 1) = cn (fun j => btr s (f + j) (f + k)) z + (if btr s (f + z) (f + k) = true then 1 else 0) := rfl
      simp only [fX2_rankAmong_L6, if_neg c, e_isBetter hE (show f + z < 24 by omega) (show f + k < 24 by omega), ob, bd, eb, nI_1, ec]
      cases g : btr s (f + z) (f + k)
      · simp only [b2f, if_true, ob]; rfl
      · simp only [b2t, if_false, ob, if_true]; rfl
    · have c : nI f + nI m ≤ nI (f + m) := by rw [nI_add]; exact nI_le (Nat.le_refl _) (by omega)
      simp only [fX2_rankAmong_L6, if_pos c]
      rfl
  simp only [fX2_rankAmong, hl, ob]
/-- the class's state while it fills -/
def MC (s : Sg) (x : Int32) (a dy f m K z : Nat) (τ : Sg) : Prop := (∀ j k, j < 49 → core j k = true → gI τ j k = gI (mUp s x a dy f m K z) j k) ∧ (∀ j k, 49 ≤ j → core j k = true → gI τ j k = gI s j k) ∧ (∀ k, k < 10 → gI τ 36 k = wV s k) ∧ gI τ 37 3 = sdq x (a * z)
theorem e_fillStep {s τ : Sg} {x : Int32} {a dy f m K z : Nat} (hI : Inv s) (hR : nR s < 16) (ha1 : 1 ≤ a) (ha4 : a ≤ 4) (hdy : dy ≤ 9) (hf : f + m ≤ 24) (hm : m ≤ 8) (hn : nS s + m ≤ 64) (hK : stopR s K) (hz : z < m) (h : MC s x a dy f m K z τ) : ∃ τ', fX2_fill_L35 (nI (nR s)) (nI f) (nI m) (if K = 8 then 1 else 0) (nI (f + z)) τ = some (.inl (nI (f + (z + 1))), τ') ∧ MC s x a dy f m K (z + 1) τ' := by
  obtain ⟨i1, i2, i3, i4, i5, i6, i7⟩ := m_facts (x := x) hI hR ha1 ha4 hdy hf hm hn hK z (by omega)
  obtain ⟨h1, h2, h3, h4⟩ := h
  have hlt := ln_lt (f := f) hK hm hz
  obtain ⟨d, hd, hv9⟩ := q9_wV s
  have e11 : gI τ 1 1 = nI (nS s + z) := by rw [h1 1 1 (by decide) rfl, ← i2]; exact i1.1.2.2.2.1
  have r8 : gI τ 8 = gI s 8 := by funext k; rw [h1 8 k (by decide) rfl, i4 8 rfl]
  have r56 : gI τ 56 = gI s 56 := by funext k; exact h2 56 k (by decide) rfl
  have r31 : gI τ 31 = gI s 31 := by funext k; rw [h1 31 k (by decide) rfl, i4 31 rfl]
  have r30 : gI τ 30 1 = nI (t0N s) := by rw [h1 30 1 (by decide) rfl, i4 30 rfl]; exact hI.2.2.2.2.2.2.1.1
  have e2 : gI τ 2 (nR s) = nI a := by rw [h1 2 _ (by decide) rfl, (i1.2.1 (nR s) (by omega)).1, i5]
  have hsd : sdN τ = sdN s := by funext k; unfold sdN; rw [r8]
  have hIE : InvE τ := cgE r8 r56 hI.2.2.2.2.2.1
  have c : ¬ nI f + nI m ≤ nI (f + z) := by rw [nI_add]; exact nI_ge (by omega) (by omega)
  have hlane : (if (if K = 8 then (1 : Int32) else 0) = 0 then some ((nI (f + z) - nI f), τ) else (fX2_rankAmong (nI (f + z)) (nI f) (nI m) τ).bind fun w14 => (fX4_laneFor w14.1 w14.2).bind fun w15 => some (w15.1, w15.2)) = some (nI (lnM s K f m z), τ) := by
    unfold lnM
    by_cases g : K = 8
    · have hrk := rk_lt (s := s) (f := f) hz
      have ht0 : t0N s = 8 := by have := hK.1; have := hI.2.2.2.2.2.2.1.2.2.1; omega
      have c2 : ¬ nI (t0N s) ≤ nI (rkM s f m z) := nI_ge (by omega) (by omega)
      have hok := okR (hK.2.1 (rkM s f m z) (by omega))
      simp only [if_pos g]
      rw [if_neg (by decide)]
      simp only [e_rankAmong hIE hsd hf hz, ob, fX4_laneFor, r30, if_neg c2, aI_n (show rkM s f m z < 8 by omega) (by decide), r31, hok.1]
    · simp only [if_neg g, if_true]
      rw [pk_sub (by omega), show f + z - f = z by omega]
  have hw : hasW (swUp τ (nS s + z) (nI (nR s)) (nI (f + z)) (nI (lnM s K f m z))) (nI (nS s + z)) = true := by
    unfold hasW swUp
    rw [gI_same]
    simp only [Bool.and_eq_true, decide_eq_true_eq]
    exact ⟨nI_pos' (by omega), nI_lt (by omega) (by omega)⟩
  have hil : wi (nI (lnM s K f m z)) 0 7 = true := wi_n (n := 7) (by omega) (by decide)
  have q4 : gI (swUp τ (nS s + z) (nI (nR s)) (nI (f + z)) (nI (lnM s K f m z))) 4 (nS s + z) = nI (nR s) := by
    unfold swUp; rw [gI_ne _ _ (by omega), gI_ne _ _ (by omega), gI_ne _ _ (by omega), gI_same]
  have q2 : gI (swUp τ (nS s + z) (nI (nR s)) (nI (f + z)) (nI (lnM s K f m z))) 2 (nR s) = nI a := by rw [swUp_ne _ _ _ _ _ (by omega) (by omega), e2]
  have q36 : ∀ k, k < 10 → gI (swUp τ (nS s + z) (nI (nR s)) (nI (f + z)) (nI (lnM s K f m z))) 36 k = wV s k := fun k hk => by rw [swUp_ne _ _ _ _ _ (by omega) (by omega), h3 k hk]
  have q37 : gI (swUp τ (nS s + z) (nI (nR s)) (nI (f + z)) (nI (lnM s K f m z))) 37 3 = sdq x (a * z) := by rw [swUp_ne _ _ _ _ _ (by omega) (by omega), h4]
  have q8 : gI (swUp τ (nS s + z) (nI (nR s)) (nI (f + z)) (nI (lnM s K f m z))) 8 (f + z) = gI s 8 (f + z) := by rw [swUp_ne _ _ _ _ _ (by omega) (by omega), r8]
  obtain ⟨τ', k1, k2, k3⟩ := e_makeTimes (q := sdq x) (sw := f + z) (lane := lnM s K f m z) (fun _ => rfl) q4 (by omega) hR q2 ha4 (by omega) hlt q36 hv9 hd q37
  rw [q8] at k3
  have eT : tmF (gI s 8 (f + z)) (wV s) (sdq x) (a * z) (lnM s K f m z) d = tmM s x (a * z) (f + z) (lnM s K f m z) := by
    funext l
    unfold tmF tmM
    rw [show (wV s 9).toNatClampNeg = d by rw [hv9, cl_n (by omega)]]
  rw [eT] at k3
  refine ⟨τ', ?_, fun j k hj hc => ?_, fun j k hj hc => ?_, fun k hk => ?_, ?_⟩
  · simp only [fX2_fill_L35, if_neg c, hlane, ob, e_addSwim e11 (show nS s + z < 64 by omega), e_hasSwim, hw, b2t, if_false, e_isLane, hil, k1, bd, nI_1]
    rfl
  · have h37 : j ≠ 37 := fun e => by rw [e] at hc; exact absurd hc Bool.false_ne_true
    rw [k3 j k h37, mUp, frow_ne _ 55 _ _ _ (Or.inl (by omega))]
    refine pt_frow ?_ _ _ _ _
    rw [swUp'_ne _ _ _ _ _ (by omega) (by omega) (by omega)]
    exact pt_swUp (h1 j k hj hc) _ _ _ _
  · rw [k3 j k (by omega), frow_ne _ _ _ _ _ (Or.inl (by omega)), swUp_ne _ _ _ _ _ (by omega) (by omega)]
    exact h2 j k hj hc
  · rw [k3 36 k (by decide), frow_ne _ _ _ _ _ (Or.inl (by decide))]
    exact q36 k hk
  · rw [k2, Nat.mul_succ]
theorem e_fill {s : Sg} {x : Int32} {a dy f m K : Nat} (hI : Inv s) (hR : nR s < 16) (ha1 : 1 ≤ a) (ha4 : a ≤ 4) (hdy : dy ≤ 9) (hf : f + m ≤ 24) (hm : m ≤ 8) (hn : nS s + m ≤ 64) (hK : stopR s K) : ∃ τ, fX2_fill (nI (nR s)) (nI f) (nI m) x (sI (sI (sI s 2 (nR s) (nI a)) 3 (nR s) (nI dy)) 1 0 (nI (nR s + 1))) = some τ ∧ MC s x a dy f m K m τ := by
  generalize hσ : sI (sI (sI (sI s 2 (nR s) (nI a)) 3 (nR s) (nI dy)) 1 0 (nI (nR s + 1))) 37 3 x = σ
  have hne : ∀ j k, j ≠ 37 → (j ≠ 1 ∨ k ≠ 0) → j ≠ 2 → j ≠ 3 → gI σ j k = gI s j k := fun j k g1 g2 g3 g4 => by
    rw [← hσ, gI_ne _ _ (Or.inl g1), gI_ne _ _ g2, gI_ne _ _ (Or.inl g4), gI_ne _ _ (Or.inl g3)]
  have hW : WT (t1N s) (gI s 33) σ := by
    have := wt_s hI (Eqv.rf s)
    exact ⟨this.1, by rw [hne 32 1 (by decide) (by decide) (by decide) (by decide)]; exact this.2.1, fun i hi => hne 33 i (by decide) (Or.inl (by decide)) (by decide) (by decide)⟩
  obtain ⟨τ0, p1, p2⟩ := e_parse hW
  have e30 : gI τ0 30 1 = gI s 30 1 := by rw [p2.1 30 (by decide) (by decide), hne 30 1 (by decide) (by decide) (by decide) (by decide)]
  have e31 : gI τ0 31 = gI s 31 := by rw [p2.1 31 (by decide) (by decide)]; funext k; exact hne 31 k (by decide) (Or.inl (by decide)) (by decide) (by decide)
  have ht0 : t0N τ0 = t0N s := by unfold t0N; rw [e30]
  have hX := hI.2.2.2.2.2.2.1
  have ef := e_faultAt2 (s := τ0) (by rw [e30, ht0]; exact hX.1) (by rw [ht0]; exact hX.2.2.1) (stopR_row e30 e31 hK)
  have hK8 : K ≤ 8 := by have := hK.1; have := hX.2.2.1; omega
  have hruled : (if fltV K = (-1 : Int32) then some (1 : Int32) else some (0 : Int32)) = some (if K = 8 then 1 else 0) := by
    by_cases g : K = 8
    · rw [if_pos ((flt8 hK8).mpr g), if_pos g]
    · rw [if_neg (fun e => g ((flt8 hK8).mp e)), if_neg g]
  have h0 : MC s x a dy f m K 0 τ0 := by
    refine ⟨fun j k hj hc => ?_, fun j k hj hc => ?_, fun k hk => p2.2.2 k hk, ?_⟩
    · have n35 : j ≠ 35 := fun e => by rw [e] at hc; exact absurd hc Bool.false_ne_true
      have n36 : j ≠ 36 := fun e => by rw [e] at hc; exact absurd hc Bool.false_ne_true
      have n37 : j ≠ 37 := fun e => by rw [e] at hc; exact absurd hc Bool.false_ne_true
      rw [p2.1 j n35 n36, ← hσ, gI_ne _ _ (Or.inl n37), mUp]
      unfold raceUp
      rw [gI_ne (j := 49) _ _ (Or.inl (by omega)), gI_ne (j := 51) _ _ (Or.inl (by omega)), gI_ne (j := 50) _ _ (Or.inl (by omega))]
    · rw [p2.1 j (by omega) (by omega), hne j k (by omega) (Or.inl (by omega)) (by omega) (by omega)]
    · rw [p2.1 37 (by decide) (by decide), ← hσ, gI_same]; rfl
  have key : ∃ τ, lpG (fX2_fill_L35 (nI (nR s)) (nI f) (nI m) (if K = 8 then 1 else 0)) FU (nI f) τ0 = some ((), τ) ∧ MC s x a dy f m K m τ := by
    refine lp_ex (body := fX2_fill_L35 (nI (nR s)) (nI f) (nI m) (if K = 8 then 1 else 0)) (b := ()) m (fun z => nI (f + z)) (fun z τ => MC s x a dy f m K z τ) (fun z hz τ h => e_fillStep hI hR ha1 ha4 hdy hf hm hn hK hz h) (fun τ h => ?_) FU (by unfold FU; omega) τ0 h0
    have c : nI f + nI m ≤ nI (f + m) := by rw [nI_add]; exact nI_le (Nat.le_refl _) (by omega)
    simp only [fX2_fill_L35, if_pos c]
  obtain ⟨τ, k1, k2⟩ := key
  refine ⟨τ, ?_, k2⟩
  simp only [fX2_fill, bd, hσ, p1, ob, ef, hruled, k1]
