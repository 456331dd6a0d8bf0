/-! MADE: lots, ranks, the joint state -/
def sdq (x : Int32) : Nat → Int32
  | 0 => x
  | t + 1 => 1103515245 * sdq x t + 12345
def clm (x : Int32) : Int32 := mxI 1 (mnI 9999 x)
def shU (x : Int32) : Int32 := (x.toUInt32 >>> ((16 : Int32).toUInt32 &&& Int32.toUInt32 31)).toInt32
def lotV (x : Int32) (d : Nat) : Int32 := shU x - shU x / nI (2 * d + 1) * nI (2 * d + 1)
theorem cl_tot (x : Int32) : (x < 1 ∧ clm x = 1) ∨ (1 ≤ x ∧ x ≤ 9999 ∧ clm x = x) ∨ (9999 < x ∧ clm x = 9999) := by
  unfold clm mxI mnI
  have e1 : (1 : Int32).toInt = 1 := rfl
  have e9 : (9999 : Int32).toInt = 9999 := rfl
  by_cases h1 : x < 9999
  · rw [if_pos h1]
    by_cases h2 : 1 < x
    · rw [if_pos h2]
      rw [Int32.lt_iff_toInt_lt] at h1 h2
      exact Or.inr (Or.inl ⟨by rw [Int32.le_iff_toInt_le]; omega, by rw [Int32.le_iff_toInt_le]; omega, rfl⟩)
    · rw [if_neg h2]
      by_cases h3 : x = 1
      · subst h3; exact Or.inr (Or.inl ⟨by decide, by decide, rfl⟩)
      · left
        refine ⟨?_, rfl⟩
        have : ¬ x.toInt = (1 : Int32).toInt := fun e => h3 (Int32.toInt_inj.mp e)
        rw [Int32.lt_iff_toInt_lt] at h2 ⊢
        omega
  · rw [if_neg h1, if_pos (by decide)]
    by_cases h3 : x = 9999
    · subst h3; exact Or.inr (Or.inl ⟨by decide, by decide, rfl⟩)
    · right; right
      refine ⟨?_, rfl⟩
      have : ¬ x.toInt = (9999 : Int32).toInt := fun e => h3 (Int32.toInt_inj.mp e)
      rw [Int32.lt_iff_toInt_lt] at h1 ⊢
      omega
theorem clm_ok (x : Int32) : okT (clm x) := by
  rcases cl_tot x with ⟨-, h⟩ | ⟨h1, h2, h⟩ | ⟨-, h⟩
  · rw [h]; exact Or.inr ⟨1, by decide, by decide, rfl⟩
  · rw [h]
    obtain ⟨k, k1, k2, rfl⟩ := wi_nat1 (a := 1) (n := 9999) (lo := 1) (hi := 9999) rfl (by decide) rfl (by decide) (wi_t.mpr ⟨Int32.not_lt.mpr h1, Int32.not_lt.mpr h2⟩)
    exact Or.inr ⟨k, k1, k2, rfl⟩
  · rw [h]; exact Or.inr ⟨9999, by decide, by decide, rfl⟩
theorem r_clm (x : Int32) : (if (1 : Int32) ≤ x then if x ≤ (9999 : Int32) then some x else some (9999 : Int32) else some (1 : Int32)) = some (clm x) := by
  rcases cl_tot x with ⟨h1, h⟩ | ⟨h1, h2, h⟩ | ⟨h1, h⟩
  · rw [if_neg (Int32.not_le.mpr h1), h]
  · rw [if_pos h1, if_pos h2, h]
  · have : (1 : Int32) ≤ x := by
      rw [Int32.lt_iff_toInt_lt] at h1
      rw [Int32.le_iff_toInt_le]
      have e1 : (1 : Int32).toInt = 1 := rfl
      have e9 : (9999 : Int32).toInt = 9999 := rfl
      omega
    rw [if_pos this, if_neg (Int32.not_le.mpr h1), h]
/-- RANGE is a figure -/
def Q9 (v : Nat → Int32) : Prop := ∃ d : Nat, d ≤ 9 ∧ v 9 = nI d
theorem q9_dgt {n : Nat} {bt : Nat → Int32} {j slot : Nat} {sgn : Int32} {v : Nat → Int32} (h : Q9 v) (hs : slot = 9 → sgn = 1) {i : Nat} {v' : Nat → Int32} (e : dgt n bt j slot sgn v = .inr (i, v')) : Q9 v' := by
  unfold dgt at e
  by_cases q : fig (bbI n bt j) = true
  · rw [if_pos q] at e
    by_cases q2 : slot = 9 ∨ fig (bbI n bt (j + 1)) = false
    · rw [if_pos q2] at e
      obtain ⟨-, rfl⟩ := Prod.mk.inj (Sum.inr.inj e)
      by_cases g : slot = 9
      · subst g
        obtain ⟨d, hd, ed⟩ := wi_nat (n := 9) rfl (by decide) q
        refine ⟨d, hd, ?_⟩
        unfold upv
        rw [if_pos rfl, hs rfl, Int32.one_mul, ed]
      · obtain ⟨d, hd, ed⟩ := h
        exact ⟨d, hd, by unfold upv; rw [if_neg (fun e => g e.symm), ed]⟩
    · rw [if_neg q2] at e
      obtain ⟨-, rfl⟩ := Prod.mk.inj (Sum.inr.inj e)
      obtain ⟨d, hd, ed⟩ := h
      exact ⟨d, hd, by unfold upv; rw [if_neg (fun e => q2 (Or.inl e.symm)), ed]⟩
  · rw [if_neg q] at e; cases e
theorem q9_num {n : Nat} {bt : Nat → Int32} {j slot : Nat} {v : Nat → Int32} (h : Q9 v) {i : Nat} {v' : Nat → Int32} (e : numP n bt j slot v = .inr (i, v')) : Q9 v' := by
  unfold numP at e
  by_cases q : bbI n bt j = 61
  · rw [if_pos q] at e
    by_cases q2 : bbI n bt (j + 1) = 45 ∧ slot < 8
    · rw [if_pos q2] at e; exact q9_dgt h (fun g => by omega) e
    · rw [if_neg q2] at e; exact q9_dgt h (fun _ => rfl) e
  · rw [if_neg q] at e; cases e
theorem q9_prt {n : Nat} {bt : Nat → Int32} {j : Nat} {v : Nat → Int32} (h : Q9 v) {i : Nat} {v' : Nat → Int32} (e : prtP n bt j v = .inr (i, v')) : Q9 v' := by
  unfold prtP at e
  by_cases q1 : bbI n bt j = 112
  · rw [if_pos q1] at e
    by_cases q : wi (bbI n bt (j + 1) - 48) 0 7 = true
    · rw [if_pos q] at e; exact q9_num h e
    · rw [if_neg q] at e; cases e
  · rw [if_neg q1] at e
    by_cases q2 : bbI n bt j = 102
    · rw [if_pos q2] at e; exact q9_num h e
    · rw [if_neg q2] at e
      by_cases q3 : bbI n bt j = 114
      · rw [if_pos q3] at e; exact q9_num h e
      · rw [if_neg q3] at e; cases e
theorem q9_wl {n : Nat} {bt : Nat → Int32} : ∀ (m i : Nat) (v : Nat → Int32), Q9 v → ∀ v', wlP n bt m i v = .inr v' → Q9 v' := by
  intro m
  induction m with
  | zero => intro i v h v' e; cases e
  | succ m ih =>
    intro i v h v' e
    rw [wlP] at e
    cases hy : prtP n bt i v with
    | inl f => rw [hy] at e; cases e
    | inr p =>
      obtain ⟨i', v2⟩ := p
      rw [hy] at e
      have h2 := q9_prt h hy
      have e' : (if i' < n then (if bt i' = 59 then wlP n bt m (i' + 1) v2 else .inl i') else .inr v2) = .inr v' := e
      by_cases g : i' < n
      · rw [if_pos g] at e'
        by_cases g2 : bt i' = 59
        · rw [if_pos g2] at e'; exact ih _ _ h2 _ e'
        · rw [if_neg g2] at e'; cases e'
      · rw [if_neg g] at e'
        obtain rfl := Sum.inr.inj e'
        exact h2
theorem q9_wV (s : Sg) : Q9 (wV s) := by
  have h0 : Q9 (fun _ => 0) := ⟨0, by decide, rfl⟩
  unfold wV wldV wldP
  by_cases q : t1N s = 0
  · rw [if_pos q]; exact h0
  · rw [if_neg q]
    cases hw : wlP (t1N s) (gI s 33) (t1N s + 1) 0 (fun _ => 0) with
    | inl f => exact h0
    | inr v => exact q9_wl _ _ _ h0 _ hw
/-- ranks among the swimmers of a made race -/
def rkM (s : Sg) (f m k : Nat) : Nat := cn (fun j => btr s (f + j) (f + k)) m
theorem rk_lt {s : Sg} {f m k : Nat} (hk : k < m) : rkM s f m k < m := by
  have := cn_lt (P := fun _ => true) (Q := fun j => btr s (f + j) (f + k)) (n := m) (k := k) (fun _ _ _ => rfl) hk rfl (btr_self s (f + k))
  have := cn_le (fun _ => true) m
  unfold rkM
  omega
theorem btr_tot {s : Sg} {a b : Nat} (h : a ≠ b) : btr s a b = true ∨ btr s b a = true := by
  unfold btr
  simp only [Bool.or_eq_true, Bool.and_eq_true, decide_eq_true_eq]
  omega
theorem btr_trans {s : Sg} {a b c : Nat} (h1 : btr s a b = true) (h2 : btr s b c = true) : btr s a c = true := by
  unfold btr at *
  simp only [Bool.or_eq_true, Bool.and_eq_true, decide_eq_true_eq] at *
  omega
theorem rk_mono {s : Sg} {f m i k : Nat} (hi : i < m) (h : btr s (f + i) (f + k) = true) : rkM s f m i < rkM s f m k :=
  cn_lt (P := fun j => btr s (f + j) (f + k)) (Q := fun j => btr s (f + j) (f + i)) (n := m) (k := i) (fun j _ hj => btr_trans hj h) hi h (btr_self s (f + i))
theorem rk_inj {s : Sg} {f m i k : Nat} (hi : i < m) (hk : k < m) (h : i ≠ k) : rkM s f m i ≠ rkM s f m k := by
  rcases btr_tot (s := s) (show f + i ≠ f + k by omega) with g | g
  · have := rk_mono hi g; omega
  · have := rk_mono hk g; omega
def lnM (s : Sg) (K f m k : Nat) : Nat := if K = 8 then rlN s (rkM s f m k) else k
theorem ln_lt {s : Sg} {K f m k : Nat} (hK : stopR s K) (hm : m ≤ 8) (hk : k < m) : lnM s K f m k < 8 := by
  unfold lnM
  split
  · rename_i e
    exact (okR (hK.2.1 _ (by have := rk_lt (s := s) (f := f) hk; omega))).2.1
  · omega
theorem ln_inj {s : Sg} {K f m i k : Nat} (hK : stopR s K) (hm : m ≤ 8) (hi : i < k) (hk : k < m) : lnM s K f m i ≠ lnM s K f m k := by
  unfold lnM
  split
  · rename_i e
    have h1 := rk_lt (s := s) (f := f) (m := m) (k := i) (by omega)
    have h2 := rk_lt (s := s) (f := f) (m := m) (k := k) hk
    have h3 := rk_inj (s := s) (f := f) (m := m) (i := i) (k := k) (by omega) hk (by omega)
    rcases Nat.lt_or_ge (rkM s f m i) (rkM s f m k) with g | g
    · exact rl_inj hK.2.1 g (by omega)
    · exact (rl_inj hK.2.1 (show rkM s f m k < rkM s f m i by omega) (by omega)).symm
  · omega
/-- a made time -/
def tmM (s : Sg) (x : Int32) (t0 : Nat) (sw lane l : Nat) : Int32 := clm (gI s 8 sw + nI l * wV s 8 + (if l % 2 = 0 then wV s lane else -(wV s lane)) + lotV (sdq x (t0 + l + 1)) (wV s 9).toNatClampNeg - wV s 9)
def mUp (s : Sg) (x : Int32) (a dy f m K : Nat) : Nat → Sg
  | 0 => raceUp s (nR s) (nI a) (nI dy)
  | k + 1 => frow (frow (swUp' (swUp (mUp s x a dy f m K k) (nS s + k) (nI (nR s)) (nI (f + k)) (nI (lnM s K f m k))) (nS s + k) (nI (nR s)) (nI (f + k)) (nI (lnM s K f m k))) 7 (4 * (nS s + k)) (tmM s x (a * k) (f + k) (lnM s K f m k)) a) 55 (4 * (nS s + k)) (tmM s x (a * k) (f + k) (lnM s K f m k)) a
theorem raceUp_ne (s : Sg) (n : Nat) (x y : Int32) {j k : Nat} (h : j ≠ 1 ∧ j ≠ 2 ∧ j ≠ 3 ∧ j ≠ 49 ∧ j ≠ 50 ∧ j ≠ 51 ∨ (j = 1 ∧ k ≠ 0) ∨ (j = 49 ∧ k ≠ 0) ∨ ((j = 2 ∨ j = 3 ∨ j = 50 ∨ j = 51) ∧ k ≠ n)) : gI (raceUp s n x y) j k = gI s j k := by
  unfold raceUp
  rw [gI_ne _ _ (by omega), gI_ne _ _ (by omega), gI_ne _ _ (by omega), gI_ne _ _ (by omega), gI_ne _ _ (by omega), gI_ne _ _ (by omega)]
section
variable {s : Sg} {x : Int32} {a dy f m K : Nat}
theorem m_facts (hI : Inv s) (hR : nR s < 16) (ha1 : 1 ≤ a) (ha4 : a ≤ 4) (hdy : dy ≤ 9) (hf : f + m ≤ 24) (hm : m ≤ 8) (hn : nS s + m ≤ 64) (hK : stopR s K) : ∀ k, k ≤ m → Inv (mUp s x a dy f m K k) ∧ nS (mUp s x a dy f m K k) = nS s + k ∧ nR (mUp s x a dy f m K k) = nR s + 1 ∧ (∀ j, (j == 8 || j == 30 || j == 31 || j == 56) = true → gI (mUp s x a dy f m K k) j = gI s j) ∧ lnN (mUp s x a dy f m K k) (nR s) = a ∧ (∀ i, i < nS s → rcN (mUp s x a dy f m K k) i = rcN s i) ∧ ∀ i, i < k → rcN (mUp s x a dy f m K k) (nS s + i) = nR s ∧ swN (mUp s x a dy f m K k) (nS s + i) = f + i ∧ laN (mUp s x a dy f m K k) (nS s + i) = lnM s K f m i := by
  intro k
  induction k with
  | zero =>
    intro _
    rw [mUp]
    refine ⟨inv_race hI hR ha1 ha4 hdy, ?_, ?_, fun j hj => ?_, ?_, fun i hi => ?_, fun i hi => absurd hi (by omega)⟩
    · unfold nS; rw [raceUp_ne _ _ _ _ (by omega)]; rfl
    · unfold nR raceUp
      rw [gI_ne _ _ (by omega), gI_ne _ _ (by omega), gI_ne _ _ (by omega), gI_same, cl_n]
      have : nR s < 16 := hR
      unfold nR at this
      omega
    · simp only [Bool.or_eq_true, beq_iff_eq] at hj
      funext b
      exact raceUp_ne _ _ _ _ (by omega)
    · unfold lnN raceUp
      rw [gI_ne _ _ (by omega), gI_ne _ _ (by omega), gI_ne _ _ (by omega), gI_ne _ _ (by omega), gI_ne _ _ (by omega), gI_same, cl_n (by omega)]
    · unfold rcN; rw [raceUp_ne _ _ _ _ (by omega)]
  | succ k ih =>
    intro hk
    obtain ⟨i1, i2, i3, i4, i5, i6, i7⟩ := ih (by omega)
    have hl := ln_lt (f := f) hK hm (show k < m by omega)
    rw [mUp]
    generalize hμ : mUp s x a dy f m K k = μ at *
    have h1 := inv_swim i1 (by omega) (a := nR s) (b := f + k) (c := lnM s K f m k) (by omega) (by omega) hl (fun j hj hr => by
      rw [i2] at hj
      by_cases g : j < nS s
      · have := (hI.2.2.1 j g).2.2.1
        rw [i6 j g] at hr
        omega
      · obtain ⟨p1, p2, p3⟩ := i7 (j - nS s) (by omega)
        rw [show nS s + (j - nS s) = j by omega] at p2 p3
        rw [p2, p3]
        exact ⟨by omega, ln_inj hK hm (by omega) (by omega)⟩)
    rw [i2] at h1
    generalize hσ : swUp' (swUp μ (nS s + k) (nI (nR s)) (nI (f + k)) (nI (lnM s K f m k))) (nS s + k) (nI (nR s)) (nI (f + k)) (nI (lnM s K f m k)) = σ at *
    have ne : ∀ i j, (i ≠ 1 ∨ j ≠ 1) → (i ≠ 49 ∨ j ≠ 3) → (i = 4 ∨ i = 5 ∨ i = 6 ∨ i = 52 ∨ i = 53 ∨ i = 54 → j ≠ nS s + k) → (i = 55 → j < 4 * (nS s + k) ∨ 4 * (nS s + k) + 4 ≤ j) → gI σ i j = gI μ i j := by
      intro i j g1 g2 g3 g4
      rw [← hσ, swUp'_ne _ _ _ _ _ g2 (by omega) g4, swUp_ne _ _ _ _ _ g1 (by omega)]
    have v11 : gI σ 1 1 = nI (nS s + k + 1) := by
      rw [← hσ, swUp'_ne _ _ _ _ _ (by omega) (by omega) (by omega)]
      unfold swUp; rw [gI_same]
    have v4 : gI σ 4 (nS s + k) = nI (nR s) := by
      rw [← hσ, swUp'_ne _ _ _ _ _ (by omega) (by omega) (by omega)]
      unfold swUp; rw [gI_ne _ _ (by omega), gI_ne _ _ (by omega), gI_ne _ _ (by omega), gI_same]
    have v5 : gI σ 5 (nS s + k) = nI (f + k) := by
      rw [← hσ, swUp'_ne _ _ _ _ _ (by omega) (by omega) (by omega)]
      unfold swUp; rw [gI_ne _ _ (by omega), gI_ne _ _ (by omega), gI_same]
    have v6 : gI σ 6 (nS s + k) = nI (lnM s K f m k) := by
      rw [← hσ, swUp'_ne _ _ _ _ _ (by omega) (by omega) (by omega)]
      unfold swUp; rw [gI_ne _ _ (by omega), gI_same]
    have sS : nS σ = nS s + k + 1 := by unfold nS at v11 ⊢; rw [v11, cl_n]; unfold nS at hn; omega
    have sR : nR σ = nR s + 1 := by rw [← i3]; unfold nR; rw [ne 1 0 (by omega) (by omega) (by omega) (by omega)]
    have sL : lnN σ (nR s) = a := by rw [← i5]; unfold lnN; rw [ne 2 _ (by omega) (by omega) (by omega) (by omega)]
    have rcs : rcN σ (nS s + k) = nR s := by unfold rcN; rw [v4, cl_n (by omega)]
    generalize hT : tmM s x (a * k) (f + k) (lnM s K f m k) = T
    have hTok : ∀ l, okT (T l) := fun l => by rw [← hT]; exact clm_ok _
    generalize hτ : frow (frow σ 7 (4 * (nS s + k)) T a) 55 (4 * (nS s + k)) T a = τ
    have row : ∀ i, i ≠ 7 → i ≠ 55 → gI τ i = gI σ i := fun i g1 g2 => by
      funext b
      rw [← hτ, frow_ne _ _ _ _ _ (Or.inl g2), frow_ne _ _ _ _ _ (Or.inl g1)]
    have hIτ : Inv τ := by
      refine inv_swimT h1 (p := nS s + k) (n := a) (by omega) (by rw [rcs, sL]; exact Nat.le_refl _) (fun i hi => ?_) (fun b hb => ?_) (fun b hb => ?_) (fun l hl => ?_)
      · simp only [Bool.or_eq_false_iff, beq_eq_false_iff_ne, ne_eq] at hi
        exact row i hi.1 hi.2
      · rw [← hτ, frow_ne _ _ _ _ _ (Or.inl (by decide)), frow_ne _ _ _ _ _ (Or.inr hb)]
      · rw [← hτ, frow_ne _ _ _ _ _ (Or.inr hb), frow_ne _ _ _ _ _ (Or.inl (by decide))]
      · have e1 : gI τ 55 (4 * (nS s + k) + l) = T l := by rw [← hτ, frow_at _ _ _ _ _ hl]
        have e2 : gI τ 7 (4 * (nS s + k) + l) = T l := by rw [← hτ, frow_ne _ _ _ _ _ (Or.inl (by decide)), frow_at _ _ _ _ _ hl]
        rw [e1, e2]
        exact ⟨rfl, hTok l⟩
    have eR : rcN τ = rcN σ := by funext i; unfold rcN; rw [row 4 (by decide) (by decide)]
    have eS : swN τ = swN σ := by funext i; unfold swN; rw [row 5 (by decide) (by decide)]
    have eL : laN τ = laN σ := by funext i; unfold laN; rw [row 6 (by decide) (by decide)]
    refine ⟨hIτ, ?_, ?_, fun j hj => ?_, ?_, fun i hi => ?_, fun i hi => ?_⟩
    · rw [show nS s + (k + 1) = nS s + k + 1 from rfl, ← sS]; unfold nS; rw [row 1 (by decide) (by decide)]
    · rw [← sR]; unfold nR; rw [row 1 (by decide) (by decide)]
    · have hj' := hj
      simp only [Bool.or_eq_true, beq_iff_eq] at hj'
      rw [row j (by omega) (by omega), ← i4 j hj]
      funext b
      exact ne j b (by omega) (by omega) (by omega) (by omega)
    · rw [← sL]; unfold lnN; rw [row 2 (by decide) (by decide)]
    · rw [eR, ← i6 i hi]; unfold rcN; rw [ne 4 i (by omega) (by omega) (by omega) (by omega)]
    · rw [eR, eS, eL]
      by_cases e : i = k
      · subst e
        refine ⟨rcs, ?_, ?_⟩
        · unfold swN; rw [v5, cl_n (by omega)]
        · unfold laN; rw [v6, cl_n (by omega)]
      · obtain ⟨p1, p2, p3⟩ := i7 i (by omega)
        refine ⟨?_, ?_, ?_⟩
        · rw [← p1]; unfold rcN; rw [ne 4 _ (by omega) (by omega) (by omega) (by omega)]
        · rw [← p2]; unfold swN; rw [ne 5 _ (by omega) (by omega) (by omega) (by omega)]
        · rw [← p3]; unfold laN; rw [ne 6 _ (by omega) (by omega) (by omega) (by omega)]
end
