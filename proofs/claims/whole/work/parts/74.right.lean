/-! RIGHT: numbers, the class -/
def rtB (C : Nat → Nat) : Nat := if psN C 8 = 0 then 1 else 4 * lcN C 8 * psN C 8
def tmZ (s : Sg) (k : Nat) : Int := (tmr s k 0).toInt
theorem eq_tmZ {s t : Sg} (h : Eqv s t) : tmZ t = tmZ s := by funext k; unfold tmZ; rw [eq_tm h]
def rtM (C : Nat → Nat) (S : Nat → Int) (l : Nat) : Int := if C l = 0 then 0 else psN C 8 * scI C S l - sZ (scI C S) 8
def rtZ (s : Sg) (C : Nat → Nat) (S : Nat → Int) (k : Nat) : Int := tmZ s k * rtB C - rtM C S (laN s k)
def RB (C : Nat → Nat) (S : Nat → Int) : Prop := psN C 8 ≤ 8 ∧ 0 < lcN C 8 ∧ lcN C 8 ≤ 100000000 ∧ (∀ l, l < 8 → (scI C S l).natAbs ≤ 1999800000000) ∧ (∀ n, n ≤ 8 → (sZ (scI C S) n).natAbs ≤ 15998400000000)
theorem rb_sh {s : Sg} (hI : Inv s) {A B : Nat → Nat} (hS : ShOk (lc s) (lx s) A B) : RB (shC (lc s) A B) (shS (lc s) (lx s) A B) := by
  have hD := sh_lcm8 (fit hI) hS
  have hp := lcN_pos (shC (lc s) A B) 8
  have hb : ∀ l, l < 8 → (scI (shC (lc s) A B) (shS (lc s) (lx s) A B) l).natAbs ≤ 1999800000000 := fun l hl => by
    have := sc_b' (sh_bx (fit hI) (lx_b hI) hS l hl) hl
    omega
  refine ⟨ps_b _, hp, hD, hb, ?_⟩
  have : ∀ n : Nat, n ≤ 8 → (sZ (scI (shC (lc s) A B) (shS (lc s) (lx s) A B)) n).natAbs ≤ 1999800000000 * n := by
    intro n
    induction n with
    | zero => intro _; exact Nat.le_refl 0
    | succ n ih =>
      intro hn
      have h1 := ih (by omega)
      have h2 := hb n (by omega)
      rw [sZ]
      omega
  intro n hn
  have := this n hn
  omega
theorem tmZ_b {s : Sg} (hI : Inv s) {k : Nat} (hk : k < nS s) : -1 ≤ tmZ s k ∧ tmZ s k ≤ 9999 := by
  rcases okTm hI hk (l := 0) (by decide) with h | ⟨n, h1, h2, h⟩
  · unfold tmZ; rw [h]; decide
  · unfold tmZ; rw [h, nI_toInt (by omega)]; omega
theorem rtB_b {C : Nat → Nat} {S : Nat → Int} (h : RB C S) : 0 < rtB C ∧ rtB C ≤ 3200000000 := by
  obtain ⟨h1, h2, h3, -, -⟩ := h
  unfold rtB
  split
  · omega
  · have := Nat.mul_le_mul (show 4 * lcN C 8 ≤ 400000000 by omega) h1
    have := Nat.mul_pos (show 0 < 4 * lcN C 8 by omega) (show 0 < psN C 8 by omega)
    omega
theorem rtM_b {C : Nat → Nat} {S : Nat → Int} (h : RB C S) {l : Nat} (hl : l < 8) : (rtM C S l).natAbs ≤ 32000000000000 := by
  obtain ⟨h1, h2, h3, h4, h5⟩ := h
  unfold rtM
  split
  · decide
  · have a1 := h4 l hl
    have a2 := h5 8 (Nat.le_refl _)
    have a3 : ((psN C 8 : Int) * scI C S l).natAbs ≤ 8 * 1999800000000 := by
      rw [Int.natAbs_mul, Int.natAbs_natCast]
      exact Nat.mul_le_mul h1 a1
    omega
theorem tB_b {s : Sg} (hI : Inv s) {C : Nat → Nat} {S : Nat → Int} (h : RB C S) {k : Nat} (hk : k < nS s) : (tmZ s k * (rtB C : Int)).natAbs ≤ 31996800000000 := by
  have a1 := tmZ_b hI hk
  have a2 := rtB_b h
  rw [Int.natAbs_mul, Int.natAbs_natCast]
  have := Nat.mul_le_mul (show (tmZ s k).natAbs ≤ 9999 by omega) a2.2
  omega
theorem rtZ_b {s : Sg} (hI : Inv s) {C : Nat → Nat} {S : Nat → Int} (h : RB C S) {k : Nat} (hk : k < nS s) : (rtZ s C S k).natAbs ≤ 64000000000000 := by
  have a1 := tB_b hI h hk
  have a2 := rtM_b h (hI.2.2.1 k hk).2.2.2.2.2.2.2.2
  unfold rtZ
  omega
/-- what the class holds of rights -/
def RtQ (s : Sg) (C : Nat → Nat) (S : Nat → Int) (τ : Sg) : Prop := gL τ 25 7 = lI (rtB C) ∧ ∀ k, k < nS s → gL τ 29 k = lI (if sgl s k = true then rtZ s C S k else 0)
theorem e_putRight {s σ : Sg} {A B : Nat → Nat} (hI : Inv s) (h : SvQ s A B σ) : ∃ τ, fX6_putRight σ = some τ ∧ gI τ = gI σ ∧ (∀ j, j ≠ 25 → j ≠ 29 → gL τ j = gL σ j) ∧ RtQ s (shC (lc s) A B) (shS (lc s) (lx s) A B) τ := by
  have a6 := hI.1.2.2.2.2.2
  have hE := h.1
  have hR := rb_sh hI h.2.2.2.1
  obtain ⟨t1, t2, t3, t4, t5⟩ := h.2.2.2.2.2
  have hCb : ∀ l, l < 8 → shC (lc s) A B l ≤ 64 := fun l hl => by
    unfold shC
    split
    · rename_i hc; exact (bN_le (fit hI) h.2.2.2.1 hl hc).1
    · omega
  generalize shC (lc s) A B = C at *
  generalize shS (lc s) (lx s) A B = S at *
  have hR0 := hR
  obtain ⟨h1, h2, h3, h4, h5⟩ := hR
  have hw1 : (if gI σ 14 4 = 0 then some (1 : Int64) else some ((4 : Int64) * gL σ 14 5 * (gI σ 14 4).toInt64)) = some (lI (rtB C)) := by
    rw [t1, t2]
    unfold rtB
    by_cases q : psN C 8 = 0
    · rw [if_pos (by rw [q]; rfl), if_pos q]; rfl
    · rw [if_neg (nI_ne0 (by omega) (by omega)), if_neg q, nI_lI (by omega), show (4 : Int64) = lI 4 from rfl, lI_mul, lI_mul, Int.natCast_mul, Int.natCast_mul]; rfl
  have key : ∃ τ, lpG fX6_putRight_L40 FU (0 : Int32) (sL σ 25 7 (lI (rtB C))) = some ((), τ) ∧ gI τ = gI σ ∧ (∀ j, j ≠ 25 → j ≠ 29 → gL τ j = gL σ j) ∧ gL τ 25 7 = lI (rtB C) ∧ ∀ k, k < nS s → gL τ 29 k = lI (if sgl s k = true then rtZ s C S k else 0) := by
    refine lp_ex (body := fX6_putRight_L40) (b := ()) (nS s) (fun z => nI z) (fun z τ => gI τ = gI σ ∧ (∀ j, j ≠ 25 → j ≠ 29 → gL τ j = gL σ j) ∧ gL τ 25 7 = lI (rtB C) ∧ ∀ k, k < z → gL τ 29 k = lI (if sgl s k = true then rtZ s C S k else 0)) (fun z hz τ1 ⟨p1, p2, p3, p4⟩ => ?_) (fun τ1 ⟨p1, p2, p3, p4⟩ => ?_) FU (by unfold FU; omega) _ ⟨rfl, fun j h1 _ => gL_row _ _ h1, gL_same _ _ _ _, fun k hk => absurd hk (by omega)⟩
    · have hE1 : Eqv s τ1 := fun j k hc => by rw [p1]; exact hE j k hc
      have hI1 := inv_cg hE1 hI
      have hz1 : z < nS τ1 := by rw [eq_nS hE1]; exact hz
      have z64 : z < 64 := by omega
      have c : ¬ gI τ1 1 1 ≤ nI z := by rw [hE1 1 1 rfl, hI.1.2.2.2.1]; exact nI_ge hz (by omega)
      obtain ⟨d1, d2, d3, d4, d5, d6, d7, d8, d9⟩ := hI.2.2.1 z hz
      have v6 : gI τ1 6 z = nI (laN s z) := by rw [hE1 6 z rfl]; exact d7
      have v15 : gI τ1 15 (laN s z) = nI (C (laN s z)) := by rw [p1]; exact t5 _ d9
      have v17 : gL τ1 (14 + 3) (laN s z) = lI (scI C S (laN s z)) := by rw [p2 (14 + 3) (by decide) (by decide)]; exact t4 _ d9
      have v4 : gI τ1 14 4 = nI (psN C 8) := by rw [p1]; exact t1
      have v6' : gL τ1 14 6 = lI (sZ (scI C S) 8) := by rw [p2 14 (by decide) (by decide)]; exact t3
      have hCz := hCb _ d9
      have hmore : (if nI (C (laN s z)) = 0 then some ((0 : Int64), τ1) else (fX1_aboveMean 14 (nI (laN s z)) τ1).bind fun w13 => some (w13.1, w13.2)) = some (lI (rtM C S (laN s z)), τ1) := by
        unfold rtM
        by_cases q : C (laN s z) = 0
        · rw [if_pos (by rw [q]; rfl), if_pos q]; rfl
        · rw [if_neg (nI_ne0 (by omega) (by omega)), if_neg q]
          simp only [fX1_aboveMean, aL_n d9 (by decide), ob, v17, v4, v6', nI_lI (show psN C 8 < 2 ^ 31 by omega), lI_mul, lI_sub]
      have hsg : fX3_isSingle (nI z) τ1 = some (b2i (sgl s z), τ1) := by rw [e_isSingle hI1 hz1, eq_sgl hE1]
      have htm : fX3_timeOf (nI z) (0 : Int32) τ1 = some (tmr s z 0, τ1) := by
        have := e_timeOf (s := τ1) z64 (l := 0) (by decide)
        rw [show nI 0 = (0 : Int32) from rfl] at this
        rw [this, hE1 7 _ rfl]; rfl
      refine ⟨sL τ1 29 z (lI (if sgl s z = true then rtZ s C S z else 0)), ?_, p1, fun j g1 g2 => ?_, ?_, fun k hk => ?_⟩
      · simp only [fX6_putRight_L40, if_neg c, aI_n z64 (by decide), aI_n d9 (by decide), ob, bd, v6, v15, hmore, hsg]
        cases q : sgl s z
        · simp only [b2f, if_true, ob, wL_n z64 (by decide), nI_1]; rfl
        · simp only [b2t, if_false, htm, ob, wL_n z64 (by decide), nI_1, p3, i2l_I, lI_mul, lI_sub]; rfl
      · rw [gL_row _ _ g2]; exact p2 j g1 g2
      · rw [gL_row _ _ (by decide)]; exact p3
      · by_cases e : k = z
        · subst e; rw [gL_same]
        · rw [gL_ne _ _ (Or.inr e)]; exact p4 k (by omega)
    · have c : gI τ1 1 1 ≤ nI (nS s) := by rw [p1, hE 1 1 rfl, hI.1.2.2.2.1]; exact nI_le (Nat.le_refl _) (by omega)
      simp only [fX6_putRight_L40, if_pos c]
  obtain ⟨τ, k1, k2, k3, k4⟩ := key
  refine ⟨τ, ?_, k2, k3, k4⟩
  unfold fX6_putRight
  rw [hw1]
  simp only [ob, bd, k1]
/-! RIGHT: the reference -/
theorem rsq_cg {s τ τ' : Sg} {A B : Nat → Nat} (h : RsQ s A B τ) (h1 : gI τ' = gI τ) (h2 : ∀ j, j ≠ 49 → gL τ' j = gL τ j) : RsQ s A B τ' := by
  obtain ⟨⟨a1, a2⟩, b, c, d⟩ := h
  refine ⟨⟨fun j k hc => by rw [h1]; exact a1 j k hc, fun l hl => ?_⟩, b, c, fun l hl hc => ?_⟩
  · rw [h2 58 (by decide), h2 57 (by decide)]; exact a2 l hl
  · rw [h2 59 (by decide), h2 60 (by decide)]; exact d l hl hc
theorem rsq_eq {s t υ : Sg} {A B : Nat → Nat} (hE : Eqv s t) (h : RsQ t A B υ) : RsQ s A B υ := by
  obtain ⟨a, b, c, d⟩ := h
  rw [eq_lc hE, eq_lx hE] at b c d
  exact ⟨rlp_eq hE a, b, c, d⟩
/-- the reference's shape against the class's -/
def RV (c C : Nat → Nat) (S : Nat → Int) (y : Nat → Int) (k : Nat → Nat) (υ : Sg) : Prop := ∀ l, l < 8 → 0 < c l → gL υ 59 l = lI (y l) ∧ gL υ 60 l = lI (k l) ∧ 0 < k l ∧ k l ≤ 64 ∧ (y l).natAbs ≤ 1279872 ∧ y l * (lcN C 8 : Int) = scI C S l * (k l : Int)
theorem rv_of {s υ : Sg} {A B A2 B2 : Nat → Nat} (hI : Inv s) (hS : ShOk (lc s) (lx s) A B) (hN : NoFall (lc s) (lx s) A B) (h : RsQ s A2 B2 υ) : RV (lc s) (shC (lc s) A B) (shS (lc s) (lx s) A B) (bS (lx s) A2 B2) (bN (lc s) A2 B2) υ := by
  intro l hl hc
  obtain ⟨v59, v60⟩ := h.2.2.2 l hl hc
  obtain ⟨f1, f2, f3⟩ := bN_le (fit hI) h.2.1 hl hc
  obtain ⟨g1, g2, g3⟩ := bN_le (fit hI) hS hl hc
  have hb := sh_bx (fit hI) (lx_b hI) h.2.1 l hl
  rw [show shC (lc s) A2 B2 l = bN (lc s) A2 B2 l from if_pos hc, show shS (lc s) (lx s) A2 B2 l = bS (lx s) A2 B2 l from if_pos hc] at hb
  rw [← f3] at v60
  refine ⟨v59, v60, f2, f1, by omega, ?_⟩
  have e1 : shC (lc s) A B l = bN (lc s) A B l := if_pos hc
  have e2 : shS (lc s) (lx s) A B l = bS (lx s) A B l := if_pos hc
  have hv := sc_val (C := shC (lc s) A B) (S := shS (lc s) (lx s) A B) hl (by rw [e1]; exact g2)
  have hu := sh_uniq (fit hI).1 hS hN h.2.1 h.2.2.1 hl hc
  rw [e1, e2, g3] at hv
  rw [← f3] at hu
  have hpos : (0 : Int) < bC (lc s) A B l := by omega
  refine Int.eq_of_mul_eq_mul_right (Int.ne_of_gt hpos) ?_
  generalize scI (shC (lc s) A B) (shS (lc s) (lx s) A B) l = w at hv
  generalize ((lcN (shC (lc s) A B) 8 : Nat) : Int) = D at hv
  generalize bC (lc s) A B l = k at hv hu
  generalize bS (lx s) A B l = y at hv hu
  generalize bS (lx s) A2 B2 l = y2 at hu
  generalize ((bN (lc s) A2 B2 l : Nat) : Int) = k2 at hu
  grind
theorem rv_cg {c C : Nat → Nat} {S y : Nat → Int} {k : Nat → Nat} {υ τ : Sg} (h : RV c C S y k υ) (h2 : ∀ j, j ≠ 49 → gL τ j = gL υ j) : RV c C S y k τ := by
  intro l hl hc
  rw [h2 59 (by decide), h2 60 (by decide)]
  exact h l hl hc
theorem r_sumS {c C : Nat → Nat} {S y : Nat → Int} {k : Nat → Nat} (hR : RB C S) (hC : ∀ l, l < 8 → c l ≤ 64) (hc0 : ∀ l, l < 8 → c l = 0 → scI C S l = 0) (p1 p2 : Int32) {σ : Sg} (h58 : ∀ l, l < 8 → gL σ 58 l = lI (c l)) (hV : RV c C S y k σ) (h0 : Fr σ 0 (2 * lcN C 8)) : ∃ τ, lpG (fX11_laysRight_L41 p1 p2) FU (0 : Int32) σ = some ((), τ) ∧ Fr τ (sZ (scI C S) 8) (2 * lcN C 8) ∧ gI τ = gI σ ∧ (∀ j, j ≠ 49 → gL τ j = gL σ j) := by
  obtain ⟨h1, h2, h3, h4, h5⟩ := hR
  refine lp_ex (body := fX11_laysRight_L41 p1 p2) (b := ()) 8 (fun z => nI z) (fun z τ => Fr τ (sZ (scI C S) z) (2 * lcN C 8) ∧ gI τ = gI σ ∧ (∀ j, j ≠ 49 → gL τ j = gL σ j)) (fun z hz τ ⟨s1, s2, s3⟩ => ?_) (fun τ _ => ?_) FU (by decide) σ ⟨h0, rfl, fun _ _ => rfl⟩
  · have c8 : ¬ (8 : Int32) ≤ nI z := nI_ge (b := 8) hz (by decide)
    have e58 : gL τ 58 z = lI (c z) := by rw [s3 58 (by decide), h58 z hz]
    have hCz := hC z hz
    by_cases q : 0 < c z
    · obtain ⟨v59, v60, k0, k64, hy, hv⟩ := rv_cg hV s3 z hz q
      have cq : ¬ lg_cmp (lI (c z)) (0 : Int64) ≤ 0 := by rw [le0 (by omega) (by omega)]; omega
      have hb := h5 z (by omega)
      have ea : fX11_adds (lI (y z)) (lI ((2 * k z : Nat) : Int)) τ = some (frT τ (sZ (scI C S) (z + 1)) (2 * lcN C 8)) := by
        refine r_adds3 s1 (by omega) (by omega) (by omega) ?_ ?_ ?_
        · have m1 := Nat.mul_le_mul hb (show 2 * k z ≤ 128 by omega)
          have m2 := Nat.mul_le_mul hy (show 2 * lcN C 8 ≤ 200000000 by omega)
          omega
        · have := Nat.mul_le_mul (show 2 * lcN C 8 ≤ 200000000 by omega) (show 2 * k z ≤ 128 by omega)
          omega
        · rw [sZ]
          simp only [Int.natCast_mul]
          generalize (lcN C 8 : Int) = D at hv
          generalize (k z : Int) = kk at hv
          generalize sZ (scI C S) z = Y
          generalize scI C S z = w at hv
          generalize y z = v at hv
          grind
      refine ⟨frT τ (sZ (scI C S) (z + 1)) (2 * lcN C 8), ?_, fr_T _ _ _, s2, fun j hj => by rw [frT_L _ _ _ hj, s3 j hj]⟩
      simp only [fX11_laysRight_L41, if_neg c8, aL_n hz (by decide), ob, bd, e58, if_neg cq, v59, v60, l2, ea, nI_1]
    · have q0 : c z = 0 := by omega
      have cq : lg_cmp (lI (c z)) (0 : Int64) ≤ 0 := by rw [le0 (by omega) (by omega)]; omega
      refine ⟨τ, ?_, ?_, s2, s3⟩
      · simp only [fX11_laysRight_L41, if_neg c8, aL_n hz (by decide), ob, bd, e58, if_pos cq, nI_1]
      · rw [sZ, hc0 z hz q0, Int.add_zero]
        exact s1
  · have c8 : (8 : Int32) ≤ nI 8 := by decide
    simp only [fX11_laysRight_L41, if_pos c8]
