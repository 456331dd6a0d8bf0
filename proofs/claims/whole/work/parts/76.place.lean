/-! PLACE, MEDALS -/
theorem lt_scale {z z' X Y p q : Int} (hp : 0 < p) (hq : 0 < q) (h : (z - z') * q = p * (X - Y)) : z < z' ↔ X < Y := by
  constructor
  · intro hz
    rcases Int.lt_or_le X Y with g | g
    · exact g
    · have a1 : (z - z') * q < 0 := Int.mul_neg_of_neg_of_pos (by omega) hq
      have a2 := Int.mul_nonneg (Int.le_of_lt hp) (show 0 ≤ X - Y by omega)
      omega
  · intro hz
    rcases Int.lt_or_le z z' with g | g
    · exact g
    · have a1 := Int.mul_nonneg (show 0 ≤ z - z' by omega) (Int.le_of_lt hq)
      have a2 : p * (X - Y) < 0 := Int.mul_neg_of_pos_of_neg hp (by omega)
      omega
theorem low0 (t : Int) {b : Nat} (hb : 0 < b) : (lowA (t * b) b).natAbs ≤ t.natAbs ∧ lowB (t * b) b ≤ 1 := by
  obtain ⟨e1, e2⟩ := low_eq (z := t * b) (b := b) (z' := t) (b' := 1) hb (by decide) (by simp)
  rw [e1, e2]
  exact ⟨lowA_abs t 1, lowB_le t 1⟩
theorem low_lt {z z' : Int} {b : Nat} (hb : 0 < b) : z < z' ↔ lowA z b * lowB z' b < lowA z' b * lowB z b := by
  have c1 := low_cross (z := z) (b := b)
  have c2 := low_cross (z := z') (b := b)
  have p1 := lowB_pos (z := z) hb
  have p2 := lowB_pos (z := z') hb
  refine lt_scale (p := (b : Int)) (q := (lowB z b : Int) * (lowB z' b : Int)) (by omega) (Int.mul_pos (by omega) (by omega)) ?_
  generalize (lowB z b : Int) = u at *
  generalize (lowB z' b : Int) = u' at *
  grind
theorem natAbs_mul_le {a b : Int} {m n : Nat} (h1 : a.natAbs ≤ m) (h2 : b.natAbs ≤ n) : (a * b).natAbs ≤ m * n := by
  rw [Int.natAbs_mul]; exact Nat.mul_le_mul h1 h2
theorem r_less {s υ : Sg} {A B A2 B2 : Nat → Nat} (hI : Inv s) (hS : ShOk (lc s) (lx s) A B) (hN : NoFall (lc s) (lx s) A B) (h : RsQ s A2 B2 υ) {a b : Nat} (ha : a < nS s) (hb : b < nS s) : ∃ τ, fX11_isRightLess (nI a) (nI b) υ = some (if rtZ s (shC (lc s) A B) (shS (lc s) (lx s) A B) a < rtZ s (shC (lc s) A B) (shS (lc s) (lx s) A B) b then 1 else 0, τ) ∧ gI τ = gI υ ∧ (∀ j, j ≠ 49 → gL τ j = gL υ j) := by
  have a6 := hI.1.2.2.2.2.2
  have a64 : a < 64 := by omega
  have b64 : b < 64 := by omega
  have hE : Eqv s υ := h.1.1
  have la := (hI.2.2.1 a ha).2.2.2.2.2.2.2.2
  have lb := (hI.2.2.1 b hb).2.2.2.2.2.2.2.2
  have va : gI υ 54 a = nI (laN s a) := by rw [hE 54 a rfl]; exact (hI.2.2.1 a ha).2.2.2.2.2.2.2.1
  have vb : gI υ 54 b = nI (laN s b) := by rw [hE 54 b rfl]; exact (hI.2.2.1 b hb).2.2.2.2.2.2.2.1
  have v58 : ∀ l, l < 8 → gL υ 58 l = lI (lc s l) := fun l hl => (h.1.2 l hl).1
  have hR := rb_sh hI hS
  have hB := rtB_b hR
  have ba := rtZ_b hI hR ha
  have bb := rtZ_b hI hR hb
  have ta := tmZ_b hI ha
  have tb := tmZ_b hI hb
  have lca := lc_le hI (laN s a)
  have lcb := lc_le hI (laN s b)
  obtain ⟨τ1, k1, k2, k3, k4⟩ := r_laysRight hI hS hN h ha
  obtain ⟨τ2, m1, m2, m3, m4⟩ := r_laysRight hI hS hN (rsq_cg h k3 k4) hb
  have tail : lc s (laN s a) = 0 ∨ lc s (laN s b) = 0 → ((fX11_laysRight (nI a) υ).bind fun w4 => bnd (gL w4 49 13) fun x5 => bnd (gL w4 49 14) fun x6 => (fX11_laysRight (nI b) w4).bind fun w7 => if 0 ≤ (lg_cmp (x5 * (gL w7 49 14)) ((gL w7 49 13) * x6)) then some ((0 : Int32), w7) else some ((1 : Int32), w7)) = some (if rtZ s (shC (lc s) A B) (shS (lc s) (lx s) A B) a < rtZ s (shC (lc s) A B) (shS (lc s) (lx s) A B) b then 1 else 0, τ2) := by
    intro h0
    have hz0 : ∀ k, laN s k < 8 → lc s (laN s k) = 0 → rtZ s (shC (lc s) A B) (shS (lc s) (lx s) A B) k = tmZ s k * (rtB (shC (lc s) A B) : Int) := fun k hk q => by
      unfold rtZ rtM
      rw [if_pos ((sh_pos hI hS hk).mpr q), Int.sub_zero]
    generalize hza : rtZ s (shC (lc s) A B) (shS (lc s) (lx s) A B) a = za at *
    generalize hzb : rtZ s (shC (lc s) A B) (shS (lc s) (lx s) A B) b = zb at *
    have e0 := hz0 a la
    have e1 := hz0 b lb
    rw [hza] at e0
    rw [hzb] at e1
    generalize rtB (shC (lc s) A B) = D at *
    have q1 := lowA_abs za D
    have q2 := lowA_abs zb D
    have q3 := lowB_le za D
    have q4 := lowB_le zb D
    have bd1 : (lowA za D * (lowB zb D : Int)).natAbs ≤ 64000000000000 ∧ (lowA zb D * (lowB za D : Int)).natAbs ≤ 64000000000000 := by
      rcases h0 with h0 | h0
      · rw [e0 h0]
        obtain ⟨r1, r2⟩ := low0 (tmZ s a) hB.1
        have := natAbs_mul_le (a := lowA (tmZ s a * (D : Int)) D) (b := (lowB zb D : Int)) (m := 9999) (n := 3200000000) (by omega) (by omega)
        have := natAbs_mul_le (a := lowA zb D) (b := (lowB (tmZ s a * (D : Int)) D : Int)) (m := 64000000000000) (n := 1) (by omega) (by omega)
        omega
      · rw [e1 h0]
        obtain ⟨r1, r2⟩ := low0 (tmZ s b) hB.1
        have := natAbs_mul_le (a := lowA (tmZ s b * (D : Int)) D) (b := (lowB za D : Int)) (m := 9999) (n := 3200000000) (by omega) (by omega)
        have := natAbs_mul_le (a := lowA za D) (b := (lowB (tmZ s b * (D : Int)) D : Int)) (m := 64000000000000) (n := 1) (by omega) (by omega)
        omega
    have hc := low_lt (z := za) (z' := zb) hB.1
    simp only [k1, ob, bd, m1, k2.1, k2.2, m2.1, m2.2, lI_mul, lg_cmp_ge]
    generalize lowA za D * (lowB zb D : Int) = X at *
    generalize lowA zb D * (lowB za D : Int) = Y at *
    have hl := lI_le (a := Y) (b := X) (by constructor <;> omega) (by constructor <;> omega)
    by_cases g : za < zb
    · rw [if_neg (fun q => by have := hl.mp q; have := hc.mp g; omega), if_pos g]
    · rw [if_pos (hl.mpr (Int.not_lt.mp (fun q => g (hc.mpr q)))), if_neg g]
  by_cases qa : lc s (laN s a) = 0
  · have c : lg_cmp (lI (lc s (laN s a))) (0 : Int64) ≤ 0 := by rw [le0 (by omega) (by omega)]; omega
    refine ⟨τ2, ?_, by rw [m3, k3], fun j hj => by rw [m4 j hj, k4 j hj]⟩
    unfold fX11_isRightLess
    simp only [aI_n a64 (by decide), aI_n b64 (by decide), ob, va, vb, aL_n la (by decide), v58 _ la, if_pos c]
    exact tail (Or.inl qa)
  · have c : ¬ lg_cmp (lI (lc s (laN s a))) (0 : Int64) ≤ 0 := by rw [le0 (by omega) (by omega)]; omega
    by_cases qb : lc s (laN s b) = 0
    · have c2 : lg_cmp (lI (lc s (laN s b))) (0 : Int64) ≤ 0 := by rw [le0 (by omega) (by omega)]; omega
      refine ⟨τ2, ?_, by rw [m3, k3], fun j hj => by rw [m4 j hj, k4 j hj]⟩
      unfold fX11_isRightLess
      simp only [aI_n a64 (by decide), aI_n b64 (by decide), ob, va, vb, aL_n la (by decide), aL_n lb (by decide), v58 _ la, v58 _ lb, if_neg c, if_pos c2]
      exact tail (Or.inr qb)
    · have c2 : ¬ lg_cmp (lI (lc s (laN s b))) (0 : Int64) ≤ 0 := by rw [le0 (by omega) (by omega)]; omega
      have hV := rv_of hI hS hN h
      obtain ⟨x59, x60, x1, x2, x3, x4⟩ := hV _ la (by omega)
      obtain ⟨y59, y60, y1, y2, y3, y4⟩ := hV _ lb (by omega)
      have e4a : (4 : Int32) * nI a = nI (4 * a) := by rw [show (4 : Int32) = nI 4 from rfl, pk_mul]
      have e4b : (4 : Int32) * nI b = nI (4 * b) := by rw [show (4 : Int32) = nI 4 from rfl, pk_mul]
      have t55a : gI υ 55 (4 * a) = tmr s a 0 := by rw [hE 55 _ rfl]; exact row55 hI ha (l := 0) (by decide)
      have t55b : gI υ 55 (4 * b) = tmr s b 0 := by rw [hE 55 _ rfl]; exact row55 hI hb (l := 0) (by decide)
      have eta : (tmr s a 0).toInt64 = lI (tmZ s a) := i2l_I _
      have etb : (tmr s b 0).toInt64 = lI (tmZ s b) := i2l_I _
      have hpp : 0 < psN (shC (lc s) A B) 8 := by rw [ps_sh hI hS]; exact ps_pos la (by omega)
      have hD := hR.2.1
      have eza : rtZ s (shC (lc s) A B) (shS (lc s) (lx s) A B) a = tmZ s a * ((4 * lcN (shC (lc s) A B) 8 * psN (shC (lc s) A B) 8 : Nat) : Int) - (psN (shC (lc s) A B) 8 * scI (shC (lc s) A B) (shS (lc s) (lx s) A B) (laN s a) - sZ (scI (shC (lc s) A B) (shS (lc s) (lx s) A B)) 8) := by
        unfold rtZ rtM rtB
        rw [if_neg (by omega), if_neg (fun e => qa ((sh_pos hI hS la).mp e))]
      have ezb : rtZ s (shC (lc s) A B) (shS (lc s) (lx s) A B) b = tmZ s b * ((4 * lcN (shC (lc s) A B) 8 * psN (shC (lc s) A B) 8 : Nat) : Int) - (psN (shC (lc s) A B) 8 * scI (shC (lc s) A B) (shS (lc s) (lx s) A B) (laN s b) - sZ (scI (shC (lc s) A B) (shS (lc s) (lx s) A B)) 8) := by
        unfold rtZ rtM rtB
        rw [if_neg (by omega), if_neg (fun e => qb ((sh_pos hI hS lb).mp e))]
      refine ⟨υ, ?_, rfl, fun _ _ => rfl⟩
      unfold fX11_isRightLess
      simp only [aI_n a64 (by decide), aI_n b64 (by decide), ob, va, vb, aL_n la (by decide), aL_n lb (by decide), v58 _ la, v58 _ lb, if_neg c, if_neg c2, x59, x60, y59, y60, e4a, e4b, aI_n (show 4 * a < 256 by omega) (by decide), aI_n (show 4 * b < 256 by omega) (by decide), t55a, t55b, eta, etb, l4, lI_mul, lI_sub, lg_cmp_ge]
      have hc : rtZ s (shC (lc s) A B) (shS (lc s) (lx s) A B) a < rtZ s (shC (lc s) A B) (shS (lc s) (lx s) A B) b ↔ (((4 * bN (lc s) A2 B2 (laN s a) : Nat) : Int) * tmZ s a - bS (lx s) A2 B2 (laN s a)) * (bN (lc s) A2 B2 (laN s b) : Int) < (((4 * bN (lc s) A2 B2 (laN s b) : Nat) : Int) * tmZ s b - bS (lx s) A2 B2 (laN s b)) * (bN (lc s) A2 B2 (laN s a) : Int) := by
        refine lt_scale (p := (psN (shC (lc s) A B) 8 : Int) * (lcN (shC (lc s) A B) 8 : Int)) (q := (bN (lc s) A2 B2 (laN s a) : Int) * (bN (lc s) A2 B2 (laN s b) : Int)) (Int.mul_pos (by omega) (by omega)) (Int.mul_pos (by omega) (by omega)) ?_
        rw [eza, ezb]
        simp only [Int.natCast_mul]
        generalize (psN (shC (lc s) A B) 8 : Int) = P at *
        generalize (lcN (shC (lc s) A B) 8 : Int) = D at *
        generalize (bN (lc s) A2 B2 (laN s a) : Int) = n1 at *
        generalize (bN (lc s) A2 B2 (laN s b) : Int) = n2 at *
        generalize scI (shC (lc s) A B) (shS (lc s) (lx s) A B) (laN s a) = w1 at *
        generalize scI (shC (lc s) A B) (shS (lc s) (lx s) A B) (laN s b) = w2 at *
        generalize bS (lx s) A2 B2 (laN s a) = u1 at *
        generalize bS (lx s) A2 B2 (laN s b) = u2 at *
        generalize tmZ s a = t1 at *
        generalize tmZ s b = t2 at *
        generalize sZ (scI (shC (lc s) A B) (shS (lc s) (lx s) A B)) 8 = T at *
        clear hV tail k1 k2 k3 k4 m1 m2 m3 m4 hR hB ba bb eza ezb
        grind
      have bx : ((((4 * bN (lc s) A2 B2 (laN s a) : Nat) : Int) * tmZ s a - bS (lx s) A2 B2 (laN s a)) * (bN (lc s) A2 B2 (laN s b) : Int)).natAbs ≤ 4000000 * 64 := by
        have := natAbs_mul_le (a := ((4 * bN (lc s) A2 B2 (laN s a) : Nat) : Int)) (b := tmZ s a) (m := 256) (n := 9999) (by omega) (by omega)
        exact natAbs_mul_le (by omega) (by omega)
      have bY : ((((4 * bN (lc s) A2 B2 (laN s b) : Nat) : Int) * tmZ s b - bS (lx s) A2 B2 (laN s b)) * (bN (lc s) A2 B2 (laN s a) : Int)).natAbs ≤ 4000000 * 64 := by
        have := natAbs_mul_le (a := ((4 * bN (lc s) A2 B2 (laN s b) : Nat) : Int)) (b := tmZ s b) (m := 256) (n := 9999) (by omega) (by omega)
        exact natAbs_mul_le (by omega) (by omega)
      generalize (((4 * bN (lc s) A2 B2 (laN s a) : Nat) : Int) * tmZ s a - bS (lx s) A2 B2 (laN s a)) * (bN (lc s) A2 B2 (laN s b) : Int) = X at *
      generalize (((4 * bN (lc s) A2 B2 (laN s b) : Nat) : Int) * tmZ s b - bS (lx s) A2 B2 (laN s b)) * (bN (lc s) A2 B2 (laN s a) : Int) = Y at *
      have hl := lI_le (a := Y) (b := X) (by constructor <;> omega) (by constructor <;> omega)
      by_cases g : rtZ s (shC (lc s) A B) (shS (lc s) (lx s) A B) a < rtZ s (shC (lc s) A B) (shS (lc s) (lx s) A B) b
      · rw [if_neg (fun q => by have := hl.mp q; have := hc.mp g; omega), if_pos g]
      · rw [if_pos (hl.mpr (Int.not_lt.mp (fun q => g (hc.mpr q)))), if_neg g]
/-- slowness, places -/
def slZ (s : Sg) (C : Nat → Nat) (S : Nat → Int) (p : Int32) (k : Nat) : Int := if p = 0 then tmZ s k else rtZ s C S k
def plP (s : Sg) (C : Nat → Nat) (S : Nat → Int) (p : Int32) (k o : Nat) : Bool := decide (rcN s o = rcN s k) && sgl s o && decide (slZ s C S p o < slZ s C S p k)
def plN (s : Sg) (C : Nat → Nat) (S : Nat → Int) (p : Int32) (k : Nat) : Nat := 1 + cn (plP s C S p k) (nS s)
theorem sl_b {s : Sg} (hI : Inv s) {C : Nat → Nat} {S : Nat → Int} (h : RB C S) (p : Int32) {k : Nat} (hk : k < nS s) : Bd (slZ s C S p k) := by
  have a1 := tmZ_b hI hk
  have a2 := rtZ_b hI h hk
  unfold slZ
  split <;> constructor <;> omega
theorem e_slow {s τ : Sg} (hI : Inv s) (hE : Eqv s τ) {C : Nat → Nat} {S : Nat → Int} (h : RtQ s C S τ) (p : Int32) {k : Nat} (hk : k < nS s) (hs : sgl s k = true) : fX6_slowness (nI k) p τ = some (lI (slZ s C S p k), τ) := by
  have a6 := hI.1.2.2.2.2.2
  have k64 : k < 64 := by omega
  have ht : fX3_timeOf (nI k) (0 : Int32) τ = some (tmr s k 0, τ) := by
    have := e_timeOf (s := τ) k64 (l := 0) (by decide)
    rw [show nI 0 = (0 : Int32) from rfl] at this
    rw [this, hE 7 _ rfl]; rfl
  have v29 := h.2 k hk
  rw [if_pos hs] at v29
  unfold fX6_slowness slZ
  by_cases q : p = 0
  · simp only [if_pos q, ht, ob, i2l_I]; rfl
  · simp only [if_neg q, aL_n k64 (by decide), v29, ob]
theorem e_placeOf {s τ : Sg} (hI : Inv s) (hE : Eqv s τ) {C : Nat → Nat} {S : Nat → Int} (hR : RB C S) (h : RtQ s C S τ) (p : Int32) {k : Nat} (hk : k < nS s) (hs : sgl s k = true) : fX6_placeOf (nI k) p τ = some (nI (plN s C S p k), τ) := by
  have a6 := hI.1.2.2.2.2.2
  have hI1 := inv_cg hE hI
  have k64 : k < 64 := by omega
  have v4 : ∀ o, o < nS s → gI τ 4 o = nI (rcN s o) := fun o ho => by rw [hE 4 o rfl]; exact (hI.2.2.1 o ho).1
  have r16 : ∀ o, o < nS s → rcN s o < 16 := fun o ho => by have := (hI.2.2.1 o ho).2.2.1; have := hI.1.2.2.1; omega
  have hl : lpG (fX6_placeOf_L13 (nI k) p (lI (slZ s C S p k))) FU ((0 : Int32), (0 : Int32)) τ = some (nI (cn (plP s C S p k) (nS s)), τ) := by
    refine lp_rd (body := fX6_placeOf_L13 (nI k) p (lI (slZ s C S p k))) (nS s) (fun z => (nI (cn (plP s C S p k) z), nI z)) (fun z hz => ?_) ?_ FU (by unfold FU; omega)
    · have c : ¬ gI τ 1 1 ≤ nI z := by rw [hE 1 1 rfl, hI.1.2.2.2.1]; exact nI_ge hz (by omega)
      have z64 : z < 64 := by omega
      have hz1 : z < nS τ := by rw [eq_nS hE]; exact hz
      have hsg : fX3_isSingle (nI z) τ = some (b2i (sgl s z), τ) := by rw [e_isSingle hI1 hz1, eq_sgl hE]
      have ec : cn (plP s C S p k) (z + 1) = cn (plP s C S p k) z + (if plP s C S p k z = true then 1 else 0) := rfl
      have r1 := r16 z hz
      have r2 := r16 k hk
      simp only [fX6_placeOf_L13, if_neg c, aI_n z64 (by decide), aI_n k64 (by decide), ob, bd, v4 z hz, v4 k hk, nI_1, ec]
      by_cases g1 : rcN s z = rcN s k
      · rw [if_pos (by rw [g1])]
        cases g2 : sgl s z
        · rw [g2] at hsg
          have : ¬ plP s C S p k z = true := by unfold plP; simp [g2]
          simp only [hsg, ob, b2f, if_true, if_neg this, Nat.add_zero]
        · rw [g2] at hsg
          simp only [hsg, ob, b2t, if_false, e_slow hI hE h p hz g2, lg_cmp_ge, lI_le (sl_b hI hR p hk) (sl_b hI hR p hz)]
          by_cases g3 : slZ s C S p z < slZ s C S p k
          · have : plP s C S p k z = true := by unfold plP; simp [g1, g2, g3]
            simp only [if_neg (Int.not_le.mpr g3), if_pos this, ob, nI_1]
          · have : ¬ plP s C S p k z = true := by unfold plP; simp [g3]
            simp only [if_pos (Int.not_lt.mp g3), if_neg this, ob, Nat.add_zero]
      · have : ¬ plP s C S p k z = true := by unfold plP; simp [g1]
        rw [if_neg (fun e => g1 (nI_inj (by omega) (by omega) e)), ob, if_neg this]
        rfl
    · have c : gI τ 1 1 ≤ nI (nS s) := by rw [hE 1 1 rfl, hI.1.2.2.2.1]; exact nI_le (Nat.le_refl _) (by omega)
      simp only [fX6_placeOf_L13, if_pos c]
  have e1 : (1 : Int32) + nI (cn (plP s C S p k) (nS s)) = nI (plN s C S p k) := by rw [show (1 : Int32) = nI 1 from rfl, nI_add]; rfl
  simp only [fX6_placeOf, e_slow hI hE h p hk hs, ob, hl, e1]
theorem r_placeNow {s t : Sg} {A B : Nat → Nat} (hI : Inv s) (hEt : Eqv s t) (hS : ShOk (lc s) (lx s) A B) (hN : NoFall (lc s) (lx s) A B) (p : Int32) {k : Nat} (hk : k < nS s) : ∃ τ, fX11_placeNow (nI k) p t = some (nI (plN s (shC (lc s) A B) (shS (lc s) (lx s) A B) p k), τ) ∧ Eqv s τ := by
  have a6 := hI.1.2.2.2.2.2
  have k64 : k < 64 := by omega
  obtain ⟨υ, A2, B2, u1, u2⟩ := r_laysShape (inv_cg hEt hI)
  have u3 := rsq_eq hEt u2
  have r16 : ∀ o, o < nS s → rcN s o < 16 := fun o ho => by have := (hI.2.2.1 o ho).2.2.1; have := hI.1.2.2.1; omega
  have key : ∃ τ, lpG (fX11_placeNow_L9 (nI k) p) FU ((1 : Int32), (0 : Int32)) υ = some (nI (plN s (shC (lc s) A B) (shS (lc s) (lx s) A B) p k), τ) ∧ RsQ s A2 B2 τ := by
    refine lp_ex (body := fX11_placeNow_L9 (nI k) p) (b := nI (plN s (shC (lc s) A B) (shS (lc s) (lx s) A B) p k)) (nS s) (fun z => (nI (1 + cn (plP s (shC (lc s) A B) (shS (lc s) (lx s) A B) p k) z), nI z)) (fun z τ => RsQ s A2 B2 τ) (fun z hz τ h => ?_) (fun τ h => ?_) FU (by unfold FU; omega) υ u3
    · have hE := h.1.1
      have hI1 := inv_cg hE hI
      have c : ¬ gI τ 49 3 ≤ nI z := by rw [hE 49 3 rfl, hI.1.2.2.2.2.1]; exact nI_ge hz (by omega)
      have z64 : z < 64 := by omega
      have hz1 : z < nS τ := by rw [eq_nS hE]; exact hz
      have v4 : ∀ o, o < nS s → gI τ 52 o = nI (rcN s o) := fun o ho => by rw [hE 52 o rfl]; exact (hI.2.2.1 o ho).2.1
      have hsg : fX11_isSingle (nI z) τ = some (b2i (sgl s z), τ) := by rw [r_isSingle hI1 hz1, eq_sgl hE]
      have e4 : ∀ o, (4 : Int32) * nI o = nI (4 * o) := fun o => by rw [show (4 : Int32) = nI 4 from rfl, pk_mul]
      have t55 : ∀ o, o < nS s → gI τ 55 (4 * o) = tmr s o 0 := fun o ho => by rw [hE 55 _ rfl]; exact row55 hI ho (l := 0) (by decide)
      obtain ⟨τ2, q1, q2, q3⟩ := r_less hI hS hN h hz hk
      generalize shC (lc s) A B = C at *
      generalize shS (lc s) (lx s) A B = S at *
      have ec : 1 + cn (plP s C S p k) (z + 1) = 1 + cn (plP s C S p k) z + (if plP s C S p k z = true then 1 else 0) := by rw [cn]; omega
      have r1 := r16 z hz
      have r2 := r16 k hk
      have hm : ∀ (Y : Sg), Y = Y := fun _ => rfl
      simp only [fX11_placeNow_L9, if_neg c, aI_n z64 (by decide), aI_n k64 (by decide), ob, bd, v4 z hz, v4 k hk, nI_1, ec]
      generalize 1 + cn (plP s C S p k) z = N
      by_cases g1 : rcN s z = rcN s k
      · rw [if_pos (by rw [g1])]
        cases g2 : sgl s z
        · rw [g2] at hsg
          have : ¬ plP s C S p k z = true := by unfold plP; simp [g2]
          refine ⟨τ, ?_, h⟩
          simp only [hsg, ob, b2f, if_true, if_neg this, Nat.add_zero]
        · rw [g2] at hsg
          simp only [hsg, ob, b2t, if_false, e4, aI_n (show 4 * z < 256 by omega) (by decide), aI_n (show 4 * k < 256 by omega) (by decide), t55 z hz, t55 k hk]
          by_cases gp : p = 0
          · refine ⟨τ, ?_, h⟩
            have es : (tmr s k 0 ≤ tmr s z 0) ↔ ¬ slZ s C S p z < slZ s C S p k := by unfold slZ tmZ; rw [if_pos gp, if_pos gp, Int32.le_iff_toInt_le]; omega
            by_cases g3 : slZ s C S p z < slZ s C S p k
            · have : plP s C S p k z = true := by unfold plP; simp [g1, g2, g3]
              simp only [if_pos gp, if_neg (fun q => es.mp q g3), if_pos this, ob, nI_1]
            · have : ¬ plP s C S p k z = true := by unfold plP; simp [g3]
              simp only [if_pos gp, if_pos (es.mpr g3), if_neg this, ob, Nat.add_zero, Int32.add_zero]
          · refine ⟨τ2, ?_, rsq_cg h q2 q3⟩
            have es : (rtZ s C S z < rtZ s C S k) ↔ slZ s C S p z < slZ s C S p k := by unfold slZ; rw [if_neg gp, if_neg gp]
            have c1 : ¬ (1 : Int32) = 0 := by decide
            by_cases g3 : slZ s C S p z < slZ s C S p k
            · have : plP s C S p k z = true := by unfold plP; simp [g1, g2, g3]
              rw [if_pos (es.mpr g3)] at q1
              simp only [if_neg gp, q1, ob, if_neg c1, if_pos this, nI_1]
            · have : ¬ plP s C S p k z = true := by unfold plP; simp [g3]
              rw [if_neg (fun q => g3 (es.mp q))] at q1
              simp only [if_neg gp, q1, ob, if_true, if_neg this, Nat.add_zero, Int32.add_zero]
      · have : ¬ plP s C S p k z = true := by unfold plP; simp [g1]
        refine ⟨τ, ?_, h⟩
        rw [if_neg (fun e => g1 (nI_inj (by omega) (by omega) e)), ob, if_neg this]
        rfl
    · have hE := h.1.1
      have c : gI τ 49 3 ≤ nI (nS s) := by rw [hE 49 3 rfl, hI.1.2.2.2.2.1]; exact nI_le (Nat.le_refl _) (by omega)
      simp only [fX11_placeNow_L9, if_pos c]
      rfl
  obtain ⟨τ, k1, k2⟩ := key
  refine ⟨τ, ?_, k2.1.1⟩
  simp only [fX11_placeNow, u1, ob, k1]
