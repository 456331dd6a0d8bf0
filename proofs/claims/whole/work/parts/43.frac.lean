/-! longs as whole numbers; greatest common divisors; lowest terms -/
def lI (z : Int) : Int64 := Int64.ofInt z
/-- far inside a long -/
def Bd (z : Int) : Prop := -4611686018427387904 < z ∧ z < 4611686018427387904
theorem lI_add (a b : Int) : lI a + lI b = lI (a + b) := (Int64.ofInt_add a b).symm
theorem lI_sub (a b : Int) : lI a - lI b = lI (a - b) := (Int64.ofInt_sub a b).symm
theorem lI_mul (a b : Int) : lI a * lI b = lI (a * b) := (Int64.ofInt_mul a b).symm
theorem lI_neg (a : Int) : -lI a = lI (-a) := (Int64.ofInt_neg a).symm
theorem lI_T {z : Int} (h : Bd z) : (lI z).toInt = z := Int64.toInt_ofInt_of_le (by have := h.1; omega) (by have := h.2; omega)
theorem lI_lt {a b : Int} (ha : Bd a) (hb : Bd b) : lI a < lI b ↔ a < b := by rw [Int64.lt_iff_toInt_lt, lI_T ha, lI_T hb]
theorem lI_le {a b : Int} (ha : Bd a) (hb : Bd b) : lI a ≤ lI b ↔ a ≤ b := by rw [Int64.le_iff_toInt_le, lI_T ha, lI_T hb]
theorem lI_eq {a b : Int} (ha : Bd a) (hb : Bd b) : lI a = lI b ↔ a = b := by rw [← Int64.toInt_inj, lI_T ha, lI_T hb]
theorem lI_ne0 {a : Int} (ha : Bd a) (h : a ≠ 0) : ¬ lI a = 0 := fun e => h ((lI_eq ha (by constructor <;> decide)).mp (e.trans (rfl : (0 : Int64) = lI 0)))
theorem lI_div {a b : Int} (ha : Bd a) (hb : Bd b) : lI a / lI b = lI (a.tdiv b) := by
  rw [← Int64.toInt_inj, Int64.toInt_div_of_ne_left, lI_T ha, lI_T hb, lI_T]
  · have h1 := Int.natAbs_tdiv_le_natAbs a b
    have h2 := ha.1
    have h3 := ha.2
    constructor <;> omega
  · intro e
    have := congrArg Int64.toInt e
    rw [lI_T ha] at this
    have h2 := ha.1
    have h3 : Int64.minValue.toInt = -9223372036854775808 := rfl
    omega
theorem lN_I (n : Nat) : lN n = lI n := (Int64.ofInt_eq_ofNat).symm
theorem nI_lI {n : Nat} (h : n < 2 ^ 31) : (nI n).toInt64 = lI n := by rw [nI_l h, lN_I]
/-- an int's value as a long -/
theorem i2l_I (x : Int32) : x.toInt64 = lI x.toInt := by rw [← Int64.toInt_inj, Int32.toInt_toInt64, lI_T]; have h1 := Int32.toInt_lt x; have h2 := Int32.le_toInt x; constructor <;> omega
theorem dL_I {a b : Int} (ha : Bd a) (hb : Bd b) (h : b ≠ 0) : dL (lI a) (lI b) = some (lI (a.tdiv b)) := by
  unfold dL
  rw [if_neg (lI_ne0 hb h), lI_div ha hb]
theorem mL_N {a b : Nat} (ha : a < 2 ^ 62) (hb : b < 2 ^ 62) (h : b ≠ 0) : mL (lI a) (lI b) = some (lI ((a % b : Nat) : Int)) := by
  unfold mL
  rw [if_neg (lI_ne0 (by constructor <;> omega) (by omega)), ← lN_I, ← lN_I, ← lN_I, pk_lRem (by omega) (by omega) (by omega)]
/-- Euclid's way -/
def eit : Nat → Nat → Nat → Nat × Nat
  | a, b, 0 => (a, b)
  | a, b, k + 1 => eit b (a % b) k
theorem eit_s (a b k : Nat) : eit a b (k + 1) = ((eit a b k).2, (eit a b k).1 % (eit a b k).2) := by
  induction k generalizing a b with
  | zero => rfl
  | succ k ih =>
    show eit b (a % b) (k + 1) = _
    rw [ih]
    rfl
theorem half_mod {b c : Nat} (h : c < b) (h0 : 0 < c) : 2 * (b % c) < b := by
  by_cases h2 : 2 * c ≤ b
  · have := Nat.mod_lt b h0
    omega
  · have : b % c = b - c := by
      rw [Nat.mod_eq_sub_mod (by omega), Nat.mod_eq_of_lt (by omega)]
    omega
theorem eit_K : ∀ (n a b : Nat), b < 2 ^ n → ∃ K, K ≤ 2 * n + 1 ∧ eit a b K = (Nat.gcd a b, 0) ∧ ∀ k, k < K → (eit a b k).2 ≠ 0 := by
  intro n
  induction n with
  | zero =>
    intro a b hb
    obtain rfl : b = 0 := by simpa using hb
    exact ⟨0, by omega, by simp [eit], fun k hk => by omega⟩
  | succ n ih =>
    intro a b hb
    by_cases h0 : b = 0
    · subst h0
      exact ⟨0, by omega, by simp [eit], fun k hk => by omega⟩
    · by_cases h1 : a % b = 0
      · refine ⟨1, by omega, ?_, fun k hk => ?_⟩
        · show eit b (a % b) 0 = _
          rw [h1, Nat.gcd_comm, Nat.gcd_rec, h1]
          simp [eit]
        · obtain rfl : k = 0 := by omega
          exact h0
      · have hlt := Nat.mod_lt a (show b > 0 by omega)
        have hh := half_mod hlt (by omega)
        obtain ⟨K, hK, e, hn⟩ := ih (a % b) (b % (a % b)) (by rw [Nat.pow_succ] at hb; omega)
        refine ⟨K + 2, by omega, ?_, fun k hk => ?_⟩
        · show eit (a % b) (b % (a % b)) K = _
          rw [e]
          congr 1
          rw [Nat.gcd_comm (a % b), ← Nat.gcd_rec, ← Nat.gcd_rec, Nat.gcd_comm]
        · match k, hk with
          | 0, _ => exact h0
          | 1, _ => exact h1
          | k + 2, hk => exact hn k (by omega)
theorem eit_lt {a b M : Nat} (ha : a < M) (hb : b < M) : ∀ k, (∀ j, j < k → (eit a b j).2 ≠ 0) → (eit a b k).1 < M ∧ (eit a b k).2 < M := by
  intro k
  induction k with
  | zero => intro _; exact ⟨ha, hb⟩
  | succ k ih =>
    intro h
    have hk := ih (fun j hj => h j (by omega))
    have h0 := h k (by omega)
    rw [eit_s]
    exact ⟨hk.2, Nat.lt_trans (Nat.mod_lt _ (by omega)) hk.2⟩
theorem cmp0 {b : Nat} (hb : b < 2 ^ 62) : (lg_cmp (lI b) (0 : Int64) = 0) ↔ b = 0 := by
  rw [lg_cmp_eq, show (0 : Int64) = lI 0 from rfl, lI_eq (by constructor <;> omega) (by constructor <;> decide)]
  omega
theorem e_common {a b : Nat} (ha : a < 2 ^ 62) (hb : b < 2 ^ 62) (s : Sg) : fX0_commonPart (lI a) (lI b) s = some (lI (Nat.gcd a b), s) := by
  obtain ⟨K, hK, e, hn⟩ := eit_K 62 a b hb
  have hl : lpG fX0_commonPart_L9 FU (lI a, lI b, (0 : Int32)) s = some (lI (Nat.gcd a b), s) := by
    refine lp_rd K (fun k => (lI (eit a b k).1, lI (eit a b k).2, nI k)) (fun k hk => ?_) ?_ FU (by unfold FU; omega)
    · obtain ⟨q1, q2⟩ := eit_lt ha hb k (fun j hj => hn j (by omega))
      have c : ¬ (130 : Int32) ≤ nI k := nI_ge (b := 130) (by omega) (by decide)
      have c2 : ¬ lg_cmp (lI (eit a b k).2) (0 : Int64) = 0 := fun h => hn k hk ((cmp0 q2).mp h)
      simp only [fX0_commonPart_L9, if_neg c, if_neg c2, mL_N q1 q2 (hn k hk), ob, bd, nI_1]
      rw [eit_s]
    · have c2 : lg_cmp (lI ((0 : Nat) : Int)) (0 : Int64) = 0 := (cmp0 (by decide)).mpr rfl
      simp only [e, fX0_commonPart_L9, if_pos c2]
      split <;> rfl
  simp only [fX0_commonPart, hl, ob]
theorem r_divL {a b : Nat} (ha : a < 2 ^ 62) (hb : b < 2 ^ 62) (s : Sg) : lpG fX11_divisor_L17 FU (lI a, lI b) s = some (lI (Nat.gcd a b), s) := by
  obtain ⟨K, hK, e, hn⟩ := eit_K 62 a b hb
  refine lp_rd K (fun k => (lI (eit a b k).1, lI (eit a b k).2)) (fun k hk => ?_) ?_ FU (by unfold FU; omega)
  · obtain ⟨q1, q2⟩ := eit_lt ha hb k (fun j hj => hn j (by omega))
    have c2 : ¬ lg_cmp (lI (eit a b k).2) (0 : Int64) = 0 := fun h => hn k hk ((cmp0 q2).mp h)
    simp only [fX11_divisor_L17, if_neg c2, mL_N q1 q2 (hn k hk), ob]
    rw [eit_s]
  · have c2 : lg_cmp (lI ((0 : Nat) : Int)) (0 : Int64) = 0 := (cmp0 (by decide)).mpr rfl
    simp only [e, fX11_divisor_L17, if_pos c2]
def gcI (z : Int) (b : Nat) : Nat := Nat.gcd z.natAbs b
theorem r_divisor {z : Int} {b : Nat} (hz : Bd z) (hb : b < 2 ^ 62) (s : Sg) : fX11_divisor (lI z) (lI b) s = some (lI (gcI z b), s) := by
  have h1 := hz.1
  have h2 := hz.2
  unfold fX11_divisor
  by_cases h : 0 ≤ z
  · have c : 0 ≤ lg_cmp (lI z) (0 : Int64) := by rw [lg_cmp_ge, show (0 : Int64) = lI 0 from rfl, lI_le (by constructor <;> decide) hz]; exact h
    have e : z = ((z.natAbs : Nat) : Int) := by omega
    rw [if_pos c, ob]
    conv => lhs; rw [e]
    rw [r_divL (by omega) hb, ob]
    rfl
  · have c : ¬ 0 ≤ lg_cmp (lI z) (0 : Int64) := by rw [lg_cmp_ge, show (0 : Int64) = lI 0 from rfl, lI_le (by constructor <;> decide) hz]; exact h
    have e : -z = ((z.natAbs : Nat) : Int) := by omega
    rw [if_neg c, ob, lI_neg, e, r_divL (by omega) hb, ob]
    rfl
theorem abL_I {z : Int} (hz : Bd z) : abL (lI z) = lI ((z.natAbs : Nat) : Int) := by
  unfold abL
  by_cases h : 0 < z
  · have c : (0 : Int64) < lI z := (lI_lt (a := 0) (by constructor <;> decide) hz).mpr h
    rw [if_pos c, show ((z.natAbs : Nat) : Int) = z by omega]
  · have c : ¬ (0 : Int64) < lI z := fun e => h ((lI_lt (a := 0) (by constructor <;> decide) hz).mp e)
    rw [if_neg c, lI_neg, show ((z.natAbs : Nat) : Int) = -z by omega]
/-- lowest terms -/
def lowA (z : Int) (b : Nat) : Int := z.tdiv (gcI z b)
def lowB (z : Int) (b : Nat) : Nat := b / gcI z b
theorem gcI_pos {z : Int} {b : Nat} (hb : 0 < b) : 0 < gcI z b := Nat.gcd_pos_of_pos_right _ hb
theorem gcI_le {z : Int} {b : Nat} (hb : 0 < b) : gcI z b ≤ b := Nat.gcd_le_right _ hb
theorem lowA_m (z : Int) (b : Nat) : lowA z b * gcI z b = z := Int.tdiv_mul_cancel (Int.ofNat_dvd_left.mpr (Nat.gcd_dvd_left _ _))
theorem lowB_m (z : Int) (b : Nat) : lowB z b * gcI z b = b := Nat.div_mul_cancel (Nat.gcd_dvd_right _ _)
theorem lowB_pos {z : Int} {b : Nat} (hb : 0 < b) : 0 < lowB z b := by
  rcases Nat.eq_zero_or_pos (lowB z b) with h | h
  · have := lowB_m z b
    rw [h] at this
    omega
  · exact h
theorem lowB_le (z : Int) (b : Nat) : lowB z b ≤ b := Nat.div_le_self _ _
theorem low_cross {z : Int} {b : Nat} : lowA z b * b = z * lowB z b := by
  have h1 := lowA_m z b
  have h2 := lowB_m z b
  generalize lowA z b = A at *
  generalize lowB z b = B at *
  generalize gcI z b = g at *
  have hb : (b : Int) = B * g := by rw [← h2, Int.natCast_mul]
  rw [hb, ← h1, Int.mul_assoc, Int.mul_comm (g : Int)]
theorem lowA_abs (z : Int) (b : Nat) : (lowA z b).natAbs ≤ z.natAbs := Int.natAbs_tdiv_le_natAbs _ _
theorem low_cop {z : Int} {b : Nat} (hb : 0 < b) : Nat.Coprime (lowA z b).natAbs (lowB z b) := by
  have h1 : (lowA z b).natAbs = z.natAbs / gcI z b := by
    have h := congrArg Int.natAbs (lowA_m z b)
    rw [Int.natAbs_mul, Int.natAbs_natCast] at h
    rw [← h, Nat.mul_div_cancel _ (gcI_pos hb)]
  rw [h1]
  exact Nat.coprime_div_gcd_div_gcd (gcI_pos (z := z) hb)
theorem low_uniq {A A' : Int} {B B' : Nat} (hB : 0 < B) (hB' : 0 < B') (hc : Nat.Coprime A.natAbs B) (hc' : Nat.Coprime A'.natAbs B') (h : A * B' = A' * B) : A = A' ∧ B = B' := by
  have hn := congrArg Int.natAbs h
  rw [Int.natAbs_mul, Int.natAbs_mul, Int.natAbs_natCast, Int.natAbs_natCast] at hn
  have d1 : B ∣ B' := (Nat.Coprime.symm hc).dvd_of_dvd_mul_left (by rw [hn]; exact Nat.dvd_mul_left _ _)
  have d2 : B' ∣ B := (Nat.Coprime.symm hc').dvd_of_dvd_mul_left (by rw [← hn]; exact Nat.dvd_mul_left _ _)
  have e := Nat.dvd_antisymm d1 d2
  subst e
  exact ⟨Int.eq_of_mul_eq_mul_right (by omega) h, rfl⟩
/-- one number, one form -/
theorem low_eq {z z' : Int} {b b' : Nat} (hb : 0 < b) (hb' : 0 < b') (h : z * b' = z' * b) : lowA z b = lowA z' b' ∧ lowB z b = lowB z' b' := by
  refine low_uniq (lowB_pos hb) (lowB_pos hb') (low_cop hb) (low_cop hb') ?_
  have e1 := low_cross (z := z) (b := b)
  have e2 := low_cross (z := z') (b := b')
  have hp : ((b : Int) * b') ≠ 0 := Int.mul_ne_zero (by omega) (by omega)
  apply Int.eq_of_mul_eq_mul_right hp
  have l : lowA z b * lowB z' b' * ((b : Int) * b') = (lowA z b * b) * (lowB z' b' * b') := by
    simp only [Int.mul_assoc, Int.mul_left_comm, Int.mul_comm]
  have r : lowA z' b' * lowB z b * ((b : Int) * b') = (lowA z' b' * b') * (lowB z b * b) := by
    simp only [Int.mul_assoc, Int.mul_left_comm, Int.mul_comm]
  rw [l, r, e1, e2]
  have l2 : z * lowB z b * (lowB z' b' * (b' : Int)) = (z * b') * (lowB z b * lowB z' b') := by
    simp only [Int.mul_assoc, Int.mul_left_comm, Int.mul_comm]
  have r2 : z' * lowB z' b' * (lowB z b * (b : Int)) = (z' * b) * (lowB z b * lowB z' b') := by
    simp only [Int.mul_assoc, Int.mul_left_comm, Int.mul_comm]
  rw [l2, r2, h]
theorem bdN {n : Nat} (h : n < 2 ^ 62) : Bd n := by constructor <;> omega
theorem e_set {z : Int} {b : Nat} (hz : Bd z) (hb0 : 0 < b) (hb : b < 2 ^ 62) (s : Sg) : fX0_set (lI z) (lI b) s = some (sL (sL s 48 0 (lI (lowA z b))) 48 1 (lI (lowB z b))) := by
  have h1 := hz.1
  have h2 := hz.2
  have hg := gcI_le (z := z) hb0
  have hg0 := gcI_pos (z := z) hb0
  have c : ¬ lg_cmp (lI (gcI z b)) (0 : Int64) ≤ 0 := by
    rw [lg_cmp_le, show (0 : Int64) = lI 0 from rfl, lI_le (bdN (by omega)) (by constructor <;> decide)]
    omega
  have e1 : dL (lI z) (lI (gcI z b)) = some (lI (lowA z b)) := dL_I hz (bdN (by omega)) (by omega)
  have e2 : dL (lI b) (lI (gcI z b)) = some (lI (lowB z b)) := by
    rw [dL_I (bdN hb) (bdN (by omega)) (by omega)]
    rfl
  unfold fX0_set
  rw [abL_I hz, e_common (by omega) hb, ob]
  show (if lg_cmp (lI (gcI z b)) (0 : Int64) ≤ 0 then _ else _) = _
  rw [if_neg c]
  show ((dL (lI z) (lI (gcI z b))).bind _) = _
  rw [e1, ob, bd]
  show ((dL (lI b) (lI (gcI z b))).bind _) = _
  rw [e2, ob, bd]
theorem e_part (x : Int32) (s : Sg) (A B : Int) : fX0_part x (sL (sL s 48 0 (lI A)) 48 1 (lI B)) = some (if x = 0 then lI A else lI B, sL (sL s 48 0 (lI A)) 48 1 (lI B)) := by
  unfold fX0_part
  split
  · rw [gL_ne _ _ (Or.inr (by decide)), gL_same]
  · rw [gL_same]
theorem r_lowest {z : Int} {b : Nat} (hz : Bd z) (hb0 : 0 < b) (hb : b < 2 ^ 62) (x : Int32) (s : Sg) : fX11_lowest (lI z) (lI b) x s = some (if x = 0 then lI (lowA z b) else lI (lowB z b), s) := by
  have hg := gcI_le (z := z) hb0
  have hg0 := gcI_pos (z := z) hb0
  have e1 : dL (lI z) (lI (gcI z b)) = some (lI (lowA z b)) := dL_I hz (bdN (by omega)) (by omega)
  have e2 : dL (lI b) (lI (gcI z b)) = some (lI (lowB z b)) := by
    rw [dL_I (bdN hb) (bdN (by omega)) (by omega)]
    rfl
  unfold fX11_lowest
  rw [r_divisor hz hb, ob]
  simp only [e1, e2, ob]
  split <;> rfl
/-! diff -/
theorem e_refusal (x : Int32) (s : Sg) : fX10_refusal x s = some (-9223372036854775808 - x.toInt64, s) := rfl
theorem r_no (x : Int32) (s : Sg) : fX11_no x s = some (-9223372036854775808 - x.toInt64, s) := rfl
/-- a doubled diff as a whole number -/
def dD (s : Sg) (k : Nat) : Int := (dblD (tmr s k)).toInt
theorem eq_dD {s t : Sg} (h : Eqv s t) : dD t = dD s := by funext k; unfold dD; rw [eq_tm h]
theorem dD_b {s : Sg} (hI : Inv s) {k : Nat} (hk : k < nS s) : -19998 ≤ dD s k ∧ dD s k ≤ 19998 := by
  obtain ⟨a, ha, ea, -⟩ := dblM_n (t := tmr s k) (f := 0) (okTm hI hk (by decide)) (okTm hI hk (by decide))
  obtain ⟨b, hb, eb, -⟩ := dblM_n (t := tmr s k) (f := 1) (okTm hI hk (by decide)) (okTm hI hk (by decide))
  unfold dD dblD
  rw [ea, eb, pk_sub_toInt (by omega) (by omega)]
  omega
theorem all_diff : ok_diff Inv := by
  intro x y s hI
  have hA := hI.1
  cases h1 : hasW s x
  · exact ⟨-9223372036854775808 - (-2 : Int32).toInt64, s, s, by simp only [fX10_diff, e_hasSwim, ob, h1, b2f, if_true, e_refusal], by simp only [fX11_diff, r_isSwim hA, ob, h1, b2f, if_true, r_no], hI⟩
  · cases h2 : wi y 0 1
    · exact ⟨-9223372036854775808 - (-2 : Int32).toInt64, s, s, by simp only [fX10_diff, e_hasSwim, e_isPart, ob, h1, h2, b2f, b2t, if_true, if_false, e_refusal], by simp only [fX11_diff, r_isSwim hA, e_in, ob, h1, h2, b2f, b2t, if_true, if_false, r_no], hI⟩
    · obtain ⟨p, hp, rfl⟩ := hasW_n hA h1
      obtain ⟨w0, -⟩ := sw_facts hI hp
      cases h3 : hasDV (tmr s p)
      · exact ⟨-9223372036854775808 - (-3 : Int32).toInt64, s, s, by simp only [fX10_diff, e_hasSwim, e_isPart, ob, h1, h2, h3, b2f, b2t, if_true, if_false, e_hasDiff w0, e_refusal], by simp only [fX11_diff, r_isSwim hA, e_in, ob, h1, h2, h3, b2f, b2t, if_true, if_false, r_hasDiff hI hp, r_no], hI⟩
      · have hb := dD_b hI hp
        have hbd : Bd (dD s p) := by constructor <;> omega
        have ed : (dblD (tmr s p)).toInt64 = lI (dD s p) := i2l_I _
        have e2 : (2 : Int64) = lI ((2 : Nat) : Int) := rfl
        generalize hτ : sL (sL s 48 0 (lI (lowA (dD s p) 2))) 48 1 (lI (lowB (dD s p) 2)) = τ
        have hE : Eqv s τ := by rw [← hτ]; exact ((Eqv.rf s).L _ _ _).L _ _ _
        have hI2 := inv_cg hE hI
        have hp2 : p < nS τ := by rw [eq_nS hE]; exact hp
        have hw2 : hasW τ (nI p) = true := by
          unfold hasW
          rw [hE 1 1 rfl]
          exact h1
        refine ⟨if y = 0 then lI (lowA (dD s p) 2) else lI (lowB (dD s p) 2), τ, τ, ?_, ?_, hI2⟩
        · rw [← hτ]
          simp only [fX10_diff, e_hasSwim, e_isPart, ob, h1, h2, h3, b2t, if_false, e_hasDiff w0, e_doubledDiff w0, ed, e2, e_set (b := 2) hbd (by decide) (by decide), e_part]
        · have ed2 : (dblD (tmr τ p)).toInt64 = lI (dD s p) := by rw [eq_tm hE]; exact ed
          have h3' : hasDV (tmr τ p) = true := by rw [eq_tm hE]; exact h3
          simp only [fX11_diff, r_isSwim hI2.1, e_in, ob, hw2, h2, h3', b2t, if_false, r_hasDiff hI2 hp2, r_twiceDiff hI2 hp2, ed2, e2, r_lowest (b := 2) hbd (by decide) (by decide)]
