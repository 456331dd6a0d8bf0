/-! CHANCE: the reference -/
def Od (n c : Nat) (σ : Sg) : Prop := ∀ k, k < n → gI σ 62 k = nI (dig c k)
def Dg (n c : Nat) : Prop := ∀ k, k < n → dig c k < n
def F62 (σ τ : Sg) : Prop := (∀ j, j ≠ 62 → gI τ j = gI σ j) ∧ gL τ = gL σ
theorem F62.tr {σ τ υ : Sg} (h : F62 σ τ) (h2 : F62 τ υ) : F62 σ υ := ⟨fun j hj => (h2.1 j hj).trans (h.1 j hj), h2.2.trans h.2⟩
theorem F62.eq {σ τ : Sg} (h : F62 σ τ) : Eqv σ τ := fun j k hc => by
  have n62 : j ≠ 62 := fun e => by subst e; rw [core_rf (by decide) (by decide)] at hc; cases hc
  rw [h.1 j n62]
theorem Dg.swp {n c i j : Nat} (h : Dg n c) (hi : i < n) (hj : j < n) : Dg n (swp c i j) := by
  intro k hk
  rw [dig_swp2]
  split
  · exact h j hj
  · split
    · exact h i hi
    · exact h k hk
theorem Od.swp {n c i j : Nat} {σ : Sg} (h : Od n c σ) (hi : i < n) (hj : j < n) : Od n (swp c i j) (sI (sI σ 62 i (nI (dig c j))) 62 j (nI (dig c i))) := by
  intro k hk
  rw [dig_swp2]
  by_cases e1 : k = i
  · rw [if_pos e1]
    by_cases e2 : k = j
    · rw [← e1, ← e2, gI_same]
    · rw [gI_ne _ _ (Or.inr e2), e1, gI_same]
  · rw [if_neg e1]
    by_cases e2 : k = j
    · rw [if_pos e2, e2, gI_same]
    · rw [if_neg e2, gI_ne _ _ (Or.inr e2), gI_ne _ _ (Or.inr e1)]
      exact h k hk
theorem sw62 (σ : Sg) (i j : Nat) (x y : Int32) : F62 σ (sI (sI σ 62 i x) 62 j y) := ⟨fun a ha => by rw [gI_row _ _ ha, gI_row _ _ ha], rfl⟩
theorem rvs_d {n : Nat} : ∀ F c lo hi, hi < n → Dg n c → Dg n (rvs F c lo hi) := by
  intro F
  induction F with
  | zero => intro c lo hi _ h; exact h
  | succ F ih =>
    intro c lo hi hh h
    rw [rvs]
    cases e : Nat.ble hi lo
    · have : ¬ hi ≤ lo := fun g => by rw [Nat.ble_eq_true_of_le g] at e; cases e
      exact ih _ _ _ (by omega) (h.swp (by omega) hh)
    · exact h
theorem nI_dn {m : Nat} (h : 0 < m) : nI m + (-1 : Int32) = nI (m - 1) := by
  obtain ⟨p, rfl⟩ : ∃ p, m = p + 1 := ⟨m - 1, by omega⟩
  rw [show p + 1 - 1 = p by omega, ← nI_pred p, Int32.sub_eq_add_neg]
theorem r_rvs {n : Nat} (hn : n ≤ 7) : ∀ F c lo hi, hi < n → lo ≤ hi + 1 → hi < lo + 2 * F + 1 → ∀ (m : Nat) (σ : Sg), F < m → Od n c σ → ∃ τ, lpG fX11_turns_L100 m (nI lo, nI hi) σ = some ((), τ) ∧ Od n (rvs F c lo hi) τ ∧ F62 σ τ := by
  intro F
  induction F with
  | zero =>
    intro c lo hi h1 h3 h2 m σ hm h
    obtain ⟨m, rfl⟩ : ∃ m', m = m' + 1 := ⟨m - 1, by omega⟩
    have c0 : nI hi ≤ nI lo := nI_le (by omega) (by omega)
    refine ⟨σ, ?_, h, fun _ _ => rfl, rfl⟩
    rw [lpG]
    simp only [fX11_turns_L100, if_pos c0]
  | succ F ih =>
    intro c lo hi h1 h3 h2 m σ hm h
    obtain ⟨m, rfl⟩ : ∃ m', m = m' + 1 := ⟨m - 1, by omega⟩
    rw [rvs]
    by_cases g : hi ≤ lo
    · have c0 : nI hi ≤ nI lo := nI_le g (by omega)
      rw [Nat.ble_eq_true_of_le g]
      refine ⟨σ, ?_, h, fun _ _ => rfl, rfl⟩
      rw [lpG]
      simp only [fX11_turns_L100, if_pos c0]
    · have c0 : ¬ nI hi ≤ nI lo := nI_ge (by omega) (by omega)
      have gb : Nat.ble hi lo = false := by
        cases e : Nat.ble hi lo
        · rfl
        · exact absurd (Nat.le_of_ble_eq_true e) g
      rw [gb]
      have l8 : lo < 8 := by omega
      have h8 : hi < 8 := by omega
      obtain ⟨τ, t1, t2, t3⟩ := ih (swp c lo hi) (lo + 1) (hi - 1) (by omega) (by omega) (by omega) m _ (by omega) (h.swp (i := lo) (j := hi) (by omega) h1)
      refine ⟨τ, ?_, t2, (sw62 σ lo hi _ _).tr t3⟩
      rw [← t1, lpG]
      simp only [fX11_turns_L100, if_neg c0, aI_n l8 (by decide), aI_n h8 (by decide), wI_n l8 (by decide), wI_n h8 (by decide), ob, bd, h lo (by omega), h hi h1, nI_1, nI_dn (show 0 < hi by omega)]
theorem sc1_le (c : Nat) : ∀ m, sc1 c m ≤ m := by
  intro m
  induction m with
  | zero => exact Nat.le_refl _
  | succ m ih =>
    rw [sc1]
    cases Nat.ble (dig c m) (dig c (m + 1))
    · show sc1 c m ≤ m + 1
      omega
    · exact Nat.le_refl _
theorem sc2_le (c d : Nat) : ∀ m, sc2 c d (m + 1) ≤ m := by
  intro m
  induction m with
  | zero => rw [sc2]; cases Nat.ble d (dig c 0) <;> exact Nat.le_refl _
  | succ m ih =>
    rw [sc2]
    cases Nat.ble d (dig c (m + 1))
    · show sc2 c d (m + 1) ≤ m + 1
      omega
    · exact Nat.le_refl _
theorem ble_f {a b : Nat} (g : ¬ a ≤ b) : Nat.ble a b = false := by
  cases e : Nat.ble a b
  · rfl
  · exact absurd (Nat.le_of_ble_eq_true e) g
theorem r_sc1 {n c : Nat} (hn : n ≤ 7) {σ : Sg} (h : Od n c σ) (p : Int32) : ∀ m, m < n → ∀ f, m < f → lpG (fX11_turns_L4 p) f (nI m - 1) σ = some (nI (sc1 c m) - 1, σ) := by
  intro m
  induction m with
  | zero =>
    intro _ f hf
    obtain ⟨f, rfl⟩ : ∃ m', f = m' + 1 := ⟨f - 1, by omega⟩
    rw [lpG]
    have c0 : nI 0 - 1 < 0 := by decide
    simp only [fX11_turns_L4, if_pos c0]
    rfl
  | succ m ih =>
    intro hm f hf
    obtain ⟨f, rfl⟩ : ∃ m', f = m' + 1 := ⟨f - 1, by omega⟩
    have c0 : ¬ nI m < 0 := nI_pos (by omega)
    have m8 : m < 8 := by omega
    have m9 : m + 1 < 8 := by omega
    have d1 := dig_lt c m
    have d2 := dig_lt c (m + 1)
    rw [nI_pred, lpG, sc1]
    by_cases g : dig c m ≤ dig c (m + 1)
    · have cg : nI (dig c m) ≤ nI (dig c (m + 1)) := nI_le g (by omega)
      rw [Nat.ble_eq_true_of_le g]
      simp only [fX11_turns_L4, if_neg c0, aI_n m8 (by decide), nI_1, aI_n m9 (by decide), ob, h m (by omega), h (m + 1) hm, if_pos cg, cond_true, nI_pred]
    · have cg : ¬ nI (dig c m) ≤ nI (dig c (m + 1)) := nI_ge (by omega) (by omega)
      rw [ble_f g]
      have e : nI m + (-1 : Int32) = nI m - 1 := by rw [Int32.sub_eq_add_neg]
      simp only [fX11_turns_L4, if_neg c0, aI_n m8 (by decide), nI_1, aI_n m9 (by decide), ob, bd, h m (by omega), h (m + 1) hm, if_neg cg, cond_false, e]
      exact ih (by omega) f (by omega)
theorem r_sc2 {n c : Nat} (hn : n ≤ 7) {σ : Sg} (h : Od n c σ) (p : Int32) {q : Nat} (hq : q < n) : ∀ m, q ≤ m → m < n → ∀ f, m < f → lpG (fX11_turns_L41 p (nI q)) f (nI m) σ = some (nI (sc2 c (dig c q) (m + 1)), σ) := by
  intro m
  induction m with
  | zero =>
    intro h1 h2 f hf
    obtain ⟨f, rfl⟩ : ∃ m', f = m' + 1 := ⟨f - 1, by omega⟩
    obtain rfl : q = 0 := by omega
    have cg : nI (dig c 0) ≤ nI (dig c 0) := Int32.le_refl _
    rw [lpG, sc2, Nat.ble_eq_true_of_le (Nat.le_refl _)]
    simp only [fX11_turns_L41, aI_n (show 0 < 8 by decide) (by decide), ob, h 0 hq, if_pos cg, cond_true]
  | succ m ih =>
    intro h1 h2 f hf
    obtain ⟨f, rfl⟩ : ∃ m', f = m' + 1 := ⟨f - 1, by omega⟩
    have m8 : m + 1 < 8 := by omega
    have q8 : q < 8 := by omega
    have d1 := dig_lt c q
    have d2 := dig_lt c (m + 1)
    rw [lpG, sc2]
    by_cases g : dig c q ≤ dig c (m + 1)
    · have cg : nI (dig c q) ≤ nI (dig c (m + 1)) := nI_le g (by omega)
      rw [Nat.ble_eq_true_of_le g]
      simp only [fX11_turns_L41, aI_n m8 (by decide), aI_n q8 (by decide), ob, h q hq, h (m + 1) h2, if_pos cg, cond_true]
    · have cg : ¬ nI (dig c q) ≤ nI (dig c (m + 1)) := nI_ge (by omega) (by omega)
      rw [ble_f g]
      have hqm : q ≠ m + 1 := fun e => g (by rw [e]; exact Nat.le_refl _)
      simp only [fX11_turns_L41, aI_n m8 (by decide), aI_n q8 (by decide), ob, bd, h q hq, h (m + 1) h2, if_neg cg, cond_false, nI_dn (Nat.succ_pos m), Nat.add_sub_cancel]
      exact ih (by omega) (by omega) f (by omega)
theorem r_turns0 {n c : Nat} (h2 : 2 ≤ n) (hn : n ≤ 7) {σ : Sg} (h : Od n c σ) (h0 : sc1 c (n - 1) = 0) : fX11_turns (nI n) σ = some (0, σ) := by
  have e1 : nI n - 2 = nI (n - 1) - 1 := by
    rw [show n - 1 = (n - 2) + 1 by omega, nI_pred]
    exact nI_sub (i := 2) h2
  have k := r_sc1 hn h (nI n) (n - 1) (by omega) FU (by unfold FU; omega)
  rw [h0] at k
  have c0 : ¬ (0 : Int32) ≤ nI 0 - 1 := by decide
  simp only [fX11_turns, bd, e1, k, ob, if_neg c0]
theorem r_turns1 {n c : Nat} (h2 : 2 ≤ n) (hn : n ≤ 7) {σ : Sg} (h : Od n c σ) (h0 : sc1 c (n - 1) ≠ 0) : ∃ τ, fX11_turns (nI n) σ = some (1, τ) ∧ Od n (nxt n c) τ ∧ F62 σ τ := by
  have e1 : nI n - 2 = nI (n - 1) - 1 := by
    rw [show n - 1 = (n - 2) + 1 by omega, nI_pred]
    exact nI_sub (i := 2) h2
  have e2 : nI n - 1 = nI (n - 1) := nI_sub (i := 1) (by omega)
  have k := r_sc1 hn h (nI n) (n - 1) (by omega) FU (by unfold FU; omega)
  have hb := sc1_le c (n - 1)
  unfold nxt
  generalize sc1 c (n - 1) = p at *
  obtain ⟨q, rfl⟩ : ∃ q, p = q + 1 := ⟨p - 1, by omega⟩
  rw [nI_pred] at k
  have c0 : (0 : Int32) ≤ nI q := nI_pos' (by omega)
  have k2 := r_sc2 hn h (nI n) (q := q) (by omega) (n - 1) (by omega) (by omega) FU (by unfold FU; omega)
  have hb2 := sc2_le c (dig c q) (n - 1)
  rw [show n - 1 + 1 = n by omega] at k2 hb2
  rw [Nat.add_sub_cancel]
  generalize sc2 c (dig c q) n = t at *
  have q8 : q < 8 := by omega
  have t8 : t < 8 := by omega
  obtain ⟨τ, t1, t2, t3⟩ := r_rvs hn 8 (swp c q t) (q + 1) (n - 1) (by omega) (by omega) (by omega) FU _ (by decide) (h.swp (i := q) (j := t) (by omega) (by omega))
  refine ⟨τ, ?_, t2, (sw62 σ q t _ _).tr t3⟩
  simp only [fX11_turns, bd, e1, e2, k, ob, if_pos c0, k2, aI_n q8 (by decide), aI_n t8 (by decide), wI_n q8 (by decide), wI_n t8 (by decide), h q (by omega), h t (by omega), nI_1, t1]
theorem nxt_d {n c : Nat} (h2 : 2 ≤ n) (h : Dg n c) (h0 : sc1 c (n - 1) ≠ 0) : Dg n (nxt n c) := by
  have hb := sc1_le c (n - 1)
  have hb2 := sc2_le c (dig c (sc1 c (n - 1) - 1)) (n - 1)
  rw [show n - 1 + 1 = n by omega] at hb2
  exact rvs_d 8 _ _ _ (by omega) (h.swp (by omega) (by omega))
theorem r_weigh {n c : Nat} (hn : n ≤ 7) {V : Nat → Int} {σ : Sg} (h : Od n c σ) (hd : Dg n c) (hv : ∀ k, k < n → gL σ 61 k = lI (V k)) (a b d : Int64) : lpG (fX11_chanceNow_L188 (nI n) a b d) FU ((0 : Int64), (0 : Int32)) σ = some (lI (wgt V n c), σ) := by
  refine lp_rd (body := fX11_chanceNow_L188 (nI n) a b d) n (fun z => (lI (sZ (fun k => (k : Int) * V (dig c k)) z), nI z)) (fun z hz => ?_) ?_ FU (by unfold FU; omega)
  · have c8 : ¬ nI n ≤ nI z := nI_ge hz (by omega)
    have z8 : z < 8 := by omega
    have d8 := dig_lt c z
    simp only [fX11_chanceNow_L188, if_neg c8, aI_n z8 (by decide), h z hz, ob, bd, aL_n d8 (by decide), hv _ (hd z hz), nI_lI (show z < 2 ^ 31 by omega), lI_mul, lI_add, nI_1]
    rfl
  · have c8 : nI n ≤ nI n := Int32.le_refl _
    simp only [fX11_chanceNow_L188, if_pos c8]
    rfl
theorem ch_orders {n : Nat} (h2 : 2 ≤ n) (hn : n ≤ 7) {V : Nat → Int} (hV : Vb V) : ∀ F c acc b, lrun n F c acc = some b → Dg n c → ∀ (m : Nat) (σ : Sg), F < m → Od n c σ → (∀ k, k < n → gL σ 61 k = lI (V k)) → ∃ τ, lpG (fX11_chanceNow_L177 (nI n) (lI (wgt V n idc))) m (lI (acc.countP (grt V n)), lI acc.length, (1 : Int32)) σ = some ((lI (b.countP (grt V n)), lI b.length), τ) ∧ Eqv σ τ := by
  intro F
  induction F with
  | zero => intro c acc b h; cases h
  | succ F ih =>
    intro c acc b h hd m σ hm ho hv
    obtain ⟨m, rfl⟩ : ∃ m', m = m' + 1 := ⟨m - 1, by omega⟩
    have c1 : ¬ (1 : Int32) = 0 := by decide
    have hw := fun x y => r_weigh hn ho hd hv (lI (wgt V n idc)) x y
    have b1 := wgt_b hV hn c
    have b2 := wgt_b hV hn idc
    have ec : ∀ w : Int64, w = (if lg_cmp (lI (wgt V n c)) (lI (wgt V n idc)) < 0 then (0 : Int64) else 1) → lI (acc.countP (grt V n)) + w = lI ((c :: acc).countP (grt V n)) := by
      intro w hw
      by_cases g : wgt V n idc ≤ wgt V n c
      · have cc : ¬ lg_cmp (lI (wgt V n c)) (lI (wgt V n idc)) < 0 := by
          rw [lg_cmp_lt, lI_lt (by constructor <;> omega) (by constructor <;> omega)]
          omega
        rw [hw, if_neg cc, List.countP_cons_of_pos (by unfold grt; simp [g]), show (1 : Int64) = lI 1 from rfl, lI_add]
        rfl
      · have cc : lg_cmp (lI (wgt V n c)) (lI (wgt V n idc)) < 0 := by
          rw [lg_cmp_lt, lI_lt (by constructor <;> omega) (by constructor <;> omega)]
          omega
        rw [hw, if_pos cc, List.countP_cons_of_neg (by unfold grt; simp; omega), show (0 : Int64) = lI 0 from rfl, lI_add, Int.add_zero]
    have ec2 : (if lg_cmp (lI (wgt V n c)) (lI (wgt V n idc)) < 0 then some (0 : Int64) else some 1) = some (if lg_cmp (lI (wgt V n c)) (lI (wgt V n idc)) < 0 then (0 : Int64) else 1) := by split <;> rfl
    have el : lI (acc.length : Int) + (1 : Int64) = lI ((c :: acc).length : Int) := by
      rw [show (1 : Int64) = lI 1 from rfl, lI_add, List.length_cons]
      rfl
    rw [lrun_s] at h
    by_cases h0 : sc1 c (n - 1) = 0
    · rw [h0] at h
      cases h
      refine ⟨σ, ?_, Eqv.rf σ⟩
      obtain ⟨m, rfl⟩ : ∃ m', m = m' + 1 := ⟨m - 1, by omega⟩
      rw [lpG]
      simp only [fX11_chanceNow_L177, if_neg c1, hw, ob, ec2, bd, ec _ rfl, el, r_turns0 h2 hn ho h0]
      rw [lpG]
      simp only [fX11_chanceNow_L177, if_true]
    · have hb : Nat.beq (sc1 c (n - 1)) 0 = false := by
        cases e : Nat.beq (sc1 c (n - 1)) 0
        · rfl
        · exact absurd (Nat.eq_of_beq_eq_true e) h0
      rw [hb] at h
      obtain ⟨υ, u1, u2, u3⟩ := r_turns1 h2 hn ho h0
      obtain ⟨τ, t1, t2⟩ := ih (nxt n c) (c :: acc) b h (nxt_d h2 hd h0) m υ (by omega) u2 (fun k hk => by rw [u3.2]; exact hv k hk)
      refine ⟨τ, ?_, u3.eq.tr t2⟩
      rw [← t1, lpG]
      simp only [fX11_chanceNow_L177, if_neg c1, hw, ob, ec2, bd, ec _ rfl, el, u1]
theorem r_lcm {c : Nat → Nat} (hC : ∀ l, l < 8 → c l ≤ 64) (hD : lcN c 8 < 2 ^ 34) (p : Int32) {σ : Sg} (h58 : ∀ l, l < 8 → gL σ 58 l = lI (c l)) : lpG (fX11_chanceNow_L31 p) FU ((1 : Int64), (0 : Int32)) σ = some (lI (lcN c 8), σ) := by
  refine lp_rd (body := fX11_chanceNow_L31 p) 8 (fun z => (lI (lcN c z), nI z)) (fun z hz => ?_) ?_ FU (by decide)
  · have c8 : ¬ (8 : Int32) ≤ nI z := nI_ge (b := 8) hz (by decide)
    have hCz := hC z hz
    have hDz : lcN c z < 2 ^ 34 := by
      have := Nat.le_of_dvd (lcN_pos c 8) (by have := lcN_mono c z (8 - z); rwa [show z + (8 - z) = 8 by omega] at this)
      omega
    by_cases q : 0 < c z
    · have cq : ¬ lg_cmp (lI (c z)) (0 : Int64) = 0 := fun e => by
        have := (cmp0 (show c z < 2 ^ 62 by omega)).mp e
        omega
      have hg : 0 < Nat.gcd (lcN c z) (c z) := Nat.gcd_pos_of_pos_right _ q
      have hg2 : Nat.gcd (lcN c z) (c z) ≤ c z := Nat.gcd_le_right _ q
      have ed : fX11_divisor (lI (lcN c z)) (lI (c z)) σ = some (lI (Nat.gcd (lcN c z) (c z)), σ) := r_divisor (bdN (by omega)) (by omega) σ
      simp only [fX11_chanceNow_L31, if_neg c8, aL_n hz (by decide), ob, bd, h58 z hz, if_neg cq, ed, dL_I (bdN (show lcN c z < 2 ^ 62 by omega)) (bdN (show Nat.gcd (lcN c z) (c z) < 2 ^ 62 by omega)) (by omega), lI_mul, nI_1]
      rw [lcN, if_pos q]
      unfold Nat.lcm
      rw [← Int.ofNat_tdiv, ← Int.natCast_mul, Nat.div_mul_right_comm (Nat.gcd_dvd_left _ _) (c z)]
    · have cq : lg_cmp (lI (c z)) (0 : Int64) = 0 := (cmp0 (show c z < 2 ^ 62 by omega)).mpr (by omega)
      simp only [fX11_chanceNow_L31, if_neg c8, aL_n hz (by decide), ob, bd, h58 z hz, if_pos cq, nI_1]
      rw [lcN, if_neg q]
  · have c8 : (8 : Int32) ≤ nI 8 := by decide
    simp only [fX11_chanceNow_L31, if_pos c8]
/-- the sum of the order as it is -/
def bsV (c : Nat → Nat) (x : Nat → Int) (z : Nat) : Int := sZ (fun k => (k : Int) * prV c x z k) (psN c z)
theorem r_lay {c : Nat → Nat} {x : Nat → Int} (hC : ∀ l, l < 8 → c l ≤ 64) (hD : lcN c 8 < 2 ^ 34) (p : Int32) {σ : Sg} (h58 : ∀ l, l < 8 → gL σ 58 l = lI (c l)) (h57 : ∀ l, l < 8 → gL σ 57 l = lI (x l)) : ∃ τ, lpG (fX11_chanceNow_L91 p (lI (lcN c 8))) FU ((0 : Int32), (0 : Int64), (0 : Int32)) σ = some (lI (bsV c x 8), τ) ∧ Eqv σ τ ∧ ∀ k, k < psN c 8 → gL τ 61 k = lI (prV c x 8 k) ∧ gI τ 62 k = nI k := by
  obtain ⟨τ, t1, t2, t3, t4⟩ := lp_ex (body := fX11_chanceNow_L91 p (lI (lcN c 8))) (b := lI (bsV c x 8)) 8 (fun z => (nI (psN c z), lI (bsV c x z), nI z)) (fun z τ => Eqv σ τ ∧ (∀ j, j ≠ 61 → gL τ j = gL σ j) ∧ ∀ k, k < psN c z → gL τ 61 k = lI (prV c x z k) ∧ gI τ 62 k = nI k) (fun z hz τ ⟨hE, hL, h⟩ => by
    have c8 : ¬ (8 : Int32) ≤ nI z := nI_ge (b := 8) hz (by decide)
    have hCz := hC z hz
    have e58 : gL τ 58 z = lI (c z) := by rw [hL 58 (by decide), h58 z hz]
    have e57 : gL τ 57 z = lI (x z) := by rw [hL 57 (by decide), h57 z hz]
    by_cases q : 0 < c z
    · have cq : ¬ lg_cmp (lI (c z)) (0 : Int64) ≤ 0 := by rw [le0 (by omega) (by omega)]; omega
      have hp := psN_lt hz q
      have hp8 : psN c z < 8 := by have := psN_8 c; omega
      have ev : lI (x z) * lI ((lcN c 8 : Int).tdiv (c z)) = lI (scI c x z) := by
        rw [lI_mul]
        unfold scI
        rw [if_pos q, ← Int.ofNat_tdiv]
      refine ⟨sI (sL τ 61 (psN c z) (lI (scI c x z))) 62 (psN c z) (nI (psN c z)), ?_, ?_, ?_, ?_⟩
      · have eb : lI (bsV c x z) + lI ((psN c z : Int) * scI c x z) = lI (bsV c x (z + 1)) := by
          rw [lI_add]
          congr 1
          unfold bsV
          rw [psN_s1 q, sZ, prV_1 q, sZ_cg (f := fun k => (k : Int) * prV c x (z + 1) k) (g := fun k => (k : Int) * prV c x z k) (psN c z) (fun k hk => by show (k : Int) * prV c x (z + 1) k = (k : Int) * prV c x z k; rw [prV_o hk])]
        simp only [fX11_chanceNow_L91, if_neg c8, aL_n hz (by decide), ob, bd, e58, e57, if_neg cq, dL_I (bdN (show lcN c 8 < 2 ^ 62 by omega)) (bdN (show c z < 2 ^ 62 by omega)) (show ((c z : Nat) : Int) ≠ 0 by omega), ev, wL_n hp8 (by decide), wI_n hp8 (by decide), aL_n hp8 (by decide), gL_sI, gL_same, nI_lI (show psN c z < 2 ^ 31 by omega), lI_mul, eb, nI_1, psN_s1 q]
      · exact (hE.L _ _ _).I _ (core_rf (by decide) (by decide) _)
      · intro j hj; rw [gL_sI, gL_row _ _ hj, hL j hj]
      · intro k hk
        rw [psN_s1 q] at hk
        by_cases e : k = psN c z
        · rw [e, gL_sI, gL_same, gI_same, prV_1 q]; exact ⟨rfl, rfl⟩
        · rw [gL_sI, gL_ne _ _ (Or.inr e), gI_ne _ _ (Or.inr e), gI_sL, prV_o (by omega)]
          exact h k (by omega)
    · have cq : lg_cmp (lI (c z)) (0 : Int64) ≤ 0 := by rw [le0 (by omega) (by omega)]; omega
      refine ⟨τ, ?_, hE, hL, ?_⟩
      · have eb : bsV c x (z + 1) = bsV c x z := by
          unfold bsV
          rw [psN_s0 q]
          refine sZ_cg _ (fun k hk => ?_)
          rw [prV_0 q]
        simp only [fX11_chanceNow_L91, if_neg c8, aL_n hz (by decide), ob, bd, e58, if_pos cq, nI_1, psN_s0 q, eb]
      · intro k hk
        rw [psN_s0 q] at hk
        rw [prV_0 q]
        exact h k hk) (fun τ _ => by
    have c8 : (8 : Int32) ≤ nI 8 := by decide
    simp only [fX11_chanceNow_L91, if_pos c8]) FU (by decide) σ ⟨Eqv.rf σ, fun _ _ => rfl, fun k hk => absurd hk (Nat.not_lt_zero _)⟩
  exact ⟨τ, t1, t2, t4⟩
theorem ch_r {s : Sg} (hI : Inv s) : ∃ τ, fX11_chanceNow s = some (chV s, τ) ∧ Eqv s τ := by
  obtain ⟨σ, s1, hE, s2⟩ := r_laysLanes hI
  have h58 : ∀ l, l < 8 → gL σ 58 l = lI (lc s l) := fun l hl => (s2 l hl).1
  have h57 : ∀ l, l < 8 → gL σ 57 l = lI (lx s l) := fun l hl => (s2 l hl).2
  have hm := r_many (fun l _ => lc_le hI l) h58
  have h8 := psN_8 (lc s)
  unfold chV
  by_cases g2 : psN (lc s) 8 < 2
  · have c2 : ¬ (2 : Int32) ≤ nI (psN (lc s) 8) := nI_ge (b := 2) g2 (by decide)
    refine ⟨σ, ?_, hE⟩
    simp only [fX11_chanceNow, s1, ob, hm, if_neg c2, if_pos g2]
  · have c2 : (2 : Int32) ≤ nI (psN (lc s) 8) := nI_le (a := 2) (by omega) (by omega)
    by_cases g7 : 7 < psN (lc s) 8
    · have c7 : ¬ nI (psN (lc s) 8) ≤ (7 : Int32) := nI_ge (a := 7) g7 (by omega)
      refine ⟨σ, ?_, hE⟩
      simp only [fX11_chanceNow, s1, ob, hm, if_pos c2, if_neg c7, if_neg g2, if_pos g7]
    · have c7 : nI (psN (lc s) 8) ≤ (7 : Int32) := nI_le (b := 7) (by omega) (by decide)
      have l1 := r_lcm (fun l _ => lc_le hI l) (lc_lcm hI) (nI (psN (lc s) 8)) h58
      obtain ⟨υ, u1, u2, u3⟩ := r_lay (fun l _ => lc_le hI l) (lc_lcm hI) (nI (psN (lc s) 8)) h58 h57
      obtain ⟨a, b, k1, k2, k3⟩ := chk_p (chk_all (n := psN (lc s) 8) (by omega) (by omega))
      have hV : Vb (prV (lc s) (lx s) 8) := prV_b (lx_b hI) (lc_lcm hI) 8 (by decide)
      have eb : bsV (lc s) (lx s) 8 = wgt (prV (lc s) (lx s) 8) (psN (lc s) 8) idc := by
        unfold bsV wgt
        refine sZ_cg _ (fun k hk => ?_)
        rw [idc_d k (by omega)]
      rw [eb] at u1
      generalize hn : psN (lc s) 8 = n at *
      generalize prV (lc s) (lx s) 8 = V at *
      obtain ⟨τ, t1, t2⟩ := ch_orders (n := n) (by omega) (by omega) hV 6000 idc [] b k2 (fun k hk => by rw [idc_d k (by omega)]; exact hk) FU υ (by decide) (fun k hk => by rw [idc_d k (by omega)]; exact (u3 k hk).2) (fun k hk => (u3 k hk).1)
      have t1' : lpG (fX11_chanceNow_L177 (nI n) (lI (wgt V n idc))) FU ((0 : Int64), (0 : Int64), (1 : Int32)) υ = some ((lI (b.countP (grt V n)), lI b.length), τ) := t1
      have hl : b.length ≤ 6000 := by have := lrun_len _ _ _ _ _ k2; simpa using this
      have hc : b.countP (grt V n) ≤ b.length := List.countP_le_length
      have hp : 0 < b.length := by rw [← k3.length_eq, List.length_cons]; omega
      have ed : dL ((1000000 : Int64) * lI (b.countP (grt V n))) (lI b.length) = some (lI ((1000000 * (b.countP (grt V n) : Int)).tdiv b.length)) := by
        rw [show (1000000 : Int64) = lI 1000000 from rfl, lI_mul, dL_I (by constructor <;> omega) (bdN (by omega)) (by omega)]
      refine ⟨τ, ?_, (hE.tr u2).tr t2⟩
      simp only [fX11_chanceNow, s1, ob, hm, if_pos c2, if_pos c7, if_neg g2, if_neg g7, l1, u1, t1', ed, k2]
theorem all_chance : ok_chance Inv := by
  intro s hI
  obtain ⟨σ, A, B, s1, s2⟩ := e_survey hI
  obtain ⟨τ, t1, t2⟩ := ch_e hI s2.2.2.1
  have hE : Eqv s τ := s2.1.tr t2.eq
  obtain ⟨υ, u1, u2⟩ := ch_r (inv_cg hE hI)
  rw [eq_chV hE] at u1
  refine ⟨chV s, τ, υ, ?_, ?_, inv_cg u2 (inv_cg hE hI)⟩
  · simp only [fX10_chance, s1, ob, t1]
  · simp only [fX11_chance, u1, ob]
