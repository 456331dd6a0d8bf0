/-! CHANCE: the class, whole -/
def prV (C : Nat → Nat) (S : Nat → Int) : Nat → Nat → Int
  | 0, _ => 0
  | l + 1, k => if 0 < C l ∧ k = psN C l then scI C S l else prV C S l k
theorem psN_s1 {C : Nat → Nat} {l : Nat} (h : 0 < C l) : psN C (l + 1) = psN C l + 1 := by unfold psN; rw [cn, if_pos (by simp [h])]
theorem psN_s0 {C : Nat → Nat} {l : Nat} (h : ¬ 0 < C l) : psN C (l + 1) = psN C l := by unfold psN; rw [cn, if_neg (by simp; omega)]; rfl
theorem psN_mono (C : Nat → Nat) (z : Nat) : ∀ m, psN C z ≤ psN C (z + m) := by
  intro m
  induction m with
  | zero => exact Nat.le_refl _
  | succ m ih =>
    show _ ≤ psN C (z + m + 1)
    by_cases h : 0 < C (z + m)
    · rw [psN_s1 h]; omega
    · rw [psN_s0 h]; omega
theorem psN_lt {C : Nat → Nat} {z : Nat} (hz : z < 8) (h : 0 < C z) : psN C z < psN C 8 := by
  have := psN_mono C (z + 1) (8 - (z + 1))
  rw [show z + 1 + (8 - (z + 1)) = 8 by omega, psN_s1 h] at this
  omega
theorem prV_1 {C : Nat → Nat} {S : Nat → Int} {l : Nat} (h : 0 < C l) : prV C S (l + 1) (psN C l) = scI C S l := by rw [prV, if_pos ⟨h, rfl⟩]
theorem prV_o {C : Nat → Nat} {S : Nat → Int} {l k : Nat} (h : k < psN C l) : prV C S (l + 1) k = prV C S l k := by rw [prV, if_neg (fun e => by omega)]
theorem prV_0 {C : Nat → Nat} {S : Nat → Int} {l k : Nat} (h : ¬ 0 < C l) : prV C S (l + 1) k = prV C S l k := by rw [prV, if_neg (fun e => h e.1)]
theorem prV_b {C : Nat → Nat} {S : Nat → Int} (hX : Bx C S) (hD : lcN C 8 < 2 ^ 34) : ∀ l, l ≤ 8 → Vb (prV C S l) := by
  intro l
  induction l with
  | zero => intro _ k; show -1125899906842624 ≤ (0 : Int) ∧ (0 : Int) ≤ 1125899906842624; omega
  | succ l ih =>
    intro hl k
    rw [prV]
    split
    · have := sc_b hX (show l < 8 by omega)
      omega
    · exact ih (by omega) k
theorem ini_d : (ini >>> 27 = idc) ∧ dig ini 0 = 1 ∧ ∀ k, k < 7 → dig ini (1 + k) = 0 := by decide +kernel
/-- how likely -/
noncomputable def chV (s : Sg) : Int32 := if psN (lc s) 8 < 2 then -3 else if 7 < psN (lc s) 8 then -4 else match lrun (psN (lc s) 8) 6000 idc [] with
  | some b => (lI ((1000000 * (b.countP (grt (prV (lc s) (lx s) 8) (psN (lc s) 8)) : Int)).tdiv b.length)).toInt32
  | none => 0
theorem eq_chV {s t : Sg} (h : Eqv s t) : chV t = chV s := by unfold chV; rw [eq_lc h, eq_lx h]
theorem ch_fill {C : Nat → Nat} {S : Nat → Int} (hC : ∀ l, l < 8 → C l ≤ 64) (h7 : psN C 8 ≤ 7) {σ : Sg} (hS : Set9 9 C S σ) : ∃ τ, lpG fX8_chanceOfShape_L33 FU ((0 : Int32), (0 : Int32)) σ = some (nI (psN C 8), τ) ∧ Fm σ τ ∧ ∀ k, k < psN C 8 → gL τ 23 k = lI (prV C S 8 k) ∧ gI τ 24 k = 0 := by
  refine lp_ex (body := fX8_chanceOfShape_L33) (b := nI (psN C 8)) 8 (fun z => (nI (psN C z), nI z)) (fun z τ => Fm σ τ ∧ ∀ k, k < psN C z → gL τ 23 k = lI (prV C S z k) ∧ gI τ 24 k = 0) (fun z hz τ ⟨hF, p⟩ => ?_) (fun τ _ => ?_) FU (by decide) σ ⟨⟨fun _ _ => rfl, fun _ _ => rfl⟩, fun k hk => absurd hk (Nat.not_lt_zero _)⟩
  · have c8 : ¬ (8 : Int32) ≤ nI z := nI_ge (b := 8) hz (by decide)
    have hCz := hC z hz
    have e10 : gI τ 10 z = nI (C z) := by rw [hF.1 10 (by decide)]; exact hS.2.2.2.2 z hz
    have e12 : ∀ υ, gL υ = gL τ → gL υ 12 z = lI (scI C S z) := fun υ h => by rw [h, hF.2 12 (by decide)]; exact hS.2.2.2.1 z hz
    by_cases q : 0 < C z
    · have cq : ¬ nI (C z) ≤ 0 := nI_nle q (by omega)
      have hp := psN_lt hz q
      have hp7 : psN C z < 7 := by omega
      have c7 : ¬ (7 : Int32) ≤ nI (psN C z) := nI_ge (b := 7) hp7 (by decide)
      refine ⟨sI (sL τ 23 (psN C z) (lI (scI C S z))) 24 (psN C z) 0, ?_, ⟨fun j hj => ?_, fun j hj => ?_⟩, fun k hk => ?_⟩
      · simp only [fX8_chanceOfShape_L33, if_neg c8, aI_n hz (by decide), aL_n hz (by decide), ob, bd, e10, if_neg cq, if_neg c7, e12 τ rfl, wL_n hp7 (by decide), wI_n hp7 (by decide), nI_1, psN_s1 q]
      · rw [gI_row _ _ hj, gI_sL, hF.1 j hj]
      · rw [gL_sI, gL_row _ _ hj, hF.2 j hj]
      · rw [psN_s1 q] at hk
        by_cases e : k = psN C z
        · subst e
          rw [gL_sI, gL_same, gI_same, prV_1 q]
          exact ⟨rfl, rfl⟩
        · rw [gL_sI, gL_ne _ _ (Or.inr e), gI_ne _ _ (Or.inr e), gI_sL, prV_o (by omega)]
          exact p k (by omega)
    · have cq : nI (C z) ≤ 0 := by rw [show C z = 0 by omega]; decide
      refine ⟨τ, ?_, hF, fun k hk => ?_⟩
      · simp only [fX8_chanceOfShape_L33, if_neg c8, aI_n hz (by decide), ob, bd, e10, if_pos cq, nI_1, psN_s0 q]
      · rw [psN_s0 q] at hk
        rw [prV_0 q]
        exact p k hk
  · have c8 : (8 : Int32) ≤ nI 8 := by decide
    simp only [fX8_chanceOfShape_L33, if_pos c8]
theorem psN_8 (C : Nat → Nat) : psN C 8 ≤ 8 := cn_le _ _
theorem ch_e {s : Sg} (hI : Inv s) {σ : Sg} (hS : Set9 9 (lc s) (lx s) σ) : ∃ τ, fX8_chanceOfShape σ = some (chV s, τ) ∧ Fm σ τ := by
  have h4 : gI σ 9 4 = nI (psN (lc s) 8) := hS.1
  have h8 := psN_8 (lc s)
  unfold chV
  by_cases g2 : psN (lc s) 8 < 2
  · have c2 : ¬ (2 : Int32) ≤ nI (psN (lc s) 8) := nI_ge (b := 2) g2 (by decide)
    refine ⟨σ, ?_, fun _ _ => rfl, fun _ _ => rfl⟩
    simp only [fX8_chanceOfShape, h4, if_neg c2, if_pos g2]
  · have c2 : (2 : Int32) ≤ nI (psN (lc s) 8) := nI_le (a := 2) (by omega) (by omega)
    by_cases g7 : 7 < psN (lc s) 8
    · have c7 : ¬ nI (psN (lc s) 8) ≤ (7 : Int32) := nI_ge (a := 7) g7 (by omega)
      refine ⟨σ, ?_, fun _ _ => rfl, fun _ _ => rfl⟩
      simp only [fX8_chanceOfShape, h4, if_pos c2, if_neg c7, if_neg g2, if_pos g7]
    · have c7 : nI (psN (lc s) 8) ≤ (7 : Int32) := nI_le (b := 7) (by omega) (by decide)
      obtain ⟨υ, u1, u2, u3⟩ := ch_fill (fun l _ => lc_le hI l) (by omega) hS
      obtain ⟨a, b, k1, k2, k3⟩ := chk_p (chk_all (n := psN (lc s) 8) (by omega) (by omega))
      have hV : Vb (prV (lc s) (lx s) 8) := prV_b (lx_b hI) (lc_lcm hI) 8 (by decide)
      generalize hn : psN (lc s) 8 = n at *
      generalize prV (lc s) (lx s) 8 = V at *
      have hH : HpOk n V ini υ := by
        constructor
        · intro k hk
          rw [← dig_sh, ini_d.1, idc_d k (by omega)]
          exact (u3 k hk).1
        · intro k hk
          rw [ini_d.2.2 k (by omega)]
          exact (u3 k hk).2
      obtain ⟨τ, t1, t2⟩ := e_shareL (n := n) (by omega) hV 20000 ini [] a k1 0 FU υ rfl (by decide) hH
      rw [ini_d.1, ini_d.2.1, Int.sub_self] at t1
      have hg : grt V n idc = true := by unfold grt; simp
      have w1 : 1 + a.length = b.length := by rw [← k3.length_eq, List.length_cons]; omega
      have w2 : 1 + a.countP (grt V n) = b.countP (grt V n) := by rw [← k3.countP_eq, List.countP_cons_of_pos hg]; omega
      rw [w1, w2] at t1
      have hl : b.length ≤ 6000 := by have := lrun_len _ _ _ _ _ k2; simpa using this
      have hc : b.countP (grt V n) ≤ b.length := List.countP_le_length
      refine ⟨τ, ?_, u2.tr t2⟩
      have em : mxI (1 : Int32) (nI b.length) = nI b.length := by
        unfold mxI
        by_cases e : 1 < b.length
        · have c1 : (1 : Int32) < nI b.length := nI_lt (a := 1) e (by omega)
          rw [if_pos c1]
        · rw [show b.length = 1 by omega]; rfl
      have ed : dL ((nI (b.countP (grt V n))).toInt64 * (1000000 : Int64)) ((nI b.length).toInt64) = some (lI ((1000000 * (b.countP (grt V n) : Int)).tdiv b.length)) := by
        rw [nI_lI (by omega), nI_lI (by omega), show (1000000 : Int64) = lI 1000000 from rfl, lI_mul, Int.mul_comm, dL_I (by constructor <;> omega) (bdN (by omega)) (by omega)]
      have t1' : lpG (fX8_shareOfOrders_L13 (nI n)) FU ((1 : Int32), (1 : Int32), (0 : Int64), (1 : Int32), (0 : Int32)) υ = some ((nI b.length, nI (b.countP (grt V n))), τ) := t1
      simp only [fX8_chanceOfShape, fX8_shareOfOrders, h4, if_pos c2, if_pos c7, if_neg g2, if_neg g7, u1, ob, t1', em, ed, k2]
