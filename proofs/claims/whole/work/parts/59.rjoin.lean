/-! SHAPE: the reference joins -/
def RsV (c : Nat → Nat) (x : Nat → Int) (A B : Nat → Nat) (τ : Sg) (l : Nat) : Prop := 0 < c l → gL τ 59 l = lI (bS x A B l) ∧ gL τ 60 l = lI (bC c A B l)
theorem pC_b {c : Nat → Nat} {x : Nat → Int} (hF : Fit c x) {n : Nat} (hn : n ≤ 8) : 0 ≤ pC c n ∧ pC c n ≤ 64 := by
  have a1 := pC_le (c := c) (Nat.zero_le n)
  have a2 := pC_le (c := c) hn
  have a3 := hF.2.1
  have a4 : pC c 0 = 0 := rfl
  omega
theorem le0 {z : Int} (h1 : -1000 ≤ z) (h2 : z ≤ 1000) : (lg_cmp (lI z) (0 : Int64) ≤ 0) ↔ z ≤ 0 := by
  rw [lg_cmp_le, show (0 : Int64) = lI 0 from rfl, lI_le (by constructor <;> omega) (by constructor <;> decide)]
theorem r_from {c : Nat → Nat} {x : Nat → Int} (hF : Fit c x) {a A0 : Nat} (ha : a < 8) (h0 : A0 ≤ a) (hc : 0 < c A0) {σ : Sg} (h58 : ∀ l, l < 8 → gL σ 58 l = lI (c l)) (p2 p4 : Int32) (p5 p7 p9 p11 : Int64) : lpG (fX11_joins_L44 p2 p4 p5 p7 p9 p11) FU (nI a, lI (pC c (a + 1) - pC c A0), nI a) σ = some (nI A0, σ) := by
  have := lp_rd (body := fX11_joins_L44 p2 p4 p5 p7 p9 p11) (a + 1 - A0) (fun k => (if k = 0 then nI a else nI (a + 1 - k), lI (pC c (a + 1 - k) - pC c A0), nI (a + 1 - k) + (-1))) (σ := σ) (b := nI A0) (fun k hk => ?_) ?_ FU (by unfold FU; omega)
  · rw [show a + 1 - 0 = a + 1 from rfl, pk_m1] at this
    exact this
  · obtain ⟨m, hm⟩ : ∃ m, a + 1 - k = m + 1 := ⟨a - k, by omega⟩
    have hm2 : a + 1 - (k + 1) = m := by omega
    have c0 : ¬ nI m < 0 := nI_pos (by omega)
    have b1 := pC_b hF (show m + 1 ≤ 8 by omega)
    have b2 := pC_b hF (show A0 ≤ 8 by omega)
    have lt := pC_lt (c := c) (a := A0) (b := m + 1) (Nat.le_refl _) (by omega) hc
    have cl : ¬ lg_cmp (lI (pC c (m + 1) - pC c A0)) (0 : Int64) ≤ 0 := by rw [le0 (by omega) (by omega)]; omega
    rw [hm, hm2, if_neg (show ¬ k + 1 = 0 by omega)]
    simp only [fX11_joins_L44, pk_m1, if_neg c0, if_neg cl, aL_n (show m < 8 by omega) (by decide), ob, bd, h58 m (by omega), lI_sub]
    rw [show pC c (m + 1) - pC c A0 - c m = pC c m - pC c A0 by rw [pC_s]; omega]
  · rw [show a + 1 - (a + 1 - A0) = A0 by omega, if_neg (show ¬ a + 1 - A0 = 0 by omega), Int.sub_self]
    have cl : lg_cmp (lI 0) (0 : Int64) ≤ 0 := by rw [le0 (by decide) (by decide)]; decide
    simp only [fX11_joins_L44, if_pos cl, ite_self]
theorem r_to {c : Nat → Nat} {x : Nat → Int} (hF : Fit c x) {b B0 : Nat} (hB : B0 ≤ 8) (h0 : b < B0) (hc : 0 < c (B0 - 1)) {σ : Sg} (h58 : ∀ l, l < 8 → gL σ 58 l = lI (c l)) (p3 : Int32) (p5 p7 p9 p11 : Int64) : lpG (fX11_joins_L84 p3 p5 p7 p9 p11) FU (nI b, lI (pC c B0 - pC c b), nI b) σ = some (nI (B0 - 1), σ) := by
  refine lp_rd (body := fX11_joins_L84 p3 p5 p7 p9 p11) (B0 - b) (fun k => (if k = 0 then nI b else nI (b + k - 1), lI (pC c B0 - pC c (b + k)), nI (b + k))) (σ := σ) (b := nI (B0 - 1)) (fun k hk => ?_) ?_ FU (by unfold FU; omega)
  · have c8 : ¬ (8 : Int32) ≤ nI (b + k) := nI_ge (b := 8) (by omega) (by decide)
    have b1 := pC_b hF (show b + k ≤ 8 by omega)
    have b2 := pC_b hF hB
    have lt := pC_lt (c := c) (a := b + k) (b := B0) (l := B0 - 1) (by omega) (by omega) hc
    have cl : ¬ lg_cmp (lI (pC c B0 - pC c (b + k))) (0 : Int64) ≤ 0 := by rw [le0 (by omega) (by omega)]; omega
    rw [if_neg (show ¬ k + 1 = 0 by omega)]
    simp only [fX11_joins_L84, if_neg c8, if_neg cl, aL_n (show b + k < 8 by omega) (by decide), ob, bd, h58 (b + k) (by omega), lI_sub, nI_1]
    rw [show pC c B0 - pC c (b + k) - c (b + k) = pC c B0 - pC c (b + (k + 1)) by rw [show b + (k + 1) = (b + k) + 1 by omega, pC_s]; omega]
    rfl
  · rw [show b + (B0 - b) = B0 by omega, if_neg (show ¬ B0 - b = 0 by omega), Int.sub_self]
    have cl : lg_cmp (lI 0) (0 : Int64) ≤ 0 := by rw [le0 (by decide) (by decide)]; decide
    simp only [fX11_joins_L84, if_pos cl, ite_self]
theorem r_joins {c : Nat → Nat} {x : Nat → Int} {A B : Nat → Nat} (hF : Fit c x) (h : ShOk c x A B) {a b : Nat} (hj : Adj c a b) (hd : A a ≠ A b) {σ : Sg} (h58 : ∀ l, l < 8 → gL σ 58 l = lI (c l)) (hv : ∀ l, l < 8 → RsV c x A B σ l) : ∃ τ, fX11_joins (nI a) (nI b) σ = some τ ∧ (∀ l, l < 8 → RsV c x (jA A B a b) (jB A B a b) τ l) ∧ gI τ = gI σ ∧ (∀ j, j ≠ 59 → j ≠ 60 → gL τ j = gL σ j) := by
  obtain ⟨e1, e2⟩ := adj_AB h hj hd
  obtain ⟨k1, k2, k3, k4⟩ := join_C hF.1 h hj hd
  have j1 := hj.1
  have hb8 : b < 8 := hj.2.1
  have ha8 : a < 8 := by omega
  have ca := hj.2.2.1
  have cb := hj.2.2.2.1
  obtain ⟨va1, va2⟩ := hv a ha8 ca
  obtain ⟨vb1, vb2⟩ := hv b hb8 cb
  obtain ⟨p1, p2, p3, p4, p5, p6, -⟩ := h a ha8 ca
  obtain ⟨q1, q2, q3, q4, q5, q6, -⟩ := h b hb8 cb
  have eCa : bC c A B a = pC c (a + 1) - pC c (A a) := by unfold bC; rw [e1]
  have eCb : bC c A B b = pC c (B b) - pC c b := by unfold bC; rw [e2]
  generalize hV : lI (bS x A B a + bS x A B b) = V
  generalize hW : lI (bC c A B a + bC c A B b) = W
  obtain ⟨τ, m1, m2, m3, m4, m5⟩ := lp_ex (body := fX11_joins_L123 (nI (B b - 1)) (lI (bS x A B a)) (lI (bC c A B a)) (lI (bS x A B b)) (lI (bC c A B b))) (b := ()) (B b - A a) (fun k => nI (A a + k)) (fun k τ => (∀ l, A a ≤ l → l < A a + k → gL τ 59 l = V ∧ gL τ 60 l = W) ∧ (∀ l, (l < A a ∨ A a + k ≤ l) → gL τ 59 l = gL σ 59 l ∧ gL τ 60 l = gL σ 60 l) ∧ gI τ = gI σ ∧ (∀ j, j ≠ 59 → j ≠ 60 → gL τ j = gL σ j)) (fun k hk τ ⟨s1, s2, s3, s4⟩ => by
      have cc : ¬ nI (B b - 1) < nI (A a + k) := nI_nlt (by omega) (by omega)
      have hz : A a + k < 8 := by omega
      refine ⟨sL (sL τ 59 (A a + k) V) 60 (A a + k) W, ?_, ?_, ?_, ?_, ?_⟩
      · simp only [fX11_joins_L123, if_neg cc, wL_n hz (by decide), ob, bd, lI_add, hV, hW, nI_1]
        rfl
      · intro l l1 l2
        rw [gL_set, gL_set, gL_set, gL_set]
        by_cases e : l = A a + k
        · subst e; simp
        · have := s1 l l1 (by omega)
          simp [e, this]
      · intro l hl
        have e : l ≠ A a + k := by omega
        have := s2 l (by omega)
        rw [gL_set, gL_set, gL_set, gL_set]
        simp [e, this]
      · rw [gI_sL, gI_sL, s3]
      · intro j j1 j2; rw [gL_row _ _ j2, gL_row _ _ j1, s4 j j1 j2]) (fun τ _ => by
      have cc : nI (B b - 1) < nI (A a + (B b - A a)) := nI_lt (by omega) (by omega)
      simp only [fX11_joins_L123, if_pos cc]) FU (by unfold FU; omega) σ ⟨fun l l1 l2 => by omega, fun l _ => ⟨rfl, rfl⟩, rfl, fun _ _ _ => rfl⟩
  refine ⟨τ, ?_, ?_, m4, m5⟩
  · have w1 := r_from hF ha8 p1 p4 h58 (nI b) (nI b) (lI (bS x A B a)) (lI (bC c A B a)) (lI (bS x A B b)) (lI (bC c A B b))
    have w2 := r_to hF q3 q2 q5 h58 (nI (A a)) (lI (bS x A B a)) (lI (bC c A B a)) (lI (bS x A B b)) (lI (bC c A B b))
    rw [← eCa] at w1
    rw [← eCb] at w2
    simp only [fX11_joins, aL_n ha8 (by decide), aL_n hb8 (by decide), ob, va1, va2, vb1, vb2, w1, w2]
    rw [show nI (A a) = nI (A a + 0) from rfl, m1, ob]
  · intro l hl hc
    by_cases hin : A a ≤ l ∧ l < B b
    · have := m2 l hin.1 (by omega)
      rw [this.1, this.2, ← hV, ← hW]
      unfold bS bC jA jB
      rw [if_pos hin, if_pos hin]
      unfold bC at k1
      unfold bS at k2
      rw [k1, k2]
      exact ⟨rfl, rfl⟩
    · have := m3 l (by omega)
      rw [this.1, this.2]
      have := hv l hl hc
      unfold bS bC jA jB
      rw [if_neg hin, if_neg hin]
      exact this
