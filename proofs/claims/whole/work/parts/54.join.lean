/-! SHAPE: the class joins -/
def bN (c : Nat → Nat) (A B : Nat → Nat) (l : Nat) : Nat := (bC c A B l).toNat
/-- what the shape holds for a lane -/
def LvV (c : Nat → Nat) (x : Nat → Int) (A B : Nat → Nat) (τ : Sg) (l : Nat) : Prop := (0 < c l → gI τ 15 l = nI (bN c A B l) ∧ gL τ 16 l = lI (bS x A B l) ∧ gI τ 18 l = nI (A l)) ∧ (c l = 0 → gI τ 15 l = nI 0 ∧ gL τ 16 l = lI 0)
theorem LvV.cg {c : Nat → Nat} {x : Nat → Int} {A B : Nat → Nat} {σ τ : Sg} {l : Nat} (h : LvV c x A B σ l) (h1 : gI τ 15 l = gI σ 15 l) (h2 : gL τ 16 l = gL σ 16 l) (h3 : gI τ 18 l = gI σ 18 l) : LvV c x A B τ l := by
  unfold LvV at h ⊢
  rw [h1, h2, h3]
  exact h
/-- counts and sums that fit -/
def Fit (c : Nat → Nat) (x : Nat → Int) : Prop := (∀ l, c l = 0 → x l = 0) ∧ pC c 8 ≤ 64 ∧ ∀ n, n ≤ 8 → -2000000 ≤ sZ x n ∧ sZ x n ≤ 2000000
theorem bN_le {c : Nat → Nat} {x : Nat → Int} {A B : Nat → Nat} (hF : Fit c x) (h : ShOk c x A B) {l : Nat} (hl : l < 8) (hc : 0 < c l) : bN c A B l ≤ 64 ∧ 0 < bN c A B l ∧ ((bN c A B l : Nat) : Int) = bC c A B l := by
  have a1 := bC_pos h hl hc
  obtain ⟨p1, p2, p3, -⟩ := h l hl hc
  have a2 := pC_le (c := c) p3
  have a3 := pC_le (c := c) (Nat.zero_le (A l))
  have a4 : pC c 0 = 0 := rfl
  have := hF.2.1
  unfold bN
  have : bC c A B l ≤ 64 := by unfold bC; omega
  omega
theorem bS_b {c : Nat → Nat} {x : Nat → Int} {A B : Nat → Nat} (hF : Fit c x) (h : ShOk c x A B) {l : Nat} (hl : l < 8) (hc : 0 < c l) : -4000000 ≤ bS x A B l ∧ bS x A B l ≤ 4000000 := by
  obtain ⟨p1, p2, p3, -⟩ := h l hl hc
  have a1 := hF.2.2 (A l) (by omega)
  have a2 := hF.2.2 (B l) p3
  unfold bS
  omega
theorem e_join {c : Nat → Nat} {x : Nat → Int} {A B : Nat → Nat} (hF : Fit c x) (h : ShOk c x A B) {a b : Nat} (hj : Adj c a b) (hd : A a ≠ A b) {σ : Sg} (hv : ∀ l, l < 8 → LvV c x A B σ l) : ∃ τ, fX1_join 14 (nI a) (nI b) σ = some τ ∧ (∀ l, l < 8 → LvV c x (jA A B a b) (jB A B a b) τ l) ∧ (∀ j, j ≠ 15 → j ≠ 18 → gI τ j = gI σ j) ∧ (∀ j, j ≠ 16 → gL τ j = gL σ j) := by
  obtain ⟨e1, e2⟩ := adj_AB h hj hd
  obtain ⟨k1, k2, k3, k4⟩ := join_C hF.1 h hj hd
  have ha8 : a < 8 := by have := hj.1; have := hj.2.1; omega
  have hb8 : b < 8 := hj.2.1
  have j1 := hj.1
  have ca := hj.2.2.1
  have cb := hj.2.2.2.1
  obtain ⟨fa1, fa2, fa3⟩ := bN_le hF h ha8 ca
  obtain ⟨fb1, fb2, fb3⟩ := bN_le hF h hb8 cb
  obtain ⟨va1, va2, va3⟩ := (hv a ha8).1 ca
  obtain ⟨vb1, vb2, vb3⟩ := (hv b hb8).1 cb
  obtain ⟨p1, p2, p3, p4, p5, p6, -⟩ := h a ha8 ca
  obtain ⟨q1, q2, q3, q4, q5, q6, -⟩ := h b hb8 cb
  have hmem : ∀ l, l < 8 → 0 < c l → ((A l = A a ∨ A l = A b) ↔ (A a ≤ l ∧ l < B b)) := by
    intro l hl hc
    obtain ⟨r1, r2, r3, r4, r5, r6, -⟩ := h l hl hc
    constructor
    · rintro (g | g)
      · rcases Nat.lt_or_ge l b with g2 | g2
        · exact ⟨by omega, by omega⟩
        · exact absurd ((r6 b (by omega) (by omega) cb).1.trans g).symm hd
      · have := r6 b (by omega) (by omega) cb
        exact ⟨by omega, by omega⟩
    · rintro ⟨g1, g2⟩
      rcases Nat.lt_or_ge l (B a) with g | g
      · exact Or.inl (p6 l g1 g hc).1
      · rcases Nat.lt_or_ge l b with g3 | g3
        · have := hj.2.2.2.2 l (by omega) g3
          omega
        · exact Or.inr (q6 l (by omega) g2 hc).1
  have hbN : ∀ l, A a ≤ l ∧ l < B b → bN c (jA A B a b) (jB A B a b) l = bN c A B a + bN c A B b := by
    intro l hin
    have : bC c (jA A B a b) (jB A B a b) l = bC c A B a + bC c A B b := by
      unfold bC jA jB
      rw [if_pos hin, if_pos hin, k1]
      rfl
    unfold bN at fa3 fb3 ⊢
    rw [this]
    omega
  have hbS : ∀ l, A a ≤ l ∧ l < B b → bS x (jA A B a b) (jB A B a b) l = bS x A B a + bS x A B b := by
    intro l hin
    unfold bS jA jB
    rw [if_pos hin, if_pos hin, k2]
    rfl
  have hout : ∀ l, ¬ (A a ≤ l ∧ l < B b) → jA A B a b l = A l ∧ bN c (jA A B a b) (jB A B a b) l = bN c A B l ∧ bS x (jA A B a b) (jB A B a b) l = bS x A B l := by
    intro l hin
    unfold bN bC bS jA jB
    rw [if_neg hin, if_neg hin]
    exact ⟨rfl, rfl, rfl⟩
  obtain ⟨τ, m1, m2, m3, m4, m5⟩ := lp_ex (body := fX1_join_L48 14 (nI (A a)) (nI (A b)) (nI (bN c A B a + bN c A B b)) (lI (bS x A B a + bS x A B b))) (b := ()) 8 (fun z => nI z) (fun z τ => (∀ l, l < z → LvV c x (jA A B a b) (jB A B a b) τ l) ∧ (∀ l, z ≤ l → l < 8 → LvV c x A B τ l) ∧ (∀ j, j ≠ 15 → j ≠ 18 → gI τ j = gI σ j) ∧ (∀ j, j ≠ 16 → gL τ j = gL σ j)) (fun z hz τ ⟨s1, s2, s3, s4⟩ => by
      have c8 : ¬ (8 : Int32) ≤ nI z := nI_ge (b := 8) hz (by decide)
      have w := s2 z (Nat.le_refl _) hz
      by_cases hc : 0 < c z
      · obtain ⟨w1, w2, w3⟩ := w.1 hc
        obtain ⟨f1, f2, f3⟩ := bN_le hF h hz hc
        have hAz := (h z hz hc).1
        have cq : ¬ nI (bN c A B z) ≤ 0 := by
          have := nI_ge (a := 0) (b := bN c A B z) f2 (by omega)
          exact this
        by_cases hin : A a ≤ z ∧ z < B b
        · generalize hυ : sL (sI (sI τ 18 z (nI (A a))) 15 z (nI (bN c A B a + bN c A B b))) 16 z (lI (bS x A B a + bS x A B b)) = υ
          refine ⟨υ, ?_, ?_, ?_, ?_, ?_⟩
          · rcases (hmem z hz hc).mpr hin with g | g
            · rw [g] at w3
              simp only [fX1_join_L48, if_neg c8, aI_n hz (by decide), ob, bd, w1, if_neg cq, w3, if_true, wI_n hz (by decide), wL_n hz (by decide), nI_1, hυ]
            · rw [g] at w3
              have cne : ¬ nI (A b) = nI (A a) := fun e => hd (nI_inj (by omega) (by omega) e).symm
              simp only [fX1_join_L48, if_neg c8, aI_n hz (by decide), ob, bd, w1, if_neg cq, w3, if_neg cne, if_true, wI_n hz (by decide), wL_n hz (by decide), nI_1, hυ]
          · intro l hl
            by_cases e : l = z
            · subst e
              refine ⟨fun _ => ?_, fun h0 => by omega⟩
              rw [hbN l hin, hbS l hin, show jA A B a b l = A a from if_pos hin, ← hυ]
              refine ⟨?_, ?_, ?_⟩
              · rw [gI_sL, gI_same]
              · rw [gL_same]
              · rw [gI_sL, gI_ne _ _ (Or.inl (by decide)), gI_same]
            · refine (s1 l (by omega)).cg ?_ ?_ ?_
              · rw [← hυ, gI_sL, gI_ne _ _ (Or.inr e), gI_ne _ _ (Or.inr e)]
              · rw [← hυ, gL_ne _ _ (Or.inr e), gL_sI, gL_sI]
              · rw [← hυ, gI_sL, gI_ne _ _ (Or.inr e), gI_ne _ _ (Or.inr e)]
          · intro l h1 h2
            have e : l ≠ z := by omega
            refine (s2 l (by omega) h2).cg ?_ ?_ ?_
            · rw [← hυ, gI_sL, gI_ne _ _ (Or.inr e), gI_ne _ _ (Or.inr e)]
            · rw [← hυ, gL_ne _ _ (Or.inr e), gL_sI, gL_sI]
            · rw [← hυ, gI_sL, gI_ne _ _ (Or.inr e), gI_ne _ _ (Or.inr e)]
          · intro j h1 h2
            rw [← hυ, gI_sL, gI_row _ _ h1, gI_row _ _ h2, s3 j h1 h2]
          · intro j h1
            rw [← hυ, gL_row _ _ h1, gL_sI, gL_sI, s4 j h1]
        · have g := fun e => hin ((hmem z hz hc).mp e)
          have c1 : ¬ nI (A z) = nI (A a) := fun e => g (Or.inl (nI_inj (by omega) (by omega) e))
          have c2 : ¬ nI (A z) = nI (A b) := fun e => g (Or.inr (nI_inj (by omega) (by omega) e))
          refine ⟨τ, ?_, ?_, fun l h1 h2 => s2 l (by omega) h2, s3, s4⟩
          · simp only [fX1_join_L48, if_neg c8, aI_n hz (by decide), ob, bd, w1, if_neg cq, w3, if_neg c1, if_neg c2, nI_1]
          · intro l hl
            by_cases e : l = z
            · subst e
              obtain ⟨o1, o2, o3⟩ := hout l hin
              refine ⟨fun _ => ?_, fun h0 => by omega⟩
              rw [o1, o2, o3]
              exact ⟨w1, w2, w3⟩
            · exact s1 l (by omega)
      · have q0 : c z = 0 := by omega
        have cq : nI 0 ≤ 0 := by decide
        refine ⟨τ, ?_, ?_, fun l h1 h2 => s2 l (by omega) h2, s3, s4⟩
        · simp only [fX1_join_L48, if_neg c8, aI_n hz (by decide), ob, bd, (w.2 q0).1, if_pos cq, nI_1]
        · intro l hl
          by_cases e : l = z
          · subst e
            exact ⟨fun h0 => by omega, w.2⟩
          · exact s1 l (by omega)) (fun τ _ => by
      have c8 : (8 : Int32) ≤ nI 8 := by decide
      simp only [fX1_join_L48, if_pos c8]) FU (by decide) σ ⟨fun l hl => by omega, fun l _ hl => hv l hl, fun _ _ _ => rfl, fun _ _ => rfl⟩
  refine ⟨τ, ?_, m2, m4, m5⟩
  simp only [fX1_join, aI_n ha8 (by decide), aI_n hb8 (by decide), aL_n ha8 (by decide), aL_n hb8 (by decide), ob, bd, va1, va2, va3, vb1, vb2, vb3, nI_add, lI_add]
  rw [show (0 : Int32) = nI 0 from rfl, m1, ob]
