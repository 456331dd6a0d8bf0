/-! SHAPE: the class's rounds -/
def Fall (c : Nat → Nat) (x : Nat → Int) (A B : Nat → Nat) (a b : Nat) : Prop := bS x A B b * bC c A B a < bS x A B a * bC c A B b
theorem fall_ne {c : Nat → Nat} {x : Nat → Int} {A B : Nat → Nat} (h : ShOk c x A B) {a b : Nat} (hj : Adj c a b) (hf : Fall c x A B a b) : A a ≠ A b := by
  intro e
  obtain ⟨q1, q2, q3, q4, q5, q6, -⟩ := h b hj.2.1 hj.2.2.2.1
  obtain ⟨p1, p2, -⟩ := h a (by have := hj.1; have := hj.2.1; omega) hj.2.2.1
  have j1 := hj.1
  obtain ⟨r1, r2⟩ := q6 a (by omega) (by omega) hj.2.2.1
  unfold Fall bS bC at hf
  rw [r1, r2] at hf
  exact Int.lt_irrefl _ hf
/-- how many blocks -/
def ldN (c A : Nat → Nat) : Nat := cn (fun l => decide (0 < c l) && decide (A l = l)) 8
theorem ld_join {c : Nat → Nat} {x : Nat → Int} {A B : Nat → Nat} (h : ShOk c x A B) {a b : Nat} (hj : Adj c a b) (hd : A a ≠ A b) : ldN c (jA A B a b) + 1 ≤ ldN c A := by
  obtain ⟨e1, e2⟩ := adj_AB h hj hd
  obtain ⟨j1, j2, j3, j4, j5⟩ := hj
  obtain ⟨p1, p2, p3, p4, p5, p6, -⟩ := h a (by omega) j3
  obtain ⟨q1, q2, q3, q4, q5, q6, -⟩ := h b j2 j4
  refine cn_lt (k := b) (fun l hl hq => ?_) j2 (by simp [j4, e2]) ?_
  · simp only [Bool.and_eq_true, decide_eq_true_eq] at hq ⊢
    refine ⟨hq.1, ?_⟩
    have := hq.2
    unfold jA at this
    split at this
    · rw [← this]; exact (p6 (A a) (Nat.le_refl _) (by omega) p4).1
    · exact this
  · have : jA A B a b b = A a := if_pos ⟨by omega, q2⟩
    rw [this]
    simp only [Bool.and_eq_false_iff, decide_eq_false_iff_not]
    right
    omega
theorem ld_le (c A : Nat → Nat) : ldN c A ≤ 8 := cn_le _ 8
theorem ld_0 {c : Nat → Nat} {x : Nat → Int} {A B : Nat → Nat} (h : ShOk c x A B) (h0 : ldN c A = 0) {l : Nat} (hl : l < 8) (hc : 0 < c l) : False := by
  obtain ⟨p1, p2, p3, p4, p5, p6, -⟩ := h l hl hc
  have := (p6 (A l) (Nat.le_refl _) (by omega) p4).1
  have := cn_pos (P := fun l => decide (0 < c l) && decide (A l = l)) (n := 8) (k := A l) (by omega) (by simp [p4, this])
  unfold ldN at h0
  omega
/-- the lane ahead, as the loop holds it -/
def ahI (c : Nat → Nat) : Nat → Int32
  | 0 => -1
  | n + 1 => if 0 < c n then nI n else ahI c n
theorem ahI_or (c : Nat → Nat) : ∀ z, z ≤ 8 → (ahI c z = -1 ∧ ∀ m, m < z → c m = 0) ∨ ∃ a, a < z ∧ 0 < c a ∧ (∀ m, a < m → m < z → c m = 0) ∧ ahI c z = nI a := by
  intro z
  induction z with
  | zero => intro _; exact Or.inl ⟨rfl, fun m hm => by omega⟩
  | succ z ih =>
    intro hz
    by_cases q : 0 < c z
    · right
      exact ⟨z, by omega, q, fun m h1 h2 => by omega, by rw [ahI, if_pos q]⟩
    · have q0 : c z = 0 := by omega
      rw [ahI, if_neg q]
      rcases ih (by omega) with ⟨h1, h2⟩ | ⟨a, h1, h2, h3, h4⟩
      · left
        refine ⟨h1, fun m hm => ?_⟩
        rcases (show m < z ∨ m = z by omega) with g | g
        · exact h2 m g
        · subst g; exact q0
      · right
        refine ⟨a, by omega, h2, fun m m1 m2 => ?_, h4⟩
        rcases (show m < z ∨ m = z by omega) with g | g
        · exact h3 m m1 g
        · subst g; exact q0
theorem bd_mul {S C : Int} (h1 : -4000000 ≤ S) (h2 : S ≤ 4000000) (h3 : 0 ≤ C) (h4 : C ≤ 64) : Bd (S * C) := by
  have a1 := Int.mul_le_mul_of_nonneg_right h2 h3
  have a2 := Int.mul_le_mul_of_nonneg_right h1 h3
  constructor <;> omega
theorem fall_c {c : Nat → Nat} {x : Nat → Int} {A B : Nat → Nat} (hF : Fit c x) (h : ShOk c x A B) {a b : Nat} (ha : a < 8) (hb : b < 8) (ca : 0 < c a) (cb : 0 < c b) : (0 ≤ lg_cmp (lI (bS x A B b) * (nI (bN c A B a)).toInt64) (lI (bS x A B a) * (nI (bN c A B b)).toInt64)) ↔ ¬ Fall c x A B a b := by
  obtain ⟨fa1, fa2, fa3⟩ := bN_le hF h ha ca
  obtain ⟨fb1, fb2, fb3⟩ := bN_le hF h hb cb
  obtain ⟨ga1, ga2⟩ := bS_b hF h ha ca
  obtain ⟨gb1, gb2⟩ := bS_b hF h hb cb
  rw [nI_lI (by omega), nI_lI (by omega), lI_mul, lI_mul, lg_cmp_ge, fa3, fb3, lI_le (bd_mul ga1 ga2 (by omega) (by omega)) (bd_mul gb1 gb2 (by omega) (by omega))]
  unfold Fall
  omega
/-- one round -/
theorem e_first {c : Nat → Nat} {x : Nat → Int} {A B : Nat → Nat} (hF : Fit c x) (h : ShOk c x A B) {σ : Sg} (hv : ∀ l, l < 8 → LvV c x A B σ l) : (fX1_joinFirstFall 14 σ = some (0, σ) ∧ NoFall c x A B) ∨ ∃ τ A' B', fX1_joinFirstFall 14 σ = some (1, τ) ∧ ShOk c x A' B' ∧ ldN c A' + 1 ≤ ldN c A ∧ (∀ l, l < 8 → LvV c x A' B' τ l) ∧ (∀ j, j ≠ 15 → j ≠ 18 → gI τ j = gI σ j) ∧ (∀ j, j ≠ 16 → gL τ j = gL σ j) := by
  have step : ∀ z, z < 8 → (¬ ∃ a, Adj c a z ∧ Fall c x A B a z) → fX1_joinFirstFall_L4 14 (ahI c z, nI z) σ = some (.inl (ahI c (z + 1), nI (z + 1)), σ) := by
    intro z hz hno
    have c8 : ¬ (8 : Int32) ≤ nI z := nI_ge (b := 8) hz (by decide)
    by_cases q : 0 < c z
    · obtain ⟨w1, w2, w3⟩ := (hv z hz).1 q
      obtain ⟨f1, f2, f3⟩ := bN_le hF h hz q
      have cq : ¬ nI (bN c A B z) = 0 := fun e => by
        have := nI_inj (a := bN c A B z) (b := 0) (by omega) (by omega) e
        omega
      rw [ahI, if_pos q]
      rcases ahI_or c z (by omega) with ⟨h1, h2⟩ | ⟨a, h1, h2, h3, h4⟩
      · simp only [fX1_joinFirstFall_L4, if_neg c8, aI_n hz (by decide), ob, bd, w1, if_neg cq, h1, if_true, nI_1]
      · have ha8 : a < 8 := by omega
        obtain ⟨v1, v2, v3⟩ := (hv a ha8).1 h2
        have hnf : ¬ Fall c x A B a z := fun hf => hno ⟨a, ⟨h1, hz, h2, q, h3⟩, hf⟩
        have cm : ¬ nI a = -1 := m1_ne (by omega)
        have cf := (fall_c hF h ha8 hz h2 q).mpr hnf
        simp only [fX1_joinFirstFall_L4, if_neg c8, aI_n hz (by decide), aI_n ha8 (by decide), aL_n hz (by decide), aL_n ha8 (by decide), ob, bd, w1, w2, v1, v2, if_neg cq, h4, if_neg cm, if_pos cf, nI_1]
    · have q0 : c z = 0 := by omega
      rw [ahI, if_neg q]
      have c0 : nI 0 = 0 := rfl
      simp only [fX1_joinFirstFall_L4, if_neg c8, aI_n hz (by decide), ob, bd, ((hv z hz).2 q0).1, c0, if_true, nI_1]
  rcases first_of (fun z => ∃ a, Adj c a z ∧ Fall c x A B a z) 8 with ⟨k, hk, ⟨a, hj, hf⟩, hlt⟩ | hno
  · right
    have hd := fall_ne h hj hf
    obtain ⟨τ, t1, t2, t3, t4⟩ := e_join hF h hj hd hv
    refine ⟨τ, jA A B a k, jB A B a k, ?_, sh_join hF.1 h hj hd (Int.le_of_lt hf), ld_join h hj hd, t2, t3, t4⟩
    have hl : lpG (fX1_joinFirstFall_L4 14) FU ((-1 : Int32), (0 : Int32)) σ = some (.inl 1, τ) := by
      refine lp_run (body := fX1_joinFirstFall_L4 14) k (fun z => (ahI c z, nI z)) (fun _ => σ) (fun z hz => step z (by omega) (hlt z hz)) ?_ FU (by unfold FU; omega)
      have c8 : ¬ (8 : Int32) ≤ nI k := nI_ge (b := 8) hk (by decide)
      have ha8 : a < 8 := by have := hj.1; omega
      obtain ⟨w1, w2, w3⟩ := (hv k hk).1 hj.2.2.2.1
      obtain ⟨v1, v2, v3⟩ := (hv a ha8).1 hj.2.2.1
      obtain ⟨f1, f2, f3⟩ := bN_le hF h hk hj.2.2.2.1
      have cq : ¬ nI (bN c A B k) = 0 := fun e => by
        have := nI_inj (a := bN c A B k) (b := 0) (by omega) (by omega) e
        omega
      have hah : ahI c k = nI a := by
        rcases ahI_or c k (by omega) with ⟨h1, h2⟩ | ⟨a', h1, h2, h3, h4⟩
        · have := h2 a hj.1
          have := hj.2.2.1
          omega
        · rw [h4]
          have e : a' = a := by
            rcases Nat.lt_trichotomy a' a with g | g | g
            · have := h3 a g hj.1
              have := hj.2.2.1
              omega
            · exact g
            · have := hj.2.2.2.2 a' g h1
              omega
          rw [e]
      have cm : ¬ nI a = -1 := m1_ne (by omega)
      have cf : ¬ 0 ≤ lg_cmp (lI (bS x A B k) * (nI (bN c A B a)).toInt64) (lI (bS x A B a) * (nI (bN c A B k)).toInt64) := fun e => (fall_c hF h ha8 hk hj.2.2.1 hj.2.2.2.1).mp e hf
      simp only [fX1_joinFirstFall_L4, if_neg c8, aI_n hk (by decide), aI_n ha8 (by decide), aL_n hk (by decide), aL_n ha8 (by decide), ob, bd, w1, w2, v1, v2, if_neg cq, hah, if_neg cm, if_neg cf, t1]
    simp only [fX1_joinFirstFall, hl, ob, Sum.elim_inl]
  · left
    have hl : lpG (fX1_joinFirstFall_L4 14) FU ((-1 : Int32), (0 : Int32)) σ = some (.inr (), σ) := by
      refine lp_rd (body := fX1_joinFirstFall_L4 14) 8 (fun z => (ahI c z, nI z)) (fun z hz => step z hz (hno z hz)) ?_ FU (by decide)
      have c8 : (8 : Int32) ≤ nI 8 := by decide
      simp only [fX1_joinFirstFall_L4, if_pos c8]
    refine ⟨by simp only [fX1_joinFirstFall, hl, ob, Sum.elim_inr], fun a b hj => ?_⟩
    have hnf : ¬ Fall c x A B a b := fun hf => hno b hj.2.1 ⟨a, hj, hf⟩
    exact Int.not_lt.mp hnf
/-- all rounds -/
theorem e_rounds {c : Nat → Nat} {x : Nat → Int} (hF : Fit c x) : ∀ (d r : Nat), d + r = 8 → ∀ (A B : Nat → Nat) (σ : Sg), ShOk c x A B → ldN c A ≤ d → (∀ l, l < 8 → LvV c x A B σ l) → ∀ n, d + 1 < n → ∃ τ A' B', lpG (fX1_becomeShapeOf_L49 14) n ((1 : Int32), nI r) σ = some ((), τ) ∧ ShOk c x A' B' ∧ NoFall c x A' B' ∧ (∀ l, l < 8 → LvV c x A' B' τ l) ∧ (∀ j, j ≠ 15 → j ≠ 18 → gI τ j = gI σ j) ∧ (∀ j, j ≠ 16 → gL τ j = gL σ j) := by
  intro d
  induction d with
  | zero =>
    intro r hr A B σ h hl hv n hn
    obtain ⟨n, rfl⟩ : ∃ n', n = n' + 1 := ⟨n - 1, by omega⟩
    have hr8 : r = 8 := by omega
    subst hr8
    have c8 : (8 : Int32) ≤ nI 8 := by decide
    refine ⟨σ, A, B, ?_, h, fun a b hj => (ld_0 h (by omega) hj.2.1 hj.2.2.2.1).elim, hv, fun _ _ _ => rfl, fun _ _ => rfl⟩
    rw [lpG]
    simp only [fX1_becomeShapeOf_L49, if_pos c8]
  | succ d ih =>
    intro r hr A B σ h hl hv n hn
    obtain ⟨n, rfl⟩ : ∃ n', n = n' + 1 := ⟨n - 1, by omega⟩
    have c8 : ¬ (8 : Int32) ≤ nI r := nI_ge (b := 8) (by omega) (by decide)
    have c1 : ¬ (1 : Int32) = 0 := by decide
    rcases e_first hF h hv with ⟨g1, g2⟩ | ⟨τ, A', B', g1, g2, g3, g4, g5, g6⟩
    · obtain ⟨n, rfl⟩ : ∃ n', n = n' + 1 := ⟨n - 1, by omega⟩
      refine ⟨σ, A, B, ?_, h, g2, hv, fun _ _ _ => rfl, fun _ _ => rfl⟩
      rw [lpG]
      simp only [fX1_becomeShapeOf_L49, if_neg c8, if_neg c1, g1, ob, bd]
      rw [lpG]
      simp only [fX1_becomeShapeOf_L49, if_true, ite_self]
    · obtain ⟨υ, A2, B2, k1, k2, k3, k4, k5, k6⟩ := ih (r + 1) (by omega) A' B' τ g2 (by omega) g4 n (by omega)
      refine ⟨υ, A2, B2, ?_, k2, k3, k4, fun j h1 h2 => by rw [k5 j h1 h2, g5 j h1 h2], fun j h1 => by rw [k6 j h1, g6 j h1]⟩
      rw [lpG]
      simp only [fX1_becomeShapeOf_L49, if_neg c8, if_neg c1, g1, ob, bd, nI_1]
      exact k1
