/-! SHAPE: the reference's passes -/
theorem lp_ex2 {α β : Type} {body : α → Sg → Option ((α ⊕ β) × Sg)} (N : Nat) (P : Nat → α → Sg → Prop) (Q : β → Sg → Prop) (hs : ∀ k, k < N → ∀ a σ, P k a σ → ∃ a' τ, body a σ = some (.inl a', τ) ∧ P (k + 1) a' τ) (hx : ∀ a σ, P N a σ → ∃ b, body a σ = some (.inr b, σ) ∧ Q b σ) : ∀ n, N < n → ∀ a σ, P 0 a σ → ∃ b τ, lpG body n a σ = some (b, τ) ∧ Q b τ := by
  have key : ∀ (m : Nat) (k n : Nat), k + m = N → m < n → ∀ a σ, P k a σ → ∃ b τ, lpG body n a σ = some (b, τ) ∧ Q b τ := by
    intro m
    induction m with
    | zero =>
      intro k n hk hn a σ hP
      have : k = N := by omega
      subst this
      obtain ⟨n, rfl⟩ : ∃ n', n = n' + 1 := ⟨n - 1, by omega⟩
      obtain ⟨b, h1, h2⟩ := hx a σ hP
      exact ⟨b, σ, by rw [lpG, h1], h2⟩
    | succ m ih =>
      intro k n hk hn a σ hP
      obtain ⟨n, rfl⟩ : ∃ n', n = n' + 1 := ⟨n - 1, by omega⟩
      obtain ⟨a', τ, h1, h2⟩ := hs k (by omega) a σ hP
      obtain ⟨b, υ, h3, h4⟩ := ih (k + 1) n (by omega) (by omega) a' τ h2
      refine ⟨b, υ, ?_, h4⟩
      rw [lpG, h1]
      exact h3
  intro n hn a σ hP
  exact key N 0 n (by omega) hn a σ hP
theorem fall_r {c : Nat → Nat} {x : Nat → Int} {A B : Nat → Nat} (hF : Fit c x) (h : ShOk c x A B) {a b : Nat} (ha : a < 8) (hb : b < 8) (ca : 0 < c a) (cb : 0 < c b) : (0 ≤ lg_cmp (lI (bS x A B b) * lI (bC c A B a)) (lI (bS x A B a) * lI (bC c A B b))) ↔ ¬ Fall c x A B a b := by
  obtain ⟨fa1, fa2, fa3⟩ := bN_le hF h ha ca
  obtain ⟨fb1, fb2, fb3⟩ := bN_le hF h hb cb
  have := fall_c hF h ha hb ca cb
  rw [nI_lI (by omega), nI_lI (by omega), fa3, fb3] at this
  exact this
/-- the reference's shape state -/
def RsP (c : Nat → Nat) (x : Nat → Int) (A B : Nat → Nat) (σ τ : Sg) : Prop := ShOk c x A B ∧ (∀ l, l < 8 → RsV c x A B τ l) ∧ gI τ = gI σ ∧ (∀ j, j ≠ 59 → j ≠ 60 → gL τ j = gL σ j)
theorem r_pass {c : Nat → Nat} {x : Nat → Int} {A0 B0 : Nat → Nat} (hF : Fit c x) {σ0 σ : Sg} (h58 : ∀ l, l < 8 → gL σ0 58 l = lI (c l)) (h0 : RsP c x A0 B0 σ0 σ) : ∃ r τ, lpG fX11_laysShape_L54 FU ((0 : Int32), (-1 : Int32), (0 : Int32)) σ = some (r, τ) ∧ ∃ A B, RsP c x A B σ0 τ ∧ ((r = 0 ∧ NoFall c x A B) ∨ (r = 1 ∧ ldN c A + 1 ≤ ldN c A0)) := by
  refine lp_ex2 (body := fX11_laysShape_L54) 8 (fun z s τ => s.2.2 = nI z ∧ s.2.1 = ahI c z ∧ ∃ A B, RsP c x A B σ0 τ ∧ ldN c A ≤ ldN c A0 ∧ ((s.1 = 0 ∧ ∀ a b, b < z → Adj c a b → ¬ Fall c x A B a b) ∨ (s.1 = 1 ∧ ldN c A + 1 ≤ ldN c A0))) (fun r τ => ∃ A B, RsP c x A B σ0 τ ∧ ((r = 0 ∧ NoFall c x A B) ∨ (r = 1 ∧ ldN c A + 1 ≤ ldN c A0))) (fun z hz s τ hp => ?_) (fun s τ hp => ?_) FU (by decide) _ _ ?_
  · obtain ⟨m, la, l⟩ := s
    obtain ⟨hl, hla, A, B, hR, hld, hm⟩ := hp
    simp only at hl hla hm
    subst hl
    have c8 : ¬ (8 : Int32) ≤ nI z := nI_ge (b := 8) hz (by decide)
    have w58 : gL τ 58 z = lI (c z) := by rw [hR.2.2.2 58 (by decide) (by decide), h58 z hz]
    have b1 := pC_b hF (show z + 1 ≤ 8 by omega)
    have b2 := pC_b hF (show z ≤ 8 by omega)
    rw [pC_s] at b1
    by_cases q : 0 < c z
    · have cq : ¬ lg_cmp (lI (c z)) (0 : Int64) ≤ 0 := by rw [le0 (by omega) (by omega)]; omega
      have hah : ahI c (z + 1) = nI z := by rw [ahI, if_pos q]
      rcases ahI_or c z (by omega) with ⟨g1, g2⟩ | ⟨a, g1, g2, g3, g4⟩
      · rw [g1] at hla
        refine ⟨(m, nI z, nI (z + 1)), τ, ?_, rfl, hah.symm, A, B, hR, hld, ?_⟩
        · simp only [fX11_laysShape_L54, if_neg c8, aL_n hz (by decide), ob, bd, w58, if_neg cq, hla, if_true, nI_1]
        · rcases hm with ⟨m1, m2⟩ | m1
          · left
            refine ⟨m1, fun a' b' hb' hj => ?_⟩
            rcases (show b' < z ∨ b' = z by omega) with g | g
            · exact m2 a' b' g hj
            · subst g
              have := g2 a' hj.1
              have := hj.2.2.1
              omega
          · exact Or.inr m1
      · rw [g4] at hla
        have ha8 : a < 8 := by omega
        have hj : Adj c a z := ⟨g1, hz, g2, q, g3⟩
        have cm : ¬ nI a = -1 := m1_ne (by omega)
        obtain ⟨va1, va2⟩ := hR.2.1 a ha8 g2
        obtain ⟨vz1, vz2⟩ := hR.2.1 z hz q
        by_cases hf : Fall c x A B a z
        · have cf : ¬ 0 ≤ lg_cmp (lI (bS x A B z) * lI (bC c A B a)) (lI (bS x A B a) * lI (bC c A B z)) := fun e => (fall_r hF hR.1 ha8 hz g2 q).mp e hf
          have hd := fall_ne hR.1 hj hf
          have w58' : ∀ l, l < 8 → gL τ 58 l = lI (c l) := fun l hl => by rw [hR.2.2.2 58 (by decide) (by decide), h58 l hl]
          obtain ⟨υ, u1, u2, u3, u4⟩ := r_joins hF hR.1 hj hd w58' hR.2.1
          have hl2 := ld_join hR.1 hj hd
          refine ⟨(1, nI z, nI (z + 1)), υ, ?_, rfl, hah.symm, jA A B a z, jB A B a z, ⟨sh_join hF.1 hR.1 hj hd (Int.le_of_lt hf), u2, by rw [u3, hR.2.2.1], fun j j1 j2 => by rw [u4 j j1 j2, hR.2.2.2 j j1 j2]⟩, by omega, Or.inr ⟨rfl, by omega⟩⟩
          simp only [fX11_laysShape_L54, if_neg c8, aL_n hz (by decide), aL_n ha8 (by decide), ob, bd, w58, if_neg cq, hla, if_neg cm, va1, va2, vz1, vz2, if_neg cf, u1, nI_1]
        · have cf := (fall_r hF hR.1 ha8 hz g2 q).mpr hf
          refine ⟨(m, nI z, nI (z + 1)), τ, ?_, rfl, hah.symm, A, B, hR, hld, ?_⟩
          · simp only [fX11_laysShape_L54, if_neg c8, aL_n hz (by decide), aL_n ha8 (by decide), ob, bd, w58, if_neg cq, hla, if_neg cm, va1, va2, vz1, vz2, if_pos cf, nI_1]
          · rcases hm with ⟨m1, m2⟩ | m1
            · left
              refine ⟨m1, fun a' b' hb' hj' => ?_⟩
              rcases (show b' < z ∨ b' = z by omega) with g | g
              · exact m2 a' b' g hj'
              · subst g
                have e : a' = a := by
                  rcases Nat.lt_trichotomy a' a with g | g | g
                  · have := hj'.2.2.2.2 a g g1
                    omega
                  · exact g
                  · have := g3 a' g hj'.1
                    have := hj'.2.2.1
                    omega
                rw [e]
                exact hf
            · exact Or.inr m1
    · have q0 : c z = 0 := by omega
      have cq : lg_cmp (lI (c z)) (0 : Int64) ≤ 0 := by rw [le0 (by omega) (by omega)]; omega
      have hah : ahI c (z + 1) = ahI c z := by rw [ahI, if_neg q]
      refine ⟨(m, la, nI (z + 1)), τ, ?_, rfl, hla.trans hah.symm, A, B, hR, hld, ?_⟩
      · simp only [fX11_laysShape_L54, if_neg c8, aL_n hz (by decide), ob, bd, w58, if_pos cq, nI_1]
      · rcases hm with ⟨m1, m2⟩ | m1
        · left
          refine ⟨m1, fun a' b' hb' hj => ?_⟩
          rcases (show b' < z ∨ b' = z by omega) with g | g
          · exact m2 a' b' g hj
          · subst g
            have := hj.2.2.2.1
            omega
        · exact Or.inr m1
  · obtain ⟨m, la, l⟩ := s
    obtain ⟨hl, hla, A, B, hR, hld, hm⟩ := hp
    simp only at hl hm
    subst hl
    have c8 : (8 : Int32) ≤ nI 8 := by decide
    refine ⟨m, by simp only [fX11_laysShape_L54, if_pos c8], A, B, hR, ?_⟩
    rcases hm with ⟨m1, m2⟩ | m1
    · exact Or.inl ⟨m1, fun a b hj => Int.not_lt.mp (m2 a b hj.2.1 hj)⟩
    · exact Or.inr m1
  · exact ⟨rfl, rfl, A0, B0, h0, Nat.le_refl _, Or.inl ⟨rfl, fun a b hb => by omega⟩⟩
theorem r_while {c : Nat → Nat} {x : Nat → Int} (hF : Fit c x) {σ0 : Sg} (h58 : ∀ l, l < 8 → gL σ0 58 l = lI (c l)) : ∀ (d : Nat) (A B : Nat → Nat) (σ : Sg), ldN c A ≤ d → RsP c x A B σ0 σ → ∀ n, d + 1 < n → ∃ τ A' B', lpG fX11_laysShape_L44 n (1 : Int32) σ = some ((), τ) ∧ RsP c x A' B' σ0 τ ∧ NoFall c x A' B' := by
  intro d
  induction d with
  | zero =>
    intro A B σ hd hR n hn
    obtain ⟨r, τ, h1, A', B', h2, h3⟩ := r_pass hF h58 hR
    rcases h3 with ⟨g1, g2⟩ | ⟨g1, g2⟩
    · obtain ⟨n, rfl⟩ : ∃ n', n = n' + 1 + 1 := ⟨n - 2, by omega⟩
      refine ⟨τ, A', B', ?_, h2, g2⟩
      have c1 : ¬ (1 : Int32) = 0 := by decide
      rw [lpG]
      simp only [fX11_laysShape_L44, if_neg c1, h1, ob, g1]
      rw [lpG]
      simp only [fX11_laysShape_L44, if_true]
    · omega
  | succ d ih =>
    intro A B σ hd hR n hn
    have c1 : ¬ (1 : Int32) = 0 := by decide
    obtain ⟨r, τ, h1, A', B', h2, h3⟩ := r_pass hF h58 hR
    obtain ⟨n, rfl⟩ : ∃ n', n = n' + 1 + 1 := ⟨n - 2, by omega⟩
    rcases h3 with ⟨g1, g2⟩ | ⟨g1, g2⟩
    · refine ⟨τ, A', B', ?_, h2, g2⟩
      rw [lpG]
      simp only [fX11_laysShape_L44, if_neg c1, h1, ob, g1]
      rw [lpG]
      simp only [fX11_laysShape_L44, if_true]
    · obtain ⟨υ, A2, B2, k1, k2, k3⟩ := ih A' B' τ (by omega) h2 (n + 1) (by omega)
      refine ⟨υ, A2, B2, ?_, k2, k3⟩
      rw [lpG]
      simp only [fX11_laysShape_L44, if_neg c1, h1, ob, g1]
      exact k1
/-- the reference's shape -/
def RsQ (s : Sg) (A B : Nat → Nat) (τ : Sg) : Prop := RlP s (nS s) τ ∧ ShOk (lc s) (lx s) A B ∧ NoFall (lc s) (lx s) A B ∧ ∀ l, l < 8 → RsV (lc s) (lx s) A B τ l
theorem r_laysShape {s : Sg} (hI : Inv s) : ∃ τ A B, fX11_laysShape s = some τ ∧ RsQ s A B τ := by
  obtain ⟨σ, u1, uE, u2⟩ := r_laysLanes hI
  obtain ⟨υ, k1, k2, k3, k4⟩ := lp_ex (body := fX11_laysShape_L6) (b := ()) 8 (fun z => nI z) (fun z τ => (∀ l, l < z → gL τ 59 l = lI (lx s l) ∧ gL τ 60 l = lI (lc s l)) ∧ gI τ = gI σ ∧ (∀ j, j ≠ 59 → j ≠ 60 → gL τ j = gL σ j)) (fun z hz τ ⟨s1, s2, s3⟩ => by
      have c8 : ¬ (8 : Int32) ≤ nI z := nI_ge (b := 8) hz (by decide)
      have e1 : gL τ 57 z = lI (lx s z) := by rw [s3 57 (by decide) (by decide)]; exact (u2 z hz).2
      have e2 : ∀ v, gL (sL τ 59 z v) 58 z = lI (lc s z) := fun v => by rw [gL_ne _ _ (Or.inl (by decide)), s3 58 (by decide) (by decide)]; exact (u2 z hz).1
      refine ⟨sL (sL τ 59 z (lI (lx s z))) 60 z (lI (lc s z)), ?_, ?_, ?_, ?_⟩
      · simp only [fX11_laysShape_L6, if_neg c8, aL_n hz (by decide), wL_n hz (by decide), ob, bd, e1, e2, nI_1]
      · intro l hl
        rw [gL_set, gL_set, gL_set, gL_set]
        by_cases e : l = z
        · subst e; simp
        · have := s1 l (by omega)
          simp [e, this]
      · rw [gI_sL, gI_sL, s2]
      · intro j j1 j2; rw [gL_row _ _ j2, gL_row _ _ j1, s3 j j1 j2]) (fun τ _ => by
      have c8 : (8 : Int32) ≤ nI 8 := by decide
      simp only [fX11_laysShape_L6, if_pos c8]) FU (by decide) σ ⟨fun l hl => by omega, rfl, fun _ _ _ => rfl⟩
  have hF := fit hI
  have h0 : RsP (lc s) (lx s) (fun l => l) (fun l => l + 1) σ υ := ⟨sh_id _ _, fun l hl hc => by
    rw [bS_id, (k2 l hl).1, (k2 l hl).2]
    have : bC (lc s) (fun l => l) (fun l => l + 1) l = lc s l := by unfold bC; simp only; rw [pC_s]; omega
    rw [this]
    exact ⟨rfl, rfl⟩, k3, k4⟩
  obtain ⟨τ, A, B, m1, m2, m3⟩ := r_while hF (fun l hl => (u2 l hl).1) 8 _ _ υ (ld_le _ _) h0 FU (by decide)
  refine ⟨τ, A, B, ?_, ⟨fun j k hc => by rw [m2.2.2.1]; exact uE j k hc, fun l hl => by rw [m2.2.2.2 58 (by decide) (by decide), m2.2.2.2 57 (by decide) (by decide)]; exact u2 l hl⟩, m2.1, m3, m2.2.1⟩
  unfold fX11_laysShape
  rw [u1, ob, show (0 : Int32) = nI 0 from rfl, k1, ob, m1, ob]
