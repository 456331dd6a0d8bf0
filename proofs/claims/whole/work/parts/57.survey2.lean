/-! LEVELS: the class's survey, whole -/
def lc (s : Sg) (l : Nat) : Nat := ctN s l (nS s)
def lx (s : Sg) (l : Nat) : Int := smZ s l (nS s)
theorem eq_lc {s t : Sg} (h : Eqv s t) : lc t = lc s := by funext l; unfold lc; rw [eq_ct h, eq_nS h]
theorem eq_lx {s t : Sg} (h : Eqv s t) : lx t = lx s := by funext l; unfold lx; rw [eq_sm h, eq_nS h]
theorem cn0_sZ {P : Nat → Bool} {d : Nat → Int} : ∀ n, cn P n = 0 → sZ (fun i => if P i = true then d i else 0) n = 0 := by
  intro n
  induction n with
  | zero => intro _; rfl
  | succ n ih =>
    intro h
    rw [cn] at h
    have h1 : ¬ P n = true := fun e => by rw [if_pos e] at h; omega
    rw [sZ, ih (by omega), if_neg h1]
    rfl
theorem pC_step (s : Sg) (n : Nat) : ∀ m, pC (fun l => ctN s l (n + 1)) m = pC (fun l => ctN s l n) m + (if hasDV (tmr s n) = true ∧ laN s n < m then 1 else 0) := by
  intro m
  induction m with
  | zero => rw [if_neg (by omega)]; rfl
  | succ m ih =>
    rw [pC_s, pC_s, ih]
    have e : ctN s m (n + 1) = ctN s m n + (if inL s m n = true then 1 else 0) := rfl
    rw [e]
    unfold inL
    by_cases q : hasDV (tmr s n) = true
    · rcases Nat.lt_trichotomy (laN s n) m with g | g | g
      · have : ¬ laN s n = m := by omega
        simp [q, g, this, show laN s n < m + 1 by omega]; omega
      · simp [q, g]; omega
      · have : ¬ laN s n = m := by omega
        simp [q, this, show ¬ laN s n < m + 1 by omega, show ¬ laN s n < m by omega]
    · simp [q]
theorem sZ_step (s : Sg) (n : Nat) : ∀ m, sZ (fun l => smZ s l (n + 1)) m = sZ (fun l => smZ s l n) m + (if hasDV (tmr s n) = true ∧ laN s n < m then dD s n else 0) := by
  intro m
  induction m with
  | zero => rw [if_neg (by omega)]; rfl
  | succ m ih =>
    rw [sZ, sZ, ih]
    have e : smZ s m (n + 1) = smZ s m n + (if inL s m n = true then dD s n else 0) := rfl
    rw [e]
    unfold inL
    by_cases q : hasDV (tmr s n) = true
    · rcases Nat.lt_trichotomy (laN s n) m with g | g | g
      · have : ¬ laN s n = m := by omega
        simp [q, g, this, show laN s n < m + 1 by omega]; omega
      · simp [q, g]; omega
      · have : ¬ laN s n = m := by omega
        simp [q, this, show ¬ laN s n < m + 1 by omega, show ¬ laN s n < m by omega]
    · simp [q]
theorem pC_0 (m : Nat) : pC (fun _ => 0) m = 0 := by
  induction m with
  | zero => rfl
  | succ m ih => rw [pC_s, ih]; rfl
theorem sZ_0 (m : Nat) : sZ (fun _ => 0) m = 0 := by
  induction m with
  | zero => rfl
  | succ m ih => rw [sZ, ih]; rfl
theorem fit {s : Sg} (hI : Inv s) : Fit (lc s) (lx s) := by
  have a6 := hI.1.2.2.2.2.2
  refine ⟨fun l h => cn0_sZ _ h, ?_, ?_⟩
  · have : ∀ n m, pC (fun l => ctN s l n) m ≤ n := by
      intro n
      induction n with
      | zero => intro m; have := pC_0 m; exact Int.le_of_eq this
      | succ n ih =>
        intro m
        rw [pC_step]
        have := ih m
        split <;> omega
    have := this (nS s) 8
    show pC (fun l => ctN s l (nS s)) 8 ≤ 64
    omega
  · intro m hm
    have : ∀ n, n ≤ nS s → -(19998 * (n : Int)) ≤ sZ (fun l => smZ s l n) m ∧ sZ (fun l => smZ s l n) m ≤ 19998 * (n : Int) := by
      intro n
      induction n with
      | zero => intro _; have := sZ_0 m; exact ⟨Int.le_of_eq this.symm, Int.le_of_eq this⟩
      | succ n ih =>
        intro hn
        rw [sZ_step]
        have := ih (by omega)
        have := dD_b hI (show n < nS s by omega)
        split <;> omega
    have := this (nS s) (Nat.le_refl _)
    show -2000000 ≤ sZ (fun l => smZ s l (nS s)) m ∧ sZ (fun l => smZ s l (nS s)) m ≤ 2000000
    omega
theorem lc_le {s : Sg} (hI : Inv s) (l : Nat) : lc s l ≤ 64 := Nat.le_trans (cn_le _ _) hI.1.2.2.2.2.2
theorem bN_id (c : Nat → Nat) (l : Nat) : bN c (fun l => l) (fun l => l + 1) l = c l := by
  unfold bN bC
  simp only
  rw [pC_s]
  omega
theorem bS_id (x : Nat → Int) (l : Nat) : bS x (fun l => l) (fun l => l + 1) l = x l := by
  unfold bS
  simp only
  rw [sZ]
  omega
theorem lc_lcm {s : Sg} (hI : Inv s) : lcN (lc s) 8 < 2 ^ 34 := by
  have := sh_lcm (fit hI) (sh_id (lc s) (lx s))
  have e : shC (lc s) (fun l => l) (fun l => l + 1) = lc s := by
    funext l
    unfold shC
    rw [bN_id]
    split <;> omega
  rwa [e] at this
/-- what Levels (at b) holds, settled -/
def Set9 (b : Nat) (C : Nat → Nat) (S : Nat → Int) (τ : Sg) : Prop := gI τ b 4 = nI (psN C 8) ∧ gL τ b 5 = lI (lcN C 8) ∧ gL τ b 6 = lI (sZ (scI C S) 8) ∧ (∀ l, l < 8 → gL τ (b + 3) l = lI (scI C S l)) ∧ (∀ l, l < 8 → gI τ (b + 1) l = nI (C l))
theorem e_become {c : Nat → Nat} {x : Nat → Int} (hF : Fit c x) {σ : Sg} (h1 : ∀ l, l < 8 → gI σ 10 l = nI (c l) ∧ gL σ 11 l = lI (x l)) : ∃ τ A B, fX1_becomeShapeOf 14 9 σ = some τ ∧ ShOk c x A B ∧ NoFall c x A B ∧ Set9 14 (shC c A B) (shS c x A B) τ ∧ (∀ j, j ≠ 14 → j ≠ 15 → j ≠ 18 → gI τ j = gI σ j) ∧ (∀ j, j ≠ 14 → j ≠ 16 → j ≠ 17 → gL τ j = gL σ j) := by
  obtain ⟨υ, k1, k2, k3, k4⟩ := lp_ex (body := fX1_becomeShapeOf_L2 14 9) (b := ()) 8 (fun z => nI z) (fun z τ => (∀ l, l < z → LvV c x (fun l => l) (fun l => l + 1) τ l) ∧ (∀ j, j ≠ 15 → j ≠ 18 → gI τ j = gI σ j) ∧ (∀ j, j ≠ 16 → gL τ j = gL σ j)) (fun z hz τ ⟨s1, s2, s3⟩ => by
      have c8 : ¬ (8 : Int32) ≤ nI z := nI_ge (b := 8) hz (by decide)
      have e1 : gI τ 10 z = nI (c z) := by rw [s2 10 (by decide) (by decide), (h1 z hz).1]
      have e2 : gL τ 11 z = lI (x z) := by rw [s3 11 (by decide), (h1 z hz).2]
      refine ⟨sI (sL (sI τ 15 z (nI (c z))) 16 z (lI (x z))) 18 z (nI z), ?_, ?_, ?_, ?_⟩
      · simp only [fX1_becomeShapeOf_L2, if_neg c8, aI_n hz (by decide), aL_n hz (by decide), wI_n hz (by decide), wL_n hz (by decide), ob, bd, e1, gL_sI, e2, nI_1]
      · intro l hl
        by_cases e : l = z
        · subst e
          unfold LvV
          rw [bN_id, bS_id, gI_ne _ _ (Or.inl (by decide)), gI_sL, gI_same, gL_sI, gL_same, gI_same]
          refine ⟨fun _ => ⟨rfl, rfl, rfl⟩, fun h0 => ?_⟩
          rw [hF.1 l h0, h0]
          exact ⟨rfl, rfl⟩
        · refine (s1 l (by omega)).cg ?_ ?_ ?_
          · rw [gI_ne _ _ (Or.inr e), gI_sL, gI_ne _ _ (Or.inr e)]
          · rw [gL_sI, gL_ne _ _ (Or.inr e), gL_sI]
          · rw [gI_ne _ _ (Or.inr e), gI_sL, gI_ne _ _ (Or.inr e)]
      · intro j j1 j2; rw [gI_row _ _ j2, gI_sL, gI_row _ _ j1, s2 j j1 j2]
      · intro j j1; rw [gL_sI, gL_row _ _ j1, gL_sI, s3 j j1]) (fun τ _ => by
      have c8 : (8 : Int32) ≤ nI 8 := by decide
      simp only [fX1_becomeShapeOf_L2, if_pos c8]) FU (by decide) σ ⟨fun l hl => by omega, fun _ _ _ => rfl, fun _ _ => rfl⟩
  obtain ⟨ω, A, B, m1, m2, m3, m4, m5, m6⟩ := e_rounds hF 8 0 rfl _ _ υ (sh_id c x) (ld_le _ _) k2 FU (by decide)
  have w1 : ∀ l, l < 8 → gI ω (14 + 1) l = nI (shC c A B l) := fun l hl => by
    unfold shC
    by_cases q : 0 < c l
    · rw [if_pos q]; exact ((m4 l hl).1 q).1
    · rw [if_neg q]; exact ((m4 l hl).2 (by omega)).1
  have w2 : ∀ l, l < 8 → gL ω (14 + 2) l = lI (shS c x A B l) := fun l hl => by
    unfold shS
    by_cases q : 0 < c l
    · rw [if_pos q]; exact ((m4 l hl).1 q).2.1
    · rw [if_neg q]; exact ((m4 l hl).2 (by omega)).2
  obtain ⟨τ, t1, t2, t3, t4, t5, t6, t7⟩ := e_settle (b0 := 14) (C := shC c A B) (S := shS c x A B) (fun l hl => by
    unfold shC
    by_cases q : 0 < c l
    · rw [if_pos q]; exact (bN_le hF m2 hl q).1
    · rw [if_neg q]; omega) (Nat.lt_trans (sh_lcm hF m2) (by decide)) w1 w2
  refine ⟨τ, A, B, ?_, m2, m3, ⟨t2, t3, t4, t5, fun l hl => by rw [t6 _ (by decide), w1 l hl]⟩, fun j j1 j2 j3 => by rw [t6 j j1, m5 j j2 j3, k3 j j2 j3], fun j j1 j2 j3 => by rw [t7 j j1 j3, m6 j j2, k4 j j2]⟩
  unfold fX1_becomeShapeOf
  rw [show (0 : Int32) = nI 0 from rfl, k1, ob, m1, ob, t1, ob]
/-- behind the survey -/
def SvQ (s : Sg) (A B : Nat → Nat) (τ : Sg) : Prop := Eqv s τ ∧ (∀ i, i < nS s → gI τ 20 i = b2i (hasDV (tmr s i)) ∧ gI τ 21 i = dvI s i) ∧ Set9 9 (lc s) (lx s) τ ∧ ShOk (lc s) (lx s) A B ∧ NoFall (lc s) (lx s) A B ∧ Set9 14 (shC (lc s) A B) (shS (lc s) (lx s) A B) τ
theorem e_survey {s : Sg} (hI : Inv s) : ∃ τ A B, fX8_survey s = some τ ∧ SvQ s A B τ := by
  obtain ⟨σ, c1, c2, c3, c4⟩ := e_clear 9 s
  have hE : Eqv s σ := fun j k hc => by
    by_cases e : j = 10
    · subst e; rw [core_lv (by decide) (by decide)] at hc; cases hc
    · rw [c3 j e]
  obtain ⟨υ, d1, d2, d3, d4⟩ := e_svLoop hI (σ := σ) ⟨hE, fun i hi => by omega, fun l hl => ⟨(c2 l hl).1, (c2 l hl).2⟩⟩
  obtain ⟨ω, e1, e2, e3, e4, e5, e6, e7⟩ := e_settle (b0 := 9) (C := lc s) (S := lx s) (fun l _ => lc_le hI l) (Nat.lt_trans (lc_lcm hI) (by decide)) (σ := υ) (fun l hl => (d4 l hl).1) (fun l hl => (d4 l hl).2)
  obtain ⟨τ, A, B, f1, f2, f3, f4, f5, f6⟩ := e_become (fit hI) (σ := ω) (fun l hl => ⟨by rw [e6 10 (by decide)]; exact (d4 l hl).1, by rw [e7 11 (by decide) (by decide)]; exact (d4 l hl).2⟩)
  refine ⟨τ, A, B, ?_, ?_, ?_, ⟨?_, ?_, ?_, ?_, ?_⟩, f2, f3, f4⟩
  · simp only [fX8_survey, c1, ob, d1, e1, f1]
  · refine d2.tr (fun j k hc => ?_)
    have n9 : j ≠ 9 := fun e => by subst e; rw [core_lv (by decide) (by decide)] at hc; cases hc
    have n14 : j ≠ 14 := fun e => by subst e; rw [core_lv (by decide) (by decide)] at hc; cases hc
    have n15 : j ≠ 15 := fun e => by subst e; rw [core_lv (by decide) (by decide)] at hc; cases hc
    have n18 : j ≠ 18 := fun e => by subst e; rw [core_lv (by decide) (by decide)] at hc; cases hc
    rw [f5 j n14 n15 n18, e6 j n9]
  · intro i hi
    rw [f5 20 (by decide) (by decide) (by decide), e6 20 (by decide), f5 21 (by decide) (by decide) (by decide), e6 21 (by decide)]
    exact d3 i hi
  · rw [f5 9 (by decide) (by decide) (by decide), e2]
  · rw [f6 9 (by decide) (by decide) (by decide), e3]
  · rw [f6 9 (by decide) (by decide) (by decide), e4]
  · intro l hl; rw [f6 (9 + 3) (by decide) (by decide) (by decide), e5 l hl]
  · intro l hl; rw [f5 (9 + 1) (by decide) (by decide) (by decide), e6 _ (by decide)]; exact (d4 l hl).1
