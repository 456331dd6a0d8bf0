/-! WORLD: the reference -/
def KB (σ : Sg) (τ : Sg) : Prop := (∀ j, j ≠ 49 → j ≠ 68 → gI τ j = gI σ j) ∧ (∀ k, k ≠ 23 → k ≠ 24 → k ≠ 25 → k ≠ 26 → gI τ 49 k = gI σ 49 k) ∧ gL τ = gL σ
def KV (v : Nat → Int32) (τ : Sg) : Prop := (∀ k, k < 8 → gI τ 68 k = v k) ∧ gI τ 49 23 = v 8 ∧ gI τ 49 24 = v 9
def KR (σ : Sg) (v : Nat → Int32) (a : Nat) (τ : Sg) : Prop := KB σ τ ∧ KV v τ ∧ gI τ 49 25 = nI a ∧ gI τ 49 26 = -1
def WR (n : Nat) (bt : Nat → Int32) (σ : Sg) : Prop := n ≤ 60 ∧ gI σ 66 1 = nI n ∧ ∀ i, i < n → gI σ 65 (60 + i) = bt i ∧ okB (bt i)
theorem kb_49 {σ τ : Sg} {a : Nat} {x : Int32} (ha : 23 ≤ a ∧ a ≤ 26) (h : KB σ τ) : KB σ (sI τ 49 a x) := ⟨fun j h1 h2 => by rw [gI_row _ _ h1]; exact h.1 j h1 h2, fun k h1 h2 h3 h4 => by rw [gI_ne _ _ (Or.inr (by omega))]; exact h.2.1 k h1 h2 h3 h4, h.2.2⟩
theorem kb_68 {σ τ : Sg} {a : Nat} {x : Int32} (h : KB σ τ) : KB σ (sI τ 68 a x) := ⟨fun j h1 h2 => by rw [gI_row _ _ h2]; exact h.1 j h1 h2, fun k h1 h2 h3 h4 => by rw [gI_row _ _ (by decide)]; exact h.2.1 k h1 h2 h3 h4, h.2.2⟩
theorem kv_25 {τ : Sg} {v : Nat → Int32} {a : Nat} {x : Int32} (ha : 25 ≤ a) (h : KV v τ) : KV v (sI τ 49 a x) := ⟨fun k hk => by rw [gI_row _ _ (by decide)]; exact h.1 k hk, by rw [gI_ne _ _ (Or.inr (by omega))]; exact h.2.1, by rw [gI_ne _ _ (Or.inr (by omega))]; exact h.2.2⟩
theorem okB_b {x : Int32} (h : okB x) : ∃ m : Nat, m ≤ 255 ∧ x = nI m := h
section
variable {n : Nat} {bt : Nat → Int32} {σ τ τ' : Sg} {v : Nat → Int32} {a : Nat}
theorem r_byte (hW : WR n bt σ) (h : KB σ τ) (ha : gI τ 49 25 = nI a) (ha2 : a ≤ 100) : fX11_byteNow τ = some (bbI n bt a, τ) := by
  have hn := hW.1
  have e66 : gI τ 66 1 = nI n := by rw [h.1 66 (by decide) (by decide)]; exact hW.2.1
  have e1 : aI τ 66 2 (1 : Int32) = some (nI n) := by rw [show (1 : Int32) = nI 1 from rfl, aI_n (by decide) (by decide), e66]
  simp only [fX11_byteNow, e1, ob, ha]
  by_cases q : a < n
  · have c : ¬ nI n ≤ nI a := nI_ge q (by omega)
    have e60 : (60 : Int32) + nI a = nI (60 + a) := by rw [show (60 : Int32) = nI 60 from rfl, nI_add]
    have v65 : gI τ 65 (60 + a) = bt a := by rw [h.1 65 (by decide) (by decide)]; exact (hW.2.2 a q).1
    simp only [if_neg c, e60, aI_n (show 60 + a < 120 by omega) (by decide), ob, v65, bb_lt q]
  · have c : nI n ≤ nI a := nI_le (by omega) (by omega)
    simp only [if_pos c, bb_ge (show n ≤ a by omega)]
theorem bb_n (hW : WR n bt σ) (k : Nat) : bbI n bt k = -1 ∨ ∃ m : Nat, m ≤ 255 ∧ bbI n bt k = nI m := by
  by_cases q : k < n
  · rw [bb_lt q]; exact Or.inr (hW.2.2 k q).2
  · rw [bb_ge (by omega)]; exact Or.inl rfl
/-- 48 to 57 -/
theorem fig_iff {x : Int32} (h : x = -1 ∨ ∃ m : Nat, m ≤ 255 ∧ x = nI m) : fig x = true ↔ ¬ x < 48 ∧ ¬ 57 < x := by
  rcases h with rfl | ⟨m, hm, rfl⟩
  · decide
  · have e48 : (48 : Int32) = nI 48 := rfl
    have e57 : (57 : Int32) = nI 57 := rfl
    rw [e48, e57, nI_ltI (by omega) (by omega), nI_ltI (by omega) (by omega)]
    unfold fig
    rw [wi_t, e48, show (9 : Int32) = nI 9 from rfl]
    by_cases q : m < 48
    · have := pk_sneg (a := m) (b := 48) (by decide) q
      exact ⟨fun h => absurd this h.1, fun h => absurd q h.1⟩
    · rw [pk_sub (by omega), nI_ltI (a := 9) (by omega) (by omega)]
      have := nI_pos (n := m - 48) (by omega)
      exact ⟨fun h => ⟨by omega, by have := h.2; omega⟩, fun h => ⟨this, by have := h.2; omega⟩⟩
theorem r_expects_ok {b : Int32} (hW : WR n bt σ) (h : KR σ v a τ) (ha : a ≤ 90) (hb : bbI n bt a = b) : ∃ τ', fX11_expects b τ = some τ' ∧ KR σ v (a + 1) τ' := by
  obtain ⟨h1, h2, h3, h4⟩ := h
  refine ⟨sI τ 49 25 (nI (a + 1)), ?_, kb_49 (by omega) h1, kv_25 (by omega) h2, gI_same _ _ _ _, by rw [gI_ne _ _ (Or.inr (by decide)), h4]⟩
  simp only [fX11_expects, h4, if_true, r_byte hW h1 h3 (by omega), ob, hb, bd, h3, nI_1]
theorem r_expects_no {b : Int32} (hW : WR n bt σ) (h : KR σ v a τ) (ha : a ≤ 90) (hb : ¬ bbI n bt a = b) : ∃ τ', fX11_expects b τ = some τ' ∧ KB σ τ' ∧ KV v τ' ∧ gI τ' 49 25 = nI (a + 1) ∧ gI τ' 49 26 = nI a := by
  obtain ⟨h1, h2, h3, h4⟩ := h
  refine ⟨sI (sI τ 49 26 (nI a)) 49 25 (nI (a + 1)), ?_, kb_49 (by omega) (kb_49 (by omega) h1), kv_25 (by omega) (kv_25 (by omega) h2), gI_same _ _ _ _, by rw [gI_ne _ _ (Or.inr (by decide)), gI_same]⟩
  have g : gI (sI τ 49 26 (nI a)) 49 25 = nI a := by rw [gI_ne _ _ (Or.inr (by decide)), h3]
  simp only [fX11_expects, h4, if_true, r_byte hW h1 h3 (by omega), ob, if_neg hb, bd, h3, g, nI_1]
theorem r_number_f {f m : Nat} (hf : gI τ 49 26 = nI f) (hf2 : f ≤ 100) : fX11_number (nI m) τ = some (0, τ) := by
  have c : ¬ nI f = -1 := m1_ne (by omega)
  have hl : lpG (fX11_number_L7 (nI m) (gI τ 49 25)) FU (0 : Int32) τ = some (0, τ) := lpG_x (n := 999999) (by simp only [fX11_number_L7, hf, if_neg c])
  simp only [fX11_number, bd, hl, ob, hf, if_neg c]
/-- a number of at most m figures -/
theorem r_number {m : Nat} (hm : m = 1 ∨ m = 2) (hW : WR n bt σ) (h : KR σ v a τ) (ha : a ≤ 90) : (fig (bbI n bt a) = false ∧ ∃ τ', fX11_number (nI m) τ = some (0, τ') ∧ KB σ τ' ∧ gI τ' 49 26 = nI a) ∨ (fig (bbI n bt a) = true ∧ (m = 1 ∨ fig (bbI n bt (a + 1)) = false) ∧ ∃ τ', fX11_number (nI m) τ = some (bbI n bt a - 48, τ') ∧ KR σ v (a + 1) τ') ∨ (fig (bbI n bt a) = true ∧ ¬ (m = 1 ∨ fig (bbI n bt (a + 1)) = false) ∧ ∃ τ', fX11_number (nI m) τ = some (10 * (bbI n bt a - 48) + (bbI n bt (a + 1) - 48), τ') ∧ KR σ v (a + 2) τ') := by
  have h0 := h
  obtain ⟨h1, h2, h3, h4⟩ := h
  -- one step of the loop
  have stop : ∀ {b : Nat} {t : Sg} {x : Int32}, KR σ v b t → b ≤ 95 → (a + m ≤ b ∨ fig (bbI n bt b) = false) → fX11_number_L7 (nI m) (nI a) x t = some (.inr x, t) := by
    intro b t x ⟨k1, k2, k3, k4⟩ hb hs
    by_cases q : a + m ≤ b
    · have c : nI a + nI m ≤ nI b := by rw [nI_add]; exact nI_le q (by omega)
      simp only [fX11_number_L7, k4, if_true, k3, if_pos c]
    · have c : ¬ nI a + nI m ≤ nI b := by rw [nI_add]; exact nI_ge (by omega) (by omega)
      have hf : fig (bbI n bt b) = false := by rcases hs with g | g; exact absurd g q; exact g
      have hi := fig_iff (bb_n hW b)
      simp only [fX11_number_L7, k4, if_true, k3, if_neg c, r_byte hW k1 k3 (by omega), ob]
      by_cases q1 : bbI n bt b < 48
      · rw [if_pos q1]
      · by_cases q2 : 57 < bbI n bt b
        · rw [if_neg q1, if_pos q2]
        · rw [hi.mpr ⟨q1, q2⟩] at hf; cases hf
  have go : ∀ {b : Nat} {t : Sg} {x : Int32}, KR σ v b t → b ≤ 95 → ¬ (a + m ≤ b) → fig (bbI n bt b) = true → fX11_number_L7 (nI m) (nI a) x t = some (.inl (10 * x + bbI n bt b - 48), sI t 49 25 (nI (b + 1))) ∧ KR σ v (b + 1) (sI t 49 25 (nI (b + 1))) := by
    intro b t x ⟨k1, k2, k3, k4⟩ hb q hf
    have c : ¬ nI a + nI m ≤ nI b := by rw [nI_add]; exact nI_ge (by omega) (by omega)
    have hi := (fig_iff (bb_n hW b)).mp hf
    refine ⟨?_, kb_49 (by omega) k1, kv_25 (by omega) k2, gI_same _ _ _ _, by rw [gI_ne _ _ (Or.inr (by decide)), k4]⟩
    simp only [fX11_number_L7, k4, if_true, k3, if_neg c, r_byte hW k1 k3 (by omega), ob, if_neg hi.1, if_neg hi.2, bd, nI_1]
  cases q : fig (bbI n bt a)
  · left
    refine ⟨rfl, sI τ 49 26 (nI a), ?_, kb_49 (by omega) h1, gI_same _ _ _ _⟩
    have hl : lpG (fX11_number_L7 (nI m) (nI a)) FU (0 : Int32) τ = some (0, τ) := lpG_x (n := 999999) (stop h0 (by omega) (Or.inr q))
    simp only [fX11_number, bd, h3, hl, ob, h4, if_true]
  · right
    obtain ⟨g1, g2⟩ := go (x := 0) h0 (by omega) (by omega) q
    have ez : (10 : Int32) * 0 + bbI n bt a - 48 = bbI n bt a - 48 := by rw [Int32.mul_zero, Int32.zero_add]
    rw [ez] at g1
    by_cases q2 : m = 1 ∨ fig (bbI n bt (a + 1)) = false
    · left
      refine ⟨rfl, q2, _, ?_, g2⟩
      have hl : lpG (fX11_number_L7 (nI m) (nI a)) FU (0 : Int32) τ = some (bbI n bt a - 48, sI τ 49 25 (nI (a + 1))) := by
        show lpG _ (999998 + 1 + 1) _ _ = _
        rw [lpG_s g1, lpG_x (stop g2 (by omega) (by rcases q2 with e | e; left; omega; right; exact e))]
      have c2 : ¬ nI (a + 1) = nI a := fun e => by have := nI_inj (by omega) (by omega) e; omega
      simp only [fX11_number, bd, h3, hl, ob, g2.2.2.2, g2.2.2.1, if_true, if_neg c2]
    · right
      have hm2 : m = 2 := by rcases hm with e | e; exact absurd (Or.inl e) q2; exact e
      have q3 : fig (bbI n bt (a + 1)) = true := by
        cases e : fig (bbI n bt (a + 1))
        · exact absurd (Or.inr e) q2
        · rfl
      obtain ⟨g3, g4⟩ := go (x := bbI n bt a - 48) g2 (by omega) (by omega) q3
      refine ⟨rfl, q2, _, ?_, g4⟩
      have er : 10 * (bbI n bt a - 48) + bbI n bt (a + 1) - 48 = 10 * (bbI n bt a - 48) + (bbI n bt (a + 1) - 48) := by grind
      rw [er] at g3
      have hl : lpG (fX11_number_L7 (nI m) (nI a)) FU (0 : Int32) τ = some (10 * (bbI n bt a - 48) + (bbI n bt (a + 1) - 48), sI (sI τ 49 25 (nI (a + 1))) 49 25 (nI (a + 1 + 1))) := by
        show lpG _ (999997 + 1 + 1 + 1) _ _ = _
        rw [lpG_s g1, lpG_s g3, lpG_x (stop g4 (by omega) (Or.inl (by omega)))]
      have c2 : ¬ nI (a + 1 + 1) = nI a := fun e => by have := nI_inj (by omega) (by omega) e; omega
      simp only [fX11_number, bd, h3, hl, ob, g4.2.2.2, g4.2.2.1, if_true, if_neg c2]
end
