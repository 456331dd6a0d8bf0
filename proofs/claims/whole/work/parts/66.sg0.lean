/-! the state behind both constructors -/
theorem cst_at {n : Nat} {v : Int32} {k : Nat} (h : k < n) : cst n v k = v := by simp [cst, h]
theorem inv_sg0 : Inv sg0 := by
  have n0 : nR sg0 = 0 := by decide
  have n1 : nS sg0 = 0 := by decide
  have x0 : t0N sg0 = 0 := by decide
  have x1 : t1N sg0 = 0 := by decide
  refine ⟨⟨by decide, by decide, by decide, by decide, by decide, by decide⟩, ?_, ?_, ⟨?_, ?_, ?_⟩, ?_, ?_, ?_, ?_, (show gI sg0 49 33 = gI sg0 0 9 by decide)⟩
  · intro r hr; rw [n0] at hr; omega
  · intro k hk; rw [n1] at hk; omega
  · intro i hi; rw [n1] at hi; omega
  · intro i hi
    left
    exact cst_at (n := 256) (v := -1) hi
  · intro k l hk hl _
    exact cst_at (n := 256) (v := -1) (by omega)
  · intro j k _ hk; rw [n1] at hk; omega
  · intro k hk
    have e8 : gI sg0 8 k = 3000 := cst_at (n := 24) (v := 3000) hk
    have e56 : gI sg0 56 k = 3000 := cst_at (n := 24) (v := 3000) hk
    have es : sdN sg0 k = 3000 := by unfold sdN; rw [e8]; decide
    rw [es, e8, e56]
    decide
  · refine ⟨by decide, by decide, by decide, by decide, by decide, by decide, ?_, ?_⟩
    · intro i hi; rw [x0] at hi; omega
    · intro i hi; rw [x1] at hi; omega
  · intro k hk
    rcases (show k = 0 ∨ k = 1 ∨ k = 2 ∨ k = 3 by omega) with rfl | rfl | rfl | rfl
    all_goals
      refine ⟨Or.inr ⟨by decide, by decide⟩, by decide, by decide, ⟨0, by decide, by decide⟩, ⟨0, by decide, by decide⟩, fun i _ => rfl⟩
