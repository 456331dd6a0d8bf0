/-! ORDER: the best order of each set of lanes, as numbers -/
def rmv (c l : Nat) : Nat := c &&& (255 ^^^ 2 ^ l)
theorem rm_i : ∀ c, c < 256 → ∀ l, l < 8 → (nI c &&& (((1 : Int32) <<< (nI l &&& 31)) ^^^ (-1 : Int32)) = nI (rmv c l) ∧ rmv c l < 256 ∧ (Nat.testBit c l = true → rmv c l < c)) := by decide +kernel
theorem rm_t : ∀ c, c < 256 → ∀ l, l < 8 → ∀ m, m < 8 → Nat.testBit (rmv c l) m = (Nat.testBit c m && !(decide (m = l))) := by decide +kernel
def pcN (c : Nat) : Nat := cn (Nat.testBit c) 8
theorem pc_r : ∀ c, c < 256 → ∀ l, l < 8 → Nat.testBit c l = true → pcN (rmv c l) + 1 = pcN c := by decide +kernel
theorem pc_ex : ∀ c, c < 256 → 0 < pcN c → ∃ l, l < 8 ∧ Nat.testBit c l = true := by
  intro c hc h
  rcases first_of (fun l => Nat.testBit c l = true) 8 with ⟨l, h1, h2, -⟩ | hn
  · exact ⟨l, h1, h2⟩
  · exfalso
    unfold pcN at h
    rw [cn_0 (fun k hk => by simpa using hn k hk)] at h
    omega
theorem pc_255 : pcN 255 = 8 := by decide +kernel
theorem pc_8 (c : Nat) : pcN c ≤ 8 := cn_le _ 8
section
variable (W : Nat → Nat)
/-- pairs of one lane over the others of a set -/
def gnN (c l : Nat) : Nat := sN (fun m => if (Nat.testBit c m && !(decide (m = l))) = true then W (8 * l + m) else 0) 8
def vlN (B : Nat → Nat) (c l : Nat) : Nat := B (rmv c l) + gnN W c l
def mxL (B : Nat → Nat) (c : Nat) : Nat → Nat
  | 0 => 0
  | l + 1 => if Nat.testBit c l = true then max (mxL B c l) (vlN W B c l) else mxL B c l
def tbN : Nat → Nat → Nat
  | 0 => fun _ => 0
  | c + 1 => fun x => if x = c then mxL W (tbN c) c 8 else tbN c x
def bsN (c : Nat) : Nat := mxL W (tbN W c) c 8
end
theorem tb_at (W : Nat → Nat) {n x : Nat} (h : x < n) : tbN W n x = bsN W x := by
  induction n with
  | zero => omega
  | succ n ih =>
    rw [tbN]
    by_cases e : x = n
    · subst e; simp only [if_true]; rfl
    · simp only [if_neg e]; exact ih (by omega)
theorem mxL_cg (W : Nat → Nat) {B B' : Nat → Nat} {c : Nat} (hc : c < 256) (h : ∀ x, x < c → B x = B' x) : ∀ l, l ≤ 8 → mxL W B c l = mxL W B' c l := by
  intro l
  induction l with
  | zero => intro _; rfl
  | succ l ih =>
    intro hl
    rw [mxL, mxL, ih (by omega)]
    by_cases e : Nat.testBit c l = true
    · rw [if_pos e, if_pos e]
      unfold vlN
      rw [h _ ((rm_i c hc l (by omega)).2.2 e)]
    · rw [if_neg e, if_neg e]
theorem bs_eq (W : Nat → Nat) {c : Nat} (hc : c < 256) : bsN W c = mxL W (bsN W) c 8 := mxL_cg W hc (fun x hx => tb_at W hx) 8 (Nat.le_refl _)
theorem bs_0 (W : Nat → Nat) : bsN W 0 = 0 := by
  rw [bs_eq W (by decide)]
  simp [mxL]
/-- the most is one of them -/
theorem mxL_is (W B : Nat → Nat) (c : Nat) : ∀ l, (mxL W B c l = 0 ∧ ∀ j, j < l → Nat.testBit c j = false) ∨ ∃ j, j < l ∧ Nat.testBit c j = true ∧ vlN W B c j = mxL W B c l := by
  intro l
  induction l with
  | zero => exact Or.inl ⟨rfl, fun j hj => by omega⟩
  | succ l ih =>
    rw [mxL]
    by_cases e : Nat.testBit c l = true
    · rw [if_pos e]
      right
      by_cases q : mxL W B c l ≤ vlN W B c l
      · exact ⟨l, by omega, e, by rw [Nat.max_eq_right q]⟩
      · rcases ih with ⟨h1, -⟩ | ⟨j, h1, h2, h3⟩
        · omega
        · exact ⟨j, by omega, h2, by rw [Nat.max_eq_left (by omega), h3]⟩
    · rw [if_neg e]
      rcases ih with ⟨h1, h2⟩ | ⟨j, h1, h2, h3⟩
      · refine Or.inl ⟨h1, fun j hj => ?_⟩
        by_cases ej : j = l
        · subst ej; simpa using e
        · exact h2 j (by omega)
      · exact Or.inr ⟨j, by omega, h2, h3⟩
theorem mxL_le (W B : Nat → Nat) (c : Nat) : ∀ l j, j < l → Nat.testBit c j = true → vlN W B c j ≤ mxL W B c l := by
  intro l
  induction l with
  | zero => intro j hj; omega
  | succ l ih =>
    intro j hj ht
    rw [mxL]
    by_cases ej : j = l
    · subst ej
      rw [if_pos ht]
      exact Nat.le_max_right _ _
    · have := ih j (by omega) ht
      split
      · exact Nat.le_trans this (Nat.le_max_left _ _)
      · exact this
theorem sN_le {f : Nat → Nat} {M n : Nat} (h : ∀ k, k < n → f k ≤ M) : sN f n ≤ n * M := by
  induction n with
  | zero => simp [sN]
  | succ n ih =>
    rw [sN, Nat.succ_mul]
    have := ih (fun k hk => h k (by omega))
    have := h n (by omega)
    omega
theorem gn_le {W : Nat → Nat} (hW : ∀ x, W x ≤ 4096) (c l : Nat) : gnN W c l ≤ 32768 := by
  have : gnN W c l ≤ 8 * 4096 := sN_le (fun k _ => by
    split
    · exact hW _
    · omega)
  omega
theorem bs_le {W : Nat → Nat} (hW : ∀ x, W x ≤ 4096) : ∀ c, c < 256 → bsN W c ≤ pcN c * 32768 := by
  intro c
  induction c using Nat.strongRecOn with
  | _ c ih =>
    intro hc
    rw [bs_eq W hc]
    rcases mxL_is W (bsN W) c 8 with ⟨h, -⟩ | ⟨j, h1, h2, h3⟩
    · omega
    · rw [← h3]
      obtain ⟨-, q2, q3⟩ := rm_i c hc j h1
      have h4 := ih _ (q3 h2) q2
      have h5 := pc_r c hc j h1 h2
      have h6 := gn_le hW c j
      unfold vlN
      rw [← h5, Nat.add_mul]
      omega
/-- the least lane with which a best order can begin -/
def isFl (W : Nat → Nat) (c l : Nat) : Prop := l < 8 ∧ (Nat.testBit c l = true ∧ vlN W (bsN W) c l = bsN W c) ∧ ∀ j, j < l → ¬ (Nat.testBit c j = true ∧ vlN W (bsN W) c j = bsN W c)
theorem fl_ex (W : Nat → Nat) {c : Nat} (hc : c < 256) (hp : 0 < pcN c) : ∃ l, isFl W c l := by
  rcases first_of (fun l => Nat.testBit c l = true ∧ vlN W (bsN W) c l = bsN W c) 8 with ⟨l, h1, h2, h3⟩ | hn
  · exact ⟨l, h1, h2, h3⟩
  · exfalso
    rcases mxL_is W (bsN W) c 8 with ⟨-, h⟩ | ⟨j, h1, h2, h3⟩
    · obtain ⟨l, hl, ht⟩ := pc_ex c hc hp
      rw [h l hl] at ht
      cases ht
    · exact hn j h1 ⟨h2, by rw [h3, ← bs_eq W hc]⟩
/-- the lanes, one after the other, and those left -/
theorem row_ex (W : Nat → Nat) : ∃ (L F : Nat → Nat), L 0 = 255 ∧ ∀ i, i < 8 → L i < 256 ∧ pcN (L i) = 8 - i ∧ isFl W (L i) (F i) ∧ L (i + 1) = rmv (L i) (F i) := by
  have key : ∀ n, n ≤ 8 → ∃ (L F : Nat → Nat), L 0 = 255 ∧ L n < 256 ∧ pcN (L n) = 8 - n ∧ ∀ i, i < n → L i < 256 ∧ pcN (L i) = 8 - i ∧ isFl W (L i) (F i) ∧ L (i + 1) = rmv (L i) (F i) := by
    intro n
    induction n with
    | zero => intro _; exact ⟨fun _ => 255, fun _ => 0, rfl, by decide, pc_255, fun i hi => by omega⟩
    | succ n ih =>
      intro hn
      obtain ⟨L, F, h0, h1, h2, h3⟩ := ih (by omega)
      obtain ⟨l, hl⟩ := fl_ex W h1 (by omega)
      obtain ⟨-, q2, -⟩ := rm_i _ h1 l hl.1
      have q3 := pc_r _ h1 l hl.1 hl.2.1.1
      refine ⟨fun i => if i = n + 1 then rmv (L n) l else L i, fun i => if i = n then l else F i, by simp [h0], by simp [q2], by simp; omega, fun i hi => ?_⟩
      by_cases e : i = n
      · subst e
        have e1 : ¬ i = i + 1 := by omega
        simp only [if_neg e1, if_true]
        exact ⟨h1, h2, hl, trivial⟩
      · have e1 : ¬ i = n + 1 := by omega
        have e2 : ¬ i + 1 = n + 1 := by omega
        simp only [if_neg e, if_neg e1, if_neg e2]
        exact h3 i (by omega)
  obtain ⟨L, F, h0, -, -, h3⟩ := key 8 (Nat.le_refl _)
  exact ⟨L, F, h0, h3⟩
theorem fl_u {W : Nat → Nat} {c l l' : Nat} (h : isFl W c l) (h' : isFl W c l') : l = l' := by
  rcases Nat.lt_trichotomy l l' with q | q | q
  · exact absurd h.2.1 (h'.2.2 l q)
  · exact q
  · exact absurd h'.2.1 (h.2.2 l' q)
theorem wn_le {s : Sg} (hI : Inv s) (x : Nat) : wnN s x ≤ 4096 := by
  have a6 := hI.1.2.2.2.2.2
  have h : wnN s x ≤ nS s * nS s := sN_le (fun k _ => cn_le _ _)
  have : nS s * nS s ≤ 64 * 64 := Nat.mul_le_mul a6 a6
  omega
