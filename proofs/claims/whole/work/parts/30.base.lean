/-! the pure side: numbers, rows of Option, the invariant -/
theorem ob {α β : Type} (a : α) (f : α → Option β) : (some a).bind f = f a := rfl
theorem bd {α β : Type} (a : α) (f : α → Option β) : bnd a f = f a := rfl
def b2i (b : Bool) : Int32 := if b then 1 else 0
theorem b2i_0 {b : Bool} : (b2i b = 0) ↔ b = false := by cases b <;> simp [b2i]
theorem zr_b (b : Bool) : zr (b2i b) = some (b2i b) := by cases b <;> rfl
theorem nI_inj {a b : Nat} (ha : a < 2 ^ 31) (hb : b < 2 ^ 31) (h : nI a = nI b) : a = b := (nI_eq ha hb).mp h
theorem cl_n {n : Nat} (h : n < 2 ^ 31) : (nI n).toNatClampNeg = n := nI_clamp h
theorem not_rng {k n : Nat} (h : k < n) (hn : n < 2 ^ 31) : ¬ (nI k < 0 ∨ n ≤ (nI k).toNatClampNeg) := nI_in h hn
theorem aI_n {σ : Sg} {j n k : Nat} (h : k < n) (hn : n < 2 ^ 31) : aI σ j n (nI k) = some (gI σ j k) := by
  unfold aI
  rw [if_neg (not_rng h hn), cl_n (by omega)]
theorem aL_n {σ : Sg} {j n k : Nat} (h : k < n) (hn : n < 2 ^ 31) : aL σ j n (nI k) = some (gL σ j k) := by
  unfold aL
  rw [if_neg (not_rng h hn), cl_n (by omega)]
theorem aR_n {n k : Nat} (h : k < n) (hn : n < 2 ^ 31) : aR n (nI k) = some k := by
  unfold aR
  rw [if_neg (not_rng h hn), cl_n (by omega)]
theorem wI_n {σ : Sg} {j n k : Nat} {v : Int32} (h : k < n) (hn : n < 2 ^ 31) : wI σ j n (nI k) v = some (sI σ j k v) := by
  unfold wI
  rw [if_neg (not_rng h hn), cl_n (by omega)]
theorem wL_n {σ : Sg} {j n k : Nat} {v : Int64} (h : k < n) (hn : n < 2 ^ 31) : wL σ j n (nI k) v = some (sL σ j k v) := by
  unfold wL
  rw [if_neg (not_rng h hn), cl_n (by omega)]
theorem wZ_n {σ : Sg} {j n k : Nat} {b : Bool} (h : k < n) (hn : n < 2 ^ 31) : wZ σ j n (nI k) (b2i b) = some (sI σ j k (b2i b)) := by
  unfold wZ
  rw [if_pos (by cases b <;> simp [b2i]), wI_n h hn]
/-- v from lo to hi -/
def wi (v lo hi : Int32) : Bool := !(decide (v < lo)) && !(decide (hi < v))
theorem wi_t {v lo hi : Int32} : wi v lo hi = true ↔ ¬ v < lo ∧ ¬ hi < v := by simp [wi]
theorem wi_nat {v hi : Int32} {n : Nat} (hh : hi = nI n) (hn : n < 2 ^ 31) (h : wi v 0 hi = true) : ∃ k : Nat, k ≤ n ∧ v = nI k := by
  obtain ⟨h1, h2⟩ := wi_t.mp h
  exact nI_of2 (by rw [hh]; exact nI_toInt hn) h1 (Int32.not_lt.mp h2)
theorem wi_n {k n : Nat} (h : k ≤ n) (hn : n < 2 ^ 31) : wi (nI k) 0 (nI n) = true := by
  rw [wi_t]
  exact ⟨nI_pos (by omega), nI_nlt h hn⟩
theorem wi_nat1 {v lo hi : Int32} {a n : Nat} (hl : lo = nI a) (ha : a < 2 ^ 31) (hh : hi = nI n) (hn : n < 2 ^ 31) (h : wi v lo hi = true) : ∃ k : Nat, a ≤ k ∧ k ≤ n ∧ v = nI k := by
  obtain ⟨h1, h2⟩ := wi_t.mp h
  have hv : ¬ v < 0 := by
    intro hv
    apply h1
    rw [hl, Int32.lt_iff_toInt_lt, nI_toInt ha]
    rw [Int32.lt_iff_toInt_lt] at hv
    have : (0 : Int32).toInt = 0 := rfl
    omega
  obtain ⟨k, hk, rfl⟩ := nI_of2 (n := n) (by rw [hh]; exact nI_toInt hn) hv (Int32.not_lt.mp h2)
  refine ⟨k, ?_, hk, rfl⟩
  rw [hl, nI_ltI (by omega) ha] at h1
  omega
theorem m1_ne {n : Nat} (h : n < 2 ^ 31) : ¬ nI n = -1 := by
  intro e
  have := congrArg Int32.toInt e
  rw [nI_toInt h] at this
  have h2 : (-1 : Int32).toInt = -1 := rfl
  omega
/-- a loop that runs by a known row of states -/
theorem lp_run {α β : Type} {body : α → Sg → Option ((α ⊕ β) × Sg)} (N : Nat) (f : Nat → α) (g : Nat → Sg) {b : β} {τ : Sg} (hs : ∀ k, k < N → body (f k) (g k) = some (.inl (f (k + 1)), g (k + 1))) (hx : body (f N) (g N) = some (.inr b, τ)) : ∀ n, N < n → lpG body n (f 0) (g 0) = some (b, τ) := by
  have key : ∀ (m : Nat) (k n : Nat), k + m = N → m < n → lpG body n (f k) (g k) = some (b, τ) := by
    intro m
    induction m with
    | zero =>
      intro k n hk hn
      obtain ⟨n, rfl⟩ : ∃ n', n = n' + 1 := ⟨n - 1, by omega⟩
      obtain rfl : k = N := by omega
      unfold lpG
      rw [hx]
    | succ m ih =>
      intro k n hk hn
      obtain ⟨n, rfl⟩ : ∃ n', n = n' + 1 := ⟨n - 1, by omega⟩
      unfold lpG
      rw [hs k (by omega)]
      exact ih (k + 1) n (by omega) (by omega)
  intro n hn
  exact key N 0 n (by omega) hn
/-- the same, for one that only reads -/
theorem lp_rd {α β : Type} {body : α → Sg → Option ((α ⊕ β) × Sg)} (N : Nat) (f : Nat → α) {σ : Sg} {b : β} (hs : ∀ k, k < N → body (f k) σ = some (.inl (f (k + 1)), σ)) (hx : body (f N) σ = some (.inr b, σ)) (n : Nat) (hn : N < n) : lpG body n (f 0) σ = some (b, σ) := lp_run N f (fun _ => σ) hs hx n hn
/-- the first place of a kind below N, or N -/
theorem first_of (P : Nat → Prop) (N : Nat) : (∃ k, k < N ∧ P k ∧ ∀ j, j < k → ¬ P j) ∨ ∀ j, j < N → ¬ P j := by
  by_cases h : ∃ k, k < N ∧ P k
  · left
    obtain ⟨k, hk, hm⟩ := pk_least (fun k => k < N ∧ P k) h
    exact ⟨k, hk.1, hk.2, fun j hj hp => hm j hj ⟨by omega, hp⟩⟩
  · right
    exact fun j hj hp => h ⟨j, hj, hp⟩
