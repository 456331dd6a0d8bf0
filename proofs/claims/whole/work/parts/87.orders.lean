/-! CHANCE: the two lists hold the same orders -/
theorem mrg_p : ∀ F xs ys, (mrg F xs ys).Perm (xs ++ ys) := by
  intro F
  induction F with
  | zero => intro xs ys; exact List.Perm.refl _
  | succ F ih =>
    intro xs ys
    match xs, ys with
    | [], ys => exact List.Perm.refl _
    | x :: xs, [] =>
      show (x :: xs).Perm (x :: xs ++ [])
      rw [List.append_nil]
    | x :: xs, y :: ys =>
      show (bif Nat.ble x y then x :: mrg F xs (y :: ys) else y :: mrg F (x :: xs) ys).Perm _
      cases Nat.ble x y
      · show (y :: mrg F (x :: xs) ys).Perm (x :: xs ++ y :: ys)
        exact ((ih (x :: xs) ys).cons y).trans (List.perm_middle.symm)
      · exact (ih xs (y :: ys)).cons x
theorem mpr_p : ∀ F l, (mpr F l).flatten.Perm l.flatten := by
  intro F
  induction F with
  | zero => intro l; exact List.Perm.refl _
  | succ F ih =>
    intro l
    match l with
    | [] => exact List.Perm.refl _
    | [a] => exact List.Perm.refl _
    | a :: b :: l =>
      show (mrg 6000 a b :: mpr F l).flatten.Perm _
      rw [List.flatten_cons, List.flatten_cons, List.flatten_cons, ← List.append_assoc]
      exact (mrg_p 6000 a b).append (ih l)
theorem mal_p : ∀ F l, (mal F l).flatten.Perm l.flatten := by
  intro F
  induction F with
  | zero => intro l; exact List.Perm.refl _
  | succ F ih => intro l; exact (ih (mpr 6000 l)).trans (mpr_p 6000 l)
theorem one_p : ∀ l : List Nat, (l.map (fun x => [x])).flatten = l := by
  intro l
  induction l with
  | nil => rfl
  | cons a l ih => rw [List.map_cons, List.flatten_cons, ih]; rfl
theorem srt_p (l : List Nat) : (srt l).Perm l := by
  have := mal_p 13 (l.map (fun x => [x]))
  rw [one_p] at this
  exact this
theorem leq_e : ∀ a b, leq a b = true → a = b := by
  intro a
  induction a with
  | nil => intro b h; cases b with
    | nil => rfl
    | cons y ys => cases h
  | cons x xs ih => intro b h; cases b with
    | nil => cases h
    | cons y ys =>
      unfold leq at h
      rw [Bool.and_eq_true] at h
      rw [Nat.eq_of_beq_eq_true h.1, ih ys h.2]
theorem chk_p {n : Nat} (h : chk n = true) : ∃ a b, hrun n 20000 ini [] = some a ∧ lrun n 6000 idc [] = some b ∧ (idc :: a).Perm b := by
  unfold chk at h
  generalize hrun n 20000 ini [] = ha at h ⊢
  generalize lrun n 6000 idc [] = hb at h ⊢
  match ha, hb, h with
  | some a, some b, h => exact ⟨a, b, rfl, rfl, (srt_p (idc :: a)).symm.trans ((leq_e _ _ h) ▸ srt_p b)⟩
theorem chk_all {n : Nat} (h2 : 2 ≤ n) (h7 : n ≤ 7) : chk n = true := by
  rcases (show n = 2 ∨ n = 3 ∨ n = 4 ∨ n = 5 ∨ n = 6 ∨ n = 7 by omega) with rfl | rfl | rfl | rfl | rfl | rfl
  · exact chk_2
  · exact chk_3
  · exact chk_4
  · exact chk_5
  · exact chk_6
  · exact chk_7
theorem lrun_s (n F c : Nat) (acc : List Nat) : lrun n (F + 1) c acc = bif Nat.beq (sc1 c (n - 1)) 0 then some (c :: acc) else lrun n F (nxt n c) (c :: acc) := rfl
theorem hrun_s (n F S : Nat) (acc : List Nat) : hrun n (F + 1) S acc = bif Nat.ble n (dig S 0) then some acc else bif Nat.blt (dig S (1 + dig S 0)) (dig S 0) then hrun n F (hup S) (hup S >>> 27 :: acc) else hrun n F (hno S) acc := rfl
theorem lrun_len : ∀ F n c acc b, lrun n F c acc = some b → b.length ≤ F + acc.length := by
  intro F
  induction F with
  | zero => intro n c acc b h; cases h
  | succ F ih =>
    intro n c acc b h
    rw [lrun_s] at h
    cases q : Nat.beq (sc1 c (n - 1)) 0
    · rw [q] at h
      have := ih n _ _ b h
      rw [List.length_cons] at this
      omega
    · rw [q] at h
      cases h
      rw [List.length_cons]
      omega
/-- the weight of an order -/
def wgt (V : Nat → Int) (n c : Nat) : Int := sZ (fun k => (k : Int) * V (dig c k)) n
def grt (V : Nat → Int) (n c : Nat) : Bool := decide (wgt V n idc ≤ wgt V n c)
theorem sZ_cg {f g : Nat → Int} : ∀ n, (∀ k, k < n → f k = g k) → sZ f n = sZ g n := by
  intro n
  induction n with
  | zero => intro _; rfl
  | succ n ih => intro h; rw [sZ, sZ, ih (fun k hk => h k (by omega)), h n (by omega)]
theorem sZ_1 {f g : Nat → Int} {i : Nat} : ∀ n, i < n → (∀ k, k < n → k ≠ i → f k = g k) → sZ f n = sZ g n + (f i - g i) := by
  intro n
  induction n with
  | zero => intro h; omega
  | succ n ih =>
    intro hi h
    rw [sZ, sZ]
    by_cases e : i = n
    · subst e
      rw [sZ_cg (f := f) (g := g) i (fun k hk => h k (by omega) (by omega))]
      omega
    · rw [ih (by omega) (fun k hk hki => h k (by omega) hki), h n (by omega) (by omega)]
      omega
theorem sZ_2 {f g : Nat → Int} {i j : Nat} (hij : i ≠ j) (n : Nat) (hi : i < n) (hj : j < n) (h : ∀ k, k < n → k ≠ i → k ≠ j → f k = g k) : sZ f n = sZ g n + (f i - g i) + (f j - g j) := by
  have h1 := sZ_1 (f := f) (g := fun k => if k = i then g k else f k) (i := i) n hi (fun k _ hki => by simp [hki])
  have h2 := sZ_1 (f := fun k => if k = i then g k else f k) (g := g) (i := j) n hj (fun k hk hkj => by
    by_cases e : k = i
    · simp [e]
    · simp [e, h k hk e hkj])
  simp only [if_true, if_neg (Ne.symm hij)] at h1 h2
  omega
theorem sZ_b {f : Nat → Int} {M : Int} : ∀ n : Nat, (∀ k, k < n → -M ≤ f k ∧ f k ≤ M) → -(M * n) ≤ sZ f n ∧ sZ f n ≤ M * n := by
  intro n
  induction n with
  | zero => intro _; simp [sZ]
  | succ n ih =>
    intro h
    have h1 := ih (fun k hk => h k (by omega))
    have h2 := h n (by omega)
    rw [sZ, show M * ((n + 1 : Nat) : Int) = M * n + M by grind]
    omega
/-- V stays within 2 ^ 50 -/
def Vb (V : Nat → Int) : Prop := ∀ k, -1125899906842624 ≤ V k ∧ V k ≤ 1125899906842624
theorem wgt_b {V : Nat → Int} (hV : Vb V) {n : Nat} (hn : n ≤ 7) (c : Nat) : -(7881299347898368 * 7) ≤ wgt V n c ∧ wgt V n c ≤ 7881299347898368 * 7 := by
  have := sZ_b (f := fun k => (k : Int) * V (dig c k)) (M := 7881299347898368) n (fun k hk => by
    have h := hV (dig c k)
    generalize V (dig c k) = v at h
    show -7881299347898368 ≤ (k : Int) * v ∧ (k : Int) * v ≤ 7881299347898368
    rcases (show k = 0 ∨ k = 1 ∨ k = 2 ∨ k = 3 ∨ k = 4 ∨ k = 5 ∨ k = 6 by omega) with rfl | rfl | rfl | rfl | rfl | rfl | rfl <;> omega)
  unfold wgt
  omega
theorem dig_sh (S k : Nat) : dig (S >>> 27) k = dig S (9 + k) := by
  unfold dig
  rw [← Nat.shiftRight_add, show 27 + 3 * k = 3 * (9 + k) by omega]
theorem dig_swp2 {S i j : Nat} (k : Nat) : dig (swp S i j) k = if k = i then dig S j else if k = j then dig S i else dig S k := by
  by_cases hij : i = j
  · subst hij
    unfold swp
    rw [Nat.xor_self, dig_xdg (by decide), dig_xdg (by decide), Nat.xor_zero]
    by_cases e : k = i
    · subst e; simp
    · simp [e]
  · exact dig_swp hij k
