/-! CHANCE: rows of figures as numbers, two ways through all orders -/
def dig (S k : Nat) : Nat := (S >>> (3 * k)) % 8
def xdg (S k x : Nat) : Nat := S ^^^ (x <<< (3 * k))
theorem dig_lt (S k : Nat) : dig S k < 8 := Nat.mod_lt _ (by decide)
theorem dig_bit (S k b : Nat) : Nat.testBit (dig S k) b = (decide (b < 3) && Nat.testBit S (3 * k + b)) := by
  unfold dig
  rw [show (8 : Nat) = 2 ^ 3 from rfl, Nat.testBit_mod_two_pow, Nat.testBit_shiftRight]
theorem dig_xdg {S i x : Nat} (hx : x < 8) (k : Nat) : dig (xdg S i x) k = if k = i then dig S k ^^^ x else dig S k := by
  have h8 : ∀ b, 3 ≤ b → Nat.testBit x b = false := fun b hb => Nat.testBit_lt_two_pow (Nat.lt_of_lt_of_le hx (by rw [show (8 : Nat) = 2 ^ 3 from rfl]; exact Nat.pow_le_pow_right (by decide) hb))
  apply Nat.eq_of_testBit_eq
  intro b
  rw [dig_bit]
  unfold xdg
  rw [Nat.testBit_xor, Nat.testBit_shiftLeft]
  by_cases e : k = i
  · subst e
    rw [if_pos rfl, Nat.testBit_xor, dig_bit, show 3 * k + b - 3 * k = b by omega]
    by_cases hb : b < 3
    · simp [hb]
    · simp [hb, h8 b (by omega)]
  · rw [if_neg e, dig_bit]
    by_cases hb : b < 3
    · by_cases h : 3 * i ≤ 3 * k + b
      · rw [h8 (3 * k + b - 3 * i) (by omega)]; simp
      · simp [h]
    · simp [hb]
theorem xor_lt8 {a b : Nat} (ha : a < 8) (hb : b < 8) : a ^^^ b < 8 := Nat.xor_lt_two_pow (n := 3) ha hb
theorem xor_can (a b : Nat) : a ^^^ (a ^^^ b) = b := by rw [← Nat.xor_assoc, Nat.xor_self, Nat.zero_xor]
theorem xor_can2 (a b : Nat) : b ^^^ (a ^^^ b) = a := by rw [Nat.xor_comm a b, ← Nat.xor_assoc, Nat.xor_self, Nat.zero_xor]
/-- figure k becomes v -/
def sdg (S k v : Nat) : Nat := xdg S k (dig S k ^^^ v)
theorem dig_sdg {S i v : Nat} (hv : v < 8) (k : Nat) : dig (sdg S i v) k = if k = i then v else dig S k := by
  unfold sdg
  rw [dig_xdg (xor_lt8 (dig_lt S i) hv)]
  by_cases e : k = i
  · subst e; rw [if_pos rfl, if_pos rfl, xor_can]
  · rw [if_neg e, if_neg e]
def swp (S i j : Nat) : Nat := xdg (xdg S i (dig S i ^^^ dig S j)) j (dig S i ^^^ dig S j)
theorem dig_swp {S i j : Nat} (hij : i ≠ j) (k : Nat) : dig (swp S i j) k = if k = i then dig S j else if k = j then dig S i else dig S k := by
  unfold swp
  have hx := xor_lt8 (dig_lt S i) (dig_lt S j)
  rw [dig_xdg hx, dig_xdg hx]
  by_cases e : k = i
  · subst e
    rw [if_neg hij, if_pos rfl, if_pos rfl, xor_can]
  · rw [if_neg e, if_neg e]
    by_cases e2 : k = j
    · subst e2; rw [if_pos rfl, if_pos rfl, xor_can2]
    · rw [if_neg e2, if_neg e2]
/-- the class's way: figure 0 at, 1.. turns, 9.. the order -/
def hin (S : Nat) : Nat := bif Nat.beq (dig S 0 % 2) 0 then 0 else dig S (1 + dig S 0)
def hup (S : Nat) : Nat := sdg (sdg (swp S (9 + hin S) (9 + dig S 0)) (1 + dig S 0) (dig S (1 + dig S 0) + 1)) 0 1
def hno (S : Nat) : Nat := sdg (sdg S (1 + dig S 0) 0) 0 (dig S 0 + 1)
noncomputable def hrun (n F : Nat) : Nat → List Nat → Option (List Nat) := Nat.rec (motive := fun _ => Nat → List Nat → Option (List Nat)) (fun _ _ => none) (fun _ ih S acc => bif Nat.ble n (dig S 0) then some acc else bif Nat.blt (dig S (1 + dig S 0)) (dig S 0) then ih (hup S) (hup S >>> 27 :: acc) else ih (hno S) acc) F
/-- the reference's way -/
def sc1 (c : Nat) : Nat → Nat
  | 0 => 0
  | m + 1 => bif Nat.ble (dig c m) (dig c (m + 1)) then m + 1 else sc1 c m
def sc2 (c d : Nat) : Nat → Nat
  | 0 => 0
  | m + 1 => bif Nat.ble d (dig c m) then m else sc2 c d m
def rvs : Nat → Nat → Nat → Nat → Nat
  | 0, c, _, _ => c
  | F + 1, c, lo, hi => bif Nat.ble hi lo then c else rvs F (swp c lo hi) (lo + 1) (hi - 1)
def nxt (n c : Nat) : Nat := rvs 8 (swp c (sc1 c (n - 1) - 1) (sc2 c (dig c (sc1 c (n - 1) - 1)) n)) (sc1 c (n - 1)) (n - 1)
noncomputable def lrun (n F : Nat) : Nat → List Nat → Option (List Nat) := Nat.rec (motive := fun _ => Nat → List Nat → Option (List Nat)) (fun _ _ => none) (fun _ ih c acc => bif Nat.beq (sc1 c (n - 1)) 0 then some (c :: acc) else ih (nxt n c) (c :: acc)) F
/-- sorting -/
noncomputable def mrg (F : Nat) : List Nat → List Nat → List Nat := Nat.rec (motive := fun _ => List Nat → List Nat → List Nat) (fun xs ys => xs ++ ys) (fun _ ih xs ys => match xs, ys with
  | [], ys => ys
  | x :: xs, [] => x :: xs
  | x :: xs, y :: ys => bif Nat.ble x y then x :: ih xs (y :: ys) else y :: ih (x :: xs) ys) F
noncomputable def mpr (F : Nat) : List (List Nat) → List (List Nat) := Nat.rec (motive := fun _ => List (List Nat) → List (List Nat)) (fun l => l) (fun _ ih l => match l with
  | a :: b :: l => mrg 6000 a b :: ih l
  | l => l) F
noncomputable def mal (F : Nat) : List (List Nat) → List (List Nat) := Nat.rec (motive := fun _ => List (List Nat) → List (List Nat)) (fun l => l) (fun _ ih l => ih (mpr 6000 l)) F
noncomputable def srt (l : List Nat) : List Nat := (mal 13 (l.map (fun x => [x]))).flatten
def leq : List Nat → List Nat → Bool
  | [], [] => true
  | x :: xs, y :: ys => Nat.beq x y && leq xs ys
  | _, _ => false
/-- 0 1 2 .. -/
def idc : Nat := 1754760
def ini : Nat := idc <<< 27 ^^^ 1
noncomputable def chk (n : Nat) : Bool := match hrun n 20000 ini [], lrun n 6000 idc [] with
  | some a, some b => leq (srt (idc :: a)) (srt b)
  | _, _ => false
theorem idc_d : ∀ k, k < 7 → dig idc k = k := by decide +kernel
