/-! LEAN: sums over pairs -/
theorem accI_0 {f : Nat → Int32} {n : Nat} (h : ∀ k, k < n → f k = 0) : accI f n = 0 := by
  induction n with
  | zero => rfl
  | succ n ih => rw [accI, ih (fun k hk => h k (by omega)), h n (by omega)]; rfl
theorem accI_add (f g : Nat → Int32) (n : Nat) : accI (fun k => f k + g k) n = accI f n + accI g n := by
  induction n with
  | zero => rfl
  | succ n ih =>
    rw [accI, accI, accI, ih]
    rw [Int32.add_assoc, Int32.add_assoc]
    congr 1
    rw [← Int32.add_assoc, ← Int32.add_assoc, Int32.add_comm (accI g n) (f n)]
def dblS (f : Nat → Nat → Int32) (n : Nat) : Int32 := accI (fun a => accI (f a) n) n
theorem dbl_s (f : Nat → Nat → Int32) (n : Nat) : dblS f (n + 1) = dblS f n + accI (fun a => f a n + f n a) n + f n n := by
  unfold dblS
  rw [accI]
  show accI (fun a => accI (f a) n + f a n) n + (accI (f n) n + f n n) = _
  rw [accI_add, accI_add, Int32.add_assoc, Int32.add_assoc, Int32.add_assoc]
theorem dbl_cg {f g : Nat → Nat → Int32} : ∀ n, (∀ a b, a < b → b < n → f a b + f b a = g a b + g b a) → (∀ a, a < n → f a a = g a a) → dblS f n = dblS g n := by
  intro n
  induction n with
  | zero => intro _ _; rfl
  | succ n ih =>
    intro h1 h2
    rw [dbl_s, dbl_s, ih (fun a b hab hb => h1 a b hab (by omega)) (fun a ha => h2 a (by omega)), h2 n (by omega), accI_cg (f := fun a => f a n + f n a) (g := fun a => g a n + g n a) (fun a ha => h1 a n ha (by omega))]
theorem dbl_pt {f g : Nat → Nat → Int32} (n : Nat) (h : ∀ a b, a < n → b < n → f a b = g a b) : dblS f n = dblS g n := by
  unfold dblS
  exact accI_cg (fun a ha => accI_cg (fun b hb => h a b ha hb))
theorem dbl_add (f g : Nat → Nat → Int32) (n : Nat) : dblS (fun a b => f a b + g a b) n = dblS f n + dblS g n := by
  unfold dblS
  rw [← accI_add]
  exact accI_cg (fun a _ => accI_add _ _ _)
theorem dbl_0 {f : Nat → Nat → Int32} (n : Nat) (h : ∀ a b, f a b = 0) : dblS f n = 0 := accI_0 (fun a _ => accI_0 (fun b _ => h a b))
/-- the sign -/
def sg (z : Int) : Int32 := if 0 < z then 1 else if z < 0 then -1 else 0
theorem sg_neg (z : Int) : sg (-z) = -(sg z) := by
  unfold sg
  by_cases h1 : 0 < z
  · rw [if_neg (by omega), if_pos (by omega), if_pos h1]
  · by_cases h2 : z < 0
    · rw [if_pos (by omega), if_neg h1, if_pos h2]; rfl
    · rw [if_neg (by omega), if_neg (by omega), if_neg h1, if_neg h2]; rfl
theorem e_compare (x y : Int32) (s : Sg) : fJ6_compare_7cf53 x y s = some (sg (x.toInt - y.toInt), s) := by
  unfold fJ6_compare_7cf53 sg
  by_cases h : y ≤ x
  · rw [if_pos h]
    rw [Int32.le_iff_toInt_le] at h
    by_cases e : x = y
    · subst e
      rw [if_pos rfl, if_neg (by omega), if_neg (by omega)]
    · have : ¬ x.toInt = y.toInt := fun q => e (Int32.toInt_inj.mp q)
      rw [if_neg e, if_pos (by omega)]
  · rw [if_neg h]
    rw [Int32.le_iff_toInt_le] at h
    rw [if_neg (by omega), if_pos (by omega)]
theorem i_sub {x y : Int32} (hx : -19998 ≤ x.toInt ∧ x.toInt ≤ 19998) (hy : -19998 ≤ y.toInt ∧ y.toInt ≤ 19998) : (x - y).toInt = x.toInt - y.toInt := by
  have e : x - y = Int32.ofInt (x.toInt - y.toInt) := by rw [Int32.ofInt_sub, Int32.ofInt_toInt, Int32.ofInt_toInt]
  rw [e, Int32.toInt_ofInt_of_le (by omega) (by omega)]
theorem r_sign {x y : Int32} (hx : -19998 ≤ x.toInt ∧ x.toInt ≤ 19998) (hy : -19998 ≤ y.toInt ∧ y.toInt ≤ 19998) : (if x - y ≤ 0 then if 0 ≤ x - y then some (0 : Int32) else some (-1 : Int32) else some (1 : Int32)) = some (sg (x.toInt - y.toInt)) := by
  have e := i_sub hx hy
  have z0 : (0 : Int32).toInt = 0 := rfl
  unfold sg
  by_cases h : x - y ≤ 0
  · rw [if_pos h]
    rw [Int32.le_iff_toInt_le, e, z0] at h
    by_cases h2 : 0 ≤ x - y
    · rw [if_pos h2]
      rw [Int32.le_iff_toInt_le, e, z0] at h2
      rw [if_neg (by omega), if_neg (by omega)]
    · rw [if_neg h2]
      rw [Int32.le_iff_toInt_le, e, z0] at h2
      rw [if_neg (by omega), if_pos (by omega)]
  · rw [if_neg h]
    rw [Int32.le_iff_toInt_le, e, z0] at h
    rw [if_pos (by omega)]
/-- the reference's pair -/
def prI (s : Sg) (p q : Int32) (a b : Nat) : Int32 := if rcN s a = rcN s b ∧ laN s b < laN s a ∧ wi (nI (dyN s (rcN s a))) p q = true ∧ hasDV (tmr s a) = true ∧ hasDV (tmr s b) = true then sg (dD s a - dD s b) else 0
/-- the class's pair -/
def clI (s : Sg) (a b : Nat) : Int32 := if laN s b ≤ laN s a then -(sg (dD s b - dD s a)) else sg (dD s b - dD s a)
def gdI (s : Sg) (P : Nat → Bool) (a b : Nat) : Int32 := if a < b ∧ P (dyN s (rcN s a)) = true ∧ rcN s a = rcN s b ∧ hasDV (tmr s a) = true ∧ hasDV (tmr s b) = true then clI s a b else 0
theorem gd_pr {s : Sg} (hI : Inv s) (P : Nat → Bool) (p q : Int32) (hP : ∀ d, d ≤ 9 → (wi (nI d) p q = true ↔ P d = true)) : dblS (prI s p q) (nS s) = dblS (gdI s P) (nS s) := by
  refine dbl_cg _ (fun a b hab hb => ?_) (fun a ha => ?_)
  · have e2 : gdI s P b a = 0 := if_neg (by omega)
    rw [e2, Int32.add_zero]
    have hda := (hI.2.1 (rcN s a) (hI.2.2.1 a (by omega)).2.2.1).2.2.2.2.2.2
    have hdb := (hI.2.1 (rcN s b) (hI.2.2.1 b hb).2.2.1).2.2.2.2.2.2
    by_cases hr : rcN s a = rcN s b
    · have hne := (hI.2.2.2.2.1 a b hab hb hr).1
      have hw := hP _ hda
      unfold prI gdI clI
      rw [← hr]
      by_cases hc : P (dyN s (rcN s a)) = true ∧ hasDV (tmr s a) = true ∧ hasDV (tmr s b) = true
      · have hc2 := hw.mpr hc.1
        by_cases hl : laN s b < laN s a
        · rw [if_pos ⟨rfl, hl, hc2, hc.2.1, hc.2.2⟩, if_neg (by omega), if_pos ⟨hab, hc.1, rfl, hc.2.1, hc.2.2⟩, if_pos (by omega), Int32.add_zero, ← sg_neg]
          congr 1; omega
        · rw [if_neg (fun h => hl h.2.1), if_pos ⟨rfl, by omega, hc2, hc.2.2, hc.2.1⟩, if_pos ⟨hab, hc.1, rfl, hc.2.1, hc.2.2⟩, if_neg (by omega), Int32.zero_add]
      · rw [if_neg (fun h => hc ⟨hw.mp h.2.2.1, h.2.2.2.1, h.2.2.2.2⟩), if_neg (fun h => hc ⟨hw.mp h.2.2.1, h.2.2.2.2, h.2.2.2.1⟩), if_neg (fun h => hc ⟨h.2.1, h.2.2.2.1, h.2.2.2.2⟩)]; rfl
    · unfold prI gdI
      rw [if_neg (fun h => hr h.1), if_neg (fun h => hr h.1.symm), if_neg (fun h => hr h.2.2.1)]; rfl
  · unfold prI gdI
    rw [if_neg (by omega), if_neg (by omega)]
/-- a day's lean, the lean of m days from f -/
def lday (s : Sg) (d : Nat) : Int32 := dblS (gdI s (fun e => e == d)) (nS s)
def lvI (s : Sg) (f m : Nat) : Int32 := accI (fun i => lday s (f + i)) m
theorem lv_gd (s : Sg) (f : Nat) : ∀ m, lvI s f m = dblS (gdI s (fun d => decide (f ≤ d) && decide (d < f + m))) (nS s) := by
  intro m
  induction m with
  | zero =>
    refine (dbl_0 _ (fun a b => ?_)).symm
    unfold gdI
    exact if_neg (fun h => by have := h.2.1; simp at this; omega)
  | succ m ih =>
    show lvI s f m + lday s (f + m) = _
    rw [ih, lday, ← dbl_add]
    refine dbl_pt _ (fun a b _ _ => ?_)
    unfold gdI
    by_cases hc : a < b ∧ rcN s a = rcN s b ∧ hasDV (tmr s a) = true ∧ hasDV (tmr s b) = true
    · generalize dyN s (rcN s a) = d
      by_cases h1 : f ≤ d ∧ d < f + m
      · rw [if_pos ⟨hc.1, by simp [h1], hc.2⟩, if_neg (fun h => by have := h.2.1; simp at this; omega), if_pos ⟨hc.1, by simp; omega, hc.2⟩, Int32.add_zero]
      · rw [if_neg (fun h => by have := h.2.1; simp at this; omega)]
        by_cases h2 : d = f + m
        · rw [if_pos ⟨hc.1, by simp [h2], hc.2⟩, if_pos ⟨hc.1, by simp; omega, hc.2⟩, Int32.zero_add]
        · rw [if_neg (fun h => by have := h.2.1; simp at this; omega), if_neg (fun h => by have := h.2.1; simp at this; omega)]; rfl
    · rw [if_neg (fun h => hc ⟨h.1, h.2.2⟩), if_neg (fun h => hc ⟨h.1, h.2.2⟩), if_neg (fun h => hc ⟨h.1, h.2.2⟩)]; rfl
theorem lv_pr {s : Sg} (hI : Inv s) {f t : Nat} (hf : f ≤ t) (ht : t ≤ 9) : dblS (prI s (nI f) (nI t)) (nS s) = lvI s f (t + 1 - f) := by
  rw [lv_gd]
  refine gd_pr hI _ _ _ (fun d hd => ?_)
  rw [wi_t, nI_ltI (by omega) (by omega), nI_ltI (by omega) (by omega)]
  simp only [Bool.and_eq_true, decide_eq_true_eq]
  omega
theorem eq_lday {s t : Sg} (h : Eqv s t) : lday t = lday s := by
  funext d
  unfold lday gdI clI
  rw [eq_nS h, eq_rc h, eq_la h, eq_dy h, eq_tm h, eq_dD h]
theorem eq_lv {s t : Sg} (h : Eqv s t) : lvI t = lvI s := by funext f m; unfold lvI; rw [eq_lday h]
/-- the reference -/
theorem r_leanNow {s : Sg} (hI : Inv s) {f t : Nat} (hf : f ≤ t) (ht : t ≤ 9) : fX11_leanNow (nI f) (nI t) s = some (lvI s f (t + 1 - f), s) := by
  have a5 := hI.1.2.2.2.2.1
  have a6 := hI.1.2.2.2.2.2
  have hin : ∀ (a : Nat) (ha : a < nS s) (b0 : Int32), lpG (fX11_leanNow_L17 (nI f) (nI t) (nI a)) FU (b0, (0 : Int32)) s = some (b0 + accI (prI s (nI f) (nI t) a) (nS s), s) := by
    intro a ha b0
    have h64 : a < 64 := by omega
    obtain ⟨b1, b2, b3, b4, b5, b6, b7, b8, b9⟩ := hI.2.2.1 a ha
    obtain ⟨r1, r2, r3, r4, r5, r6, r7⟩ := hI.2.1 _ b3
    have n16 : rcN s a < 16 := by have := hI.1.2.2.1; omega
    have st : lpG (fX11_leanNow_L17 (nI f) (nI t) (nI a)) FU (b0 + accI (prI s (nI f) (nI t) a) 0, nI 0) s = some (b0 + accI (prI s (nI f) (nI t) a) (nS s), s) := by
      refine lp_rd (body := fX11_leanNow_L17 (nI f) (nI t) (nI a)) (nS s) (fun z => (b0 + accI (prI s (nI f) (nI t) a) z, nI z)) (fun z hz => ?_) ?_ FU (by unfold FU; omega)
      · have c : ¬ gI s 49 3 ≤ nI z := by rw [a5]; exact nI_ge hz (by omega)
        have z64 : z < 64 := by omega
        obtain ⟨d1, d2, d3, d4, d5, d6, d7, d8, d9⟩ := hI.2.2.1 z hz
        have es : accI (prI s (nI f) (nI t) a) (z + 1) = accI (prI s (nI f) (nI t) a) z + prI s (nI f) (nI t) a z := rfl
        rw [es, ← Int32.add_assoc]
        generalize hY : b0 + accI (prI s (nI f) (nI t) a) z = Y
        simp only [fX11_leanNow_L17, if_neg c, aI_n h64 (by decide), aI_n z64 (by decide), ob, bd, b2, d2, b8, d8, aI_n n16 (by decide), r6, e_in, r_hasDiff hI ha, r_hasDiff hI hz, r_twiceDiff hI ha, r_twiceDiff hI hz, nI_1]
        unfold prI
        by_cases g1 : rcN s a = rcN s z
        · rw [if_pos (by rw [g1])]
          by_cases g2 : laN s z < laN s a
          · rw [if_neg (nI_ge g2 (by omega))]
            cases g3 : wi (nI (dyN s (rcN s a))) (nI f) (nI t)
            · simp only [b2f, if_true, ob]
              rw [if_neg (by simp), Int32.add_zero]
            · simp only [b2t, if_false]
              cases g4 : hasDV (tmr s a)
              · simp only [b2f, if_true, ob]
                rw [if_neg (by simp), Int32.add_zero]
              · simp only [b2t, if_false]
                cases g5 : hasDV (tmr s z)
                · simp only [b2f, if_true, ob]
                  rw [if_neg (by simp), Int32.add_zero]
                · simp only [b2t, if_false]
                  rw [r_sign (dD_b hI ha) (dD_b hI hz), ob, ob, if_pos ⟨g1, g2, by simp, by simp, by simp⟩]
                  rfl
          · rw [if_pos (nI_le (by omega) (by omega)), ob, if_neg (fun h => g2 h.2.1), Int32.add_zero]
        · have hr1 := hI.1.2.2.1
          rw [if_neg (fun e => g1 (nI_inj (by omega) (by omega) e)), ob, if_neg (fun h => g1 h.1), Int32.add_zero]
      · have c : gI s 49 3 ≤ nI (nS s) := by rw [a5]; exact nI_le (Nat.le_refl _) (by omega)
        simp only [fX11_leanNow_L17, if_pos c]
    have e0 : b0 + accI (prI s (nI f) (nI t) a) 0 = b0 := Int32.add_zero b0
    rw [e0] at st
    exact st
  have hl : lpG (fX11_leanNow_L5 (nI f) (nI t)) FU ((0 : Int32), (0 : Int32)) s = some (dblS (prI s (nI f) (nI t)) (nS s), s) := by
    refine lp_rd (body := fX11_leanNow_L5 (nI f) (nI t)) (nS s) (fun z => (accI (fun a => accI (prI s (nI f) (nI t) a) (nS s)) z, nI z)) (fun z hz => ?_) ?_ FU (by unfold FU; omega)
    · have c : ¬ gI s 49 3 ≤ nI z := by rw [a5]; exact nI_ge hz (by omega)
      simp only [fX11_leanNow_L5, if_neg c, hin z hz, ob, bd, nI_1]
      rfl
    · have c : gI s 49 3 ≤ nI (nS s) := by rw [a5]; exact nI_le (Nat.le_refl _) (by omega)
      simp only [fX11_leanNow_L5, if_pos c]
      rfl
  simp only [fX11_leanNow, hl, ob]
  rw [lv_pr hI hf ht]
