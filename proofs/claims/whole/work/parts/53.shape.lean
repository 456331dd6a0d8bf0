/-! SHAPE: lanes joined till none falls, one outcome -/
theorem n1 {S1 S2 C1 C2 W X : Int} (h1 : 0 < C1) (h2 : 0 ≤ C2) (hW : 0 ≤ W) (hF : S2 * C1 ≤ S1 * C2) (hX : S1 * W ≤ X * C1) : (S1 + S2) * W ≤ X * (C1 + C2) := by
  have a1 := Int.mul_le_mul_of_nonneg_right hF hW
  have a2 := Int.mul_le_mul_of_nonneg_right hX (show 0 ≤ C1 + C2 by omega)
  refine Int.le_of_mul_le_mul_right (a := C1) ?_ h1
  grind
theorem n2 {S1 S2 C1 C2 W X : Int} (h1 : 0 < C2) (h2 : 0 ≤ C1) (hW : W ≤ C2) (hF : S2 * C1 ≤ S1 * C2) (hX : S2 * W ≤ X * C2) : (S1 + S2) * (C1 + W) ≤ (S1 + X) * (C1 + C2) := by
  have a1 := Int.mul_le_mul_of_nonneg_right hF (show 0 ≤ C2 - W by omega)
  have a2 := Int.mul_le_mul_of_nonneg_right hX (show 0 ≤ C1 + C2 by omega)
  refine Int.le_of_mul_le_mul_right (a := C2) ?_ h1
  grind
/-- mean of a further block added on -/
theorem n3 {S1 C1 S2 C2 V W X Y : Int} (h2 : 0 < C2) (h1 : 0 ≤ C1) (hY : 0 ≤ Y) (hm : S1 * C2 ≤ S2 * C1) (hD : S1 * W ≤ V * C1) (hp : S2 * Y ≤ X * C2) : S1 * (W + Y) ≤ (V + X) * C1 := by
  have a1 := Int.mul_le_mul_of_nonneg_right hm hY
  have a2 := Int.mul_le_mul_of_nonneg_right hp h1
  have a3 := Int.mul_le_mul_of_nonneg_right hD (show 0 ≤ C2 by omega)
  refine Int.le_of_mul_le_mul_right (a := C2) ?_ h2
  grind
/-- order of fractions goes over -/
theorem n4 {S1 C1 S2 C2 S3 C3 : Int} (h2 : 0 < C2) (h1 : 0 ≤ C1) (h3 : 0 ≤ C3) (ha : S1 * C2 ≤ S2 * C1) (hb : S2 * C3 ≤ S3 * C2) : S1 * C3 ≤ S3 * C1 := by
  have a1 := Int.mul_le_mul_of_nonneg_right ha h3
  have a2 := Int.mul_le_mul_of_nonneg_right hb h1
  refine Int.le_of_mul_le_mul_right (a := C2) ?_ h2
  grind
/-- a block's prefix is no less than it: its suffix is no more -/
theorem n5 {S C V W : Int} (h : S * W ≤ V * C) : (S - V) * C ≤ S * (C - W) := by grind
def pC (c : Nat → Nat) : Nat → Int := sZ (fun l => (c l : Int))
theorem pC_s (c : Nat → Nat) (n : Nat) : pC c (n + 1) = pC c n + c n := rfl
theorem pC_mono (c : Nat → Nat) (a : Nat) : ∀ m, pC c a ≤ pC c (a + m) := by
  intro m
  induction m with
  | zero => exact Int.le_refl _
  | succ m ih =>
    show _ ≤ pC c (a + m + 1)
    rw [pC_s]
    omega
theorem pC_le {c : Nat → Nat} {a b : Nat} (h : a ≤ b) : pC c a ≤ pC c b := by
  have := pC_mono c a (b - a)
  rwa [show a + (b - a) = b by omega] at this
theorem pC_lt {c : Nat → Nat} {a b l : Nat} (h1 : a ≤ l) (h2 : l < b) (h : 0 < c l) : pC c a < pC c b := by
  have a1 := pC_le (c := c) h1
  have a2 := pC_le (c := c) (show l + 1 ≤ b by omega)
  rw [pC_s] at a2
  omega
/-- between them nobody -/
theorem gap_C {c : Nat → Nat} {a : Nat} : ∀ m, (∀ k, a ≤ k → k < a + m → c k = 0) → pC c (a + m) = pC c a := by
  intro m
  induction m with
  | zero => intro _; rfl
  | succ m ih =>
    intro h
    show pC c (a + m + 1) = _
    rw [pC_s, ih (fun k h1 h2 => h k h1 (by omega)), h (a + m) (by omega) (by omega)]
    omega
theorem gap_S {c : Nat → Nat} {x : Nat → Int} (hx : ∀ l, c l = 0 → x l = 0) {a : Nat} : ∀ m, (∀ k, a ≤ k → k < a + m → c k = 0) → sZ x (a + m) = sZ x a := by
  intro m
  induction m with
  | zero => intro _; rfl
  | succ m ih =>
    intro h
    show sZ x (a + m + 1) = _
    rw [sZ, ih (fun k h1 h2 => h k h1 (by omega)), hx _ (h (a + m) (by omega) (by omega))]
    omega
def bC (c : Nat → Nat) (A B : Nat → Nat) (l : Nat) : Int := pC c (B l) - pC c (A l)
def bS (x : Nat → Int) (A B : Nat → Nat) (l : Nat) : Int := sZ x (B l) - sZ x (A l)
/-- lanes in blocks; no block's beginning is less than the block -/
def ShOk (c : Nat → Nat) (x : Nat → Int) (A B : Nat → Nat) : Prop := ∀ l, l < 8 → 0 < c l → A l ≤ l ∧ l < B l ∧ B l ≤ 8 ∧ 0 < c (A l) ∧ 0 < c (B l - 1) ∧ (∀ m, A l ≤ m → m < B l → 0 < c m → A m = A l ∧ B m = B l) ∧ (∀ e, A l ≤ e → e ≤ B l → bS x A B l * (pC c e - pC c (A l)) ≤ (sZ x e - sZ x (A l)) * bC c A B l)
theorem bC_pos {c : Nat → Nat} {x : Nat → Int} {A B : Nat → Nat} (h : ShOk c x A B) {l : Nat} (hl : l < 8) (hc : 0 < c l) : 0 < bC c A B l := by
  obtain ⟨h1, h2, -⟩ := h l hl hc
  have := pC_lt h1 h2 hc
  unfold bC
  omega
theorem sh_id (c : Nat → Nat) (x : Nat → Int) : ShOk c x (fun l => l) (fun l => l + 1) := by
  intro l hl hc
  refine ⟨Nat.le_refl _, Nat.lt_succ_self _, hl, hc, hc, fun m h1 h2 _ => ?_, fun e h1 h2 => ?_⟩
  · have : m = l := by simp only at h1 h2; omega
    subst this; exact ⟨rfl, rfl⟩
  · simp only at h1 h2
    unfold bS bC
    rcases (show e = l ∨ e = l + 1 by omega) with e1 | e1
    · subst e1; simp
    · subst e1; simp only; exact Int.le_refl _
/-- beside one another -/
def Adj (c : Nat → Nat) (a b : Nat) : Prop := a < b ∧ b < 8 ∧ 0 < c a ∧ 0 < c b ∧ ∀ m, a < m → m < b → c m = 0
theorem adj_AB {c : Nat → Nat} {x : Nat → Int} {A B : Nat → Nat} (h : ShOk c x A B) {a b : Nat} (hj : Adj c a b) (hd : A a ≠ A b) : B a = a + 1 ∧ A b = b := by
  obtain ⟨j1, j2, j3, j4, j5⟩ := hj
  obtain ⟨p1, p2, p3, p4, p5, p6, -⟩ := h a (by omega) j3
  obtain ⟨q1, q2, q3, q4, q5, q6, -⟩ := h b j2 j4
  have hBa : B a ≤ b := by
    rcases Nat.lt_or_ge b (B a) with g | g
    · exact absurd (p6 b (by omega) g j4).1.symm hd
    · exact g
  have hAb : a < A b := by
    rcases Nat.lt_or_ge a (A b) with g | g
    · exact g
    · exact absurd (q6 a g (by omega) j3).1 hd
  constructor
  · rcases (show B a - 1 = a ∨ a < B a - 1 by omega) with g | g
    · omega
    · have := j5 (B a - 1) g (by omega)
      omega
  · rcases (show A b = b ∨ A b < b by omega) with g | g
    · exact g
    · have := j5 (A b) hAb g
      omega
def jA (A B : Nat → Nat) (a b l : Nat) : Nat := if A a ≤ l ∧ l < B b then A a else A l
def jB (A B : Nat → Nat) (a b l : Nat) : Nat := if A a ≤ l ∧ l < B b then B b else B l
theorem join_C {c : Nat → Nat} {x : Nat → Int} {A B : Nat → Nat} (hx : ∀ l, c l = 0 → x l = 0) (h : ShOk c x A B) {a b : Nat} (hj : Adj c a b) (hd : A a ≠ A b) : pC c (B b) - pC c (A a) = bC c A B a + bC c A B b ∧ sZ x (B b) - sZ x (A a) = bS x A B a + bS x A B b ∧ pC c (A b) = pC c (B a) ∧ sZ x (A b) = sZ x (B a) := by
  obtain ⟨e1, e2⟩ := adj_AB h hj hd
  obtain ⟨j1, j2, j3, j4, j5⟩ := hj
  have g1 := gap_C (c := c) (a := a + 1) (b - (a + 1)) (fun k h1 h2 => j5 k (by omega) (by omega))
  have g2 := gap_S hx (a := a + 1) (b - (a + 1)) (fun k h1 h2 => j5 k (by omega) (by omega))
  rw [show a + 1 + (b - (a + 1)) = b by omega] at g1 g2
  have r1 : pC c (A b) = pC c (B a) := by rw [e1, e2, g1]
  have r2 : sZ x (A b) = sZ x (B a) := by rw [e1, e2, g2]
  refine ⟨?_, ?_, r1, r2⟩
  · unfold bC; omega
  · unfold bS; omega
theorem sh_join {c : Nat → Nat} {x : Nat → Int} {A B : Nat → Nat} (hx : ∀ l, c l = 0 → x l = 0) (h : ShOk c x A B) {a b : Nat} (hj : Adj c a b) (hd : A a ≠ A b) (hf : bS x A B b * bC c A B a ≤ bS x A B a * bC c A B b) : ShOk c x (jA A B a b) (jB A B a b) := by
  obtain ⟨e1, e2⟩ := adj_AB h hj hd
  obtain ⟨k1, k2, k3, k4⟩ := join_C hx h hj hd
  have ca := bC_pos h (show a < 8 by have := hj.1; have := hj.2.1; omega) hj.2.2.1
  have cb := bC_pos h hj.2.1 hj.2.2.2.1
  obtain ⟨j1, j2, j3, j4, j5⟩ := hj
  obtain ⟨p1, p2, p3, p4, p5, p6, p7⟩ := h a (by omega) j3
  obtain ⟨q1, q2, q3, q4, q5, q6, q7⟩ := h b j2 j4
  intro l hl hc
  by_cases hin : A a ≤ l ∧ l < B b
  · have hA : jA A B a b l = A a := if_pos hin
    have hB : jB A B a b l = B b := if_pos hin
    unfold bS bC
    rw [hA, hB]
    refine ⟨hin.1, hin.2, q3, p4, q5, fun m h1 h2 _ => ⟨if_pos ⟨h1, h2⟩, if_pos ⟨h1, h2⟩⟩, fun e h1 h2 => ?_⟩
    rw [k1, k2]
    rcases Nat.lt_or_ge (B a) e with g | g
    · rcases Nat.lt_or_ge e (A b) with g2 | g2
      · -- in the gap
        have g3 := gap_C (c := c) (a := a + 1) (e - (a + 1)) (fun k h1 h2 => j5 k (by omega) (by omega))
        have g4 := gap_S hx (a := a + 1) (e - (a + 1)) (fun k h1 h2 => j5 k (by omega) (by omega))
        rw [show a + 1 + (e - (a + 1)) = e by omega, ← e1] at g3 g4
        rw [g3, g4]
        have := p7 (B a) (by omega) (Nat.le_refl _)
        exact n1 ca (by omega) (by have := pC_le (c := c) (show A a ≤ B a by omega); omega) hf this
      · have w := q7 e g2 h2
        have := n2 (W := pC c e - pC c (A b)) (X := sZ x e - sZ x (A b)) cb (by omega) (by have := pC_le (c := c) h2; unfold bC; omega) hf w
        rw [show pC c e - pC c (A a) = bC c A B a + (pC c e - pC c (A b)) by unfold bC; omega, show sZ x e - sZ x (A a) = bS x A B a + (sZ x e - sZ x (A b)) by unfold bS; omega]
        exact this
    · exact n1 ca (by omega) (by have := pC_le (c := c) h1; omega) hf (p7 e h1 g)
  · have hA : jA A B a b l = A l := if_neg hin
    have hB : jB A B a b l = B l := if_neg hin
    obtain ⟨r1, r2, r3, r4, r5, r6, r7⟩ := h l hl hc
    unfold bS bC
    rw [hA, hB]
    refine ⟨r1, r2, r3, r4, r5, fun m h1 h2 h3 => ?_, r7⟩
    have hm : ¬ (A a ≤ m ∧ m < B b) := by
      intro hmi
      obtain ⟨s1, s2⟩ := r6 m h1 h2 h3
      rcases Nat.lt_or_ge m (B a) with g | g
      · obtain ⟨t1, t2⟩ := p6 m hmi.1 g h3
        apply hin
        omega
      · rcases Nat.lt_or_ge m (A b) with g2 | g2
        · have := j5 m (by omega) (by omega)
          omega
        · obtain ⟨t1, t2⟩ := q6 m g2 hmi.2 h3
          apply hin
          omega
    obtain ⟨s1, s2⟩ := r6 m h1 h2 h3
    exact ⟨(if_neg hm).trans s1, (if_neg hm).trans s2⟩
theorem n6 {S1 C1 S2 C2 V W X Y : Int} (h2 : 0 < C2) (h1 : 0 ≤ C1) (hY : 0 ≤ Y) (hm : S2 * C1 ≤ S1 * C2) (hD : V * C1 ≤ S1 * W) (hp : X * C2 ≤ S2 * Y) : (X + V) * C1 ≤ S1 * (Y + W) := by
  have a1 := Int.mul_le_mul_of_nonneg_right hm hY
  have a2 := Int.mul_le_mul_of_nonneg_right hp h1
  have a3 := Int.mul_le_mul_of_nonneg_right hD (show 0 ≤ C2 by omega)
  refine Int.le_of_mul_le_mul_right (a := C2) ?_ h2
  grind
theorem n7 {S1 C1 S2 C2 V W : Int} (hW : 0 < W) (h1 : 0 ≤ C1) (h2 : 0 ≤ C2) (ha : S1 * W ≤ V * C1) (hb : V * C2 ≤ S2 * W) : S1 * C2 ≤ S2 * C1 := by
  have a1 := Int.mul_le_mul_of_nonneg_right ha h2
  have a2 := Int.mul_le_mul_of_nonneg_right hb h1
  refine Int.le_of_mul_le_mul_right (a := W) ?_ hW
  grind
/-- nothing falls -/
def NoFall (c : Nat → Nat) (x : Nat → Int) (A B : Nat → Nat) : Prop := ∀ a b, Adj c a b → bS x A B a * bC c A B b ≤ bS x A B b * bC c A B a
/-- the lane ahead -/
theorem ahead_of {c : Nat → Nat} {l : Nat} (hc : 0 < c l) : ∀ m, l < m → ∃ k, l ≤ k ∧ k < m ∧ 0 < c k ∧ ∀ j, k < j → j < m → c j = 0 := by
  intro m
  induction m with
  | zero => intro h; omega
  | succ m ih =>
    intro h
    by_cases q : 0 < c m
    · exact ⟨m, by omega, by omega, q, fun j h1 h2 => by omega⟩
    · have : l < m := by
        rcases (show l < m ∨ l = m by omega) with g | g
        · exact g
        · subst g; omega
      obtain ⟨k, k1, k2, k3, k4⟩ := ih this
      refine ⟨k, k1, by omega, k3, fun j h1 h2 => ?_⟩
      rcases (show j < m ∨ j = m by omega) with g | g
      · exact k4 j h1 g
      · subst g; omega
theorem nf_all {c : Nat → Nat} {x : Nat → Int} {A B : Nat → Nat} (h : ShOk c x A B) (hn : NoFall c x A B) {l : Nat} (hc : 0 < c l) : ∀ m, l ≤ m → m < 8 → 0 < c m → bS x A B l * bC c A B m ≤ bS x A B m * bC c A B l := by
  intro m
  induction m using Nat.strongRecOn with
  | ind m ih =>
    intro h1 h2 h3
    rcases (show l = m ∨ l < m by omega) with g | g
    · subst g; exact Int.le_refl _
    · obtain ⟨k, k1, k2, k3, k4⟩ := ahead_of hc m g
      have a1 := ih k k2 k1 (by omega) k3
      have a2 := hn k m ⟨k2, h2, k3, h3, k4⟩
      have b1 := bC_pos h (show k < 8 by omega) k3
      have b2 := bC_pos h h2 h3
      have b3 := bC_pos h (show l < 8 by omega) hc
      exact n4 b1 (by omega) (by omega) a1 a2
/-- blocks lie apart -/
theorem sh_apart {c : Nat → Nat} {x : Nat → Int} {A B : Nat → Nat} (h : ShOk c x A B) {l k : Nat} (hk : k < 8) (cl : 0 < c l) (ck : 0 < c k) (hB : B l ≤ k) (hl : l < 8) : B l ≤ A k := by
  obtain ⟨p1, p2, p3, p4, p5, p6, -⟩ := h l hl cl
  obtain ⟨q1, q2, q3, q4, q5, q6, -⟩ := h k hk ck
  rcases Nat.lt_or_ge (A k) (B l) with g | g
  · exfalso
    rcases Nat.lt_or_ge (A k) (A l) with g2 | g2
    · obtain ⟨s1, s2⟩ := q6 l (by omega) (by omega) cl
      omega
    · obtain ⟨s1, s2⟩ := p6 (A k) g2 g q4
      obtain ⟨t1, t2⟩ := q6 (A k) (Nat.le_refl _) (by omega) q4
      omega
  · exact g
theorem sh_up {c : Nat → Nat} {x : Nat → Int} {A B : Nat → Nat} (hx : ∀ l, c l = 0 → x l = 0) (h : ShOk c x A B) (hn : NoFall c x A B) {l : Nat} (hl : l < 8) (hc : 0 < c l) : ∀ e, A l ≤ e → e ≤ 8 → bS x A B l * (pC c e - pC c (A l)) ≤ (sZ x e - sZ x (A l)) * bC c A B l := by
  intro e
  induction e using Nat.strongRecOn with
  | ind e ih =>
    intro h1 h2
    obtain ⟨p1, p2, p3, p4, p5, p6, p7⟩ := h l hl hc
    rcases Nat.lt_or_ge (B l) e with g | g
    · obtain ⟨k, rfl⟩ : ∃ k, e = k + 1 := ⟨e - 1, by omega⟩
      by_cases q : 0 < c k
      · obtain ⟨q1, q2, q3, q4, q5, q6, q7⟩ := h k (by omega) q
        have hap := sh_apart h (show k < 8 by omega) hc q (by omega) hl
        have a1 := ih (A k) (by omega) (by omega) (by omega)
        have a2 := q7 (k + 1) (by omega) (by omega)
        have a3 := nf_all h hn hc k (by omega) (by omega) q
        have b1 := bC_pos h (show k < 8 by omega) q
        have b2 := bC_pos h hl hc
        have := n3 b1 (by omega) (by have := pC_le (c := c) (show A k ≤ k + 1 by omega); omega) a3 a1 a2
        rw [show pC c (k + 1) - pC c (A l) = (pC c (A k) - pC c (A l)) + (pC c (k + 1) - pC c (A k)) by omega, show sZ x (k + 1) - sZ x (A l) = (sZ x (A k) - sZ x (A l)) + (sZ x (k + 1) - sZ x (A k)) by omega]
        exact this
      · have q0 : c k = 0 := by omega
        have a1 := ih k (by omega) (by omega) (by omega)
        rw [pC_s, sZ, hx k q0, q0, Int.add_zero]
        simpa using a1
    · exact p7 e h1 g
theorem sh_dn {c : Nat → Nat} {x : Nat → Int} {A B : Nat → Nat} (hx : ∀ l, c l = 0 → x l = 0) (h : ShOk c x A B) (hn : NoFall c x A B) {l : Nat} (hl : l < 8) (hc : 0 < c l) : ∀ n f, f + n = B l → (sZ x (B l) - sZ x f) * bC c A B l ≤ bS x A B l * (pC c (B l) - pC c f) := by
  intro n
  induction n using Nat.strongRecOn with
  | ind n ih =>
    intro f hf
    obtain ⟨p1, p2, p3, p4, p5, p6, p7⟩ := h l hl hc
    have suff : ∀ {k : Nat} (hk : k < 8) (ck : 0 < c k) (f : Nat), A k ≤ f → f ≤ B k → (sZ x (B k) - sZ x f) * bC c A B k ≤ bS x A B k * (pC c (B k) - pC c f) := by
      intro k hk ck f h1 h2
      have := n5 ((h k hk ck).2.2.2.2.2.2 f h1 h2)
      rw [show sZ x (B k) - sZ x f = bS x A B k - (sZ x f - sZ x (A k)) by unfold bS; omega, show pC c (B k) - pC c f = bC c A B k - (pC c f - pC c (A k)) by unfold bC; omega]
      exact this
    rcases Nat.lt_or_ge f (A l) with g | g
    · by_cases q : 0 < c f
      · obtain ⟨q1, q2, q3, q4, q5, q6, q7⟩ := h f (by omega) q
        have hap : B f ≤ A l := by
          rcases Nat.lt_or_ge l (B f) with g3 | g3
          · have := q6 l (by omega) g3 hc
            omega
          · exact sh_apart h hl q hc g3 (by omega)
        have a1 := ih (B l - B f) (by omega) (B f) (by omega)
        have a2 := suff (show f < 8 by omega) q f (by omega) (by omega)
        have a3 := nf_all h hn q l (by omega) hl hc
        have b1 := bC_pos h (show f < 8 by omega) q
        have b2 := bC_pos h hl hc
        have := n6 b1 (by omega) (by have := pC_le (c := c) (show f ≤ B f by omega); omega) a3 a1 a2
        rw [show pC c (B l) - pC c f = (pC c (B f) - pC c f) + (pC c (B l) - pC c (B f)) by omega, show sZ x (B l) - sZ x f = (sZ x (B f) - sZ x f) + (sZ x (B l) - sZ x (B f)) by omega]
        exact this
      · have q0 : c f = 0 := by omega
        have a1 := ih (n - 1) (by omega) (f + 1) (by omega)
        rw [pC_s, sZ, hx f q0, q0, Int.add_zero] at a1
        simpa using a1
    · exact suff hl hc f g (by omega)
theorem sh_le {c : Nat → Nat} {x : Nat → Int} {A B A2 B2 : Nat → Nat} (hx : ∀ l, c l = 0 → x l = 0) (h : ShOk c x A B) (hn : NoFall c x A B) (h2 : ShOk c x A2 B2) (hn2 : NoFall c x A2 B2) {l : Nat} (hl : l < 8) (hc : 0 < c l) : bS x A B l * bC c A2 B2 l ≤ bS x A2 B2 l * bC c A B l := by
  obtain ⟨p1, p2, p3, -⟩ := h l hl hc
  obtain ⟨q1, q2, q3, -⟩ := h2 l hl hc
  have a1 := sh_up hx h hn hl hc (B2 l) (by omega) q3
  have a2 := sh_dn hx h2 hn2 hl hc (B2 l - A l) (A l) (by omega)
  have b1 := bC_pos h hl hc
  have b2 := bC_pos h2 hl hc
  have w := pC_lt (a := A l) (b := B2 l) p1 q2 hc
  exact n7 (by omega) (by omega) (by omega) a1 a2
/-- one shape -/
theorem sh_uniq {c : Nat → Nat} {x : Nat → Int} {A B A2 B2 : Nat → Nat} (hx : ∀ l, c l = 0 → x l = 0) (h : ShOk c x A B) (hn : NoFall c x A B) (h2 : ShOk c x A2 B2) (hn2 : NoFall c x A2 B2) {l : Nat} (hl : l < 8) (hc : 0 < c l) : bS x A B l * bC c A2 B2 l = bS x A2 B2 l * bC c A B l := Int.le_antisymm (sh_le hx h hn h2 hn2 hl hc) (sh_le hx h2 hn2 h hn hl hc)
