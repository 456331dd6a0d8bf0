/-! WORLD: the reference's part and loop; both -/
def tlP (L x less val : Int32) (t : Sg) : Option Sg :=
  ((if L = (112 : Int32) then
  ((if less = 0 then
  some val
  else
  some (-val)) : Option (Int32)).bind fun w57 =>
  (wI t 68 8 x w57).bind fun s59 =>
  some s59
  else
  some t) : Option (Sg)).bind fun w47 =>
  ((if L = (102 : Int32) then
  some val
  else
  some (gI w47 49 23)) : Option (Int32)).bind fun w49 =>
  bnd (sI w47 49 23 w49) fun s51 =>
  if L = (114 : Int32) then
  bnd (sI s51 49 24 val) fun s54 =>
  some s54
  else
  bnd (sI s51 49 24 (gI s51 49 24)) fun s52 =>
  some s52
def rsP (L x : Int32) (s36 : Sg) : Option Sg :=
  (fX11_expects (61 : Int32) s36).bind fun w37 =>
  ((if L = (112 : Int32) then
  (fX11_byteNow w37).bind fun w64 =>
  if w64.1 = (45 : Int32) then
  some ((1 : Int32), w64.2)
  else
  some ((0 : Int32), w64.2)
  else
  some ((0 : Int32), w37)) : Option (Int32 × Sg)).bind fun w38 =>
  ((if w38.1 = 0 then
  some (0 : Int32)
  else
  some (1 : Int32)) : Option (Int32)).bind fun w40 =>
  bnd (sI w38.2 49 25 ((gI w38.2 49 25) + w40)) fun s42 =>
  ((if L = (114 : Int32) then
  some (1 : Int32)
  else
  some (2 : Int32)) : Option (Int32)).bind fun w43 =>
  (fX11_number w43 s42).bind fun w45 =>
  if (gI w45.2 49 26) = (-1 : Int32) then
  tlP L x w38.1 w45.1 w45.2
  else
  some w45.2
theorem part_p {τ : Sg} (h : fX11_byteNow τ = some (112, τ)) : fX11_part τ = (fX11_byteNow (sI τ 49 25 (gI τ 49 25 + 1))).bind fun w33 => (fX11_isLane (w33.1 - 48) w33.2).bind fun w35 => if w35.1 = 0 then some (sI w35.2 49 26 (gI w35.2 49 25)) else rsP 112 (w33.1 - 48) (sI w35.2 49 25 (gI w35.2 49 25 + 1)) := by
  have c1 : ¬ (112 : Int32) = 102 := by decide
  have c2 : ¬ (112 : Int32) = 114 := by decide
  simp only [fX11_part, h, ob, bd, if_true, if_neg c1, if_neg c2, rsP, tlP]
theorem part_f {τ : Sg} (h : fX11_byteNow τ = some (102, τ)) : fX11_part τ = rsP 102 0 (sI τ 49 25 (gI τ 49 25 + 1)) := by
  have c1 : ¬ (102 : Int32) = 112 := by decide
  have c2 : ¬ (102 : Int32) = 114 := by decide
  simp only [fX11_part, h, ob, bd, if_true, if_neg c1, if_neg c2, rsP, tlP]
theorem part_r {τ : Sg} (h : fX11_byteNow τ = some (114, τ)) : fX11_part τ = rsP 114 0 (sI τ 49 25 (gI τ 49 25 + 1)) := by
  have c1 : ¬ (114 : Int32) = 112 := by decide
  have c2 : ¬ (114 : Int32) = 102 := by decide
  simp only [fX11_part, h, ob, bd, if_true, if_neg c1, if_neg c2, rsP, tlP]
theorem part_n {τ : Sg} {b : Int32} (h : fX11_byteNow τ = some (b, τ)) (h1 : ¬ b = 112) (h2 : ¬ b = 102) (h3 : ¬ b = 114) : fX11_part τ = some (sI τ 49 26 (gI τ 49 25)) := by
  simp only [fX11_part, h, ob, bd, if_neg h1, if_neg h2, if_neg h3]
def LSw (L x : Int32) (slot : Nat) : Prop := (L = 112 ∧ slot < 8 ∧ x = nI slot) ∨ (L = 102 ∧ slot = 8) ∨ (L = 114 ∧ slot = 9)
section
variable {n : Nat} {bt : Nat → Int32} {σ τ τ' : Sg} {v : Nat → Int32} {a slot : Nat} {L x : Int32}
theorem r_tl (hL : LSw L x slot) (h : KR σ v a τ) (less val : Int32) (hl : slot < 8 ∨ less = 0) : ∃ τ', tlP L x less val τ = some τ' ∧ KR σ (upv v slot (if less = 0 then val else -val)) a τ' := by
  obtain ⟨h1, ⟨k1, k2, k3⟩, h3, h4⟩ := h
  rcases hL with ⟨rfl, hs, rfl⟩ | ⟨rfl, rfl⟩ | ⟨rfl, rfl⟩
  · generalize hy : (if less = 0 then val else -val) = y
    have hy' : (if less = 0 then some val else some (-val)) = some y := by rw [← hy]; split <;> rfl
    have c1 : ¬ (112 : Int32) = 102 := by decide
    have c2 : ¬ (112 : Int32) = 114 := by decide
    refine ⟨sI (sI (sI τ 68 slot y) 49 23 (gI (sI τ 68 slot y) 49 23)) 49 24 (gI (sI (sI τ 68 slot y) 49 23 (gI (sI τ 68 slot y) 49 23)) 49 24), by simp only [tlP, if_true, hy', ob, wI_n hs (by decide), bd, if_neg c1, if_neg c2], kb_49 (by omega) (kb_49 (by omega) (kb_68 h1)), ⟨fun k hk => ?_, ?_, ?_⟩, ?_, ?_⟩
    · rw [gI_row _ _ (by decide), gI_row _ _ (by decide)]
      unfold upv
      by_cases e : k = slot
      · subst e; rw [gI_same, if_pos rfl]
      · rw [gI_ne _ _ (Or.inr e), if_neg e]; exact k1 k hk
    · rw [gI_ne _ _ (Or.inr (by decide)), gI_same, gI_row _ _ (by decide), k2]
      unfold upv; rw [if_neg (by omega)]
    · rw [gI_same, gI_ne _ _ (Or.inr (by decide)), gI_row _ _ (by decide), k3]
      unfold upv; rw [if_neg (by omega)]
    · rw [gI_ne _ _ (Or.inr (by decide)), gI_ne _ _ (Or.inr (by decide)), gI_row _ _ (by decide), h3]
    · rw [gI_ne _ _ (Or.inr (by decide)), gI_ne _ _ (Or.inr (by decide)), gI_row _ _ (by decide), h4]
  · have hl0 : less = 0 := by rcases hl with g | g; omega; exact g
    have c1 : ¬ (102 : Int32) = 112 := by decide
    have c2 : ¬ (102 : Int32) = 114 := by decide
    rw [if_pos hl0]
    refine ⟨sI (sI τ 49 23 val) 49 24 (gI (sI τ 49 23 val) 49 24), by simp only [tlP, if_true, ob, bd, if_neg c1, if_neg c2], kb_49 (by omega) (kb_49 (by omega) h1), ⟨fun k hk => ?_, ?_, ?_⟩, ?_, ?_⟩
    · rw [gI_row _ _ (by decide), gI_row _ _ (by decide), k1 k hk]
      unfold upv; rw [if_neg (by omega)]
    · rw [gI_ne _ _ (Or.inr (by decide)), gI_same]
      unfold upv; rw [if_pos rfl]
    · rw [gI_same, gI_ne _ _ (Or.inr (by decide)), k3]
      unfold upv; rw [if_neg (by omega)]
    · rw [gI_ne _ _ (Or.inr (by decide)), gI_ne _ _ (Or.inr (by decide)), h3]
    · rw [gI_ne _ _ (Or.inr (by decide)), gI_ne _ _ (Or.inr (by decide)), h4]
  · have hl0 : less = 0 := by rcases hl with g | g; omega; exact g
    have c1 : ¬ (114 : Int32) = 112 := by decide
    have c2 : ¬ (114 : Int32) = 102 := by decide
    rw [if_pos hl0]
    refine ⟨sI (sI τ 49 23 (gI τ 49 23)) 49 24 val, by simp only [tlP, if_true, ob, bd, if_neg c1, if_neg c2], kb_49 (by omega) (kb_49 (by omega) h1), ⟨fun k hk => ?_, ?_, ?_⟩, ?_, ?_⟩
    · rw [gI_row _ _ (by decide), gI_row _ _ (by decide), k1 k hk]
      unfold upv; rw [if_neg (by omega)]
    · rw [gI_ne _ _ (Or.inr (by decide)), gI_same, k2]
      unfold upv; rw [if_neg (by omega)]
    · rw [gI_same]
      unfold upv; rw [if_pos rfl]
    · rw [gI_ne _ _ (Or.inr (by decide)), gI_ne _ _ (Or.inr (by decide)), h3]
    · rw [gI_ne _ _ (Or.inr (by decide)), gI_ne _ _ (Or.inr (by decide)), h4]
/-- how a part came out -/
def RO (σ : Sg) (y : Nat ⊕ (Nat × (Nat → Int32))) (τ' : Sg) : Prop := (∀ f, y = .inl f → KB σ τ' ∧ gI τ' 49 26 = nI f) ∧ ∀ i v', y = .inr (i, v') → KR σ v' i τ'
/-- figures and the store -/
theorem r_dg {less sgn : Int32} {m : Nat} (hm : m = if slot = 9 then 1 else 2) (hL : LSw L x slot) (hW : WR n bt σ) (h : KR σ v a τ) (ha : a ≤ 90) (hl : slot < 8 ∨ less = 0) (hs : (less = 0 ∧ sgn = 1) ∨ (less = 1 ∧ sgn = -1)) : ∃ τ', ((fX11_number (nI m) τ).bind fun w45 => if (gI w45.2 49 26) = (-1 : Int32) then tlP L x less w45.1 w45.2 else some w45.2) = some τ' ∧ RO σ (dgt n bt a slot sgn v) τ' := by
  have hm12 : m = 1 ∨ m = 2 := by rw [hm]; split; exact Or.inl rfl; exact Or.inr rfl
  have hm1 : m = 1 ↔ slot = 9 := by rw [hm]; split <;> omega
  have hv : ∀ y : Int32, (if less = 0 then y else -y) = sgn * y := fun y => by
    rcases hs with ⟨rfl, rfl⟩ | ⟨rfl, rfl⟩
    · rw [if_pos rfl, Int32.one_mul]
    · rw [if_neg (by decide)]; grind
  rcases r_number hm12 hW h ha with ⟨q, τ1, k1, k2, k3⟩ | ⟨q, q2, τ1, k1, k2⟩ | ⟨q, q2, τ1, k1, k2⟩
  · by_cases han : a ≤ 100
    · have c : ¬ nI a = -1 := m1_ne (by omega)
      refine ⟨τ1, by simp only [k1, ob, k3, if_neg c], fun f e => ?_, fun i v' e => ?_⟩
      · unfold dgt at e
        rw [q, if_neg (by decide)] at e
        obtain rfl := Sum.inl.inj e
        exact ⟨k2, k3⟩
      · unfold dgt at e
        rw [q, if_neg (by decide)] at e
        cases e
    · omega
  · obtain ⟨τ2, m1, m2⟩ := r_tl hL k2 less (bbI n bt a - 48) hl
    rw [hv] at m2
    have ed : dgt n bt a slot sgn v = .inr (a + 1, upv v slot (sgn * (bbI n bt a - 48))) := by
      unfold dgt
      rw [q, if_pos rfl, if_pos (by rcases q2 with g | g; exact Or.inl (hm1.mp g); exact Or.inr g)]
    refine ⟨τ2, by simp only [k1, ob, k2.2.2.2, if_true, m1], fun f e => ?_, fun i v' e => ?_⟩
    · rw [ed] at e; cases e
    · rw [ed] at e
      obtain ⟨rfl, rfl⟩ := Prod.mk.inj (Sum.inr.inj e)
      exact m2
  · obtain ⟨τ2, m1, m2⟩ := r_tl hL k2 less (10 * (bbI n bt a - 48) + (bbI n bt (a + 1) - 48)) hl
    rw [hv, show sgn * (10 * (bbI n bt a - 48) + (bbI n bt (a + 1) - 48)) = 10 * (sgn * (bbI n bt a - 48)) + sgn * (bbI n bt (a + 1) - 48) by grind] at m2
    have ed : dgt n bt a slot sgn v = .inr (a + 2, upv v slot (10 * (sgn * (bbI n bt a - 48)) + sgn * (bbI n bt (a + 1) - 48))) := by
      unfold dgt
      rw [q, if_pos rfl, if_neg (fun g => q2 (by rcases g with g | g; exact Or.inl (hm1.mpr g); exact Or.inr g))]
    refine ⟨τ2, by simp only [k1, ob, k2.2.2.2, if_true, m1], fun f e => ?_, fun i v' e => ?_⟩
    · rw [ed] at e; cases e
    · rw [ed] at e
      obtain ⟨rfl, rfl⟩ := Prod.mk.inj (Sum.inr.inj e)
      exact m2
theorem r_rs (hL : LSw L x slot) (hW : WR n bt σ) (h : KR σ v a τ) (ha : a ≤ 70) : ∃ τ', rsP L x τ = some τ' ∧ RO σ (numP n bt a slot v) τ' := by
  have hm : ∃ m : Nat, m = (if slot = 9 then 1 else 2) ∧ (if L = (114 : Int32) then some (1 : Int32) else some (2 : Int32)) = some (nI m) := by
    refine ⟨_, rfl, ?_⟩
    rcases hL with ⟨rfl, hs, -⟩ | ⟨rfl, rfl⟩ | ⟨rfl, rfl⟩
    · rw [if_neg (by decide), if_neg (by omega)]; rfl
    · rfl
    · rfl
  obtain ⟨m, hm1, hm2⟩ := hm
  have hl112 : L = 112 ↔ slot < 8 := by
    rcases hL with ⟨rfl, hs, -⟩ | ⟨rfl, rfl⟩ | ⟨rfl, rfl⟩
    · exact ⟨fun _ => hs, fun _ => rfl⟩
    · exact ⟨fun e => absurd e (by decide), fun e => by omega⟩
    · exact ⟨fun e => absurd e (by decide), fun e => by omega⟩
  have c10 : ¬ (1 : Int32) = 0 := by decide
  by_cases q : bbI n bt a = 61
  · obtain ⟨τ1, k1, k2⟩ := r_expects_ok hW h (by omega) q
    by_cases q2 : bbI n bt (a + 1) = 45 ∧ slot < 8
    · have e1 : gI τ1 49 25 + 1 = nI (a + 1 + 1) := by rw [k2.2.2.1, nI_1]
      have hK : KR σ v (a + 1 + 1) (sI τ1 49 25 (nI (a + 1 + 1))) := ⟨kb_49 (by omega) k2.1, kv_25 (by omega) k2.2.1, gI_same _ _ _ _, by rw [gI_ne _ _ (Or.inr (by decide)), k2.2.2.2]⟩
      obtain ⟨τ2, m1, m2⟩ := r_dg (less := 1) (sgn := -1) hm1 hL hW hK (by omega) (Or.inl q2.2) (Or.inr ⟨rfl, rfl⟩)
      refine ⟨τ2, ?_, ?_⟩
      · unfold rsP
        simp only [k1, ob, if_pos (hl112.mpr q2.2), r_byte hW k2.1 k2.2.2.1 (by omega), q2.1, if_true, if_neg c10, bd, e1, hm2]
        exact m1
      · unfold numP
        rw [if_pos q, if_pos q2]
        exact m2
    · have e1 : gI τ1 49 25 + 0 = nI (a + 1) := by rw [k2.2.2.1, Int32.add_zero]
      have hK : KR σ v (a + 1) (sI τ1 49 25 (nI (a + 1))) := ⟨kb_49 (by omega) k2.1, kv_25 (by omega) k2.2.1, gI_same _ _ _ _, by rw [gI_ne _ _ (Or.inr (by decide)), k2.2.2.2]⟩
      obtain ⟨τ2, m1, m2⟩ := r_dg (less := 0) (sgn := 1) hm1 hL hW hK (by omega) (Or.inr rfl) (Or.inl ⟨rfl, rfl⟩)
      refine ⟨τ2, ?_, ?_⟩
      · have e38 : (if L = (112 : Int32) then (fX11_byteNow τ1).bind fun w64 => if w64.1 = (45 : Int32) then some ((1 : Int32), w64.2) else some ((0 : Int32), w64.2) else some ((0 : Int32), τ1)) = some (0, τ1) := by
          by_cases g : L = 112
          · have : ¬ bbI n bt (a + 1) = 45 := fun e => q2 ⟨e, hl112.mp g⟩
            simp only [if_pos g, r_byte hW k2.1 k2.2.2.1 (by omega), ob, if_neg this]
          · rw [if_neg g]
        unfold rsP
        rw [k1, ob, e38]
        simp only [ob, if_true, bd, e1, hm2]
        exact m1
      · unfold numP
        rw [if_pos q, if_neg q2]
        exact m2
  · obtain ⟨τ1, k1, k2, k3, k4, k5⟩ := r_expects_no hW h (by omega) q
    have e38 : ∃ y, (if L = (112 : Int32) then (fX11_byteNow τ1).bind fun w64 => if w64.1 = (45 : Int32) then some ((1 : Int32), w64.2) else some ((0 : Int32), w64.2) else some ((0 : Int32), τ1)) = some (y, τ1) := by
      by_cases g : L = 112
      · simp only [if_pos g, r_byte hW k2 k4 (by omega), ob]
        split
        · exact ⟨_, rfl⟩
        · exact ⟨_, rfl⟩
      · rw [if_neg g]; exact ⟨_, rfl⟩
    obtain ⟨y, hy⟩ := e38
    have e40 : ∃ z, (if y = 0 then some (0 : Int32) else some (1 : Int32)) = some z := by split; exact ⟨_, rfl⟩; exact ⟨_, rfl⟩
    obtain ⟨z, hz⟩ := e40
    have k5' : gI (sI τ1 49 25 (gI τ1 49 25 + z)) 49 26 = nI a := by rw [gI_ne _ _ (Or.inr (by decide)), k5]
    have c : ¬ nI a = -1 := m1_ne (by omega)
    refine ⟨sI τ1 49 25 (gI τ1 49 25 + z), ?_, fun f e => ?_, fun i v' e => ?_⟩
    · unfold rsP
      rw [k1, ob, hy, ob]
      simp only [hz, ob, bd, hm2, r_number_f k5' (show a ≤ 100 by omega), k5', if_neg c]
    · unfold numP at e
      rw [if_neg q] at e
      obtain rfl := Sum.inl.inj e
      exact ⟨kb_49 (by omega) k2, k5'⟩
    · unfold numP at e
      rw [if_neg q] at e
      cases e
theorem r_part (hW : WR n bt σ) (h : KR σ v a τ) (ha : a ≤ 60) : ∃ τ', fX11_part τ = some τ' ∧ RO σ (prtP n bt a v) τ' := by
  have hb := r_byte hW h.1 h.2.2.1 (show a ≤ 100 by omega)
  have e1 : gI τ 49 25 + 1 = nI (a + 1) := by rw [h.2.2.1, nI_1]
  have hK : KR σ v (a + 1) (sI τ 49 25 (nI (a + 1))) := ⟨kb_49 (by omega) h.1, kv_25 (by omega) h.2.1, gI_same _ _ _ _, by rw [gI_ne _ _ (Or.inr (by decide)), h.2.2.2]⟩
  by_cases q1 : bbI n bt a = 112
  · rw [q1] at hb
    have hb1 := r_byte hW hK.1 hK.2.2.1 (show a + 1 ≤ 100 by omega)
    have e2 : gI (sI τ 49 25 (nI (a + 1))) 49 25 + 1 = nI (a + 1 + 1) := by rw [gI_same, nI_1]
    rw [part_p hb, e1, hb1, ob]
    simp only [r_isLane, ob]
    cases q2 : wi (bbI n bt (a + 1) - 48) 0 7
    · refine ⟨sI (sI τ 49 25 (nI (a + 1))) 49 26 (nI (a + 1)), by simp only [b2f, if_true, gI_same], fun f e => ?_, fun i v' e => ?_⟩
      · unfold prtP at e
        rw [if_pos q1, q2, if_neg (by decide)] at e
        obtain rfl := Sum.inl.inj e
        exact ⟨kb_49 (by omega) hK.1, gI_same _ _ _ _⟩
      · unfold prtP at e
        rw [if_pos q1, q2, if_neg (by decide)] at e
        cases e
    · obtain ⟨l, hl, el⟩ := wi_nat (n := 7) rfl (by decide) q2
      have hK2 : KR σ v (a + 1 + 1) (sI (sI τ 49 25 (nI (a + 1))) 49 25 (nI (a + 1 + 1))) := ⟨kb_49 (by omega) hK.1, kv_25 (by omega) hK.2.1, gI_same _ _ _ _, by rw [gI_ne _ _ (Or.inr (by decide)), hK.2.2.2]⟩
      obtain ⟨τ2, m1, m2⟩ := r_rs (L := 112) (x := bbI n bt (a + 1) - 48) (slot := l) (Or.inl ⟨rfl, by omega, el⟩) hW hK2 (by omega)
      refine ⟨τ2, by simp only [b2t, if_false, e2]; exact m1, ?_⟩
      unfold prtP
      rw [if_pos q1, if_pos q2, el, cl_n (by omega)]
      exact m2
  · by_cases q2 : bbI n bt a = 102
    · rw [q2] at hb
      rw [part_f hb, e1]
      obtain ⟨τ2, m1, m2⟩ := r_rs (L := 102) (x := 0) (slot := 8) (Or.inr (Or.inl ⟨rfl, rfl⟩)) hW hK (by omega)
      refine ⟨τ2, m1, ?_⟩
      unfold prtP
      rw [if_neg q1, if_pos q2]
      exact m2
    · by_cases q3 : bbI n bt a = 114
      · rw [q3] at hb
        rw [part_r hb, e1]
        obtain ⟨τ2, m1, m2⟩ := r_rs (L := 114) (x := 0) (slot := 9) (Or.inr (Or.inr ⟨rfl, rfl⟩)) hW hK (by omega)
        refine ⟨τ2, m1, ?_⟩
        unfold prtP
        rw [if_neg q1, if_neg q2, if_pos q3]
        exact m2
      · refine ⟨sI τ 49 26 (nI a), by rw [part_n hb q1 q2 q3, h.2.2.1], fun f e => ?_, fun i v' e => ?_⟩
        · unfold prtP at e
          rw [if_neg q1, if_neg q2, if_neg q3] at e
          obtain rfl := Sum.inl.inj e
          exact ⟨kb_49 (by omega) h.1, gI_same _ _ _ _⟩
        · unfold prtP at e
          rw [if_neg q1, if_neg q2, if_neg q3] at e
          cases e
end
/-- places -/
theorem fig_lt {n : Nat} {bt : Nat → Int32} {j : Nat} (h : fig (bbI n bt j) = true) : j < n := by
  rcases Nat.lt_or_ge j n with g | g
  · exact g
  · rw [bb_ge g, fig_m1] at h; cases h
theorem bb_lt' {n : Nat} {bt : Nat → Int32} {j : Nat} {b : Int32} (hb : b ≠ -1) (h : bbI n bt j = b) : j < n := by
  rcases Nat.lt_or_ge j n with g | g
  · exact g
  · rw [bb_ge g] at h; exact absurd h.symm hb
def PB (n j : Nat) (y : Nat ⊕ (Nat × (Nat → Int32))) : Prop := (∀ f, y = .inl f → f ≤ n) ∧ ∀ i v', y = .inr (i, v') → j < i ∧ i ≤ n
theorem pb_l {n j f : Nat} (h : f ≤ n) : PB n j (.inl f) := ⟨fun g e => by obtain rfl := Sum.inl.inj e; exact h, fun i v' e => by cases e⟩
theorem pb_r {n j i : Nat} {v : Nat → Int32} (h : j < i) (h2 : i ≤ n) : PB n j (.inr (i, v)) := ⟨fun g e => (by cases e), fun i' v' e => by obtain ⟨rfl, -⟩ := Prod.mk.inj (Sum.inr.inj e); exact ⟨h, h2⟩⟩
theorem pb_m {n j j' : Nat} {y : Nat ⊕ (Nat × (Nat → Int32))} (h : PB n j' y) (hj : j ≤ j') : PB n j y := ⟨h.1, fun i v' e => ⟨by have := (h.2 i v' e).1; omega, (h.2 i v' e).2⟩⟩
theorem dgt_b {n : Nat} {bt : Nat → Int32} {j slot : Nat} {sgn : Int32} {v : Nat → Int32} (hj : j ≤ n) : PB n j (dgt n bt j slot sgn v) := by
  unfold dgt
  by_cases q : fig (bbI n bt j) = true
  · have h1 := fig_lt q
    rw [if_pos q]
    by_cases q2 : slot = 9 ∨ fig (bbI n bt (j + 1)) = false
    · rw [if_pos q2]; exact pb_r (by omega) (by omega)
    · rw [if_neg q2]
      have : fig (bbI n bt (j + 1)) = true := by
        cases e : fig (bbI n bt (j + 1))
        · exact absurd (Or.inr e) q2
        · rfl
      have := fig_lt this
      exact pb_r (by omega) (by omega)
  · rw [if_neg q]; exact pb_l hj
theorem num_b {n : Nat} {bt : Nat → Int32} {j slot : Nat} {v : Nat → Int32} (hj : j ≤ n) : PB n j (numP n bt j slot v) := by
  unfold numP
  by_cases q : bbI n bt j = 61
  · have h1 := bb_lt' (by decide) q
    rw [if_pos q]
    by_cases q2 : bbI n bt (j + 1) = 45 ∧ slot < 8
    · have h2 := bb_lt' (by decide) q2.1
      rw [if_pos q2]; exact pb_m (dgt_b (by omega)) (by omega)
    · rw [if_neg q2]; exact pb_m (dgt_b (by omega)) (by omega)
  · rw [if_neg q]; exact pb_l hj
theorem prt_b {n : Nat} {bt : Nat → Int32} {j : Nat} {v : Nat → Int32} (hj : j ≤ n) : PB n j (prtP n bt j v) := by
  unfold prtP
  by_cases q1 : bbI n bt j = 112
  · have h1 := bb_lt' (by decide) q1
    rw [if_pos q1]
    by_cases q : wi (bbI n bt (j + 1) - 48) 0 7 = true
    · have h2 : j + 1 < n := by
        rcases Nat.lt_or_ge (j + 1) n with g | g
        · exact g
        · rw [bb_ge g] at q; exact absurd q (by decide)
      rw [if_pos q]; exact pb_m (num_b (by omega)) (by omega)
    · rw [if_neg q]; exact pb_l (by omega)
  · rw [if_neg q1]
    by_cases q2 : bbI n bt j = 102
    · have h1 := bb_lt' (by decide) q2
      rw [if_pos q2]; exact pb_m (num_b (by omega)) (by omega)
    · rw [if_neg q2]
      by_cases q3 : bbI n bt j = 114
      · have h1 := bb_lt' (by decide) q3
        rw [if_pos q3]; exact pb_m (num_b (by omega)) (by omega)
      · rw [if_neg q3]; exact pb_l hj
def RW (σ : Sg) (w : Nat ⊕ (Nat → Int32)) (τ : Sg) : Prop := (∀ f, w = .inl f → f ≤ 60 ∧ KB σ τ ∧ gI τ 49 26 = nI f) ∧ ∀ v', w = .inr v' → ∃ b, KR σ v' b τ
theorem r_all {n : Nat} {bt : Nat → Int32} {σ : Sg} (hW : WR n bt σ) : ∀ (m i : Nat) (v : Nat → Int32) (τ : Sg) (F : Nat), i ≤ n → n < i + m → KR σ v i τ → n + 2 - i ≤ F → ∃ τ', lpG fX11_worldFault_L29 F (1 : Int32) τ = some ((), τ') ∧ RW σ (wlP n bt m i v) τ' := by
  have hn := hW.1
  have c10 : ¬ (1 : Int32) = 0 := by decide
  intro m
  induction m with
  | zero => intro i v τ F h1 h2; exact absurd h2 (by omega)
  | succ m ih =>
    intro i v τ F h1 h2 hK hF
    obtain ⟨F, rfl⟩ : ∃ F', F = F' + 1 + 1 := ⟨F - 2, by omega⟩
    obtain ⟨τ1, k1, k2⟩ := r_part hW hK (show i ≤ 60 by omega)
    have hb := prt_b (n := n) (bt := bt) (j := i) (v := v) h1
    rw [wlP]
    have hx0 : ∀ t : Sg, fX11_worldFault_L29 0 t = some (.inr (), t) := fun t => by simp only [fX11_worldFault_L29, if_true]
    cases hy : prtP n bt i v with
    | inl f =>
      obtain ⟨g1, g2⟩ := k2.1 f hy
      have hf := hb.1 f hy
      have c : ¬ nI f = -1 := m1_ne (by omega)
      refine ⟨τ1, ?_, fun f' e => ?_, fun v' e => by cases e⟩
      · rw [lpG_s (a' := 0) (σ' := τ1) (by simp only [fX11_worldFault_L29, if_neg c10, k1, ob, g2, if_neg c, if_true]), lpG_x (hx0 τ1)]
      · obtain rfl := Sum.inl.inj e
        exact ⟨by omega, g1, g2⟩
    | inr p =>
      obtain ⟨i', v'⟩ := p
      have hK' := k2.2 i' v' hy
      obtain ⟨b1, b2⟩ := hb.2 i' v' hy
      have e66 : aI τ1 66 2 (1 : Int32) = some (nI n) := by
        rw [show (1 : Int32) = nI 1 from rfl, aI_n (by decide) (by decide), hK'.1.1 66 (by decide) (by decide), hW.2.1]
      show ∃ τ', _ ∧ RW σ (if i' < n then (if bt i' = 59 then wlP n bt m (i' + 1) v' else .inl i') else .inr v') τ'
      by_cases hl : i' < n
      · have c : ¬ nI n ≤ nI i' := nI_ge hl (by omega)
        rw [if_pos hl]
        by_cases q : bt i' = 59
        · obtain ⟨τ2, m1, m2⟩ := r_expects_ok hW hK' (show i' ≤ 90 by omega) (b := 59) (by rw [bb_lt hl, q])
          rw [if_pos q]
          obtain ⟨τ3, p1, p2⟩ := ih (i' + 1) v' τ2 (F + 1) (by omega) (by omega) m2 (by omega)
          refine ⟨τ3, ?_, p2⟩
          rw [lpG_s (a' := 1) (σ' := τ2) (by simp only [fX11_worldFault_L29, if_neg c10, k1, ob, hK'.2.2.2, if_true, e66, hK'.2.2.1, if_neg c, m1, m2.2.2.2]), p1]
        · obtain ⟨τ2, m1, m2, m3, m4, m5⟩ := r_expects_no hW hK' (show i' ≤ 90 by omega) (b := 59) (by rw [bb_lt hl]; exact q)
          rw [if_neg q]
          have c2 : ¬ nI i' = -1 := m1_ne (by omega)
          refine ⟨τ2, ?_, fun f' e => ?_, fun v' e => by cases e⟩
          · rw [lpG_s (a' := 0) (σ' := τ2) (by simp only [fX11_worldFault_L29, if_neg c10, k1, ob, hK'.2.2.2, if_true, e66, hK'.2.2.1, if_neg c, m1, m5, if_neg c2]), lpG_x (hx0 τ2)]
          · obtain rfl := Sum.inl.inj e
            exact ⟨by omega, m2, m5⟩
      · have c : nI n ≤ nI i' := nI_le (by omega) (by omega)
        rw [if_neg hl]
        refine ⟨τ1, ?_, fun f' e => (by cases e), fun v2 e => ?_⟩
        · rw [lpG_s (a' := 0) (σ' := τ1) (by simp only [fX11_worldFault_L29, if_neg c10, k1, ob, hK'.2.2.2, if_true, e66, hK'.2.2.1, if_pos c]), lpG_x (hx0 τ1)]
        · obtain rfl := Sum.inr.inj e
          exact ⟨i', hK'⟩
theorem r_plain {σ τ : Sg} (h : KB σ τ) : ∃ τ', fX11_plain τ = some τ' ∧ KB σ τ' ∧ KV (fun _ => 0) τ' ∧ gI τ' 49 26 = gI τ 49 26 := by
  have key : ∃ τ', lpG fX11_plain_L2 FU (0 : Int32) τ = some ((), τ') ∧ (KB σ τ' ∧ (∀ k, k < 8 → gI τ' 68 k = 0) ∧ gI τ' 49 26 = gI τ 49 26) := by
    refine lp_ex (body := fX11_plain_L2) (b := ()) 8 (fun z => nI z) (fun z τ' => KB σ τ' ∧ (∀ k, k < z → gI τ' 68 k = 0) ∧ gI τ' 49 26 = gI τ 49 26) (fun z hz τ1 h1 => ?_) (fun τ1 h1 => ?_) FU (by decide) τ ⟨h, fun k hk => absurd hk (by omega), rfl⟩
    · have c : ¬ (8 : Int32) ≤ nI z := nI_ge (b := 8) hz (by decide)
      refine ⟨sI τ1 68 z 0, by simp only [fX11_plain_L2, if_neg c, wI_n hz (by decide), ob, bd, nI_1], kb_68 h1.1, fun k hk => ?_, by rw [gI_row _ _ (by decide)]; exact h1.2.2⟩
      by_cases e : k = z
      · subst e; rw [gI_same]
      · rw [gI_ne _ _ (Or.inr e)]; exact h1.2.1 k (by omega)
    · have c : (8 : Int32) ≤ nI 8 := by decide
      simp only [fX11_plain_L2, if_pos c]
  obtain ⟨τ', k1, k2, k3, k4⟩ := key
  refine ⟨sI (sI τ' 49 23 0) 49 24 0, by simp only [fX11_plain, k1, ob, bd], kb_49 (by omega) (kb_49 (by omega) k2), ⟨fun k hk => ?_, ?_, ?_⟩, ?_⟩
  · rw [gI_row _ _ (by decide), gI_row _ _ (by decide)]; exact k3 k hk
  · rw [gI_ne _ _ (Or.inr (by decide)), gI_same]
  · rw [gI_same]
  · rw [gI_ne _ _ (Or.inr (by decide)), gI_ne _ _ (Or.inr (by decide))]; exact k4
theorem r_worldFault {n : Nat} {bt : Nat → Int32} {σ : Sg} (hW : WR n bt σ) : ∃ τ, fX11_worldFault σ = some (wldF n bt, τ) ∧ KB σ τ ∧ KV (wldV n bt) τ := by
  have hn := hW.1
  obtain ⟨τ0, q1, q2, q3, q4⟩ := r_plain (σ := σ) (τ := σ) ⟨fun _ _ _ => rfl, fun _ _ _ _ _ => rfl, rfl⟩
  have hK : KR σ (fun _ => 0) 0 (sI (sI τ0 49 25 0) 49 26 (-1)) := ⟨kb_49 (by omega) (kb_49 (by omega) q2), kv_25 (by omega) (kv_25 (by omega) q3), by rw [gI_ne _ _ (Or.inr (by decide)), gI_same]; rfl, gI_same _ _ _ _⟩
  generalize hτ : sI (sI τ0 49 25 0) 49 26 (-1) = τ1 at *
  have e66 : aI τ1 66 2 (1 : Int32) = some (nI n) := by
    rw [show (1 : Int32) = nI 1 from rfl, aI_n (by decide) (by decide), hK.1.1 66 (by decide) (by decide), hW.2.1]
  by_cases h0 : n = 0
  · subst h0
    have c : nI 0 ≤ (0 : Int32) := by decide
    have hl : lpG fX11_worldFault_L29 FU (0 : Int32) τ1 = some ((), τ1) := lpG_x (n := 999999) (by simp only [fX11_worldFault_L29, if_true])
    refine ⟨τ1, ?_, hK.1, hK.2.1⟩
    simp only [fX11_worldFault, q1, ob, bd, hτ, e66, if_pos c, hl, hK.2.2.2, if_true]
    rfl
  · have c : ¬ nI n ≤ (0 : Int32) := nI_nle (by omega) (by omega)
    obtain ⟨τ2, k1, k2⟩ := r_all hW (n + 1) 0 (fun _ => 0) τ1 FU (by omega) (by omega) hK (by unfold FU; omega)
    have eP : wldP n bt = wlP n bt (n + 1) 0 (fun _ => 0) := if_neg h0
    unfold wldF wldV
    rw [eP]
    cases hw : wlP n bt (n + 1) 0 (fun _ => 0) with
    | inl f =>
      obtain ⟨f1, f2, f3⟩ := k2.1 f hw
      obtain ⟨τ3, p1, p2, p3, p4⟩ := r_plain f2
      have c2 : ¬ nI f = -1 := m1_ne (by omega)
      refine ⟨τ3, ?_, p2, p3⟩
      simp only [fX11_worldFault, q1, ob, bd, hτ, e66, if_neg c, k1, f3, if_neg c2, p1, p4]
    | inr v =>
      obtain ⟨b, f1, f2, f3, f4⟩ := k2.2 v hw
      refine ⟨τ2, ?_, f1, f2⟩
      simp only [fX11_worldFault, q1, ob, bd, hτ, e66, if_neg c, k1, f4, if_true]
