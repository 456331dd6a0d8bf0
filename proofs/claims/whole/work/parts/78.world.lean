/-! WORLD: what a text says; the class -/
def bbI (n : Nat) (bt : Nat → Int32) (k : Nat) : Int32 := if k < n then bt k else -1
def fig (x : Int32) : Bool := wi (x - 48) 0 9
def upv (v : Nat → Int32) (k : Nat) (x : Int32) : Nat → Int32 := fun j => if j = k then x else v j
def dgt (n : Nat) (bt : Nat → Int32) (j slot : Nat) (sgn : Int32) (v : Nat → Int32) : Nat ⊕ (Nat × (Nat → Int32)) :=
  if fig (bbI n bt j) = true then
    if slot = 9 ∨ fig (bbI n bt (j + 1)) = false then .inr (j + 1, upv v slot (sgn * (bbI n bt j - 48)))
    else .inr (j + 2, upv v slot (10 * (sgn * (bbI n bt j - 48)) + sgn * (bbI n bt (j + 1) - 48)))
  else .inl j
def numP (n : Nat) (bt : Nat → Int32) (j slot : Nat) (v : Nat → Int32) : Nat ⊕ (Nat × (Nat → Int32)) :=
  if bbI n bt j = 61 then
    if bbI n bt (j + 1) = 45 ∧ slot < 8 then dgt n bt (j + 2) slot (-1) v else dgt n bt (j + 1) slot 1 v
  else .inl j
def prtP (n : Nat) (bt : Nat → Int32) (i : Nat) (v : Nat → Int32) : Nat ⊕ (Nat × (Nat → Int32)) :=
  if bbI n bt i = 112 then
    if wi (bbI n bt (i + 1) - 48) 0 7 = true then numP n bt (i + 2) (bbI n bt (i + 1) - 48).toNatClampNeg v else .inl (i + 1)
  else if bbI n bt i = 102 then numP n bt (i + 1) 8 v
  else if bbI n bt i = 114 then numP n bt (i + 1) 9 v
  else .inl i
def aftP (n : Nat) (bt : Nat → Int32) (rec : Nat → (Nat → Int32) → Nat ⊕ (Nat → Int32)) (x : Nat ⊕ (Nat × (Nat → Int32))) : Nat ⊕ (Nat → Int32) := match x with
  | .inl f => .inl f
  | .inr (i, v) => if i < n then (if bt i = 59 then rec (i + 1) v else .inl i) else .inr v
def wlP (n : Nat) (bt : Nat → Int32) : Nat → Nat → (Nat → Int32) → Nat ⊕ (Nat → Int32)
  | 0, i, _ => .inl i
  | m + 1, i, v => aftP n bt (wlP n bt m) (prtP n bt i v)
theorem bb_lt {n : Nat} {bt : Nat → Int32} {k : Nat} (h : k < n) : bbI n bt k = bt k := if_pos h
theorem bb_ge {n : Nat} {bt : Nat → Int32} {k : Nat} (h : n ≤ k) : bbI n bt k = -1 := if_neg (by omega)
theorem fig_m1 : fig (-1) = false := by decide
/-- the class -/
def Kc (σ : Sg) (v : Nat → Int32) (τ : Sg) : Prop := (∀ j, j ≠ 35 → j ≠ 36 → gI τ j = gI σ j) ∧ gL τ = gL σ ∧ ∀ k, k < 10 → gI τ 36 k = v k
def OutC (n : Nat) (σ : Sg) (w : Nat ⊕ (Nat → Int32)) (r : (Int32 ⊕ Int32) × Sg) : Prop := match w with
  | .inl f => (f < n ∧ r.1 = .inl (nI f) ∧ Kc σ (fun _ => 0) r.2) ∨ (f = n ∧ ∃ st v, r.1 = .inr st ∧ st ≠ 5 ∧ st ≠ 6 ∧ Kc σ v r.2)
  | .inr v => ∃ st, r.1 = .inr st ∧ (st = 5 ∨ st = 6) ∧ Kc σ v r.2
def GG (n : Nat) (σ : Sg) (F : Nat) (st : Int32) (k : Nat) (τ : Sg) (w : Nat ⊕ (Nat → Int32)) : Prop := ∃ r, lpG fX9_parse_L8 F (st, nI k) τ = some r ∧ OutC n σ w r
def WT (n : Nat) (bt : Nat → Int32) (σ : Sg) : Prop := n ≤ 60 ∧ gI σ 32 1 = nI n ∧ ∀ i, i < n → gI σ 33 i = bt i
theorem e_clearV (σ τ : Sg) {v : Nat → Int32} (h : Kc σ v τ) : ∃ τ', fX9_clearValues τ = some τ' ∧ Kc σ (fun _ => 0) τ' := by
  have key : ∃ τ', lpG fX9_clearValues_L2 FU (0 : Int32) τ = some ((), τ') ∧ ((∀ j, j ≠ 35 → j ≠ 36 → gI τ' j = gI σ j) ∧ gL τ' = gL σ ∧ ∀ k, k < 10 → gI τ' 36 k = 0) := by
    refine lp_ex (body := fX9_clearValues_L2) (b := ()) 10 (fun z => nI z) (fun z τ' => (∀ j, j ≠ 35 → j ≠ 36 → gI τ' j = gI σ j) ∧ gL τ' = gL σ ∧ ∀ k, k < z → gI τ' 36 k = 0) (fun z hz τ1 h1 => ?_) (fun τ1 h1 => ?_) FU (by decide) τ ⟨h.1, h.2.1, fun k hk => absurd hk (by omega)⟩
    · have c : ¬ (9 : Int32) < nI z := nI_nlt (a := 9) (by omega) (by decide)
      refine ⟨sI τ1 36 z 0, by simp only [fX9_clearValues_L2, if_neg c, wI_n hz (by decide), ob, bd, nI_1], fun j g1 g2 => by rw [gI_row _ _ g2]; exact h1.1 j g1 g2, h1.2.1, fun k hk => ?_⟩
      by_cases e : k = z
      · subst e; rw [gI_same]
      · rw [gI_ne _ _ (Or.inr e)]; exact h1.2.2 k (by omega)
    · have c : (9 : Int32) < nI 10 := by decide
      simp only [fX9_clearValues_L2, if_pos c]
  obtain ⟨τ', k1, k2⟩ := key
  exact ⟨τ', by simp only [fX9_clearValues, k1, ob], k2⟩
theorem lpG_s {α β : Type} {body : α → Sg → Option ((α ⊕ β) × Sg)} {a a' : α} {σ σ' : Sg} (h : body a σ = some (.inl a', σ')) (n : Nat) : lpG body (n + 1) a σ = lpG body n a' σ' := by
  conv => lhs; unfold lpG
  rw [h]
theorem lpG_x {α β : Type} {body : α → Sg → Option ((α ⊕ β) × Sg)} {a : α} {b : β} {σ σ' : Sg} (h : body a σ = some (.inr b, σ')) (n : Nat) : lpG body (n + 1) a σ = some (b, σ') := by
  conv => lhs; unfold lpG
  rw [h]
section
variable {n : Nat} {bt : Nat → Int32} {σ τ τ' : Sg} {v : Nat → Int32} {st st' : Int32} {k F : Nat} {w : Nat ⊕ (Nat → Int32)}
theorem kc_n (hW : WT n bt σ) (h : Kc σ v τ) : gI τ 32 1 = nI n ∧ ∀ i, i < n → gI τ 33 i = bt i := ⟨by rw [h.1 32 (by decide) (by decide)]; exact hW.2.1, fun i hi => by rw [h.1 33 (by decide) (by decide)]; exact hW.2.2 i hi⟩
theorem g_end (hW : WT n bt σ) (h : Kc σ v τ) (h5 : st ≠ 5) (h6 : st ≠ 6) : GG n σ (F + 1) st n τ (.inl n) := by
  have c : gI τ 32 1 ≤ nI n := by rw [(kc_n hW h).1]; exact nI_le (Nat.le_refl _) (by have := hW.1; omega)
  exact ⟨(.inr st, τ), lpG_x (by simp only [fX9_parse_L8, if_pos c]) F, Or.inr ⟨rfl, st, v, rfl, h5, h6, h⟩⟩
theorem g_ok (hW : WT n bt σ) (h : Kc σ v τ) (h5 : st = 5 ∨ st = 6) : GG n σ (F + 1) st n τ (.inr v) := by
  have c : gI τ 32 1 ≤ nI n := by rw [(kc_n hW h).1]; exact nI_le (Nat.le_refl _) (by have := hW.1; omega)
  exact ⟨(.inr st, τ), lpG_x (by simp only [fX9_parse_L8, if_pos c]) F, st, rfl, h5, h⟩
theorem g_stuck {v' : Nat → Int32} (hW : WT n bt σ) (h : Kc σ v τ) (hk : k < n) (hn : fX9_next st (bt k) τ = some (7, τ')) (h' : Kc σ v' τ') : GG n σ (F + 1) st k τ (.inl k) := by
  have hn60 := hW.1
  have c : ¬ gI τ 32 1 ≤ nI k := by rw [(kc_n hW h).1]; exact nI_ge hk (by omega)
  obtain ⟨τ2, q1, q2⟩ := e_clearV σ τ' h'
  exact ⟨(.inl (nI k), τ2), lpG_x (by simp only [fX9_parse_L8, if_neg c, aI_n (show k < 60 by omega) (by decide), ob, bd, (kc_n hW h).2 k hk, hn, if_true, q1]) F, Or.inl ⟨hk, rfl, q2⟩⟩
theorem g_step (hW : WT n bt σ) (h : Kc σ v τ) (hk : k < n) (hn : fX9_next st (bt k) τ = some (st', τ')) (h7 : st' ≠ 7) (hG : GG n σ F st' (k + 1) τ' w) : GG n σ (F + 1) st k τ w := by
  have hn60 := hW.1
  have c : ¬ gI τ 32 1 ≤ nI k := by rw [(kc_n hW h).1]; exact nI_ge hk (by omega)
  obtain ⟨r, r1, r2⟩ := hG
  refine ⟨r, ?_, r2⟩
  rw [lpG_s (a' := (st', nI (k + 1))) (σ' := τ') (by simp only [fX9_parse_L8, if_neg c, aI_n (show k < 60 by omega) (by decide), ob, bd, (kc_n hW h).2 k hk, hn, if_neg h7, nI_1]) F]
  exact r1
theorem e_isFig (x : Int32) (s : Sg) : fX9_isFigure x s = some (b2i (wi x 0 9), s) := by simp only [fX9_isFigure, e_within, ob, zr_b]
theorem nx4 (x : Int32) (τ : Sg) : fX9_next 4 x τ = fX9_begin (x - 48) τ := by
  have c0 : ¬ (4 : Int32) = 0 := by decide
  have c1 : ¬ (4 : Int32) = 1 := by decide
  have c2 : ¬ (4 : Int32) = 2 := by decide
  have c3 : ¬ (4 : Int32) = 3 := by decide
  unfold fX9_next
  rw [if_neg c0, if_neg c1, if_neg c2, if_neg c3, if_pos rfl]
  cases fX9_begin (x - 48) τ <;> rfl
theorem nx3 {x : Int32} {τ : Sg} {slot : Nat} (hs : gI τ 35 2 = nI slot) (hs10 : slot < 10) (h : ¬ (x = 45 ∧ slot < 8)) : fX9_next 3 x τ = fX9_begin (x - 48) τ := by
  have c0 : ¬ (3 : Int32) = 0 := by decide
  have c1 : ¬ (3 : Int32) = 1 := by decide
  have c2 : ¬ (3 : Int32) = 2 := by decide
  unfold fX9_next
  rw [if_neg c0, if_neg c1, if_neg c2, if_pos rfl]
  by_cases e : x = 45
  · have hl : wi (nI slot) 0 7 = false := by
      cases q : wi (nI slot) 0 7
      · rfl
      · exfalso
        have h8 : ¬ slot < 8 := fun g => h ⟨e, g⟩
        have := (wi_t.mp q).2
        exact this (nI_lt (a := 7) (by omega) (by omega))
    rw [if_pos e]
    simp only [e_isLane, hs, hl, ob, b2f, if_true]
    cases fX9_begin (x - 48) τ <;> rfl
  · rw [if_neg e]
    cases fX9_begin (x - 48) τ <;> rfl
theorem nx3m {τ : Sg} {slot : Nat} (hs : gI τ 35 2 = nI slot) (h : slot < 8) : fX9_next 3 45 τ = some (4, sI τ 35 3 (-1)) := by
  have c0 : ¬ (3 : Int32) = 0 := by decide
  have c1 : ¬ (3 : Int32) = 1 := by decide
  have c2 : ¬ (3 : Int32) = 2 := by decide
  have hl : wi (nI slot) 0 7 = true := wi_n (n := 7) (by omega) (by decide)
  unfold fX9_next
  rw [if_neg c0, if_neg c1, if_neg c2, if_pos rfl, if_pos rfl]
  simp only [e_isLane, hs, hl, ob, b2t, if_false, fX9_turn, bd]
theorem kc_35 {a : Nat} {x : Int32} (h : Kc σ v τ) : Kc σ v (sI τ 35 a x) := ⟨fun j h1 h2 => by rw [gI_row _ _ h1]; exact h.1 j h1 h2, h.2.1, fun k hk => by rw [gI_row _ _ (by decide)]; exact h.2.2 k hk⟩
theorem kc_36 {a : Nat} {x : Int32} (h : Kc σ v τ) : Kc σ (upv v a x) (sI τ 36 a x) := by
  refine ⟨fun j h1 h2 => by rw [gI_row _ _ h2]; exact h.1 j h1 h2, h.2.1, fun k hk => ?_⟩
  unfold upv
  by_cases e : k = a
  · subst e; rw [gI_same, if_pos rfl]
  · rw [gI_ne _ _ (Or.inr e), if_neg e]; exact h.2.2 k hk
theorem upv_2 (v : Nat → Int32) (a : Nat) (x y : Int32) : upv (upv v a x) a y = upv v a y := by
  funext j
  unfold upv
  by_cases e : j = a
  · rw [if_pos e, if_pos e]
  · rw [if_neg e, if_neg e, if_neg e]
/-- behind a part -/
def HXw (n : Nat) (bt : Nat → Int32) (σ : Sg) (j : Nat) (x : Nat ⊕ (Nat × (Nat → Int32))) (w : Nat ⊕ (Nat → Int32)) : Prop := (∀ f, x = .inl f → w = .inl f) ∧ ∀ i v', x = .inr (i, v') → ∀ st τ', ((st = 5 ∧ fig (bbI n bt i) = false) ∨ st = 6) → j < i → i ≤ n → Kc σ v' τ' → ∀ F, n + 1 - i ≤ F → GG n σ F st i τ' w
theorem c_dgt {slot j : Nat} {sgn : Int32} (hW : WT n bt σ) (h : Kc σ v τ) (hs : gI τ 35 2 = nI slot) (hs10 : slot < 10) (hg : gI τ 35 3 = sgn) (hst5 : st ≠ 5) (hst6 : st ≠ 6) (hj : j ≤ n) (hnx : j < n → fX9_next st (bt j) τ = fX9_begin (bt j - 48) τ) (hX : HXw n bt σ j (dgt n bt j slot sgn v) w) (hF : n + 1 - j ≤ F) : GG n σ F st j τ w := by
  obtain ⟨F, rfl⟩ : ∃ F', F = F' + 1 := ⟨F - 1, by omega⟩
  by_cases hjn : j < n
  · by_cases q : fig (bt j) = true
    · have e1 : fX9_begin (bt j - 48) τ = some (if slot = 9 then 6 else 5, sI τ 36 slot (sgn * (bt j - 48))) := by
        have q' : wi (bt j - 48) 0 9 = true := q
        have g2 : gI (sI τ 36 slot (sgn * (bt j - 48))) 35 2 = nI slot := by rw [gI_row _ _ (by decide), hs]
        simp only [fX9_begin, e_isFig, q', ob, b2t, if_false, hs, hg, wI_n hs10 (by decide), g2]
        by_cases e : slot = 9
        · rw [if_pos e, if_pos (by rw [e]; rfl)]
        · rw [if_neg e, if_neg (show ¬ nI slot = (9 : Int32) from fun x => e (nI_inj (b := 9) (by omega) (by decide) x))]
      have hK := kc_36 (a := slot) (x := sgn * (bt j - 48)) h
      by_cases e : slot = 9
      · rw [if_pos e] at e1
        refine g_step hW h hjn (by rw [hnx hjn, e1]) (by decide) ?_
        refine hX.2 (j + 1) _ ?_ 6 _ (Or.inr rfl) (by omega) (by omega) hK F (by omega)
        unfold dgt
        rw [bb_lt hjn, if_pos q, if_pos (Or.inl e)]
      · rw [if_neg e] at e1
        refine g_step hW h hjn (by rw [hnx hjn, e1]) (by decide) ?_
        cases q2 : fig (bbI n bt (j + 1))
        · refine hX.2 (j + 1) _ ?_ 5 _ (Or.inl ⟨rfl, q2⟩) (by omega) (by omega) hK F (by omega)
          unfold dgt
          rw [bb_lt hjn, if_pos q, if_pos (Or.inr q2)]
        · have hj1 : j + 1 < n := by
            rcases Nat.lt_or_ge (j + 1) n with g | g
            · exact g
            · rw [bb_ge g, fig_m1] at q2; cases q2
          rw [bb_lt hj1] at q2
          obtain ⟨F, rfl⟩ : ∃ F', F = F' + 1 := ⟨F - 1, by omega⟩
          have q2' : wi (bt (j + 1) - 48) 0 9 = true := q2
          have c0 : ¬ (5 : Int32) = 0 := by decide
          have c1 : ¬ (5 : Int32) = 1 := by decide
          have c2 : ¬ (5 : Int32) = 2 := by decide
          have c3 : ¬ (5 : Int32) = 3 := by decide
          have c4 : ¬ (5 : Int32) = 4 := by decide
          have e2 : fX9_next 5 (bt (j + 1)) (sI τ 36 slot (sgn * (bt j - 48))) = some (6, sI (sI τ 36 slot (sgn * (bt j - 48))) 36 slot (10 * (sgn * (bt j - 48)) + sgn * (bt (j + 1) - 48))) := by
            have g2 : gI (sI τ 36 slot (sgn * (bt j - 48))) 35 2 = nI slot := by rw [gI_row _ _ (by decide), hs]
            have g3 : gI (sI τ 36 slot (sgn * (bt j - 48))) 35 3 = sgn := by rw [gI_row _ _ (by decide), hg]
            unfold fX9_next
            rw [if_neg c0, if_neg c1, if_neg c2, if_neg c3, if_neg c4, if_pos rfl]
            simp only [e_isFig, q2', ob, b2t, if_false, fX9_end, g2, g3, aI_n hs10 (by decide), wI_n hs10 (by decide), gI_same]
          refine g_step hW hK hj1 e2 (by decide) ?_
          have hK2 := kc_36 (a := slot) (x := 10 * (sgn * (bt j - 48)) + sgn * (bt (j + 1) - 48)) hK
          rw [upv_2] at hK2
          refine hX.2 (j + 2) _ ?_ 6 _ (Or.inr rfl) (by omega) (by omega) hK2 F (by omega)
          unfold dgt
          rw [bb_lt hjn, bb_lt hj1, if_pos q, if_neg (fun x => by rcases x with x | x; exact e x; rw [q2] at x; cases x)]
    · have q' : wi (bt j - 48) 0 9 = false := by
        cases q2 : wi (bt j - 48) 0 9
        · rfl
        · exact absurd q2 q
      have := hX.1 j (by unfold dgt; rw [bb_lt hjn, if_neg q])
      rw [this]
      refine g_stuck hW h hjn (τ' := τ) (v' := v) ?_ h
      rw [hnx hjn]
      simp only [fX9_begin, e_isFig, q', ob, b2f, if_true]
  · obtain rfl : j = n := by omega
    have := hX.1 j (by unfold dgt; rw [bb_ge (Nat.le_refl _), fig_m1]; rfl)
    rw [this]
    exact g_end hW h hst5 hst6
theorem c_num {slot j : Nat} (hW : WT n bt σ) (h : Kc σ v τ) (hs : gI τ 35 2 = nI slot) (hs10 : slot < 10) (hg : gI τ 35 3 = 1) (hj : j ≤ n) (hX : HXw n bt σ j (numP n bt j slot v) w) (hF : n + 1 - j ≤ F) : GG n σ F 2 j τ w := by
  obtain ⟨F, rfl⟩ : ∃ F', F = F' + 1 := ⟨F - 1, by omega⟩
  have c0 : ¬ (2 : Int32) = 0 := by decide
  have c1 : ¬ (2 : Int32) = 1 := by decide
  by_cases hjn : j < n
  · by_cases q : bt j = 61
    · have e1 : fX9_next 2 (bt j) τ = some (3, τ) := by
        unfold fX9_next
        rw [if_neg c0, if_neg c1, if_pos rfl, if_pos q]
      refine g_step hW h hjn e1 (by decide) ?_
      by_cases q2 : bbI n bt (j + 1) = 45 ∧ slot < 8
      · have hj1 : j + 1 < n := by
          rcases Nat.lt_or_ge (j + 1) n with g | g
          · exact g
          · rw [bb_ge g] at q2; exact absurd q2.1 (by decide)
        rw [bb_lt hj1] at q2
        obtain ⟨F, rfl⟩ : ∃ F', F = F' + 1 := ⟨F - 1, by omega⟩
        refine g_step hW h hj1 (by rw [q2.1]; exact nx3m hs q2.2) (by decide) ?_
        have eN : numP n bt j slot v = dgt n bt (j + 1 + 1) slot (-1) v := by
          unfold numP
          rw [bb_lt hjn, if_pos q, if_pos (by rw [bb_lt hj1]; exact q2)]
        rw [eN] at hX
        exact c_dgt (slot := slot) (sgn := -1) hW (kc_35 h) (by rw [gI_ne _ _ (Or.inr (by decide)), hs]) hs10 (gI_same _ _ _ _) (by decide) (by decide) (by omega) (fun _ => nx4 _ _) ⟨hX.1, fun i v' e st τ' g1 g2 => hX.2 i v' e st τ' g1 (by omega)⟩ (by omega)
      · have eN : numP n bt j slot v = dgt n bt (j + 1) slot 1 v := by
          unfold numP
          rw [bb_lt hjn, if_pos q, if_neg q2]
        rw [eN] at hX
        exact c_dgt (slot := slot) (sgn := 1) hW h hs hs10 hg (by decide) (by decide) (by omega) (fun hl => nx3 hs hs10 (by rw [bb_lt hl] at q2; exact q2)) ⟨hX.1, fun i v' e st τ' g1 g2 => hX.2 i v' e st τ' g1 (by omega)⟩ (by omega)
    · have := hX.1 j (by unfold numP; rw [bb_lt hjn, if_neg q])
      rw [this]
      refine g_stuck hW h hjn (τ' := τ) (v' := v) ?_ h
      unfold fX9_next
      rw [if_neg c0, if_neg c1, if_pos rfl, if_neg q]
  · obtain rfl : j = n := by omega
    have := hX.1 j (by unfold numP; rw [bb_ge (Nat.le_refl _), if_neg (by decide)])
    rw [this]
    exact g_end hW h (by decide) (by decide)
theorem c_prt {j : Nat} (hW : WT n bt σ) (h : Kc σ v τ) (hj : j ≤ n) (hX : HXw n bt σ j (prtP n bt j v) w) (hF : n + 1 - j ≤ F) : GG n σ F 0 j τ w := by
  obtain ⟨F, rfl⟩ : ∃ F', F = F' + 1 := ⟨F - 1, by omega⟩
  by_cases hjn : j < n
  · have en : fX9_next 0 (bt j) τ = fX9_open (bt j) τ := by
      unfold fX9_next
      rw [if_pos rfl]
      cases fX9_open (bt j) τ <;> rfl
    have hK := kc_35 (a := 3) (x := 1) h
    by_cases q1 : bt j = 112
    · refine g_step hW h hjn (st' := 1) (τ' := sI τ 35 3 1) (by rw [en]; simp only [fX9_open, bd, if_pos q1]) (by decide) ?_
      by_cases hj1 : j + 1 < n
      · obtain ⟨F, rfl⟩ : ∃ F', F = F' + 1 := ⟨F - 1, by omega⟩
        have c0 : ¬ (1 : Int32) = 0 := by decide
        have en1 : ∀ t, fX9_next 1 (bt (j + 1)) t = fX9_choose (bt (j + 1) - 48) t := fun t => by
          unfold fX9_next
          rw [if_neg c0, if_pos rfl]
          cases fX9_choose (bt (j + 1) - 48) t <;> rfl
        cases q2 : wi (bt (j + 1) - 48) 0 7
        · have := hX.1 (j + 1) (by unfold prtP; rw [bb_lt hjn, if_pos q1, bb_lt hj1, if_neg (by rw [q2]; decide)])
          rw [this]
          refine g_stuck hW hK hj1 (τ' := sI τ 35 3 1) (v' := v) ?_ hK
          rw [en1]
          simp only [fX9_choose, e_isLane, q2, ob, b2f, if_true]
        · obtain ⟨l, hl, el⟩ := wi_nat (n := 7) rfl (by decide) q2
          have q2' := q2
          rw [el] at q2'
          refine g_step hW hK hj1 (st' := 2) (τ' := sI (sI τ 35 3 1) 35 2 (nI l)) (by rw [en1]; simp only [fX9_choose, e_isLane, el, q2', ob, b2t, if_false, bd]) (by decide) ?_
          have eN : prtP n bt j v = numP n bt (j + 1 + 1) l v := by
            unfold prtP
            rw [bb_lt hjn, if_pos q1, bb_lt hj1, if_pos q2, el, cl_n (by omega)]
          rw [eN] at hX
          exact c_num (slot := l) hW (kc_35 hK) (gI_same _ _ _ _) (by omega) (by rw [gI_ne _ _ (Or.inr (by decide)), gI_same]) (by omega) ⟨hX.1, fun i v' e st τ' g1 g2 => hX.2 i v' e st τ' g1 (by omega)⟩ (by omega)
      · have e1 : j + 1 = n := by omega
        have := hX.1 (j + 1) (by unfold prtP; rw [bb_lt hjn, if_pos q1, bb_ge (by omega), if_neg (by decide)])
        rw [this, e1]
        obtain ⟨F, rfl⟩ : ∃ F', F = F' + 1 := ⟨F - 1, by omega⟩
        exact g_end hW hK (by decide) (by decide)
    · by_cases q2 : bt j = 102
      · refine g_step hW h hjn (st' := 2) (τ' := sI (sI τ 35 3 1) 35 2 8) (by rw [en]; simp only [fX9_open, bd, if_neg q1, if_pos q2]) (by decide) ?_
        have eN : prtP n bt j v = numP n bt (j + 1) 8 v := by
          unfold prtP
          rw [bb_lt hjn, if_neg q1, if_pos q2]
        rw [eN] at hX
        exact c_num (slot := 8) hW (kc_35 hK) (gI_same _ _ _ _) (by omega) (by rw [gI_ne _ _ (Or.inr (by decide)), gI_same]) (by omega) ⟨hX.1, fun i v' e st τ' g1 g2 => hX.2 i v' e st τ' g1 (by omega)⟩ (by omega)
      · by_cases q3 : bt j = 114
        · refine g_step hW h hjn (st' := 2) (τ' := sI (sI τ 35 3 1) 35 2 9) (by rw [en]; simp only [fX9_open, bd, if_neg q1, if_neg q2, if_pos q3]) (by decide) ?_
          have eN : prtP n bt j v = numP n bt (j + 1) 9 v := by
            unfold prtP
            rw [bb_lt hjn, if_neg q1, if_neg q2, if_pos q3]
          rw [eN] at hX
          exact c_num (slot := 9) hW (kc_35 hK) (gI_same _ _ _ _) (by omega) (by rw [gI_ne _ _ (Or.inr (by decide)), gI_same]) (by omega) ⟨hX.1, fun i v' e st τ' g1 g2 => hX.2 i v' e st τ' g1 (by omega)⟩ (by omega)
        · have := hX.1 j (by unfold prtP; rw [bb_lt hjn, if_neg q1, if_neg q2, if_neg q3])
          rw [this]
          refine g_stuck hW h hjn (τ' := sI τ 35 3 1) (v' := v) ?_ hK
          rw [en]
          simp only [fX9_open, bd, if_neg q1, if_neg q2, if_neg q3]
  · obtain rfl : j = n := by omega
    have := hX.1 j (by unfold prtP; rw [bb_ge (Nat.le_refl _), if_neg (by decide), if_neg (by decide), if_neg (by decide)])
    rw [this]
    exact g_end hW h (by decide) (by decide)
theorem nx56 (h : (st = 5 ∧ fig (bt k) = false) ∨ st = 6) (τ : Sg) : fX9_next st (bt k) τ = fX9_close (bt k) τ := by
  have c50 : ¬ (5 : Int32) = 0 := by decide
  have c51 : ¬ (5 : Int32) = 1 := by decide
  have c52 : ¬ (5 : Int32) = 2 := by decide
  have c53 : ¬ (5 : Int32) = 3 := by decide
  have c54 : ¬ (5 : Int32) = 4 := by decide
  have c60 : ¬ (6 : Int32) = 0 := by decide
  have c61 : ¬ (6 : Int32) = 1 := by decide
  have c62 : ¬ (6 : Int32) = 2 := by decide
  have c63 : ¬ (6 : Int32) = 3 := by decide
  have c64 : ¬ (6 : Int32) = 4 := by decide
  have c65 : ¬ (6 : Int32) = 5 := by decide
  rcases h with ⟨rfl, h⟩ | rfl
  · have h' : wi (bt k - 48) 0 9 = false := h
    unfold fX9_next
    rw [if_neg c50, if_neg c51, if_neg c52, if_neg c53, if_neg c54, if_pos rfl]
    simp only [e_isFig, h', ob, b2f, if_true]
    cases fX9_close (bt k) τ <;> rfl
  · unfold fX9_next
    rw [if_neg c60, if_neg c61, if_neg c62, if_neg c63, if_neg c64, if_neg c65, if_pos rfl]
    cases fX9_close (bt k) τ <;> rfl
end
theorem c_all {n : Nat} {bt : Nat → Int32} {σ : Sg} (hW : WT n bt σ) : ∀ (m i : Nat) (v : Nat → Int32) (τ : Sg) (F : Nat), i ≤ n → n < i + m → Kc σ v τ → n + 1 - i ≤ F → GG n σ F 0 i τ (wlP n bt m i v) := by
  intro m
  induction m with
  | zero => intro i v τ F h1 h2; exact absurd h2 (by omega)
  | succ m ih =>
    intro i v τ F h1 h2 hK hF
    refine c_prt hW hK h1 ⟨fun f e => ?_, fun i' v' e st τ' hst hi hi' hK' F' hF' => ?_⟩ hF
    · rw [wlP, e]; rfl
    · rw [wlP, e]
      show GG n σ F' st i' τ' (if i' < n then (if bt i' = 59 then wlP n bt m (i' + 1) v' else .inl i') else .inr v')
      obtain ⟨F', rfl⟩ : ∃ F'', F' = F'' + 1 := ⟨F' - 1, by omega⟩
      by_cases hl : i' < n
      · rw [if_pos hl]
        rw [bb_lt hl] at hst
        have en := nx56 (bt := bt) (k := i') hst τ'
        by_cases q : bt i' = 59
        · rw [if_pos q]
          exact g_step hW hK' hl (st' := 0) (τ' := τ') (by rw [en]; unfold fX9_close; rw [if_pos q]) (by decide) (ih (i' + 1) v' τ' F' (by omega) (by omega) hK' (by omega))
        · rw [if_neg q]
          exact g_stuck hW hK' hl (τ' := τ') (v' := v') (by rw [en]; unfold fX9_close; rw [if_neg q]) hK'
      · obtain rfl : i' = n := by omega
        rw [if_neg hl]
        exact g_ok hW hK' (by rcases hst with h | h; exact Or.inl h.1; exact Or.inr h)
/-- what the world text says: its fault, or its values -/
def wldP (n : Nat) (bt : Nat → Int32) : Nat ⊕ (Nat → Int32) := if n = 0 then .inr (fun _ => 0) else wlP n bt (n + 1) 0 (fun _ => 0)
def wldV (n : Nat) (bt : Nat → Int32) : Nat → Int32 := match wldP n bt with
  | .inl _ => fun _ => 0
  | .inr v => v
def wldF (n : Nat) (bt : Nat → Int32) : Int32 := match wldP n bt with
  | .inl f => nI f
  | .inr _ => -1
theorem e_parse {n : Nat} {bt : Nat → Int32} {σ : Sg} (hW : WT n bt σ) : ∃ τ, fX9_parse σ = some (wldF n bt, τ) ∧ Kc σ (wldV n bt) τ := by
  obtain ⟨τ0, q1, q2⟩ := e_clearV σ σ (v := fun k => gI σ 36 k) ⟨fun _ _ _ => rfl, rfl, fun _ _ => rfl⟩
  have hn := (kc_n hW q2).1
  by_cases h0 : n = 0
  · subst h0
    have c : gI τ0 32 1 ≤ (0 : Int32) := by rw [hn]; decide
    have hl : lpG fX9_parse_L8 FU ((0 : Int32), (0 : Int32)) τ0 = some (.inr 0, τ0) := lpG_x (n := 999999) (by simp only [fX9_parse_L8, if_pos c])
    refine ⟨τ0, ?_, q2⟩
    have hn' : gI τ0 32 1 = 0 := hn
    simp only [fX9_parse, q1, ob, hl, Sum.elim_inr, hn', if_true]
    rfl
  · obtain ⟨r, r1, r2⟩ := c_all hW (n + 1) 0 (fun _ => 0) τ0 FU (by omega) (by omega) q2 (by have := hW.1; unfold FU; omega)
    have r1' : lpG fX9_parse_L8 FU ((0 : Int32), (0 : Int32)) τ0 = some r := r1
    have hn60 := hW.1
    obtain ⟨ra, rb⟩ := r
    have eP : wldP n bt = wlP n bt (n + 1) 0 (fun _ => 0) := if_neg h0
    unfold wldF wldV
    rw [eP]
    cases hw : wlP n bt (n + 1) 0 (fun _ => 0) with
    | inl f =>
      rw [hw] at r2
      rcases r2 with ⟨g1, g2, g3⟩ | ⟨g1, st, v, g2, g5, g6, g3⟩
      · have g2' : ra = .inl (nI f) := g2
        subst g2'
        refine ⟨rb, ?_, g3⟩
        simp only [fX9_parse, q1, ob, r1', Sum.elim_inl]
      · have g2' : ra = .inr st := g2
        subst g2'
        obtain ⟨τ2, p1, p2⟩ := e_clearV σ rb g3
        have c0 : ¬ gI rb 32 1 = 0 := by rw [(kc_n hW g3).1]; exact nI_ne0 (by omega) (by omega)
        refine ⟨τ2, ?_, p2⟩
        simp only [fX9_parse, q1, ob, r1', Sum.elim_inr, if_neg c0, if_neg g5, if_neg g6, p1, (kc_n hW p2).1, g1]
    | inr v =>
      rw [hw] at r2
      obtain ⟨st, g2, g5, g3⟩ := r2
      have g2' : ra = .inr st := g2
      subst g2'
      have c0 : ¬ gI rb 32 1 = 0 := by rw [(kc_n hW g3).1]; exact nI_ne0 (by omega) (by omega)
      refine ⟨rb, ?_, g3⟩
      simp only [fX9_parse, q1, ob, r1', Sum.elim_inr, if_neg c0]
      rcases g5 with rfl | rfl
      · rw [if_pos rfl]
      · rw [if_neg (by decide), if_pos rfl]
