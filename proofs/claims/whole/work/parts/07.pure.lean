/-! the words that the printed functions are made of, and their rows -/
def bnd {α β : Type} (x : α) (f : α → Option β) : Option β := f x
theorem bnd_s {α β : Type} {x : α} {f : α → Option β} {y : β} (h : bnd x f = some y) : ∃ v, x = v ∧ f v = some y := ⟨x, rfl, h⟩
theorem obd_s {α β : Type} {x : Option α} {f : α → Option β} {y : β} (h : x.bind f = some y) : ∃ v, x = some v ∧ f v = some y := by
  cases x with
  | none => cases h
  | some v => exact ⟨v, rfl, h⟩
def aI (σ : Sg) (j n : Nat) (x : Int32) : Option Int32 := if x < 0 ∨ n ≤ x.toNatClampNeg then none else some (gI σ j x.toNatClampNeg)
def aL (σ : Sg) (j n : Nat) (x : Int32) : Option Int64 := if x < 0 ∨ n ≤ x.toNatClampNeg then none else some (gL σ j x.toNatClampNeg)
def aR (n : Nat) (x : Int32) : Option Nat := if x < 0 ∨ n ≤ x.toNatClampNeg then none else some x.toNatClampNeg
def wI (σ : Sg) (j n : Nat) (x y : Int32) : Option Sg := if x < 0 ∨ n ≤ x.toNatClampNeg then none else some (sI σ j x.toNatClampNeg y)
def wL (σ : Sg) (j n : Nat) (x : Int32) (y : Int64) : Option Sg := if x < 0 ∨ n ≤ x.toNatClampNeg then none else some (sL σ j x.toNatClampNeg y)
def wZ (σ : Sg) (j n : Nat) (x y : Int32) : Option Sg := if y = 0 ∨ y = 1 then wI σ j n x y else none
def dI (x y : Int32) : Option Int32 := if y = 0 then none else some (x / y)
def mI (x y : Int32) : Option Int32 := if y = 0 then none else some (x - x / y * y)
def dL (x y : Int64) : Option Int64 := if y = 0 then none else some (x / y)
def mL (x y : Int64) : Option Int64 := if y = 0 then none else some (x - x / y * y)
def zr (x : Int32) : Option Int32 := if x = 0 ∨ x = 1 then some x else none
def cpO (σ : Sg) (j0 n0 j1 n1 : Nat) (sp dp n : Int32) : Option Sg := if sp < 0 ∨ dp < 0 ∨ n < 0 ∨ n0 < sp.toNatClampNeg + n.toNatClampNeg ∨ n1 < dp.toNatClampNeg + n.toNatClampNeg then none else some (cpI σ j0 j1 sp.toNatClampNeg dp.toNatClampNeg n.toNatClampNeg)
theorem ifn {α : Type} {c : Prop} [Decidable c] {x y : α} (h : (if c then none else some x) = some y) : ¬ c ∧ x = y := by
  by_cases hc : c
  · rw [if_pos hc] at h; cases h
  · rw [if_neg hc] at h; exact ⟨hc, Option.some.inj h⟩
theorem aI_s {σ : Sg} {j n : Nat} {x v : Int32} (h : aI σ j n x = some v) : vp_in x n ∧ gI σ j x.toNatClampNeg = v := ifn h
theorem aL_s {σ : Sg} {j n : Nat} {x : Int32} {v : Int64} (h : aL σ j n x = some v) : vp_in x n ∧ gL σ j x.toNatClampNeg = v := ifn h
theorem aR_s {n k : Nat} {x : Int32} (h : aR n x = some k) : vp_in x n ∧ x.toNatClampNeg = k := ifn h
theorem aR_lt {n k : Nat} {x : Int32} (h : aR n x = some k) : k < n := by
  obtain ⟨h1, h2⟩ := aR_s h
  subst h2
  exact Nat.not_le.mp fun q => h1 (Or.inr q)
theorem wI_s {σ τ : Sg} {j n : Nat} {x y : Int32} (h : wI σ j n x y = some τ) : vp_in x n ∧ sI σ j x.toNatClampNeg y = τ := ifn h
theorem wL_s {σ τ : Sg} {j n : Nat} {x : Int32} {y : Int64} (h : wL σ j n x y = some τ) : vp_in x n ∧ sL σ j x.toNatClampNeg y = τ := ifn h
theorem nar01 {y : Int32} (h : y = 0 ∨ y = 1) : narrow .boolean (.int y) = .int y ∧ vp_nar .boolean y = y := by
  rcases h with rfl | rfl
  · exact ⟨rfl, rfl⟩
  · exact ⟨rfl, rfl⟩
theorem wZ_s {σ τ : Sg} {j n : Nat} {x y : Int32} (h : wZ σ j n x y = some τ) : vp_in x n ∧ sI σ j x.toNatClampNeg (vp_nar .boolean y) = τ := by
  unfold wZ at h
  by_cases hc : y = 0 ∨ y = 1
  · rw [if_pos hc] at h; rw [(nar01 hc).2]; exact wI_s h
  · rw [if_neg hc] at h; cases h
theorem zr_s {x v : Int32} (h : zr x = some v) : x = v ∧ narrow .boolean (.int x) = .int x := by
  unfold zr at h
  by_cases hc : x = 0 ∨ x = 1
  · rw [if_pos hc] at h; exact ⟨Option.some.inj h, (nar01 hc).1⟩
  · rw [if_neg hc] at h; cases h
/-- fuel -/
def FU : Nat := 1000000
def lpG {α β : Type} (body : α → Sg → Option ((α ⊕ β) × Sg)) : Nat → α → Sg → Option (β × Sg)
  | 0, _, _ => none
  | n + 1, a, σ => match body a σ with
    | none => none
    | some (.inl a', σ') => lpG body n a' σ'
    | some (.inr b, σ') => some (b, σ')
def lsub : List (Option Value) → List (Option Value) → Prop
  | [], [] => True
  | none :: a, _ :: b => lsub a b
  | some v :: a, some w :: b => v = w ∧ lsub a b
  | _, _ => False
theorem ls_nil : lsub [] [] := trivial
theorem ls_none {a b : List (Option Value)} {x : Option Value} (h : lsub a b) : lsub (none :: a) (x :: b) := h
theorem ls_some {a b : List (Option Value)} {v : Value} (h : lsub a b) : lsub (some v :: a) (some v :: b) := ⟨rfl, h⟩
theorem lsub_s : ∀ {a b : List (Option Value)}, lsub a b → b.length = a.length ∧ ∀ (j : Nat) (v : Value), a[j]? = some (some v) → b[j]? = some (some v)
  | [], [], _ => ⟨rfl, fun j v h => by simp at h⟩
  | [], _ :: _, h => h.elim
  | none :: a, [], h => h.elim
  | some v :: a, [], h => h.elim
  | none :: a, x :: b, h => by
    obtain ⟨h1, h2⟩ := lsub_s (a := a) (b := b) h
    refine ⟨by simp [h1], fun j v hj => ?_⟩
    match j, hj with
    | 0, hj => simp at hj
    | j + 1, hj => simpa using h2 j v (by simpa using hj)
  | some v :: a, none :: b, h => h.elim
  | some v :: a, some w :: b, h => by
    obtain ⟨rfl, h⟩ := h
    obtain ⟨h1, h2⟩ := lsub_s (a := a) (b := b) h
    refine ⟨by simp [h1], fun j u hj => ?_⟩
    match j, hj with
    | 0, hj => simpa using hj
    | j + 1, hj => simpa using h2 j u (by simpa using hj)
section
variable {S : List Shp} {g : Gl} {M : Mc} {i i' : MI} {rm : Room} {Q : State → Prop} {pc : Nat} {lv lv' : List (Option Value)} {st : List Value} {σ τ : Sg}
theorem V.ls (h : lsub lv' lv) (kk : V S g M i Q pc lv' st σ) : V S g M i Q pc lv st σ := V.weak (lsub_s h).1 (lsub_s h).2 kk
theorem v_aI {j n : Nat} {x v : Int32} (hC : Cx S g M i rm) (hS : S[j]? = some (.inl (0, n))) (ha : aI σ j n x = some v) (hd : decode i.2.1 pc = .ok (.iaload, 1)) (kk : V S g M i Q (pc + 1) lv (.int v :: st) σ) : V S g M i Q pc lv (.int x :: .ref (gad g j) :: st) σ := by
  obtain ⟨h1, rfl⟩ := aI_s ha
  exact v_iald hC hS h1 hd kk
theorem v_aZ {j n : Nat} {x v : Int32} (hC : Cx S g M i rm) (hS : S[j]? = some (.inl (2, n))) (ha : aI σ j n x = some v) (hd : decode i.2.1 pc = .ok (.baload, 1)) (kk : V S g M i Q (pc + 1) lv (.int v :: st) σ) : V S g M i Q pc lv (.int x :: .ref (gad g j) :: st) σ := by
  obtain ⟨h1, rfl⟩ := aI_s ha
  exact v_zald hC hS h1 hd kk
theorem v_aL {j n : Nat} {x : Int32} {v : Int64} (hC : Cx S g M i rm) (hS : S[j]? = some (.inl (1, n))) (ha : aL σ j n x = some v) (hd : decode i.2.1 pc = .ok (.laload, 1)) (kk : V S g M i Q (pc + 1) lv (.long v :: st) σ) : V S g M i Q pc lv (.int x :: .ref (gad g j) :: st) σ := by
  obtain ⟨h1, rfl⟩ := aL_s ha
  exact v_lald hC hS h1 hd kk
theorem v_aR {j n t k : Nat} {C : String} {x : Int32} (hC : Cx S g M i rm) (hS : S[j]? = some (.inl (t + 3, n))) (hty : (gty g)[t + 3]? = some (g.2.2.2 (t + 3), .object C)) (ha : aR n x = some k) (hd : decode i.2.1 pc = .ok (.aaload, 1)) (kk : V S g M i Q (pc + 1) lv (.ref (gad g (rix t k)) :: st) σ) : V S g M i Q pc lv (.int x :: .ref (gad g j) :: st) σ := by
  obtain ⟨h1, rfl⟩ := aR_s ha
  exact v_aald (cA := 0) hC hS hty h1 hd kk
theorem v_wI {j n : Nat} {x y : Int32} (hC : Cx S g M i rm) (hS : S[j]? = some (.inl (0, n))) (ha : wI σ j n x y = some τ) (hd : decode i.2.1 pc = .ok (.iastore, 1)) (kk : V S g M i Q (pc + 1) lv st τ) : V S g M i Q pc lv (.int y :: .int x :: .ref (gad g j) :: st) σ := by
  obtain ⟨h1, rfl⟩ := wI_s ha
  exact v_iast hC hS h1 hd kk
theorem v_wZ {j n : Nat} {x y : Int32} (hC : Cx S g M i rm) (hS : S[j]? = some (.inl (2, n))) (ha : wZ σ j n x y = some τ) (hd : decode i.2.1 pc = .ok (.bastore, 1)) (kk : V S g M i Q (pc + 1) lv st τ) : V S g M i Q pc lv (.int y :: .int x :: .ref (gad g j) :: st) σ := by
  obtain ⟨h1, rfl⟩ := wZ_s ha
  exact v_zast hC hS h1 hd kk
theorem v_wL {j n : Nat} {x : Int32} {y : Int64} (hC : Cx S g M i rm) (hS : S[j]? = some (.inl (1, n))) (ha : wL σ j n x y = some τ) (hd : decode i.2.1 pc = .ok (.lastore, 1)) (kk : V S g M i Q (pc + 1) lv st τ) : V S g M i Q pc lv (.long y :: .int x :: .ref (gad g j) :: st) σ := by
  obtain ⟨h1, rfl⟩ := wL_s ha
  exact v_last hC hS h1 hd kk
theorem v_dI {x y v : Int32} (hC : Cx S g M i rm) (ha : dI x y = some v) (hd : decode i.2.1 pc = .ok (.idiv, 1)) (kk : V S g M i Q (pc + 1) lv (.int v :: st) σ) : V S g M i Q pc lv (.int y :: .int x :: st) σ := by
  obtain ⟨h1, rfl⟩ := ifn ha
  exact v_idiv hC h1 hd kk
theorem v_mI {x y v : Int32} (hC : Cx S g M i rm) (ha : mI x y = some v) (hd : decode i.2.1 pc = .ok (.irem, 1)) (kk : V S g M i Q (pc + 1) lv (.int v :: st) σ) : V S g M i Q pc lv (.int y :: .int x :: st) σ := by
  obtain ⟨h1, rfl⟩ := ifn ha
  exact v_irem hC h1 hd kk
theorem v_dL {x y v : Int64} (hC : Cx S g M i rm) (ha : dL x y = some v) (hd : decode i.2.1 pc = .ok (.ldiv, 1)) (kk : V S g M i Q (pc + 1) lv (.long v :: st) σ) : V S g M i Q pc lv (.long y :: .long x :: st) σ := by
  obtain ⟨h1, rfl⟩ := ifn ha
  exact v_ldiv hC h1 hd kk
theorem v_mL {x y v : Int64} (hC : Cx S g M i rm) (ha : mL x y = some v) (hd : decode i.2.1 pc = .ok (.lrem, 1)) (kk : V S g M i Q (pc + 1) lv (.long v :: st) σ) : V S g M i Q pc lv (.long y :: .long x :: st) σ := by
  obtain ⟨h1, rfl⟩ := ifn ha
  exact v_lrem hC h1 hd kk
theorem v_cpO {index j0 j1 n0 n1 fr lo : Nat} {sp dp n : Int32} (hC : Cx S g M i { frames := fr, cells := 0, slots := 0, locals := lo }) (hS0 : S[j0]? = some (.inl (0, n0))) (hS1 : S[j1]? = some (.inl (0, n1))) (ha : cpO σ j0 n0 j1 n1 sp dp n = some τ)
    (hlink : Cond.methodLink i.1.cls index arraycopyName ∈ gtb) (hnat : Cond.native arraycopyName ∈ gtb) (hstat : Cond.static arraycopyName ∈ gtb) (hini : Cond.initialized "java/lang/System" ∈ gtb)
    (hfr : Nat.ble 1 fr = true) (hlo : Nat.ble (nativeFrameWords "java/lang/System" "arraycopy" 5 + 11) lo = true) (hd : decode i.2.1 pc = .ok (.invokestatic index, 3)) (kk : V S g M i Q (pc + 3) lv [] τ) : V S g M i Q pc lv [.int n, .int dp, .ref (gad g j1), .int sp, .ref (gad g j0)] σ := by
  obtain ⟨h1, rfl⟩ := ifn ha
  simp only [not_or] at h1
  obtain ⟨a1, a2, a3, a4, a5⟩ := h1
  exact v_acopy hC hS0 hS1 a1 a2 a3 (Nat.not_lt.mp a4) (Nat.not_lt.mp a5) hlink hnat hstat hini (Nat.le_of_ble_eq_true hfr) (Nat.le_of_ble_eq_true hlo) hd kk
theorem v_pI {index j ci : Nat} {ks : List Nat} {q : vw_C} {x : Int32} (k : Nat) (hC : Cx S g M i rm) (hS : S[j]? = some (.inr (ci, ks))) (hc : classes[ci]? = some q) (hk : Nat.blt k q.2.2 = true) (ht : ks[k]? = some 0) (hfin : (q.2.1 k).2.2.2 = false) (hn : narrow (en_ty ci k) (.int x) = .int x) (hfit : fits (en_ty ci k) (.int x) = true) (hlink : Cond.fieldLink i.1.cls index (q.2.1 k).1 (q.2.1 k).2.1 (q.2.1 k).2.2.1 ∈ gtb) (hτ : sI σ j k x = τ) (hd : decode i.2.1 pc = .ok (.putfield index, 3)) (kk : V S g M i Q (pc + 3) lv st τ) : V S g M i Q pc lv (.int x :: .ref (gad g j) :: st) σ := by
  subst hτ
  exact v_putI k hC hS hc (by simpa [Nat.blt_eq] using hk) ht hfin hn hfit hlink hd kk
theorem v_pIN {index j ci : Nat} {ks : List Nat} {q : vw_C} {x : Int32} {host : String} (k : Nat) (hC : Cx S g M i rm) (hS : S[j]? = some (.inr (ci, ks))) (hc : classes[ci]? = some q) (hk : Nat.blt k q.2.2 = true) (ht : ks[k]? = some 0) (hfin : (q.2.1 k).2.2.2 = false) (hn : narrow (en_ty ci k) (.int x) = .int x) (hfit : fits (en_ty ci k) (.int x) = true) (hlink : Cond.fieldLinkNest i.1.cls index (q.2.1 k).1 (q.2.1 k).2.1 (q.2.1 k).2.2.1 host ∈ nst) (hτ : sI σ j k x = τ) (hd : decode i.2.1 pc = .ok (.putfield index, 3)) (kk : V S g M i Q (pc + 3) lv st τ) : V S g M i Q pc lv (.int x :: .ref (gad g j) :: st) σ := by
  subst hτ
  exact v_putIN k hC hS hc (by simpa [Nat.blt_eq] using hk) ht hfin hn hfit hlink hd kk
theorem v_pL {index j ci : Nat} {ks : List Nat} {q : vw_C} {x : Int64} (k : Nat) (hC : Cx S g M i rm) (hS : S[j]? = some (.inr (ci, ks))) (hc : classes[ci]? = some q) (hk : Nat.blt k q.2.2 = true) (ht : ks[k]? = some 1) (hfin : (q.2.1 k).2.2.2 = false) (hn : narrow (en_ty ci k) (.long x) = .long x) (hfit : fits (en_ty ci k) (.long x) = true) (hlink : Cond.fieldLink i.1.cls index (q.2.1 k).1 (q.2.1 k).2.1 (q.2.1 k).2.2.1 ∈ gtb) (hτ : sL σ j k x = τ) (hd : decode i.2.1 pc = .ok (.putfield index, 3)) (kk : V S g M i Q (pc + 3) lv st τ) : V S g M i Q pc lv (.long x :: .ref (gad g j) :: st) σ := by
  subst hτ
  exact v_putL k hC hS hc (by simpa [Nat.blt_eq] using hk) ht hfin hn hfit hlink hd kk
theorem v_gt {index j ci t : Nat} {ks : List Nat} {q : vw_C} (k : Nat) (v : Value) (hC : Cx S g M i rm) (hS : S[j]? = some (.inr (ci, ks))) (hc : classes[ci]? = some q) (hk : Nat.blt k q.2.2 = true) (ht : ks[k]? = some t) (hv : fv g σ j k t = v) (hlink : Cond.fieldLink i.1.cls index (q.2.1 k).1 (q.2.1 k).2.1 (q.2.1 k).2.2.1 ∈ gtb) (hd : decode i.2.1 pc = .ok (.getfield index, 3)) (kk : V S g M i Q (pc + 3) lv (v :: st) σ) : V S g M i Q pc lv (.ref (gad g j) :: st) σ := v_get k hC hS hc (by simpa [Nat.blt_eq] using hk) ht hv hlink hd kk
theorem v_gtN {index j ci t : Nat} {ks : List Nat} {q : vw_C} {host : String} (k : Nat) (v : Value) (hC : Cx S g M i rm) (hS : S[j]? = some (.inr (ci, ks))) (hc : classes[ci]? = some q) (hk : Nat.blt k q.2.2 = true) (ht : ks[k]? = some t) (hv : fv g σ j k t = v) (hlink : Cond.fieldLinkNest i.1.cls index (q.2.1 k).1 (q.2.1 k).2.1 (q.2.1 k).2.2.1 host ∈ nst) (hd : decode i.2.1 pc = .ok (.getfield index, 3)) (kk : V S g M i Q (pc + 3) lv (v :: st) σ) : V S g M i Q pc lv (.ref (gad g j) :: st) σ := v_getN k hC hS hc (by simpa [Nat.blt_eq] using hk) ht hv hlink hd kk
theorem v_loop {α β : Type} {body : α → Sg → Option ((α ⊕ β) × Sg)} (lvH : α → List (Option Value)) (X : β → Sg → Prop) (hb : ∀ (a : α) (σ : Sg) (u : (α ⊕ β) × Sg), body a σ = some u → (∀ a', u.1 = .inl a' → V S g M i Q pc (lvH a') st u.2) → (∀ b, u.1 = .inr b → X b u.2) → V S g M i Q pc (lvH a) st σ) : ∀ (n : Nat) (a : α) (σ : Sg) (w : β × Sg), lpG body n a σ = some w → X w.1 w.2 → V S g M i Q pc (lvH a) st σ
  | 0, a, σ, w, h, _ => by cases h
  | n + 1, a, σ, w, h, hx => by
    unfold lpG at h
    cases hb1 : body a σ with
    | none => rw [hb1] at h; cases h
    | some u =>
      obtain ⟨u1, u2⟩ := u
      rw [hb1] at h
      cases u1 with
      | inl a' =>
        refine hb a σ _ hb1 (fun a2 e => ?_) (fun b e => by cases e)
        obtain rfl := Sum.inl.inj e
        exact v_loop lvH X hb n a' u2 w h hx
      | inr b =>
        refine hb a σ _ hb1 (fun a2 e => by cases e) (fun b2 e => ?_)
        obtain rfl := Sum.inr.inj e
        have e2 := Option.some.inj h
        subst e2
        exact hx
theorem v_loopR {α ρ ε : Type} {body : α → Sg → Option ((α ⊕ (ρ ⊕ ε)) × Sg)} (lvH : α → List (Option Value)) (Y : ρ → Sg → Prop) (X : ε → Sg → Prop) (hb : ∀ (a : α) (σ : Sg) (u : (α ⊕ (ρ ⊕ ε)) × Sg), body a σ = some u → (∀ a', u.1 = .inl a' → V S g M i Q pc (lvH a') st u.2) → (∀ r, u.1 = .inr (.inl r) → Y r u.2) → (∀ b, u.1 = .inr (.inr b) → X b u.2) → V S g M i Q pc (lvH a) st σ) (n : Nat) (a : α) (σ : Sg) (w : (ρ ⊕ ε) × Sg) (h : lpG body n a σ = some w) (h1 : ∀ r, w.1 = .inl r → Y r w.2) (h2 : ∀ b, w.1 = .inr b → X b w.2) : V S g M i Q pc (lvH a) st σ := by
  refine v_loop lvH (fun b τ => Sum.elim (fun r => Y r τ) (fun x => X x τ) b) (fun a σ u hu k1 k2 => hb a σ u hu k1 (fun r e => k2 _ e) (fun b e => k2 _ e)) n a σ w h ?_
  obtain ⟨w1, w2⟩ := w
  cases w1 with
  | inl r => exact h1 r rfl
  | inr b => exact h2 b rfl
theorem v_cS {index n fr lo fr' lo' : Nat} {stk as : List Value} {r : Option Value} (rest stk' : List Value) (hG : GmS i' n) (hC : Cx S g M i { frames := fr, cells := 0, slots := 0, locals := lo }) (hc : Ct S g i' fr' lo' as σ (Dt r τ)) (hl : Cond.methodLink i.1.cls index i'.1 ∈ gtb) (hn : as.length = n) (hR : Nat.ble (fr' + 1) fr = true) (hR2 : Nat.ble (8 + (i'.2.2.1 + 11) + lo') lo = true) (hstk : stk = as.reverse ++ rest) (hW : Nat.ble (rest.map fun v => v.category).sum 8 = true) (he : r.toList ++ rest = stk') (hd : decode i.2.1 pc = .ok (.invokestatic index, 3)) (kk : V S g M i Q (pc + 3) lv stk' τ) : V S g M i Q pc lv stk σ := v_callS hG hC hc hl hn hR hR2 hstk hW hd (he ▸ kk)
theorem v_cSN {index n fr lo fr' lo' : Nat} {host : String} {stk as : List Value} {r : Option Value} (rest stk' : List Value) (hG : GmS i' n) (hC : Cx S g M i { frames := fr, cells := 0, slots := 0, locals := lo }) (hc : Ct S g i' fr' lo' as σ (Dt r τ)) (hl : Cond.methodLinkNest i.1.cls index i'.1 host ∈ nst) (hn : as.length = n) (hR : Nat.ble (fr' + 1) fr = true) (hR2 : Nat.ble (8 + (i'.2.2.1 + 11) + lo') lo = true) (hstk : stk = as.reverse ++ rest) (hW : Nat.ble (rest.map fun v => v.category).sum 8 = true) (he : r.toList ++ rest = stk') (hd : decode i.2.1 pc = .ok (.invokestatic index, 3)) (kk : V S g M i Q (pc + 3) lv stk' τ) : V S g M i Q pc lv stk σ := v_callSN hG hC hc hl hn hR hR2 hstk hW hd (he ▸ kk)
theorem v_cV {index n fr lo fr' lo' j ci : Nat} {ks : List Nat} {q : vw_C} {stk as : List Value} {r : Option Value} (rest stk' : List Value) (hG : GmV i' n) (hC : Cx S g M i { frames := fr, cells := 0, slots := 0, locals := lo }) (hS0 : S[j]? = some (.inr (ci, ks))) (hq : classes[ci]? = some q) (hq1 : q.1 = i'.1.cls) (hc : Ct S g i' fr' lo' (.ref (gad g j) :: as) σ (Dt r τ)) (hl : Cond.methodLink i.1.cls index i'.1 ∈ gtb) (hn : as.length = n) (hR : Nat.ble (fr' + 1) fr = true) (hR2 : Nat.ble (8 + (i'.2.2.1 + 11) + lo') lo = true) (hstk : stk = as.reverse ++ .ref (gad g j) :: rest) (hW : Nat.ble (rest.map fun v => v.category).sum 8 = true) (he : r.toList ++ rest = stk') (hd : decode i.2.1 pc = .ok (.invokevirtual index, 3)) (kk : V S g M i Q (pc + 3) lv stk' τ) : V S g M i Q pc lv stk σ := v_callV hG hC hS0 hq hq1 hc hl hn hR hR2 hstk hW hd (he ▸ kk)
theorem v_cVN {index n fr lo fr' lo' j ci : Nat} {host : String} {ks : List Nat} {q : vw_C} {stk as : List Value} {r : Option Value} (rest stk' : List Value) (hG : GmV i' n) (hC : Cx S g M i { frames := fr, cells := 0, slots := 0, locals := lo }) (hS0 : S[j]? = some (.inr (ci, ks))) (hq : classes[ci]? = some q) (hq1 : q.1 = i'.1.cls) (hc : Ct S g i' fr' lo' (.ref (gad g j) :: as) σ (Dt r τ)) (hl : Cond.methodLinkNest i.1.cls index i'.1 host ∈ nst) (hn : as.length = n) (hR : Nat.ble (fr' + 1) fr = true) (hR2 : Nat.ble (8 + (i'.2.2.1 + 11) + lo') lo = true) (hstk : stk = as.reverse ++ .ref (gad g j) :: rest) (hW : Nat.ble (rest.map fun v => v.category).sum 8 = true) (he : r.toList ++ rest = stk') (hd : decode i.2.1 pc = .ok (.invokevirtual index, 3)) (kk : V S g M i Q (pc + 3) lv stk' τ) : V S g M i Q pc lv stk σ := v_callVN hG hC hS0 hq hq1 hc hl hn hR hR2 hstk hW hd (he ▸ kk)
theorem v_zr {P : Option Value → Sg → Prop} {x v : Int32} (hC : Cx S g M i rm) (hr : i.2.2.2 = some .boolean) (hv : zr x = some v) (hd : decode i.2.1 pc = .ok (.ireturn, 1)) (hp : P (some (.int v)) σ) : V S g M i (PQ S g M P) pc lv [.int x] σ := by
  obtain ⟨rfl, h2⟩ := zr_s hv
  exact v_zret hC hr h2 hd hp
end
theorem ne_toInt {x k : Int32} (h : ¬ x = k) : x.toInt ≠ k.toInt := fun e => h (Int32.toInt_inj.mp e)
