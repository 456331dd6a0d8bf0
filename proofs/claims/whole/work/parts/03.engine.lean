/-! ENGINE: a pure state (cell, slot), a fixed list of shapes, and one judgement V over the kit's W. -/
/-- the tables' words that hold wherever a call goes -/
def gtb : List Cond := lw_tbl.filter goodWord
theorem gtb_m {w : Cond} (h : w ∈ lw_tbl) (hg : goodWord w = true) : w ∈ gtb := List.mem_filter.mpr ⟨h, hg⟩
abbrev classes : List vw_C := [(RX0, TX0, 2), (RX1, TX1, 7), (RX2, TX2, 4), (RX3, TX3, 9), (RX4, TX4, 1), (RX5, TX5, 4), (RX6, TX6, 8), (RX7, TX7, 2), (RX8, TX8, 10), (RX9, TX9, 4), (RX10, TX10, 10), (RX11, TX11, 34)]
theorem en_in0 : ∀ w ∈ u_ws RX0 TX0 2, w ∈ gtb := by decide +kernel
theorem en_in1 : ∀ w ∈ u_ws RX1 TX1 7, w ∈ gtb := by decide +kernel
theorem en_in2 : ∀ w ∈ u_ws RX2 TX2 4, w ∈ gtb := by decide +kernel
theorem en_in3 : ∀ w ∈ u_ws RX3 TX3 9, w ∈ gtb := by decide +kernel
theorem en_in4 : ∀ w ∈ u_ws RX4 TX4 1, w ∈ gtb := by decide +kernel
theorem en_in5 : ∀ w ∈ u_ws RX5 TX5 4, w ∈ gtb := by decide +kernel
theorem en_in6 : ∀ w ∈ u_ws RX6 TX6 8, w ∈ gtb := by decide +kernel
theorem en_in7 : ∀ w ∈ u_ws RX7 TX7 2, w ∈ gtb := by decide +kernel
theorem en_in8 : ∀ w ∈ u_ws RX8 TX8 10, w ∈ gtb := by decide +kernel
theorem en_in9 : ∀ w ∈ u_ws RX9 TX9 4, w ∈ gtb := by decide +kernel
theorem en_in10 : ∀ w ∈ u_ws RX10 TX10 10, w ∈ gtb := by decide +kernel
theorem en_in11 : ∀ w ∈ u_ws RX11 TX11 34, w ∈ gtb := by decide +kernel
theorem en_in : ∀ (ci : Nat) (q : vw_C), classes[ci]? = some q → ∀ w ∈ u_ws q.1 q.2.1 q.2.2, w ∈ gtb := by
  intro ci q h
  match ci, h with
  | 0, h => cases h; exact en_in0
  | 1, h => cases h; exact en_in1
  | 2, h => cases h; exact en_in2
  | 3, h => cases h; exact en_in3
  | 4, h => cases h; exact en_in4
  | 5, h => cases h; exact en_in5
  | 6, h => cases h; exact en_in6
  | 7, h => cases h; exact en_in7
  | 8, h => cases h; exact en_in8
  | 9, h => cases h; exact en_in9
  | 10, h => cases h; exact en_in10
  | 11, h => cases h; exact en_in11
  | k + 12, h => simp [classes] at h
def en_ty (ci : Nat) : Nat → FieldType := match ci with
  | 0 => tyX0
  | 1 => tyX1
  | 2 => tyX2
  | 3 => tyX3
  | 4 => tyX4
  | 5 => tyX5
  | 6 => tyX6
  | 7 => tyX7
  | 8 => tyX8
  | 9 => tyX9
  | 10 => tyX10
  | _ => tyX11
theorem en_tyok : ∀ (ci : Nat) (q : vw_C), classes[ci]? = some q → ∀ k, k < q.2.2 → parseFieldDescriptor (q.2.1 k).2.2.1 = some (en_ty ci k) := by
  intro ci q h
  match ci, h with
  | 0, h => cases h; exact tyX0_ok
  | 1, h => cases h; exact tyX1_ok
  | 2, h => cases h; exact tyX2_ok
  | 3, h => cases h; exact tyX3_ok
  | 4, h => cases h; exact tyX4_ok
  | 5, h => cases h; exact tyX5_ok
  | 6, h => cases h; exact tyX6_ok
  | 7, h => cases h; exact tyX7_ok
  | 8, h => cases h; exact tyX8_ok
  | 9, h => cases h; exact tyX9_ok
  | 10, h => cases h; exact tyX10_ok
  | 11, h => cases h; exact tyX11_ok
  | k + 12, h => simp [classes] at h
theorem en_nm : ∀ (ci : Nat) (q : vw_C), classes[ci]? = some q → ∀ a, a < q.2.2 → ∀ b, b < q.2.2 → a ≠ b → (q.2.1 a).2.1 ≠ (q.2.1 b).2.1 := by
  intro ci q h
  match ci, h with
  | 0, h => cases h; exact nmX0
  | 1, h => cases h; exact nmX1
  | 2, h => cases h; exact nmX2
  | 3, h => cases h; exact nmX3
  | 4, h => cases h; exact nmX4
  | 5, h => cases h; exact nmX5
  | 6, h => cases h; exact nmX6
  | 7, h => cases h; exact nmX7
  | 8, h => cases h; exact nmX8
  | 9, h => cases h; exact nmX9
  | 10, h => cases h; exact nmX10
  | 11, h => cases h; exact nmX11
  | k + 12, h => simp [classes] at h
theorem gtb_good : GoodIn gtb gtb := fun w h => ⟨h, good_of_word (List.mem_filter.mp h).2⟩
def isNest : Cond → Bool
  | .fieldLinkNest .. => true
  | .methodLinkNest .. => true
  | _ => false
/-- the links between nest mates: they hold by va_Nw -/
def nst : List Cond := lw_tbl.filter isNest
theorem nst_m {w : Cond} (h : w ∈ lw_tbl) (hg : isNest w = true) : w ∈ nst := List.mem_filter.mpr ⟨h, hg⟩
def Nst (U : State) : Prop := ∀ w ∈ nst, va_Nw w U
theorem nst_tab {w : Cond} (h : w ∈ nst) : w.onTables = true := by
  have h1 := (List.mem_filter.mp h).2
  cases w <;> first | rfl | (simp [isNest] at h1)
theorem Nst.warm {s U : State} (hW : s.WarmedH U.vm) (h : Nst s) : Nst U := by
  intro w hw
  have h1 := (List.mem_filter.mp hw).2
  have h2 := h w hw
  cases w with
  | fieldLinkNest => exact va_Nw.warmF hW h2
  | methodLinkNest => exact va_Nw.warmM hW h2
  | _ => simp [isNest] at h1
theorem Nst.same {u U : State} (e : u.vm = U.vm) (h : Nst u) : Nst U := fun w hw => va_Nw.same (nst_tab hw) e (h w hw)
abbrev Sg : Type := (Nat → Nat → Int32) × (Nat → Nat → Int64)
abbrev Shp : Type := (Nat × Nat) ⊕ (Nat × List Nat)
abbrev Gl : Type := Launch × va_G × (Nat → Nat) × (Nat → ClassId)
abbrev MI : Type := MethodName × ByteArray × Nat × Option FieldType
abbrev Mc : Type := Program × Env × Room × State × MethodId × Array Value × List Frame × Method × Code × Nat × Nat × (Nat → Prop)
def gad (g : Gl) (j : Nat) : Nat := g.2.2.1 j
def gI (σ : Sg) (j k : Nat) : Int32 := σ.1 j k
def gL (σ : Sg) (j k : Nat) : Int64 := σ.2 j k
def sI (σ : Sg) (j k : Nat) (v : Int32) : Sg := (fun a => if a = j then upd (σ.1 a) k v else σ.1 a, σ.2)
def sL (σ : Sg) (j k : Nat) (v : Int64) : Sg := (σ.1, fun a => if a = j then vp_updL (σ.2 a) k v else σ.2 a)
def gty (g : Gl) : List (ClassId × FieldType) := [(g.2.2.2 0, .int), (g.2.2.2 1, .long), (g.2.2.2 2, .boolean), (g.2.2.2 3, .object "LaneFour$Text"), (g.2.2.2 4, .object "LaneFour$Sheet")]
/-- the cells of texts[x] (0) and sheets[x] (1) -/
def rix (t x : Nat) : Nat := match t with
  | 0 => 30 + 2 * x
  | _ => 40 + 2 * x
def fv (g : Gl) (σ : Sg) (j k t : Nat) : Value := match t with
  | 0 => .int (gI σ j k)
  | 1 => .long (gL σ j k)
  | n + 2 => .ref (gad g n)
def cE (g : Gl) (σ : Sg) (j : Nat) (s : Shp) : va_E := match s with
  | .inl (0, n) => .inl (g.2.2.2 0, n, .inl (gI σ j))
  | .inl (1, n) => .inl (g.2.2.2 1, n, .inr (.inl (gL σ j)))
  | .inl (2, n) => .inl (g.2.2.2 2, n, .inl (gI σ j))
  | .inl (t + 3, n) => .inl (g.2.2.2 (t + 3), n, .inr (.inr (.inr (.inr (fun x => some (gad g (rix t x)))))))
  | .inr (ci, ks) => .inr (ci, ks.mapIdx (fun k t => fv g σ j k t))
def wd (S : List Shp) (g : Gl) (σ : Sg) : va_W := S.mapIdx (fun j s => (gad g j, cE g σ j s))
theorem wd_at {S : List Shp} {g : Gl} {σ : Sg} {j : Nat} {s : Shp} (h : S[j]? = some s) : (wd S g σ)[j]? = some (gad g j, cE g σ j s) := by simp [wd, h]
theorem wd_of {S : List Shp} {g : Gl} {σ : Sg} {j : Nat} {q : Nat × va_E} (h : (wd S g σ)[j]? = some q) : ∃ s, S[j]? = some s ∧ q = (gad g j, cE g σ j s) := by
  simp only [wd, List.getElem?_mapIdx] at h
  cases hs : S[j]? with
  | none => rw [hs] at h; cases h
  | some s => rw [hs] at h; exact ⟨s, rfl, (Option.some.inj h).symm⟩
theorem gI_same (σ : Sg) (j k : Nat) (v : Int32) : gI (sI σ j k v) j k = v := by simp [gI, sI, upd]
theorem gI_ne (σ : Sg) {j k a b : Nat} (v : Int32) (h : a ≠ j ∨ b ≠ k) : gI (sI σ j k v) a b = gI σ a b := by
  simp only [gI, sI]
  by_cases e : a = j
  · subst e
    rcases h with h | h
    · exact absurd rfl h
    · simp [upd, h]
  · simp [e]
theorem gI_row (σ : Sg) {j k a : Nat} (v : Int32) (h : a ≠ j) : gI (sI σ j k v) a = gI σ a := by funext b; exact gI_ne σ v (Or.inl h)
theorem gL_sI (σ : Sg) (j k : Nat) (v : Int32) : gL (sI σ j k v) = gL σ := rfl
theorem gI_sL (σ : Sg) (j k : Nat) (v : Int64) : gI (sL σ j k v) = gI σ := rfl
theorem gL_same (σ : Sg) (j k : Nat) (v : Int64) : gL (sL σ j k v) j k = v := by simp [gL, sL, vp_updL]
theorem gL_ne (σ : Sg) {j k a b : Nat} (v : Int64) (h : a ≠ j ∨ b ≠ k) : gL (sL σ j k v) a b = gL σ a b := by
  simp only [gL, sL]
  by_cases e : a = j
  · subst e
    rcases h with h | h
    · exact absurd rfl h
    · simp [vp_updL, h]
  · simp [e]
theorem gL_row (σ : Sg) {j k a : Nat} (v : Int64) (h : a ≠ j) : gL (sL σ j k v) a = gL σ a := by funext b; exact gL_ne σ v (Or.inl h)
theorem gI_set (σ : Sg) (j k : Nat) (v : Int32) (a b : Nat) : gI (sI σ j k v) a b = if a = j ∧ b = k then v else gI σ a b := by
  by_cases h : a = j ∧ b = k
  · rw [if_pos h, h.1, h.2, gI_same]
  · rw [if_neg h]
    exact gI_ne σ v (by by_cases e : a = j; exact Or.inr (fun f => h ⟨e, f⟩); exact Or.inl e)
theorem gL_set (σ : Sg) (j k : Nat) (v : Int64) (a b : Nat) : gL (sL σ j k v) a b = if a = j ∧ b = k then v else gL σ a b := by
  by_cases h : a = j ∧ b = k
  · rw [if_pos h, h.1, h.2, gL_same]
  · rw [if_neg h]
    exact gL_ne σ v (by by_cases e : a = j; exact Or.inr (fun f => h ⟨e, f⟩); exact Or.inl e)
theorem cE_I {g : Gl} {σ : Sg} {j k a : Nat} {v : Int32} (h : a ≠ j) (s : Shp) : cE g (sI σ j k v) a s = cE g σ a s := by
  have hI := gI_row σ (k := k) v h
  have hL := gL_sI σ j k v
  rcases s with ⟨t, n⟩ | ⟨ci, ks⟩
  · match t with
    | 0 => simp only [cE, hI]
    | 1 => simp only [cE, hL]
    | 2 => simp only [cE, hI]
    | t + 3 => rfl
  · simp only [cE]
    congr 2
    apply List.ext_getElem?
    intro x
    simp only [List.getElem?_mapIdx]
    congr 1
    funext t
    match t with
    | 0 => simp only [fv, hI]
    | 1 => simp only [fv, hL]
    | t + 2 => rfl
theorem cE_L {g : Gl} {σ : Sg} {j k a : Nat} {v : Int64} (h : a ≠ j) (s : Shp) : cE g (sL σ j k v) a s = cE g σ a s := by
  have hI := gI_sL σ j k v
  have hL := gL_row σ (k := k) v h
  rcases s with ⟨t, n⟩ | ⟨ci, ks⟩
  · match t with
    | 0 => simp only [cE, hI]
    | 1 => simp only [cE, hL]
    | 2 => simp only [cE, hI]
    | t + 3 => rfl
  · simp only [cE]
    congr 2
    apply List.ext_getElem?
    intro x
    simp only [List.getElem?_mapIdx]
    congr 1
    funext t
    match t with
    | 0 => simp only [fv, hI]
    | 1 => simp only [fv, hL]
    | t + 2 => rfl
theorem wd_setI {S : List Shp} {g : Gl} {σ : Sg} {j k : Nat} {v : Int32} {s : Shp} {e : va_E} (h : S[j]? = some s) (he : cE g (sI σ j k v) j s = e) : (wd S g σ).set j (gad g j, e) = wd S g (sI σ j k v) := by
  apply List.ext_getElem?
  intro a
  by_cases hj : a = j
  · subst hj
    rw [List.getElem?_set_self (by simp [wd]; exact (List.getElem?_eq_some_iff.mp h).1), wd_at h, he]
  · rw [List.getElem?_set_ne (Ne.symm hj)]
    simp only [wd, List.getElem?_mapIdx]
    congr 1
    funext s'
    rw [cE_I hj]
theorem wd_setL {S : List Shp} {g : Gl} {σ : Sg} {j k : Nat} {v : Int64} {s : Shp} {e : va_E} (h : S[j]? = some s) (he : cE g (sL σ j k v) j s = e) : (wd S g σ).set j (gad g j, e) = wd S g (sL σ j k v) := by
  apply List.ext_getElem?
  intro a
  by_cases hj : a = j
  · subst hj
    rw [List.getElem?_set_self (by simp [wd]; exact (List.getElem?_eq_some_iff.mp h).1), wd_at h, he]
  · rw [List.getElem?_set_ne (Ne.symm hj)]
    simp only [wd, List.getElem?_mapIdx]
    congr 1
    funext s'
    rw [cE_L hj]
def gap (S : List Shp) (g : Gl) : Prop := ∀ a b : Nat, a < S.length → b < S.length → gad g a = gad g b → a = b
theorem wd_D {S : List Shp} {g : Gl} {A : Nat → Prop} (hg : gap S g) (hA : ∀ k, k < S.length → A (gad g k)) (σ : Sg) : va_D A (wd S g σ) := by
  refine ⟨fun i j p q hi hj hpq => ?_, fun k q hk => ?_⟩
  · obtain ⟨s1, h1, rfl⟩ := wd_of hi
    obtain ⟨s2, h2, rfl⟩ := wd_of hj
    exact hg i j (List.getElem?_eq_some_iff.mp h1).1 (List.getElem?_eq_some_iff.mp h2).1 hpq
  · obtain ⟨s1, h1, rfl⟩ := wd_of hk
    exact hA k (List.getElem?_eq_some_iff.mp h1).1
/-- the machine's side of a method under way -/
def Cx (S : List Shp) (g : Gl) (M : Mc) (i : MI) (rm : Room) : Prop := match M with
  | (p, _, R, s, m, args, _, meth, c, cells, slots, A) => p.tables.exec = Jvm.exec ∧ c.code = i.2.1 ∧ c.maxLocals = i.2.2.1 ∧ s.vm.findClass i.1.cls = some m.cls ∧ (∀ w ∈ gtb, w.before args s = true) ∧ va_K g.2.1 classes (gty g) s ∧ meth.sig.returnType = i.2.2.2 ∧ meth.locks = false ∧ R = rm ∧ (cells + 0 ≤ R.cells ∧ slots + 0 ≤ R.slots) ∧ gap S g ∧ (∀ k, k < S.length → A (gad g k)) ∧ (∀ q, s.heap.size ≤ q → A q) ∧ Nst s
def lvh (ls : Array Slot) (lv : List (Option Value)) (n : Nat) : Prop := lv.length = n ∧ ls.size = n ∧ lv_wf ls ∧ ∀ (i : Nat) (v : Value), lv[i]? = some (some v) → ls[i]? = some (.val v)
def V (S : List Shp) (g : Gl) (M : Mc) (i : MI) (Q : State → Prop) (pc : Nat) (lv : List (Option Value)) (st : List Value) (σ : Sg) : Prop := match M with
  | (p, e, R, s, m, args, below, meth, c, cells, slots, A) => ∀ (H : Heap) (locs : List Loc) (ls : Array Slot), va_P g.2.1 classes (wd S g σ) H → va_S A s.heap H locs → lvh ls lv i.2.2.1 → W p g.1 e R s m args below meth c H locs cells slots Q (F0 m pc ls st)
def Qc (S : List Shp) (g : Gl) (P : Option Value → Sg → Prop) (A : Nat → Prop) : Array Value → State → Outcome → State → Prop := fun _ st oc t => (∃ (r : Option Value) (τ : Sg), oc = .returned r ∧ P r τ ∧ va_P g.2.1 classes (wd S g τ) t.heap ∧ va_K g.2.1 classes (gty g) t) ∧ va_F A st t
def Aw (S : List Shp) (g : Gl) (sz : Nat) : Nat → Prop := fun q => (∃ k, k < S.length ∧ q = gad g k) ∨ sz ≤ q
def PQ (S : List Shp) (g : Gl) (M : Mc) (P : Option Value → Sg → Prop) : State → Prop := match M with
  | (_, _, _, s, _, args, below, _, _, cells, slots, A) => MQ below (Qc S g P A) args s cells slots A
/-- a method's contract -/
def Ct (S : List Shp) (g : Gl) (i : MI) (fr lo : Nat) (as : List Value) (σ : Sg) (P : Option Value → Sg → Prop) : Prop := ∀ sz : Nat, Met g.1 i.1 (Cond.code i.1 i.2.1 i.2.2.1 i.2.2.2 :: gtb) { frames := fr, cells := 0, slots := 0, locals := lo } (va_Pc as (fun U => U.heap.size = sz ∧ va_P g.2.1 classes (wd S g σ) U.heap ∧ va_K g.2.1 classes (gty g) U ∧ gap S g ∧ Nst U)) (Qc S g P (Aw S g sz)) 0 0 (Aw S g sz)
def Dt (r0 : Option Value) (σ0 : Sg) : Option Value → Sg → Prop := fun r τ => r = r0 ∧ τ = σ0
theorem Ct.mono {S : List Shp} {g : Gl} {i : MI} {fr lo : Nat} {as : List Value} {σ : Sg} {P P' : Option Value → Sg → Prop} (h : Ct S g i fr lo as σ P) (hp : ∀ r τ, P r τ → P' r τ) : Ct S g i fr lo as σ P' := by
  intro sz p e ha hc hk s m args below hf
  have h1 := h sz p e ha hc hk s m args below hf
  intro h2 h3 h4
  obtain ⟨t, o, q1, q2, q3, ⟨⟨r, τ, e1, e2, e3⟩, q5⟩, q6⟩ := h1 h2 h3 h4
  exact ⟨t, o, q1, q2, q3, ⟨⟨r, τ, e1, hp r τ e2, e3⟩, q5⟩, q6⟩
/-- positions of the locals that arguments take -/
def ent : List Value → List (Option Value)
  | [] => []
  | v :: vs => if v.category = 2 then some v :: none :: ent vs else some v :: ent vs
theorem ent_len : ∀ vs : List Value, (ent vs).length = (lg_sl vs).length
  | [] => rfl
  | v :: vs => by
    have ih := ent_len vs
    by_cases h : v.category = 2
    · simp [ent, lg_sl, h] at ih ⊢; omega
    · simp [ent, lg_sl, h] at ih ⊢; omega
theorem ent_args : ∀ (vs : List Value) (k i : Nat) (v : Value), (ent vs)[i]? = some (some v) → (k + i, v) ∈ lv_args k vs
  | [], k, i, v, h => by simp [ent] at h
  | w :: vs, k, i, v, h => by
    by_cases hc : w.category = 2
    · rw [show ent (w :: vs) = some w :: none :: ent vs by simp [ent, hc]] at h
      rw [lv_args, if_pos hc]
      match i, h with
      | 0, h => simp at h; subst h; simp
      | 1, h => simp at h
      | i + 2, h =>
        have := ent_args vs (k + 2) i v (by simpa using h)
        exact List.mem_cons_of_mem _ (by rw [show k + (i + 2) = k + 2 + i by omega]; exact this)
    · rw [show ent (w :: vs) = some w :: ent vs by simp [ent, hc]] at h
      rw [lv_args, if_neg hc]
      match i, h with
      | 0, h => simp at h; subst h; simp
      | i + 1, h =>
        have := ent_args vs (k + 1) i v (by simpa using h)
        exact List.mem_cons_of_mem _ (by rw [show k + (i + 1) = k + 1 + i by omega]; exact this)
theorem Ct.ofV {S : List Shp} {g : Gl} {i : MI} {fr lo : Nat} {as : List Value} {σ : Sg} {P : Option Value → Sg → Prop} (hy : plainName i.1.cls = true) (n : Nat) {lv0 : List (Option Value)} (hl : ent as ++ List.replicate n none = lv0) (hlen : lv0.length = i.2.2.1)
    (body : ∀ M : Mc, Cx S g M i { frames := fr, cells := 0, slots := 0, locals := lo } → V S g M i (PQ S g M P) 0 lv0 [] σ) : Ct S g i fr lo as σ P := by
  intro sz
  refine Met.ofW (cc := i.2.1) (maxL := i.2.2.1) (ret := i.2.2.2) hy rfl ?_
  intro p e s m args below meth c s₁ B hml hv
  obtain ⟨rfl, hsz, hP, hK, hg, hN⟩ := hv
  subst hsz
  have hts := atoms_spec (ws := Cond.code i.1 i.2.1 i.2.2.1 i.2.2.2 :: gtb) B.pre
  have hC : Cx S g (p, e, { frames := fr, cells := 0, slots := 0, locals := lo }, s, m, as.toArray, below, meth, c, 0, 0, Aw S g s.heap.size) i { frames := fr, cells := 0, slots := 0, locals := lo } := by
    exact ⟨B.exec, B.bytes, hml, findClass_of_methodNamed B.named, fun w hw => hts w (List.mem_cons_of_mem _ hw), hK, B.returns, B.notSynchronized, rfl, ⟨Nat.le_refl _, Nat.le_refl _⟩, hg, fun k hk => Or.inl ⟨k, hk, rfl⟩, fun q hq => Or.inr hq, hN⟩
  have hn : (lg_sl as).length ≤ i.2.2.1 := by
    rw [← hlen, ← hl, List.length_append, ent_len]; omega
  have he := lv_entry as hn
  rw [lg_entry_eq]
  refine body _ hC s.heap [] _ hP va_S.rf ⟨hlen, he.1, he.2.1, fun j v hj => he.2.2 (j, v) ?_⟩
  rw [← hl] at hj
  by_cases hlt : j < (ent as).length
  · rw [List.getElem?_append_left hlt] at hj
    simpa using ent_args as 0 j v hj
  · rw [List.getElem?_append_right (by omega)] at hj
    have := List.mem_of_getElem? hj
    simp at this
