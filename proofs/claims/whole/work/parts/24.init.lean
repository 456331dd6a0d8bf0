/-! constructors: a judgement over growing worlds -/
abbrev Mu : Type := Program × Env × Room × State × MethodId × Array Value × List Frame × Method × Code × (Nat → Prop)
def AOs (U : State) : Prop := va_AO "LaneFour$Text" U ∧ va_AO "LaneFour$Sheet" U
theorem AOs.moved {u U : State} (hvm : u.vm.Alike U.vm) (h : AOs u) : AOs U := ⟨va_AO.moved hvm h.1, va_AO.moved hvm h.2⟩
def CxU (g : Gl) (M : Mu) (i : MI) (rm : Room) : Prop := match M with
  | (p, _, R, s, m, args, _, meth, c, A) => p.tables.exec = Jvm.exec ∧ c.code = i.2.1 ∧ c.maxLocals = i.2.2.1 ∧ s.vm.findClass i.1.cls = some m.cls ∧ (∀ w ∈ gtb, w.before args s = true) ∧ va_K g.2.1 classes (gty g) s ∧ meth.sig.returnType = i.2.2.2 ∧ meth.locks = false ∧ R = rm ∧ (∀ q, s.heap.size ≤ q → A q) ∧ (i.1.name = "<init>" → meth.name = "<init>") ∧ AOs s
def UU (g : Gl) (M : Mu) (i : MI) (Q : State → Prop) (pc : Nat) (lv : List (Option Value)) (st : List Value) (ws : va_W) (cells slots : Nat) : Prop := match M with
  | (p, e, R, s, m, args, below, meth, c, A) => ∀ (H : Heap) (locs : List Loc) (ls : Array Slot), va_P g.2.1 classes ws H → va_D A ws → va_S A s.heap H locs → lvh ls lv i.2.2.1 → W p g.1 e R s m args below meth c H locs cells slots Q (F0 m pc ls st)
def QcU (g : Gl) (ws0 : va_W) (sz : Nat) (w1 : va_W → Prop) : Array Value → State → Outcome → State → Prop := fun _ st oc t => (oc = .returned none ∧ ∃ w, w1 w ∧ va_P g.2.1 classes w t.heap ∧ va_D (va_A ws0 sz) w) ∧ va_F (va_A ws0 sz) st t
def PcU (g : Gl) (as : List Value) (ws0 : va_W) (sz : Nat) : Array Value → State → Prop := va_Pc as (fun U => U.heap.size = sz ∧ va_P g.2.1 classes ws0 U.heap ∧ va_D (fun _ => True) ws0 ∧ va_K g.2.1 classes (gty g) U ∧ AOs U)
/-- a constructor's contract: from its own new cell alone to a world of such a form -/
def CtU (g : Gl) (i : MI) (fr lo mc ms : Nat) (as : List Value) (ws0 : va_W) (w1 : va_W → Prop) : Prop := ∀ sz : Nat, Met g.1 i.1 (Cond.code i.1 i.2.1 i.2.2.1 i.2.2.2 :: gtb) { frames := fr, cells := mc, slots := ms, locals := lo } (PcU g as ws0 sz) (QcU g ws0 sz w1) mc ms (va_A ws0 sz)
def PQU (g : Gl) (M : Mu) (ws0 : va_W) (w1 : va_W → Prop) (mc ms : Nat) : State → Prop := match M with
  | (_, _, _, s, _, args, below, _, _, A) => MQ below (fun _ st oc t => (oc = .returned none ∧ ∃ w, w1 w ∧ va_P g.2.1 classes w t.heap ∧ va_D A w) ∧ va_F A st t) args s mc ms A
theorem CtU.ofU {g : Gl} {i : MI} {fr lo mc ms : Nat} {as : List Value} {ws0 : va_W} {w1 : va_W → Prop} (hy : plainName i.1.cls = true) (n : Nat) {lv0 : List (Option Value)} (hl : ent as ++ List.replicate n none = lv0) (hlen : lv0.length = i.2.2.1)
    (body : ∀ M : Mu, CxU g M i { frames := fr, cells := mc, slots := ms, locals := lo } → UU g M i (PQU g M ws0 w1 mc ms) 0 lv0 [] ws0 0 0) : CtU g i fr lo mc ms as ws0 w1 := by
  intro sz
  refine Met.ofW (cc := i.2.1) (maxL := i.2.2.1) (ret := i.2.2.2) hy rfl ?_
  intro p e s m args below meth c s₁ B hml hv
  obtain ⟨rfl, hsz, hP, hD, hK, hAO⟩ := hv
  subst hsz
  have hts := atoms_spec (ws := Cond.code i.1 i.2.1 i.2.2.1 i.2.2.2 :: gtb) B.pre
  have hC : CxU g (p, e, { frames := fr, cells := mc, slots := ms, locals := lo }, s, m, as.toArray, below, meth, c, va_A ws0 s.heap.size) i { frames := fr, cells := mc, slots := ms, locals := lo } := by
    exact ⟨B.exec, B.bytes, hml, findClass_of_methodNamed B.named, fun w hw => hts w (List.mem_cons_of_mem _ hw), hK, B.returns, B.notSynchronized, rfl, fun q hq => Or.inr hq, fun h => (name_of_methodNamed B.named B.method).1.trans h, hAO⟩
  have hn : (lg_sl as).length ≤ i.2.2.1 := by
    rw [← hlen, ← hl, List.length_append, ent_len]; omega
  have he := lv_entry as hn
  rw [lg_entry_eq]
  refine body _ hC s.heap [] _ hP hD.self va_S.rf ⟨hlen, he.1, he.2.1, fun j v hj => he.2.2 (j, v) ?_⟩
  rw [← hl] at hj
  by_cases hlt : j < (ent as).length
  · rw [List.getElem?_append_left hlt] at hj
    simpa using ent_args as 0 j v hj
  · rw [List.getElem?_append_right (by omega)] at hj
    have := List.mem_of_getElem? hj
    simp at this
theorem nd_of : ∀ l : List Nat, l.Nodup → va_nd l = true
  | [], _ => rfl
  | a :: l, h => by
    obtain ⟨h1, h2⟩ := List.nodup_cons.mp h
    simp [va_nd, h1, nd_of l h2]
theorem nd_range (n : Nat) : va_nd (List.range n) = true := nd_of _ List.nodup_range
theorem ctu_blind {g : Gl} {as : List Value} {ws0 : va_W} {sz : Nat} : FrameBlind (PcU g as ws0 sz) := by
  intro a U gf mk q
  obtain ⟨q0, q1, qP, qD, qK, qA⟩ := q
  exact ⟨q0, q1, qP, qD, va_K.moved (u := U) (U := U.calling gf mk a) (Vm.Alike.refl U.vm) qK, AOs.moved (u := U) (U := U.calling gf mk a) (Vm.Alike.refl U.vm) qA⟩
section
variable {g : Gl} {M : Mu} {i i' : MI} {rm : Room} {Q : State → Prop} {pc : Nat} {lv lv' : List (Option Value)} {st : List Value} {ws : va_W} {cells slots : Nat}
theorem u_iconst {n : Int} (v : Int32) (hv : Int32.ofInt n = v) (hC : CxU g M i rm)  (hd : decode i.2.1 pc = .ok (.iconst n, 1)) (kk : UU g M i Q (pc + 1) lv (.int v :: st) ws cells slots) : UU g M i Q pc lv (st) ws cells slots := by
  obtain ⟨p, e, R, s, m, args, below, meth, c, A⟩ := M
  intro H locs ls hP hD hS hl
  obtain ⟨hx, hb, hml, hown, hts, hK, hret, hlk, hR, hA, hnm, hAO⟩ := hC
  exact lv_iconst hx hb hd hv (kk H locs ls hP hD hS hl)
theorem u_bipush {n : Int} (v : Int32) (hv : (Int8.ofInt n).toInt32 = v) (hC : CxU g M i rm)  (hd : decode i.2.1 pc = .ok (.bipush n, 2)) (kk : UU g M i Q (pc + 2) lv (.int v :: st) ws cells slots) : UU g M i Q pc lv (st) ws cells slots := by
  obtain ⟨p, e, R, s, m, args, below, meth, c, A⟩ := M
  intro H locs ls hP hD hS hl
  obtain ⟨hx, hb, hml, hown, hts, hK, hret, hlk, hR, hA, hnm, hAO⟩ := hC
  exact lv_bipush hx hb hd hv (kk H locs ls hP hD hS hl)
theorem u_sipush {n : Int} (v : Int32) (hv : (Int16.ofInt n).toInt32 = v) (hC : CxU g M i rm)  (hd : decode i.2.1 pc = .ok (.sipush n, 3)) (kk : UU g M i Q (pc + 3) lv (.int v :: st) ws cells slots) : UU g M i Q pc lv (st) ws cells slots := by
  obtain ⟨p, e, R, s, m, args, below, meth, c, A⟩ := M
  intro H locs ls hP hD hS hl
  obtain ⟨hx, hb, hml, hown, hts, hK, hret, hlk, hR, hA, hnm, hAO⟩ := hC
  exact lv_sipush hx hb hd hv (kk H locs ls hP hD hS hl)
theorem u_lconst {n : Fin 2} (v : Int64) (hv : Int64.ofNat (n : Nat) = v) (hC : CxU g M i rm)  (hd : decode i.2.1 pc = .ok (.lconst n, 1)) (kk : UU g M i Q (pc + 1) lv (.long v :: st) ws cells slots) : UU g M i Q pc lv (st) ws cells slots := by
  obtain ⟨p, e, R, s, m, args, below, meth, c, A⟩ := M
  intro H locs ls hP hD hS hl
  obtain ⟨hx, hb, hml, hown, hts, hK, hret, hlk, hR, hA, hnm, hAO⟩ := hC
  exact lv_lconst hx hb hd hv (kk H locs ls hP hD hS hl)
theorem u_dup {a : Value} (hC : CxU g M i rm) (hc : a.category = 1) (hd : decode i.2.1 pc = .ok (.dup, 1)) (kk : UU g M i Q (pc + 1) lv (a :: a :: st) ws cells slots) : UU g M i Q pc lv (a :: st) ws cells slots := by
  obtain ⟨p, e, R, s, m, args, below, meth, c, A⟩ := M
  intro H locs ls hP hD hS hl
  obtain ⟨hx, hb, hml, hown, hts, hK, hret, hlk, hR, hA, hnm, hAO⟩ := hC
  exact lv_dup hx hb hd hc (kk H locs ls hP hD hS hl)
theorem u_iload {k : Nat} {x : Int32} (hC : CxU g M i rm) (hd : decode i.2.1 pc = .ok (.iload k, 2)) (hk : lv[k]? = some (some (.int x))) (kk : UU g M i Q (pc + 2) lv (.int x :: st) ws cells slots) : UU g M i Q pc lv st ws cells slots := by
  obtain ⟨p, e, R, s, m, args, below, meth, c, A⟩ := M
  intro H locs ls hP hD hS hl
  obtain ⟨hx, hb, hml, hown, hts, hK, hret, hlk, hR, hA, hnm, hAO⟩ := hC
  exact lv_iload hx hb hd (hl.2.2.2 k _ hk) (kk H locs ls hP hD hS hl)
theorem u_iload_n {k : Fin 4} {x : Int32} (hC : CxU g M i rm) (hd : decode i.2.1 pc = .ok (.iload_n k, 1)) (hk : lv[(k : Nat)]? = some (some (.int x))) (kk : UU g M i Q (pc + 1) lv (.int x :: st) ws cells slots) : UU g M i Q pc lv st ws cells slots := by
  obtain ⟨p, e, R, s, m, args, below, meth, c, A⟩ := M
  intro H locs ls hP hD hS hl
  obtain ⟨hx, hb, hml, hown, hts, hK, hret, hlk, hR, hA, hnm, hAO⟩ := hC
  exact lv_iload_n hx hb hd rfl (hl.2.2.2 _ _ hk) (kk H locs ls hP hD hS hl)
theorem u_aload {k : Nat} {x : Nat} (hC : CxU g M i rm) (hd : decode i.2.1 pc = .ok (.aload k, 2)) (hk : lv[k]? = some (some (.ref x))) (kk : UU g M i Q (pc + 2) lv (.ref x :: st) ws cells slots) : UU g M i Q pc lv st ws cells slots := by
  obtain ⟨p, e, R, s, m, args, below, meth, c, A⟩ := M
  intro H locs ls hP hD hS hl
  obtain ⟨hx, hb, hml, hown, hts, hK, hret, hlk, hR, hA, hnm, hAO⟩ := hC
  exact lv_aload hx hb hd (hl.2.2.2 k _ hk) (kk H locs ls hP hD hS hl)
theorem u_aload_n {k : Fin 4} {x : Nat} (hC : CxU g M i rm) (hd : decode i.2.1 pc = .ok (.aload_n k, 1)) (hk : lv[(k : Nat)]? = some (some (.ref x))) (kk : UU g M i Q (pc + 1) lv (.ref x :: st) ws cells slots) : UU g M i Q pc lv st ws cells slots := by
  obtain ⟨p, e, R, s, m, args, below, meth, c, A⟩ := M
  intro H locs ls hP hD hS hl
  obtain ⟨hx, hb, hml, hown, hts, hK, hret, hlk, hR, hA, hnm, hAO⟩ := hC
  exact lv_aload_n hx hb hd rfl (hl.2.2.2 _ _ hk) (kk H locs ls hP hD hS hl)
theorem u_istore {k : Nat} {x : Int32} (hC : CxU g M i rm) (hd : decode i.2.1 pc = .ok (.istore k, 2)) (hn : Nat.blt k i.2.2.1 = true) (ho : ok1 lv k = true) (hs : lv.set k (some (.int x)) = lv') (kk : UU g M i Q (pc + 2) lv' st ws cells slots) : UU g M i Q pc lv (.int x :: st) ws cells slots := by
  obtain ⟨p, e, R, s, m, args, below, meth, c, A⟩ := M
  intro H locs ls hP hD hS hl
  obtain ⟨hx, hb, hml, hown, hts, hK, hret, hlk, hR, hA, hnm, hAO⟩ := hC
  subst hs
  have hn' : k < i.2.2.1 := by simpa [Nat.blt_eq] using hn
  exact lv_istore hx hb hd (lvh_has hl) hn' rfl (fun ls' h => kk H locs ls' hP hD hS (lvh_st1 hl.1 ho hn' h))
theorem u_istore_n {k : Fin 4} {x : Int32} (hC : CxU g M i rm) (hd : decode i.2.1 pc = .ok (.istore_n k, 1)) (hn : Nat.blt (k : Nat) i.2.2.1 = true) (ho : ok1 lv (k : Nat) = true) (hs : lv.set (k : Nat) (some (.int x)) = lv') (kk : UU g M i Q (pc + 1) lv' st ws cells slots) : UU g M i Q pc lv (.int x :: st) ws cells slots := by
  obtain ⟨p, e, R, s, m, args, below, meth, c, A⟩ := M
  intro H locs ls hP hD hS hl
  obtain ⟨hx, hb, hml, hown, hts, hK, hret, hlk, hR, hA, hnm, hAO⟩ := hC
  subst hs
  have hn' : (k : Nat) < i.2.2.1 := by simpa [Nat.blt_eq] using hn
  exact lv_istore_n hx hb hd rfl (lvh_has hl) hn' rfl (fun ls' h => kk H locs ls' hP hD hS (lvh_st1 hl.1 ho hn' h))
theorem u_astore {k : Nat} {x : Nat} (hC : CxU g M i rm) (hd : decode i.2.1 pc = .ok (.astore k, 2)) (hn : Nat.blt k i.2.2.1 = true) (ho : ok1 lv k = true) (hs : lv.set k (some (.ref x)) = lv') (kk : UU g M i Q (pc + 2) lv' st ws cells slots) : UU g M i Q pc lv (.ref x :: st) ws cells slots := by
  obtain ⟨p, e, R, s, m, args, below, meth, c, A⟩ := M
  intro H locs ls hP hD hS hl
  obtain ⟨hx, hb, hml, hown, hts, hK, hret, hlk, hR, hA, hnm, hAO⟩ := hC
  subst hs
  have hn' : k < i.2.2.1 := by simpa [Nat.blt_eq] using hn
  exact lv_astore hx hb hd (lvh_has hl) hn' rfl (fun ls' h => kk H locs ls' hP hD hS (lvh_st1 hl.1 ho hn' h))
theorem u_astore_n {k : Fin 4} {x : Nat} (hC : CxU g M i rm) (hd : decode i.2.1 pc = .ok (.astore_n k, 1)) (hn : Nat.blt (k : Nat) i.2.2.1 = true) (ho : ok1 lv (k : Nat) = true) (hs : lv.set (k : Nat) (some (.ref x)) = lv') (kk : UU g M i Q (pc + 1) lv' st ws cells slots) : UU g M i Q pc lv (.ref x :: st) ws cells slots := by
  obtain ⟨p, e, R, s, m, args, below, meth, c, A⟩ := M
  intro H locs ls hP hD hS hl
  obtain ⟨hx, hb, hml, hown, hts, hK, hret, hlk, hR, hA, hnm, hAO⟩ := hC
  subst hs
  have hn' : (k : Nat) < i.2.2.1 := by simpa [Nat.blt_eq] using hn
  exact lv_astore_n hx hb hd rfl (lvh_has hl) hn' rfl (fun ls' h => kk H locs ls' hP hD hS (lvh_st1 hl.1 ho hn' h))
theorem u_iinc {k : Nat} {n : Int} {x x' : Int32} (d : Int32) (he : Int32.ofInt n = d) (hx' : x + d = x') (hC : CxU g M i rm) (hd : decode i.2.1 pc = .ok (.iinc k n, 3)) (hk : lv[k]? = some (some (.int x))) (hn : Nat.blt k i.2.2.1 = true) (ho : ok1 lv k = true) (hs : lv.set k (some (.int x')) = lv') (kk : UU g M i Q (pc + 3) lv' st ws cells slots) : UU g M i Q pc lv st ws cells slots := by
  obtain ⟨p, e, R, s, m, args, below, meth, c, A⟩ := M
  intro H locs ls hP hD hS hl
  obtain ⟨hx, hb, hml, hown, hts, hK, hret, hlk, hR, hA, hnm, hAO⟩ := hC
  subst hs; subst hx'
  subst he
  have hn' : k < i.2.2.1 := by simpa [Nat.blt_eq] using hn
  obtain ⟨q, hq⟩ := List.getElem?_of_mem (asl_iff.mpr hk)
  exact lv_iinc hx hb hd (lvh_has hl) hq rfl hn' rfl (fun ls' h => kk H locs ls' hP hD hS (lvh_st1 hl.1 ho hn' h))
theorem u_ic_ge {x y : Int32} {off : Int} {tgt : Nat} (hC : CxU g M i rm) (hd : decode i.2.1 pc = .ok (.if_icmp .ge off, 3)) (ht : (pc : Int) + off = (tgt : Int)) (kt : y ≤ x → UU g M i Q tgt lv st ws cells slots) (kf : ¬ (y ≤ x) → UU g M i Q (pc + 3) lv st ws cells slots) : UU g M i Q pc lv (.int y :: .int x :: st) ws cells slots := by
  obtain ⟨p, e, R, s, m, args, below, meth, c, A⟩ := M
  intro H locs ls hP hD hS hl
  obtain ⟨hx, hb, hml, hown, hts, hK, hret, hlk, hR, hA, hnm, hAO⟩ := hC
  exact lv_icmp_ge hx hb hd ht (fun h => kt h H locs ls hP hD hS hl) (fun h => kf h H locs ls hP hD hS hl)
theorem u_goto {off : Int} {tgt : Nat} (hC : CxU g M i rm) (hd : decode i.2.1 pc = .ok (.goto off, 3)) (ht : (pc : Int) + off = (tgt : Int)) (kk : UU g M i Q tgt lv st ws cells slots) : UU g M i Q pc lv st ws cells slots := by
  obtain ⟨p, e, R, s, m, args, below, meth, c, A⟩ := M
  intro H locs ls hP hD hS hl
  obtain ⟨hx, hb, hml, hown, hts, hK, hret, hlk, hR, hA, hnm, hAO⟩ := hC
  exact lv_goto hx hb hd ht (kk H locs ls hP hD hS hl)
theorem u_new {index ci : Nat} {q : vw_C} {fs : List Value} (hC : CxU g M i rm) (hc : classes[ci]? = some q) (hcl : Cond.classLink i.1.cls index q.1 ∈ gtb) (hinst : Cond.instantiable q.1 q.2.2 ∈ gtb) (hini : Cond.initialized q.1 ∈ gtb) (hfs : ∀ j, j < q.2.2 → defaultValue (en_ty ci j) = vp_V fs j) (h1 : Nat.ble (cells + 1) rm.cells = true) (h2 : Nat.ble (slots + q.2.2) rm.slots = true) (hd : decode i.2.1 pc = .ok (.new index, 3)) (kk : ∀ a : Nat, UU g M i Q (pc + 3) lv (.ref a :: st) (ws ++ [(a, .inr (ci, fs))]) (cells + 1) (slots + q.2.2)) : UU g M i Q pc lv st ws cells slots := by
  obtain ⟨p, e, R, s, m, args, below, meth, c, A⟩ := M
  intro H locs ls hP hD hS hl
  obtain ⟨hx, hb, hml, hown, hts, hK, hret, hlk, hR, hA, hnm, hAO⟩ := hC
  subst hR
  exact va_new hx hb hts (en_in ci q hc) (en_ty ci) (en_tyok ci q hc) hown (hts _ hcl) (hts _ hinst) (hts _ hini) hK hP hD hS hA hc hfs (Nat.le_of_ble_eq_true h1) (Nat.le_of_ble_eq_true h2) hd (fun a H1 hP1 hD1 hS1 => kk a H1 locs ls hP1 hD1 hS1 hl)
theorem ra_eq {c1 c2 : ClassId} {ty : FieldType} {U : State} (h1 : va_RA U c1 ty) (h2 : va_RA U c2 ty) : c1 = c2 := by
  cases ty with
  | object C =>
    obtain ⟨_, _, _, _, _, e1⟩ := h1
    obtain ⟨_, _, _, _, _, e2⟩ := h2
    exact Option.some.inj (e1.symm.trans e2)
  | _ => exact Option.some.inj (Eq.trans (Eq.symm h1) h2)
theorem u_newI {N : Nat} {n : Int32} (hC : CxU g M i rm) (hac : Cond.arrayClass .int ∈ gtb) (hn : ¬ n < 0) (hN : n.toNatClampNeg = N) (hby : Nat.ble (N * componentBytes .int) 536870912 = true) (h1 : Nat.ble (cells + 1) rm.cells = true) (h2 : Nat.ble (slots + N) rm.slots = true) (hd : decode i.2.1 pc = .ok (.newarray .int, 2)) (kk : ∀ a : Nat, UU g M i Q (pc + 2) lv (.ref a :: st) (ws ++ [(a, .inl (g.2.2.2 0, N, .inl (fun _ => 0)))]) (cells + 1) (slots + N)) : UU g M i Q pc lv (.int n :: st) ws cells slots := by
  obtain ⟨p, e, R, s, m, args, below, meth, c, A⟩ := M
  intro H locs ls hP hD hS hl
  obtain ⟨hx, hb, hml, hown, hts, hK, hret, hlk, hR, hA, hnm, hAO⟩ := hC
  subst hR
  refine va_newa (atype := .int) (ty := .int) (a0 := (N, .inl (fun _ => 0))) hx hb (hts _ hac) rfl hK hP hD hS hA (fun _ => rfl) hn hN (Nat.le_of_ble_eq_true hby) (Nat.le_of_ble_eq_true h1) (Nat.le_of_ble_eq_true h2) hd (fun a cA H1 hK1 hP1 hD1 hS1 => ?_)
  have e1 := (hK1.2 5 (cA, .int) rfl).2
  have e2 := (hK.2 0 (g.2.2.2 0, .int) rfl).2
  obtain rfl := ra_eq e1 e2
  exact kk a H1 locs ls hP1 hD1 hS1 hl
theorem u_newL {N : Nat} {n : Int32} (hC : CxU g M i rm) (hac : Cond.arrayClass .long ∈ gtb) (hn : ¬ n < 0) (hN : n.toNatClampNeg = N) (hby : Nat.ble (N * componentBytes .long) 536870912 = true) (h1 : Nat.ble (cells + 1) rm.cells = true) (h2 : Nat.ble (slots + N) rm.slots = true) (hd : decode i.2.1 pc = .ok (.newarray .long, 2)) (kk : ∀ a : Nat, UU g M i Q (pc + 2) lv (.ref a :: st) (ws ++ [(a, .inl (g.2.2.2 1, N, .inr (.inl (fun _ => 0))))]) (cells + 1) (slots + N)) : UU g M i Q pc lv (.int n :: st) ws cells slots := by
  obtain ⟨p, e, R, s, m, args, below, meth, c, A⟩ := M
  intro H locs ls hP hD hS hl
  obtain ⟨hx, hb, hml, hown, hts, hK, hret, hlk, hR, hA, hnm, hAO⟩ := hC
  subst hR
  refine va_newa (atype := .long) (ty := .long) (a0 := (N, .inr (.inl (fun _ => 0)))) hx hb (hts _ hac) rfl hK hP hD hS hA (fun _ => rfl) hn hN (Nat.le_of_ble_eq_true hby) (Nat.le_of_ble_eq_true h1) (Nat.le_of_ble_eq_true h2) hd (fun a cA H1 hK1 hP1 hD1 hS1 => ?_)
  have e1 := (hK1.2 5 (cA, .long) rfl).2
  have e2 := (hK.2 1 (g.2.2.2 1, .long) rfl).2
  obtain rfl := ra_eq e1 e2
  exact kk a H1 locs ls hP1 hD1 hS1 hl
theorem u_newZ {N : Nat} {n : Int32} (hC : CxU g M i rm) (hac : Cond.arrayClass .boolean ∈ gtb) (hn : ¬ n < 0) (hN : n.toNatClampNeg = N) (hby : Nat.ble (N * componentBytes .boolean) 536870912 = true) (h1 : Nat.ble (cells + 1) rm.cells = true) (h2 : Nat.ble (slots + N) rm.slots = true) (hd : decode i.2.1 pc = .ok (.newarray .boolean, 2)) (kk : ∀ a : Nat, UU g M i Q (pc + 2) lv (.ref a :: st) (ws ++ [(a, .inl (g.2.2.2 2, N, .inl (fun _ => 0)))]) (cells + 1) (slots + N)) : UU g M i Q pc lv (.int n :: st) ws cells slots := by
  obtain ⟨p, e, R, s, m, args, below, meth, c, A⟩ := M
  intro H locs ls hP hD hS hl
  obtain ⟨hx, hb, hml, hown, hts, hK, hret, hlk, hR, hA, hnm, hAO⟩ := hC
  subst hR
  refine va_newa (atype := .boolean) (ty := .boolean) (a0 := (N, .inl (fun _ => 0))) hx hb (hts _ hac) rfl hK hP hD hS hA (fun _ => rfl) hn hN (Nat.le_of_ble_eq_true hby) (Nat.le_of_ble_eq_true h1) (Nat.le_of_ble_eq_true h2) hd (fun a cA H1 hK1 hP1 hD1 hS1 => ?_)
  have e1 := (hK1.2 5 (cA, .boolean) rfl).2
  have e2 := (hK.2 2 (g.2.2.2 2, .boolean) rfl).2
  obtain rfl := ra_eq e1 e2
  exact kk a H1 locs ls hP1 hD1 hS1 hl
theorem u_newq {N t index : Nat} {C : String} {n : Int32} (hC : CxU g M i rm) (hcl : Cond.classLink i.1.cls index C ∈ gtb) (hao : ∀ U, AOs U → va_AO C U) (hty : (gty g)[t]? = some (g.2.2.2 t, .object C)) (hn : ¬ n < 0) (hN : n.toNatClampNeg = N) (hby : Nat.ble (N * 4) 536870912 = true) (h1 : Nat.ble (cells + 1) rm.cells = true) (h2 : Nat.ble (slots + N) rm.slots = true) (hd : decode i.2.1 pc = .ok (.anewarray index, 3)) (kk : ∀ a : Nat, UU g M i Q (pc + 3) lv (.ref a :: st) (ws ++ [(a, .inl (g.2.2.2 t, N, .inr (.inr (.inr (.inr (fun _ => none))))))]) (cells + 1) (slots + N)) : UU g M i Q pc lv (.int n :: st) ws cells slots := by
  obtain ⟨p, e, R, s, m, args, below, meth, c, A⟩ := M
  intro H locs ls hP hD hS hl
  obtain ⟨hx, hb, hml, hown, hts, hK, hret, hlk, hR, hA, hnm, hAO⟩ := hC
  subst hR
  refine va_newq hx hb hown (hts _ hcl) (hao _ hAO) hK hP hD hS hA hn hN (Nat.le_of_ble_eq_true hby) (Nat.le_of_ble_eq_true h1) (Nat.le_of_ble_eq_true h2) hd (fun a cA H1 hK1 hP1 hD1 hS1 => ?_)
  have e1 := (hK1.2 5 (cA, .object C) rfl).2
  have e2 := (hK.2 t _ hty).2
  obtain rfl := ra_eq e1 e2
  exact kk a H1 locs ls hP1 hD1 hS1 hl
theorem u_put {index ci a : Nat} {q : vw_C} {fs : List Value} {v : Value} {ws' : va_W} (q0 k : Nat) (hC : CxU g M i rm) (he : ws[q0]? = some (a, .inr (ci, fs))) (hc : classes[ci]? = some q) (hk : Nat.blt k q.2.2 = true) (hfin : (q.2.1 k).2.2.2 = false) (hn : narrow (en_ty ci k) v = v) (hfit : fits (en_ty ci k) v = true) (hlen : Nat.blt k fs.length = true) (hlink : Cond.fieldLink i.1.cls index (q.2.1 k).1 (q.2.1 k).2.1 (q.2.1 k).2.2.1 ∈ gtb) (hw : ws.set q0 (a, .inr (ci, fs.set k v)) = ws') (hd : decode i.2.1 pc = .ok (.putfield index, 3)) (kk : UU g M i Q (pc + 3) lv st ws' cells slots) : UU g M i Q pc lv (v :: .ref a :: st) ws cells slots := by
  obtain ⟨p, e, R, s, m, args, below, meth, c, A⟩ := M
  intro H locs ls hP hD hS hl
  obtain ⟨hx, hb, hml, hown, hts, hK, hret, hlk, hR, hA, hnm, hAO⟩ := hC
  subst hw
  exact va_put hx hb hts (en_in ci q hc) (en_ty ci) (en_tyok ci q hc) (en_nm ci q hc) hown hK hP hD hS q0 he hc k (by simpa [Nat.blt_eq] using hk) (hts _ hlink) (fun _ h => h) hfin (en_tyok ci q hc k (by simpa [Nat.blt_eq] using hk)) hn hfit (by simpa [Nat.blt_eq] using hlen) hd (fun H1 locs1 hP1 hD1 hS1 => kk H1 locs1 ls hP1 hD1 hS1 hl)
theorem u_putF {index ci a : Nat} {q : vw_C} {fs : List Value} {v : Value} {ws' : va_W} (q0 k : Nat) (hC : CxU g M i rm) (he : ws[q0]? = some (a, .inr (ci, fs))) (hc : classes[ci]? = some q) (hk : Nat.blt k q.2.2 = true) (hfin : (q.2.1 k).2.2.2 = true) (hin : i.1.name = "<init>") (hdecl : (q.2.1 k).1 = i.1.cls) (hn : narrow (en_ty ci k) v = v) (hfit : fits (en_ty ci k) v = true) (hlen : Nat.blt k fs.length = true) (hlink : Cond.fieldLink i.1.cls index (q.2.1 k).1 (q.2.1 k).2.1 (q.2.1 k).2.2.1 ∈ gtb) (hw : ws.set q0 (a, .inr (ci, fs.set k v)) = ws') (hd : decode i.2.1 pc = .ok (.putfield index, 3)) (kk : UU g M i Q (pc + 3) lv st ws' cells slots) : UU g M i Q pc lv (v :: .ref a :: st) ws cells slots := by
  obtain ⟨p, e, R, s, m, args, below, meth, c, A⟩ := M
  intro H locs ls hP hD hS hl
  obtain ⟨hx, hb, hml, hown, hts, hK, hret, hlk, hR, hA, hnm, hAO⟩ := hC
  subst hw
  exact va_putF hx hb hts (en_in ci q hc) (en_ty ci) (en_tyok ci q hc) (en_nm ci q hc) hown hK hP hD hS q0 he hc k (by simpa [Nat.blt_eq] using hk) (hts _ hlink) (fun _ h => h) hfin (hnm hin) hdecl (en_tyok ci q hc k (by simpa [Nat.blt_eq] using hk)) hn hfit (by simpa [Nat.blt_eq] using hlen) hd (fun H1 locs1 hP1 hD1 hS1 => kk H1 locs1 ls hP1 hD1 hS1 hl)
theorem u_get {index ci a : Nat} {q : vw_C} {fs : List Value} (q0 k : Nat) (v : Value) (hC : CxU g M i rm) (he : ws[q0]? = some (a, .inr (ci, fs))) (hc : classes[ci]? = some q) (hk : Nat.blt k q.2.2 = true) (hv : fs[k]? = some v) (hlink : Cond.fieldLink i.1.cls index (q.2.1 k).1 (q.2.1 k).2.1 (q.2.1 k).2.2.1 ∈ gtb) (hd : decode i.2.1 pc = .ok (.getfield index, 3)) (kk : UU g M i Q (pc + 3) lv (v :: st) ws cells slots) : UU g M i Q pc lv (.ref a :: st) ws cells slots := by
  obtain ⟨p, e, R, s, m, args, below, meth, c, A⟩ := M
  intro H locs ls hP hD hS hl
  obtain ⟨hx, hb, hml, hown, hts, hK, hret, hlk, hR, hA, hnm, hAO⟩ := hC
  exact va_get hx hb hts (en_in ci q hc) hown hK hP q0 he hc k (by simpa [Nat.blt_eq] using hk) (hts _ hlink) (fun _ h => h) (v := v) hv hd (kk H locs ls hP hD hS hl)
theorem u_iast {a N : Nat} {f : Nat → Int32} {x y : Int32} {ws' : va_W} (q0 : Nat) (hC : CxU g M i rm) (he : ws[q0]? = some (a, .inl (g.2.2.2 0, N, .inl f))) (hin : vp_in x N) (hw : ws.set q0 (a, .inl (g.2.2.2 0, N, .inl (upd f x.toNatClampNeg y))) = ws') (hd : decode i.2.1 pc = .ok (.iastore, 1)) (kk : UU g M i Q (pc + 1) lv st ws' cells slots) : UU g M i Q pc lv (.int y :: .int x :: .ref a :: st) ws cells slots := by
  obtain ⟨p, e, R, s, m, args, below, meth, c, A⟩ := M
  intro H locs ls hP hD hS hl
  obtain ⟨hx, hb, hml, hown, hts, hK, hret, hlk, hR, hA, hnm, hAO⟩ := hC
  subst hw
  exact va_iast hx hb hK hP hD hS q0 0 he rfl hin hd (fun H1 locs1 hP1 hD1 hS1 => kk H1 locs1 ls hP1 hD1 hS1 hl)
theorem u_astq {a v N ci t : Nat} {q : vw_C} {vs : List Value} {f : Nat → Option Nat} {x : Int32} {ws' : va_W} (q0 qk : Nat) (hC : CxU g M i rm) (he : ws[q0]? = some (a, .inl (g.2.2.2 t, N, .inr (.inr (.inr (.inr f)))))) (hty : (gty g)[t]? = some (g.2.2.2 t, .object q.1)) (hv : ws[qk]? = some (v, .inr (ci, vs))) (hc : classes[ci]? = some q) (hin : vp_in x N) (hw : ws.set q0 (a, .inl (g.2.2.2 t, N, .inr (.inr (.inr (.inr (va_up f x.toNatClampNeg (some v))))))) = ws') (hd : decode i.2.1 pc = .ok (.aastore, 1)) (kk : UU g M i Q (pc + 1) lv st ws' cells slots) : UU g M i Q pc lv (.ref v :: .int x :: .ref a :: st) ws cells slots := by
  obtain ⟨p, e, R, s, m, args, below, meth, c, A⟩ := M
  intro H locs ls hP hD hS hl
  obtain ⟨hx, hb, hml, hown, hts, hK, hret, hlk, hR, hA, hnm, hAO⟩ := hC
  subst hw
  exact va_astq hx hb hK hP hD hS q0 t qk ci he hty hv hc hin hd (fun H1 locs1 hP1 hD1 hS1 => kk H1 locs1 ls hP1 hD1 hS1 hl)
theorem u_oinit {a index : Nat} (hC : CxU g M i rm) (hlink : Cond.methodLink i.1.cls index Lib.objectInit ∈ gtb) (hinst : Cond.instanceMethod Lib.objectInit ∈ gtb) (hcode : Cond.code Lib.objectInit ⟨#[0xb1]⟩ 1 none ∈ gtb) (h1 : Nat.ble 1 rm.frames = true) (h2 : Nat.ble ((st.map fun v => v.category).sum + 12) rm.locals = true) (hd : decode i.2.1 pc = .ok (.invokespecial index, 3)) (kk : UU g M i Q (pc + 3) lv st ws cells slots) : UU g M i Q pc lv (.ref a :: st) ws cells slots := by
  obtain ⟨p, e, R, s, m, args, below, meth, c, A⟩ := M
  intro H locs ls hP hD hS hl
  obtain ⟨hx, hb, hml, hown, hts, hK, hret, hlk, hR, hA, hnm, hAO⟩ := hC
  subst hR
  exact W.objInit hx hb hown (hts _ hlink) (hts _ hinst) (hts _ hcode) rfl (hl.2.1.trans hml.symm) rfl hd (Nat.le_of_ble_eq_true h1) (by show 2 * 0 + _ + 12 ≤ _; have := Nat.le_of_ble_eq_true h2; omega) (kk H locs ls hP hD hS hl)
theorem u_mx {x y : Int32} {index : Nat} (hC : CxU g M i rm) (hlk' : Cond.methodLink i.1.cls index Lib.Math.max.name ∈ gtb) (h1 : Nat.ble 1 rm.frames = true) (h2 : Nat.ble ((st.map fun v => v.category).sum + 13) rm.locals = true) (h3 : Nat.ble cells rm.cells = true) (h4 : Nat.ble slots rm.slots = true) (hd : decode i.2.1 pc = .ok (.invokestatic index, 3)) (kk : UU g M i Q (pc + 3) lv (.int (mxI x y) :: st) ws cells slots) : UU g M i Q pc lv (.int y :: .int x :: st) ws cells slots := by
  obtain ⟨p, e, R, s, m, args, below, meth, c, A⟩ := M
  intro H locs ls hP hD hS hl
  obtain ⟨hx, hb, hml, hown, hts, hK, hret, hlk, hR, hA, hnm, hAO⟩ := hC
  subst hR
  exact va_mmax hx hb (hml.trans hl.2.1.symm) hown (hts _ hlk') (hts _ z_mxs) (hts _ z_ini) (hts _ z_mxc) (Nat.le_of_ble_eq_true h1) (Nat.le_of_ble_eq_true h2) (Nat.le_of_ble_eq_true h3) (Nat.le_of_ble_eq_true h4) hd (kk H locs ls hP hD hS hl)
theorem u_vret {ws0 : va_W} {w1 : va_W → Prop} (hC : CxU g M i rm) (hr : i.2.2.2 = none) (hd : decode i.2.1 pc = .ok (.return_, 1)) (hw : w1 ws) : UU g M i (PQU g M ws0 w1 cells slots) pc lv [] ws cells slots := by
  obtain ⟨p, e, R, s, m, args, below, meth, c, A⟩ := M
  intro H locs ls hP hD hS hl
  obtain ⟨hx, hb, hml, hown, hts, hK, hret, hlk, hR, hA, hnm, hAO⟩ := hC
  show W p g.1 e R s m args below meth c H locs cells slots (MQ below (fun _ st oc t => (oc = .returned none ∧ ∃ w, w1 w ∧ va_P g.2.1 classes w t.heap ∧ va_D A w) ∧ va_F A st t) args s cells slots A) (F0 m pc ls [])
  exact W.vret hx hb (hret.trans hr) (fun t ht hW => ⟨⟨rfl, ws, hw, by rw [ht]; exact hP, hD⟩, hS.F ht⟩) hS.2.2 hd hlk
/-- what a caller must know of a constructor -/
def GmI (i : MI) (n : Nat) : Prop := Gm i n ∧ i.1.name = "<init>" ∧ Cond.instanceMethod i.1 ∈ gtb ∧ i.2.2.2 = none
theorem u_ci {index n fr' lo' mc ms a : Nat} {stk as rest : List Value} {wr : va_W} {ob : va_E} {w1 : va_W → Prop} (hG : GmI i' n) (hC : CxU g M i rm) (hc : CtU g i' fr' lo' mc ms (.ref a :: as) [(a, ob)] w1) (hlk' : Cond.methodLink i.1.cls index i'.1 ∈ gtb) (hn : as.length = n) (hR1 : Nat.ble (fr' + 1) rm.frames = true) (hR2 : Nat.ble (8 + (i'.2.2.1 + 11) + lo') rm.locals = true) (hR3 : Nat.ble (cells + mc) rm.cells = true) (hR4 : Nat.ble (slots + ms) rm.slots = true) (hws : ws = wr ++ [(a, ob)]) (hstk : stk = as.reverse ++ .ref a :: rest) (hW : Nat.ble (rest.map fun v => v.category).sum 8 = true) (hd : decode i.2.1 pc = .ok (.invokespecial index, 3)) (kk : ∀ w, w1 w → UU g M i Q (pc + 3) lv rest (wr ++ w) (cells + mc) (slots + ms)) : UU g M i Q pc lv stk ws cells slots := by
  obtain ⟨p, e, R, s, m, args, below, meth, c, A⟩ := M
  intro H locs ls hP hD hS hl
  obtain ⟨hx, hb, hml, hown, hts, hK, hret, hlk, hR, hA, hnm, hAO⟩ := hC
  subst hR
  subst hws
  obtain ⟨hG, hG2, hG3, hG4⟩ := hG
  obtain ⟨y', c', mx', rt'⟩ := i'
  simp only at hG4
  subst hG4
  have hC1 : [wr.length].map (fun i => (wr ++ [(a, ob)])[i]?) = ([(a, ob)] : va_W).map some := by simp
  have hR1' : (List.range wr.length).map (fun i => (wr ++ [(a, ob)])[i]?) = wr.map some := by
    apply List.ext_getElem?
    intro k
    simp only [List.getElem?_map]
    by_cases hk : k < wr.length
    · rw [List.getElem?_range hk]
      simp [List.getElem?_append_left hk, List.getElem?_eq_getElem hk]
    · rw [List.getElem?_eq_none (by simpa using hk), List.getElem?_eq_none (by simpa using hk)]
      rfl
  have hPc := hP.sub (ws' := [(a, ob)]) [wr.length] (by simp)
  have hDc := hD.sub (ws' := [(a, ob)]) [wr.length] rfl hC1
  have hFc := va_free (wc := [(a, ob)]) hD hS hA [wr.length] hC1
  have hrun := va_runI (As := as) (rest := rest) (g := F0 m pc ls stk) (cells := cells) (slots := slots) (locs := locs) (H := H) (R := R) (e := e) (below := below) (meth := meth) ⟨hx, hb, hml, hown, hts⟩ (hc H.size) ⟨callB_of n hts (gm_good hG) rfl rfl rfl (hts _ hG.2.1) (hts _ hlk') hG.2.2 ⟨Nat.le_of_ble_eq_true hR1, Nat.le_of_ble_eq_true hR2⟩, hG2, hts _ hG3⟩ ⟨ctu_blind, fun U hU hW => ⟨rfl, by rw [hU], by rw [hU]; exact hPc, hDc.weaken (fun _ _ _ _ => trivial), va_K.moved hW.alike hK, AOs.moved hW.alike hAO⟩⟩ rfl hn hl.2.1 hstk (by show 2 * 0 + _ ≤ 8; have := Nat.le_of_ble_eq_true hW; omega) hd ⟨Nat.le_of_ble_eq_true hR3, Nat.le_of_ble_eq_true hR4⟩
  intro T hT X
  obtain ⟨v, st₀, t, T', L, h0, X', hL, e1, e2, ⟨⟨hv, w, hw, hP1, hD1⟩, hz, hk⟩, stp⟩ := hrun T hT X
  cases hv
  rw [h0] at hz hk
  obtain ⟨hP2, hD2⟩ := va_join (wr := wr) (w1 := w) (H1 := T'.heap) hP hD [wr.length] (List.range wr.length) hC1 hR1' (nd_range _) (fun i hi => by have := List.mem_range.mp hi; simp; omega) (fun q h1 h2 => by rw [e1]; exact hk q h1 h2) hFc (by rw [e1]; exact hP1) hD1
  obtain ⟨t2, a1, b1⟩ := kk w hw T'.heap (locs ++ L) ls hP2 hD2 ⟨Nat.le_trans hS.1 (by rw [e1]; exact hz), fun q h1 h2 => by rw [e1, hk q (Nat.lt_of_lt_of_le h1 hS.1) (fun z => h2 (hFc q z))]; exact hS.2.1 q h1 h2, fun q hq => by
      rcases List.mem_append.mp hq with h | h
      · exact hS.2.2 q h
      · exact hFc _ (hL q h)⟩ hl T' rfl X'
  exact ⟨t2, stp t2 a1, b1⟩
end
