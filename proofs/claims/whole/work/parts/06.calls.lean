/-! calls, loops, and the pure words that the printed functions are made of -/
/-- what a caller must know of a method -/
def Gm (i : MI) (n : Nat) : Prop := Cond.code i.1 i.2.1 i.2.2.1 i.2.2.2 ∈ gtb ∧ Cond.initialized i.1.cls ∈ gtb ∧ (i.1.cls ≠ "java/lang/invoke/MethodHandle" ∧ i.1.cls ≠ "java/lang/invoke/VarHandle" ∧ (parseMethodDescriptor i.1.desc).map (fun d => d.parameters.length) = some n)
def GmS (i : MI) (n : Nat) : Prop := Gm i n ∧ Cond.static i.1 ∈ gtb
def GmV (i : MI) (n : Nat) : Prop := Gm i n ∧ Cond.instanceMethod i.1 ∈ gtb ∧ Cond.selects i.1.cls i.1 i.1 ∈ gtb
theorem gm_good {i : MI} {n : Nat} (h : Gm i n) : GoodIn gtb (Cond.code i.1 i.2.1 i.2.2.1 i.2.2.2 :: gtb) := by
  intro w hw
  rcases List.mem_cons.mp hw with rfl | hw
  · exact gtb_good _ h.1
  · exact gtb_good _ hw
section
variable {S : List Shp} {g : Gl} {σ τ : Sg} {r : Option Value}
theorem ct_run {p : Program} {e : Env} {R : Room} {s : State} {m : MethodId} {args : Array Value} {below : List Frame} {meth : Method} {c : Code} {H : Heap} {locs : List Loc} {cells slots pc : Nat} {Q : State → Prop} {ls : Array Slot} {st0 rest : List Value} {a : Array Value} {A : Nat → Prop} (hS : va_S A s.heap H locs) (hA : ∀ k, k < S.length → A (gad g k)) (hA2 : ∀ q, s.heap.size ≤ q → A q)
    (hr : va_Run p g.1 e R s m args below meth c H locs cells slots 0 0 (F0 m pc ls st0) rest (Qc S g (Dt r τ) (Aw S g H.size) a) (Aw S g H.size))
    (kk : ∀ (H1 : Heap) (locs1 : List Loc), va_P g.2.1 classes (wd S g τ) H1 → va_S A s.heap H1 locs1 → W p g.1 e R s m args below meth c H1 locs1 cells slots Q (F0 m (pc + 3) ls (r.toList ++ rest))) : W p g.1 e R s m args below meth c H locs cells slots Q (F0 m pc ls st0) := by
  intro T hT X
  obtain ⟨v, st₀, t, T', L, h0, X', hL, e1, e2, ⟨⟨r', τ', hv, ⟨h1, h2⟩, hP1, hK1⟩, hz, hk⟩, st⟩ := hr T hT X
  cases hv
  subst h1; subst h2
  rw [h0] at hz hk
  have hF : ∀ q, Aw S g H.size q → A q := by
    intro q hq
    rcases hq with ⟨k, hk, rfl⟩ | hq
    · exact hA k hk
    · exact hA2 q (Nat.le_trans hS.1 hq)
  obtain ⟨t2, a1, b1⟩ := kk T'.heap (locs ++ L) (by rw [e1]; exact hP1)
    ⟨Nat.le_trans hS.1 (by rw [e1]; exact hz), fun q h1 h2 => by rw [e1, hk q (Nat.lt_of_lt_of_le h1 hS.1) (fun z => h2 (hF q z))]; exact hS.2.1 q h1 h2, fun q hq => by
      rcases List.mem_append.mp hq with h | h
      · exact hS.2.2 q h
      · exact hF _ (hL q h)⟩ T' rfl X'
  exact ⟨t2, st t2 a1, b1⟩
theorem ct_blind {as : List Value} {sz : Nat} : FrameBlind (va_Pc as (fun U => U.heap.size = sz ∧ va_P g.2.1 classes (wd S g σ) U.heap ∧ va_K g.2.1 classes (gty g) U ∧ gap S g ∧ Nst U)) := by
  intro a U gf mk q
  obtain ⟨q0, q1, qP, qK, qG, qN⟩ := q
  exact ⟨q0, q1, qP, va_K.moved (u := U) (U := U.calling gf mk a) (Vm.Alike.refl U.vm) qK, qG, Nst.same (u := U) rfl qN⟩
end
section
variable {S : List Shp} {g : Gl} {M : Mc} {i i' : MI} {Q : State → Prop} {pc index n fr lo fr' lo' : Nat} {lv : List (Option Value)} {stk rest as : List Value} {σ τ : Sg} {r : Option Value}
theorem v_callS (hG : GmS i' n) (hC : Cx S g M i { frames := fr, cells := 0, slots := 0, locals := lo }) (hc : Ct S g i' fr' lo' as σ (Dt r τ)) (hl : Cond.methodLink i.1.cls index i'.1 ∈ gtb) (hn : as.length = n) (hR : Nat.ble (fr' + 1) fr = true) (hR2 : Nat.ble (8 + (i'.2.2.1 + 11) + lo') lo = true) (hstk : stk = as.reverse ++ rest) (hW : Nat.ble (rest.map fun v => v.category).sum 8 = true) (hd : decode i.2.1 pc = .ok (.invokestatic index, 3)) (kk : V S g M i Q (pc + 3) lv (r.toList ++ rest) τ) : V S g M i Q pc lv stk σ := by
  obtain ⟨p, e, R, s, m, args, below, meth, c, cells, slots, A⟩ := M
  intro H locs ls hP hS hl'
  obtain ⟨hx, hb, hml, hown, hts, hK, hret, hlk, hRr, hroom, hgap, hA, hA2, hN⟩ := hC
  subst hRr
  obtain ⟨hG, hstat⟩ := hG
  exact ct_run hS hA hA2 (va_runS (As := as) (rest := rest) ⟨hx, hb, hml, hown, hts⟩ (hc H.size) ⟨callB_of n hts (gm_good hG) rfl rfl rfl (hts _ hG.2.1) (hts _ hl) hG.2.2 ⟨Nat.le_of_ble_eq_true hR, Nat.le_of_ble_eq_true hR2⟩, hts _ hstat⟩ ⟨ct_blind, fun U hU hW => ⟨rfl, by rw [hU], by rw [hU]; exact hP, va_K.moved hW.alike hK, hgap, Nst.warm hW hN⟩⟩ rfl hn hl'.2.1 hstk (by show 2 * 0 + _ ≤ 8; have := Nat.le_of_ble_eq_true hW; omega) hd hroom) (fun H1 locs1 h1 h2 => kk H1 locs1 ls h1 h2 hl')
theorem v_callSN {host : String} (hG : GmS i' n) (hC : Cx S g M i { frames := fr, cells := 0, slots := 0, locals := lo }) (hc : Ct S g i' fr' lo' as σ (Dt r τ)) (hl : Cond.methodLinkNest i.1.cls index i'.1 host ∈ nst) (hn : as.length = n) (hR : Nat.ble (fr' + 1) fr = true) (hR2 : Nat.ble (8 + (i'.2.2.1 + 11) + lo') lo = true) (hstk : stk = as.reverse ++ rest) (hW : Nat.ble (rest.map fun v => v.category).sum 8 = true) (hd : decode i.2.1 pc = .ok (.invokestatic index, 3)) (kk : V S g M i Q (pc + 3) lv (r.toList ++ rest) τ) : V S g M i Q pc lv stk σ := by
  obtain ⟨p, e, R, s, m, args, below, meth, c, cells, slots, A⟩ := M
  intro H locs ls hP hS hl'
  obtain ⟨hx, hb, hml, hown, hts, hK, hret, hlk, hRr, hroom, hgap, hA, hA2, hN⟩ := hC
  subst hRr
  obtain ⟨hG, hstat⟩ := hG
  exact ct_run hS hA hA2 (va_runSN (As := as) (rest := rest) ⟨hx, hb, hml, hown, hts⟩ (hc H.size) ⟨va_cnB n hts (gm_good hG) rfl rfl rfl (hN _ hl) (hts _ hG.2.1) hG.2.2 ⟨Nat.le_of_ble_eq_true hR, Nat.le_of_ble_eq_true hR2⟩, hts _ hstat, trivial⟩ ⟨ct_blind, fun U hU hW => ⟨rfl, by rw [hU], by rw [hU]; exact hP, va_K.moved hW.alike hK, hgap, Nst.warm hW hN⟩⟩ rfl hn hl'.2.1 hstk (by show 2 * 0 + _ ≤ 8; have := Nat.le_of_ble_eq_true hW; omega) hd hroom) (fun H1 locs1 h1 h2 => kk H1 locs1 ls h1 h2 hl')
theorem v_callV {j ci : Nat} {ks : List Nat} {q : vw_C} (hG : GmV i' n) (hC : Cx S g M i { frames := fr, cells := 0, slots := 0, locals := lo }) (hS0 : S[j]? = some (.inr (ci, ks))) (hq : classes[ci]? = some q) (hq1 : q.1 = i'.1.cls) (hc : Ct S g i' fr' lo' (.ref (gad g j) :: as) σ (Dt r τ)) (hl : Cond.methodLink i.1.cls index i'.1 ∈ gtb) (hn : as.length = n) (hR : Nat.ble (fr' + 1) fr = true) (hR2 : Nat.ble (8 + (i'.2.2.1 + 11) + lo') lo = true) (hstk : stk = as.reverse ++ .ref (gad g j) :: rest) (hW : Nat.ble (rest.map fun v => v.category).sum 8 = true) (hd : decode i.2.1 pc = .ok (.invokevirtual index, 3)) (kk : V S g M i Q (pc + 3) lv (r.toList ++ rest) τ) : V S g M i Q pc lv stk σ := by
  obtain ⟨p, e, R, s, m, args, below, meth, c, cells, slots, A⟩ := M
  intro H locs ls hP hS hl'
  obtain ⟨hx, hb, hml, hown, hts, hK, hret, hlk, hRr, hroom, hgap, hA, hA2, hN⟩ := hC
  subst hRr
  obtain ⟨hG, hins, hsel⟩ := hG
  exact ct_run hS hA hA2 (va_runV (As := as) (rest := rest) (C := i'.1.cls) ⟨hx, hb, hml, hown, hts⟩ (hc H.size) ⟨callB_of n hts (gm_good hG) rfl rfl rfl (hts _ hG.2.1) (hts _ hl) hG.2.2 ⟨Nat.le_of_ble_eq_true hR, Nat.le_of_ble_eq_true hR2⟩, hts _ hins, hts _ hsel⟩ ⟨ct_blind, hq1 ▸ va_recv hK hP hq (wd_at hS0), fun U hU hW => ⟨rfl, by rw [hU], by rw [hU]; exact hP, va_K.moved hW.alike hK, hgap, Nst.warm hW hN⟩⟩ rfl hn hl'.2.1 hstk (by show 2 * 0 + _ ≤ 8; have := Nat.le_of_ble_eq_true hW; omega) hd hroom) (fun H1 locs1 h1 h2 => kk H1 locs1 ls h1 h2 hl')
theorem v_callVN {j ci : Nat} {ks : List Nat} {q : vw_C} {host : String} (hG : GmV i' n) (hC : Cx S g M i { frames := fr, cells := 0, slots := 0, locals := lo }) (hS0 : S[j]? = some (.inr (ci, ks))) (hq : classes[ci]? = some q) (hq1 : q.1 = i'.1.cls) (hc : Ct S g i' fr' lo' (.ref (gad g j) :: as) σ (Dt r τ)) (hl : Cond.methodLinkNest i.1.cls index i'.1 host ∈ nst) (hn : as.length = n) (hR : Nat.ble (fr' + 1) fr = true) (hR2 : Nat.ble (8 + (i'.2.2.1 + 11) + lo') lo = true) (hstk : stk = as.reverse ++ .ref (gad g j) :: rest) (hW : Nat.ble (rest.map fun v => v.category).sum 8 = true) (hd : decode i.2.1 pc = .ok (.invokevirtual index, 3)) (kk : V S g M i Q (pc + 3) lv (r.toList ++ rest) τ) : V S g M i Q pc lv stk σ := by
  obtain ⟨p, e, R, s, m, args, below, meth, c, cells, slots, A⟩ := M
  intro H locs ls hP hS hl'
  obtain ⟨hx, hb, hml, hown, hts, hK, hret, hlk, hRr, hroom, hgap, hA, hA2, hN⟩ := hC
  subst hRr
  obtain ⟨hG, hins, hsel⟩ := hG
  exact ct_run hS hA hA2 (va_runVN (As := as) (rest := rest) (C := i'.1.cls) ⟨hx, hb, hml, hown, hts⟩ (hc H.size) ⟨va_cnB n hts (gm_good hG) rfl rfl rfl (hN _ hl) (hts _ hG.2.1) hG.2.2 ⟨Nat.le_of_ble_eq_true hR, Nat.le_of_ble_eq_true hR2⟩, hts _ hins, hts _ hsel⟩ ⟨ct_blind, hq1 ▸ va_recv hK hP hq (wd_at hS0), fun U hU hW => ⟨rfl, by rw [hU], by rw [hU]; exact hP, va_K.moved hW.alike hK, hgap, Nst.warm hW hN⟩⟩ rfl hn hl'.2.1 hstk (by show 2 * 0 + _ ≤ 8; have := Nat.le_of_ble_eq_true hW; omega) hd hroom) (fun H1 locs1 h1 h2 => kk H1 locs1 ls h1 h2 hl')
end
