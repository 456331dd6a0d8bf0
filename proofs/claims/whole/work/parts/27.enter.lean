/-! from the law's entry to its loop (printed by wip/whole/gen/enter.py; the first rows are the skeleton's) -/
def R_law : String := "LaneFourLaw"
def lw_P (b : Addr) (xs : List Int32) (args : Array Value) (s : State) : Prop := args = #[.ref b] ∧ s.IntsAt b xs ∧ xs.length ≤ 3072 ∧ (Jvm.Cond.and given_1 narrow_1).before args s = true
def lw_Q (_ : Array Value) (s : State) (o : Outcome) (t : State) : Prop := o = .returned (some (.int 1)) ∧ Framed s o t [] 600000 7302249
def lw_Z (below : List Frame) (a : Array Value) (s : State) : State → Prop := fun t => ∃ o, t.status = .running ∧ Ended t below o ∧ lw_Q a s o t
/-- the law's own end, with 1 on the stack, nothing written that was there before, its room as the claim has it -/
theorem lw_ret {p : Program} {l : Launch} {e : Env} {s : State} {m : MethodId} {below : List Frame} {meth : Method} {c : Code} {b : Nat} (hx : p.tables.exec = Jvm.exec) (hb : c.code = code) (hr : meth.sig.returnType = ret) (hlocks : meth.locks = false) {pc : Nat} {H : Heap} {ls : Array Slot} (hdg : decode code pc = .ok (.ireturn, 1)) : W p l e room_1 s m #[Value.ref b] below meth c H [] 600000 7302249 (lw_Z below #[Value.ref b] s) (F0 m pc ls [.int 1]) := by
  intro T hT X
  obtain ⟨fs, hret, hrun, hended, hW, hframe⟩ := X.leave (v := some (.int 1)) (hlocks := hlocks) (fun h => by rw [hr] at h; cases h)
  have hmeth' : T.vm.method? m = some meth := X.method'
  refine ⟨T.setFrames fs, ?_, .returned (some (.int 1)), hrun, hended, rfl, ⟨_, rfl⟩, hW, hframe⟩
  jvm_step X.here [X.here.top, hx, hb, hdg, hmeth', hr, ret, narrow_b1]
  (try refine ⟨rfl, ?_⟩); (try refine ⟨rfl, ?_⟩)
  first | (intro acts; rw [hret _ acts rfl rfl rfl]) | rw [hret _ _ rfl rfl rfl]
  exact Steps.refl _
/-- what holds at the law's entry: the machine, the code, the tables' words (any of lw_tbl by 'hts w (by decide +kernel)'), the script of L ints xs at the cell b, what the Statement gives of the start (any of its parts by flat_of_before) -/
def lw_At (p : Program) (s : State) (m : MethodId) (meth : Method) (c : Code) (b L : Nat) (xs : Nat → Int32) : Prop :=
  p.tables.exec = Jvm.exec ∧ c.code = code ∧ meth.sig.returnType = ret ∧ c.maxLocals = 4 ∧ s.vm.findClass R_law = some m.cls ∧ (∀ w ∈ lw_tbl, w.before #[Value.ref b] s = true) ∧ va_X b L xs s s.heap ∧ b < s.heap.size ∧ meth.locks = false ∧ (Jvm.Cond.and given_1 narrow_1).before #[Value.ref b] s = true
/-- the state behind both constructors -/
def sg0 : Sg := (fun j => if j = 7 then (cst 256 (-1 : Int32)) else if j = 8 then (cst 24 (3000 : Int32)) else if j = 35 then (fun k => if k = 3 then (1 : Int32) else 0) else if j = 40 then (fun k => if k = 0 then (1 : Int32) else 0) else if j = 42 then (fun k => if k = 0 then (1 : Int32) else 0) else if j = 44 then (fun k => if k = 0 then (1 : Int32) else 0) else if j = 46 then (fun k => if k = 0 then (1 : Int32) else 0) else if j = 56 then (cst 24 (3000 : Int32)) else fun _ => 0, fun j => if j = 9 then (fun k => if k = 5 then (1 : Int64) else 0) else if j = 14 then (fun k => if k = 5 then (1 : Int64) else 0) else if j = 25 then (fun k => if k = 7 then (1 : Int64) else 0) else if j = 48 then (fun k => if k = 1 then (1 : Int64) else 0) else fun _ => 0)
def plc : List Nat := [0, 1, 2, 3, 4, 5, 6, 7, 8, 22, 23, 24, 25, 26, 9, 10, 11, 12, 13, 21, 27, 28, 29, 30, 31, 32, 33, 34, 35, 36, 14, 15, 16, 17, 18, 19, 20, 38, 37, 39, 40, 41, 42, 43, 44, 45, 46, 47, 48, 49, 50, 51, 52, 53, 54, 55, 56, 57, 58, 59, 60, 61, 62, 63, 64, 65, 66, 67, 68, 69, 70, 71, 72, 73]
theorem plc_inj : ∀ a, a < 74 → ∀ b, b < 74 → plc.getD a 0 = plc.getD b 0 → a = b := by decide +kernel
abbrev wEnd (cA : Nat → ClassId) (ad : Nat → Nat) : va_W := [((ad 0), .inr (10, [.ref (ad 1), .ref (ad 19), .ref (ad 25), .ref (ad 38), .ref (ad 34), .ref (ad 35), .ref (ad 37), .ref (ad 39), .ref (ad 48), .int (0 : Int32)])), ((ad 1), .inr (3, [.int (0 : Int32), .int (0 : Int32), .ref (ad 2), .ref (ad 3), .ref (ad 4), .ref (ad 5), .ref (ad 6), .ref (ad 7), .ref (ad 8)])), ((ad 2), .inl (cA 0, 16, .inl (fun _ => 0))), ((ad 3), .inl (cA 0, 16, .inl (fun _ => 0))), ((ad 4), .inl (cA 0, 64, .inl (fun _ => 0))), ((ad 5), .inl (cA 0, 64, .inl (fun _ => 0))), ((ad 6), .inl (cA 0, 64, .inl (fun _ => 0))), ((ad 7), .inl (cA 0, 256, .inl (cst 256 (-1 : Int32)))), ((ad 8), .inl (cA 0, 24, .inl (cst 24 (3000 : Int32)))), ((ad 14), .inr (1, [.ref (ad 15), .ref (ad 16), .ref (ad 17), .ref (ad 18), .int (0 : Int32), .long (1 : Int64), .long (0 : Int64)])), ((ad 15), .inl (cA 0, 8, .inl (fun _ => 0))), ((ad 16), .inl (cA 1, 8, .inr (.inl (fun _ => 0)))), ((ad 17), .inl (cA 1, 8, .inr (.inl (fun _ => 0)))), ((ad 18), .inl (cA 0, 8, .inl (fun _ => 0))), ((ad 30), .inr (7, [.ref (ad 31), .int (0 : Int32)])), ((ad 31), .inl (cA 0, 8, .inl (fun _ => 0))), ((ad 32), .inr (7, [.ref (ad 33), .int (0 : Int32)])), ((ad 33), .inl (cA 0, 60, .inl (fun _ => 0))), ((ad 34), .inr (4, [.ref (ad 30)])), ((ad 35), .inr (9, [.ref (ad 32), .ref (ad 36), .int (0 : Int32), .int (1 : Int32)])), ((ad 36), .inl (cA 0, 10, .inl (fun _ => 0))), ((ad 19), .inr (8, [.ref (ad 1), .ref (ad 9), .ref (ad 14), .ref (ad 20), .ref (ad 21), .ref (ad 22), .int (0 : Int32), .int (0 : Int32), .ref (ad 23), .ref (ad 24)])), ((ad 9), .inr (1, [.ref (ad 10), .ref (ad 11), .ref (ad 12), .ref (ad 13), .int (0 : Int32), .long (1 : Int64), .long (0 : Int64)])), ((ad 10), .inl (cA 0, 8, .inl (fun _ => 0))), ((ad 11), .inl (cA 1, 8, .inr (.inl (fun _ => 0)))), ((ad 12), .inl (cA 1, 8, .inr (.inl (fun _ => 0)))), ((ad 13), .inl (cA 0, 8, .inl (fun _ => 0))), ((ad 20), .inl (cA 2, 64, .inl (fun _ => 0))), ((ad 21), .inl (cA 0, 64, .inl (fun _ => 0))), ((ad 22), .inl (cA 0, 10, .inl (fun _ => 0))), ((ad 23), .inl (cA 1, 7, .inr (.inl (fun _ => 0)))), ((ad 24), .inl (cA 0, 7, .inl (fun _ => 0))), ((ad 25), .inr (6, [.ref (ad 1), .ref (ad 14), .ref (ad 26), .ref (ad 27), .ref (ad 28), .int (0 : Int32), .ref (ad 29), .long (1 : Int64)])), ((ad 26), .inl (cA 0, 64, .inl (fun _ => 0))), ((ad 27), .inl (cA 0, 256, .inl (fun _ => 0))), ((ad 28), .inl (cA 0, 8, .inl (fun _ => 0))), ((ad 29), .inl (cA 1, 64, .inr (.inl (fun _ => 0)))), ((ad 38), .inl (cA 3, 2, .inr (.inr (.inr (.inr (va_up (va_up (fun _ => none) ((0 : Int32)).toNatClampNeg (some (ad 30))) ((1 : Int32)).toNatClampNeg (some (ad 32)))))))), ((ad 37), .inr (2, [.ref (ad 1), .ref (ad 34), .ref (ad 35), .int (0 : Int32)])), ((ad 39), .inl (cA 4, 4, .inr (.inr (.inr (.inr (va_up (va_up (va_up (va_up (fun _ => none) ((0 : Int32)).toNatClampNeg (some (ad 40))) ((1 : Int32)).toNatClampNeg (some (ad 42))) ((2 : Int32)).toNatClampNeg (some (ad 44))) ((3 : Int32)).toNatClampNeg (some (ad 46)))))))), ((ad 40), .inr (5, [.int (1 : Int32), .int (0 : Int32), .int (0 : Int32), .ref (ad 41)])), ((ad 41), .inl (cA 0, 48, .inl (fun _ => 0))), ((ad 42), .inr (5, [.int (1 : Int32), .int (0 : Int32), .int (0 : Int32), .ref (ad 43)])), ((ad 43), .inl (cA 0, 48, .inl (fun _ => 0))), ((ad 44), .inr (5, [.int (1 : Int32), .int (0 : Int32), .int (0 : Int32), .ref (ad 45)])), ((ad 45), .inl (cA 0, 48, .inl (fun _ => 0))), ((ad 46), .inr (5, [.int (1 : Int32), .int (0 : Int32), .int (0 : Int32), .ref (ad 47)])), ((ad 47), .inl (cA 0, 48, .inl (fun _ => 0))), ((ad 48), .inr (0, [.long (0 : Int64), .long (1 : Int64)])), ((ad 49), .inr (11, [.int 0, .ref (ad 50), .ref (ad 51), .int 0, .ref (ad 52), .ref (ad 53), .ref (ad 54), .ref (ad 55), .ref (ad 56), .ref (ad 57), .ref (ad 58), .ref (ad 59), .ref (ad 60), .long 0, .long 0, .ref (ad 61), .ref (ad 62), .ref (ad 63), .ref (ad 64), .ref (ad 65), .ref (ad 66), .ref (ad 67), .ref (ad 68), .int 0, .int 0, .int 0, .int 0, .int 0, .ref (ad 69), .ref (ad 70), .ref (ad 71), .ref (ad 72), .ref (ad 73), .int 0])), ((ad 50), .inl (cA 0, 16, .inl (fun _ => 0))), ((ad 51), .inl (cA 0, 16, .inl (fun _ => 0))), ((ad 52), .inl (cA 0, 64, .inl (fun _ => 0))), ((ad 53), .inl (cA 0, 64, .inl (fun _ => 0))), ((ad 54), .inl (cA 0, 64, .inl (fun _ => 0))), ((ad 55), .inl (cA 0, 256, .inl (fun _ => 0))), ((ad 56), .inl (cA 0, 24, .inl (cst 24 (3000 : Int32)))), ((ad 57), .inl (cA 1, 8, .inr (.inl (fun _ => 0)))), ((ad 58), .inl (cA 1, 8, .inr (.inl (fun _ => 0)))), ((ad 59), .inl (cA 1, 8, .inr (.inl (fun _ => 0)))), ((ad 60), .inl (cA 1, 8, .inr (.inl (fun _ => 0)))), ((ad 61), .inl (cA 1, 8, .inr (.inl (fun _ => 0)))), ((ad 62), .inl (cA 0, 8, .inl (fun _ => 0))), ((ad 63), .inl (cA 0, 64, .inl (fun _ => 0))), ((ad 64), .inl (cA 0, 256, .inl (fun _ => 0))), ((ad 65), .inl (cA 0, 120, .inl (fun _ => 0))), ((ad 66), .inl (cA 0, 2, .inl (fun _ => 0))), ((ad 67), .inl (cA 0, 8, .inl (fun _ => 0))), ((ad 68), .inl (cA 0, 8, .inl (fun _ => 0))), ((ad 69), .inl (cA 2, 4, .inl (fun _ => 0))), ((ad 70), .inl (cA 0, 4, .inl (fun _ => 0))), ((ad 71), .inl (cA 0, 4, .inl (fun _ => 0))), ((ad 72), .inl (cA 0, 192, .inl (fun _ => 0))), ((ad 73), .inl (cA 0, 48, .inl (fun _ => 0)))]
theorem arrV_cg {c : ClassId} {n : Nat} {f f' : Nat → Value} (h : ∀ j, j < n → f j = f' j) : arrV c n f = arrV c n f' := by
  unfold arrV
  congr 2
  funext j
  exact h j.val j.isLt
theorem vp_cg {c : ClassId} {n : Nat} {f f' : Nat → Option Nat} (h : ∀ j, j < n → f j = f' j) : vp_cell c (n, .inr (.inr (.inr (.inr f)))) = vp_cell c (n, .inr (.inr (.inr (.inr f')))) := arrV_cg (fun j hj => congrArg va_rf (h j hj))
set_option maxRecDepth 20000 in
set_option maxHeartbeats 4000000 in
theorem wEnd_ad {cA : Nat → ClassId} {ad : Nat → Nat} (j : Nat) (hj : j < 74) : ∃ e, (wEnd cA ad)[plc.getD j 0]? = some (ad j, e) := by
  match j, hj with
  | 0, _ => exact ⟨_, rfl⟩
  | 1, _ => exact ⟨_, rfl⟩
  | 2, _ => exact ⟨_, rfl⟩
  | 3, _ => exact ⟨_, rfl⟩
  | 4, _ => exact ⟨_, rfl⟩
  | 5, _ => exact ⟨_, rfl⟩
  | 6, _ => exact ⟨_, rfl⟩
  | 7, _ => exact ⟨_, rfl⟩
  | 8, _ => exact ⟨_, rfl⟩
  | 9, _ => exact ⟨_, rfl⟩
  | 10, _ => exact ⟨_, rfl⟩
  | 11, _ => exact ⟨_, rfl⟩
  | 12, _ => exact ⟨_, rfl⟩
  | 13, _ => exact ⟨_, rfl⟩
  | 14, _ => exact ⟨_, rfl⟩
  | 15, _ => exact ⟨_, rfl⟩
  | 16, _ => exact ⟨_, rfl⟩
  | 17, _ => exact ⟨_, rfl⟩
  | 18, _ => exact ⟨_, rfl⟩
  | 19, _ => exact ⟨_, rfl⟩
  | 20, _ => exact ⟨_, rfl⟩
  | 21, _ => exact ⟨_, rfl⟩
  | 22, _ => exact ⟨_, rfl⟩
  | 23, _ => exact ⟨_, rfl⟩
  | 24, _ => exact ⟨_, rfl⟩
  | 25, _ => exact ⟨_, rfl⟩
  | 26, _ => exact ⟨_, rfl⟩
  | 27, _ => exact ⟨_, rfl⟩
  | 28, _ => exact ⟨_, rfl⟩
  | 29, _ => exact ⟨_, rfl⟩
  | 30, _ => exact ⟨_, rfl⟩
  | 31, _ => exact ⟨_, rfl⟩
  | 32, _ => exact ⟨_, rfl⟩
  | 33, _ => exact ⟨_, rfl⟩
  | 34, _ => exact ⟨_, rfl⟩
  | 35, _ => exact ⟨_, rfl⟩
  | 36, _ => exact ⟨_, rfl⟩
  | 37, _ => exact ⟨_, rfl⟩
  | 38, _ => exact ⟨_, rfl⟩
  | 39, _ => exact ⟨_, rfl⟩
  | 40, _ => exact ⟨_, rfl⟩
  | 41, _ => exact ⟨_, rfl⟩
  | 42, _ => exact ⟨_, rfl⟩
  | 43, _ => exact ⟨_, rfl⟩
  | 44, _ => exact ⟨_, rfl⟩
  | 45, _ => exact ⟨_, rfl⟩
  | 46, _ => exact ⟨_, rfl⟩
  | 47, _ => exact ⟨_, rfl⟩
  | 48, _ => exact ⟨_, rfl⟩
  | 49, _ => exact ⟨_, rfl⟩
  | 50, _ => exact ⟨_, rfl⟩
  | 51, _ => exact ⟨_, rfl⟩
  | 52, _ => exact ⟨_, rfl⟩
  | 53, _ => exact ⟨_, rfl⟩
  | 54, _ => exact ⟨_, rfl⟩
  | 55, _ => exact ⟨_, rfl⟩
  | 56, _ => exact ⟨_, rfl⟩
  | 57, _ => exact ⟨_, rfl⟩
  | 58, _ => exact ⟨_, rfl⟩
  | 59, _ => exact ⟨_, rfl⟩
  | 60, _ => exact ⟨_, rfl⟩
  | 61, _ => exact ⟨_, rfl⟩
  | 62, _ => exact ⟨_, rfl⟩
  | 63, _ => exact ⟨_, rfl⟩
  | 64, _ => exact ⟨_, rfl⟩
  | 65, _ => exact ⟨_, rfl⟩
  | 66, _ => exact ⟨_, rfl⟩
  | 67, _ => exact ⟨_, rfl⟩
  | 68, _ => exact ⟨_, rfl⟩
  | 69, _ => exact ⟨_, rfl⟩
  | 70, _ => exact ⟨_, rfl⟩
  | 71, _ => exact ⟨_, rfl⟩
  | 72, _ => exact ⟨_, rfl⟩
  | 73, _ => exact ⟨_, rfl⟩
  | n + 74, h => omega
theorem cE_49 {l : Launch} {D : va_G} {cA : Nat → ClassId} {ad : Nat → Nat} : cE (l, D, ad, cA) sg0 49 (.inr (11, [0, 50 + 2, 51 + 2, 0, 52 + 2, 53 + 2, 54 + 2, 55 + 2, 56 + 2, 57 + 2, 58 + 2, 59 + 2, 60 + 2, 1, 1, 61 + 2, 62 + 2, 63 + 2, 64 + 2, 65 + 2, 66 + 2, 67 + 2, 68 + 2, 0, 0, 0, 0, 0, 69 + 2, 70 + 2, 71 + 2, 72 + 2, 73 + 2, 0])) = .inr (11, [.int 0, .ref (ad 50), .ref (ad 51), .int 0, .ref (ad 52), .ref (ad 53), .ref (ad 54), .ref (ad 55), .ref (ad 56), .ref (ad 57), .ref (ad 58), .ref (ad 59), .ref (ad 60), .long 0, .long 0, .ref (ad 61), .ref (ad 62), .ref (ad 63), .ref (ad 64), .ref (ad 65), .ref (ad 66), .ref (ad 67), .ref (ad 68), .int 0, .int 0, .int 0, .int 0, .int 0, .ref (ad 69), .ref (ad 70), .ref (ad 71), .ref (ad 72), .ref (ad 73), .int 0]) := by
  have h1 : gI sg0 49 = fun _ => 0 := by funext k; simp [gI, sg0]
  have h2 : gL sg0 49 = fun _ => 0 := by funext k; simp [gL, sg0]
  simp only [cE, List.mapIdx_cons, List.mapIdx_nil, fv, h1, h2]
  rfl
set_option maxRecDepth 20000 in
set_option maxHeartbeats 4000000 in
theorem wEnd_P {l : Launch} {D : va_G} {cA : Nat → ClassId} {ad : Nat → Nat} {H : Heap} (hP : va_P D classes (wEnd cA ad) H) : va_P D classes (wd SS (l, D, ad, cA) sg0) H := by
  intro j q hj
  obtain ⟨sh, hs, rfl⟩ := wd_of hj
  have hj2 : j < 74 := (List.getElem?_eq_some_iff.mp hs).1
  clear hj
  revert sh
  match j, hj2 with
  | 0, _ => intro sh hs; obtain rfl := Option.some.inj (s_0.symm.trans hs); exact hP 0 _ rfl
  | 1, _ => intro sh hs; obtain rfl := Option.some.inj (s_1.symm.trans hs); exact hP 1 _ rfl
  | 2, _ => intro sh hs; obtain rfl := Option.some.inj (s_2.symm.trans hs); exact hP 2 _ rfl
  | 3, _ => intro sh hs; obtain rfl := Option.some.inj (s_3.symm.trans hs); exact hP 3 _ rfl
  | 4, _ => intro sh hs; obtain rfl := Option.some.inj (s_4.symm.trans hs); exact hP 4 _ rfl
  | 5, _ => intro sh hs; obtain rfl := Option.some.inj (s_5.symm.trans hs); exact hP 5 _ rfl
  | 6, _ => intro sh hs; obtain rfl := Option.some.inj (s_6.symm.trans hs); exact hP 6 _ rfl
  | 7, _ => intro sh hs; obtain rfl := Option.some.inj (s_7.symm.trans hs); exact hP 7 _ rfl
  | 8, _ => intro sh hs; obtain rfl := Option.some.inj (s_8.symm.trans hs); exact hP 8 _ rfl
  | 9, _ => intro sh hs; obtain rfl := Option.some.inj (s_9.symm.trans hs); exact hP 22 _ rfl
  | 10, _ => intro sh hs; obtain rfl := Option.some.inj (s_10.symm.trans hs); exact hP 23 _ rfl
  | 11, _ => intro sh hs; obtain rfl := Option.some.inj (s_11.symm.trans hs); exact hP 24 _ rfl
  | 12, _ => intro sh hs; obtain rfl := Option.some.inj (s_12.symm.trans hs); exact hP 25 _ rfl
  | 13, _ => intro sh hs; obtain rfl := Option.some.inj (s_13.symm.trans hs); exact hP 26 _ rfl
  | 14, _ => intro sh hs; obtain rfl := Option.some.inj (s_14.symm.trans hs); exact hP 9 _ rfl
  | 15, _ => intro sh hs; obtain rfl := Option.some.inj (s_15.symm.trans hs); exact hP 10 _ rfl
  | 16, _ => intro sh hs; obtain rfl := Option.some.inj (s_16.symm.trans hs); exact hP 11 _ rfl
  | 17, _ => intro sh hs; obtain rfl := Option.some.inj (s_17.symm.trans hs); exact hP 12 _ rfl
  | 18, _ => intro sh hs; obtain rfl := Option.some.inj (s_18.symm.trans hs); exact hP 13 _ rfl
  | 19, _ => intro sh hs; obtain rfl := Option.some.inj (s_19.symm.trans hs); exact hP 21 _ rfl
  | 20, _ => intro sh hs; obtain rfl := Option.some.inj (s_20.symm.trans hs); exact hP 27 _ rfl
  | 21, _ => intro sh hs; obtain rfl := Option.some.inj (s_21.symm.trans hs); exact hP 28 _ rfl
  | 22, _ => intro sh hs; obtain rfl := Option.some.inj (s_22.symm.trans hs); exact hP 29 _ rfl
  | 23, _ => intro sh hs; obtain rfl := Option.some.inj (s_23.symm.trans hs); exact hP 30 _ rfl
  | 24, _ => intro sh hs; obtain rfl := Option.some.inj (s_24.symm.trans hs); exact hP 31 _ rfl
  | 25, _ => intro sh hs; obtain rfl := Option.some.inj (s_25.symm.trans hs); exact hP 32 _ rfl
  | 26, _ => intro sh hs; obtain rfl := Option.some.inj (s_26.symm.trans hs); exact hP 33 _ rfl
  | 27, _ => intro sh hs; obtain rfl := Option.some.inj (s_27.symm.trans hs); exact hP 34 _ rfl
  | 28, _ => intro sh hs; obtain rfl := Option.some.inj (s_28.symm.trans hs); exact hP 35 _ rfl
  | 29, _ => intro sh hs; obtain rfl := Option.some.inj (s_29.symm.trans hs); exact hP 36 _ rfl
  | 30, _ => intro sh hs; obtain rfl := Option.some.inj (s_30.symm.trans hs); exact hP 14 _ rfl
  | 31, _ => intro sh hs; obtain rfl := Option.some.inj (s_31.symm.trans hs); exact hP 15 _ rfl
  | 32, _ => intro sh hs; obtain rfl := Option.some.inj (s_32.symm.trans hs); exact hP 16 _ rfl
  | 33, _ => intro sh hs; obtain rfl := Option.some.inj (s_33.symm.trans hs); exact hP 17 _ rfl
  | 34, _ => intro sh hs; obtain rfl := Option.some.inj (s_34.symm.trans hs); exact hP 18 _ rfl
  | 35, _ => intro sh hs; obtain rfl := Option.some.inj (s_35.symm.trans hs); exact hP 19 _ rfl
  | 36, _ => intro sh hs; obtain rfl := Option.some.inj (s_36.symm.trans hs); exact hP 20 _ rfl
  | 37, _ => intro sh hs; obtain rfl := Option.some.inj (s_37.symm.trans hs); exact hP 38 _ rfl
  | 38, _ =>
    intro sh hs
    obtain rfl := Option.some.inj (s_38.symm.trans hs)
    have h := hP 37 _ rfl
    refine Eq.trans h (congrArg some ?_)
    refine vp_cg (fun k hk => ?_)
    match k, hk with
    | 0, _ => rfl
    | 1, _ => rfl
  | 39, _ =>
    intro sh hs
    obtain rfl := Option.some.inj (s_39.symm.trans hs)
    have h := hP 39 _ rfl
    refine Eq.trans h (congrArg some ?_)
    refine vp_cg (fun k hk => ?_)
    match k, hk with
    | 0, _ => rfl
    | 1, _ => rfl
    | 2, _ => rfl
    | 3, _ => rfl
  | 40, _ => intro sh hs; obtain rfl := Option.some.inj (s_40.symm.trans hs); exact hP 40 _ rfl
  | 41, _ => intro sh hs; obtain rfl := Option.some.inj (s_41.symm.trans hs); exact hP 41 _ rfl
  | 42, _ => intro sh hs; obtain rfl := Option.some.inj (s_42.symm.trans hs); exact hP 42 _ rfl
  | 43, _ => intro sh hs; obtain rfl := Option.some.inj (s_43.symm.trans hs); exact hP 43 _ rfl
  | 44, _ => intro sh hs; obtain rfl := Option.some.inj (s_44.symm.trans hs); exact hP 44 _ rfl
  | 45, _ => intro sh hs; obtain rfl := Option.some.inj (s_45.symm.trans hs); exact hP 45 _ rfl
  | 46, _ => intro sh hs; obtain rfl := Option.some.inj (s_46.symm.trans hs); exact hP 46 _ rfl
  | 47, _ => intro sh hs; obtain rfl := Option.some.inj (s_47.symm.trans hs); exact hP 47 _ rfl
  | 48, _ => intro sh hs; obtain rfl := Option.some.inj (s_48.symm.trans hs); exact hP 48 _ rfl
  | 49, _ => intro sh hs; obtain rfl := Option.some.inj (s_49.symm.trans hs); rw [cE_49]; exact hP 49 _ rfl
  | 50, _ => intro sh hs; obtain rfl := Option.some.inj (s_50.symm.trans hs); exact hP 50 _ rfl
  | 51, _ => intro sh hs; obtain rfl := Option.some.inj (s_51.symm.trans hs); exact hP 51 _ rfl
  | 52, _ => intro sh hs; obtain rfl := Option.some.inj (s_52.symm.trans hs); exact hP 52 _ rfl
  | 53, _ => intro sh hs; obtain rfl := Option.some.inj (s_53.symm.trans hs); exact hP 53 _ rfl
  | 54, _ => intro sh hs; obtain rfl := Option.some.inj (s_54.symm.trans hs); exact hP 54 _ rfl
  | 55, _ => intro sh hs; obtain rfl := Option.some.inj (s_55.symm.trans hs); exact hP 55 _ rfl
  | 56, _ => intro sh hs; obtain rfl := Option.some.inj (s_56.symm.trans hs); exact hP 56 _ rfl
  | 57, _ => intro sh hs; obtain rfl := Option.some.inj (s_57.symm.trans hs); exact hP 57 _ rfl
  | 58, _ => intro sh hs; obtain rfl := Option.some.inj (s_58.symm.trans hs); exact hP 58 _ rfl
  | 59, _ => intro sh hs; obtain rfl := Option.some.inj (s_59.symm.trans hs); exact hP 59 _ rfl
  | 60, _ => intro sh hs; obtain rfl := Option.some.inj (s_60.symm.trans hs); exact hP 60 _ rfl
  | 61, _ => intro sh hs; obtain rfl := Option.some.inj (s_61.symm.trans hs); exact hP 61 _ rfl
  | 62, _ => intro sh hs; obtain rfl := Option.some.inj (s_62.symm.trans hs); exact hP 62 _ rfl
  | 63, _ => intro sh hs; obtain rfl := Option.some.inj (s_63.symm.trans hs); exact hP 63 _ rfl
  | 64, _ => intro sh hs; obtain rfl := Option.some.inj (s_64.symm.trans hs); exact hP 64 _ rfl
  | 65, _ => intro sh hs; obtain rfl := Option.some.inj (s_65.symm.trans hs); exact hP 65 _ rfl
  | 66, _ => intro sh hs; obtain rfl := Option.some.inj (s_66.symm.trans hs); exact hP 66 _ rfl
  | 67, _ => intro sh hs; obtain rfl := Option.some.inj (s_67.symm.trans hs); exact hP 67 _ rfl
  | 68, _ => intro sh hs; obtain rfl := Option.some.inj (s_68.symm.trans hs); exact hP 68 _ rfl
  | 69, _ => intro sh hs; obtain rfl := Option.some.inj (s_69.symm.trans hs); exact hP 69 _ rfl
  | 70, _ => intro sh hs; obtain rfl := Option.some.inj (s_70.symm.trans hs); exact hP 70 _ rfl
  | 71, _ => intro sh hs; obtain rfl := Option.some.inj (s_71.symm.trans hs); exact hP 71 _ rfl
  | 72, _ => intro sh hs; obtain rfl := Option.some.inj (s_72.symm.trans hs); exact hP 72 _ rfl
  | 73, _ => intro sh hs; obtain rfl := Option.some.inj (s_73.symm.trans hs); exact hP 73 _ rfl
  | n + 74, h => omega
theorem lw_gtb {s : State} {b : Nat} (hts : ∀ w ∈ lw_tbl, w.before #[Value.ref b] s = true) : ∀ w ∈ gtb, w.before #[Value.ref b] s = true := fun w hw => hts w (List.mem_filter.mp hw).1
theorem lw_nst {s : State} {b : Nat} (hts : ∀ w ∈ lw_tbl, w.before #[Value.ref b] s = true) : Nst s := fun w hw => va_Nw.of (nst_tab hw) (hts w (List.mem_filter.mp hw).1)
theorem lw_K {s : State} {b : Nat} (hts : ∀ w ∈ lw_tbl, w.before #[Value.ref b] s = true) : ∃ (D : va_G) (cA : Nat → ClassId), ∀ (l : Launch) (ad : Nat → Nat), va_K D classes (gty (l, D, ad, cA)) s := by
  have hg := lw_gtb hts
  obtain ⟨c0, j0, k0⟩ := u_known (C := RX0) (T := TX0) (N := 2) (n := 2) hg en_in0 (hg _ is_X0)
  obtain ⟨c1, j1, k1⟩ := u_known (C := RX1) (T := TX1) (N := 7) (n := 7) hg en_in1 (hg _ is_X1)
  obtain ⟨c2, j2, k2⟩ := u_known (C := RX2) (T := TX2) (N := 4) (n := 4) hg en_in2 (hg _ is_X2)
  obtain ⟨c3, j3, k3⟩ := u_known (C := RX3) (T := TX3) (N := 9) (n := 9) hg en_in3 (hg _ is_X3)
  obtain ⟨c4, j4, k4⟩ := u_known (C := RX4) (T := TX4) (N := 1) (n := 1) hg en_in4 (hg _ is_X4)
  obtain ⟨c5, j5, k5⟩ := u_known (C := RX5) (T := TX5) (N := 4) (n := 4) hg en_in5 (hg _ is_X5)
  obtain ⟨c6, j6, k6⟩ := u_known (C := RX6) (T := TX6) (N := 8) (n := 8) hg en_in6 (hg _ is_X6)
  obtain ⟨c7, j7, k7⟩ := u_known (C := RX7) (T := TX7) (N := 2) (n := 2) hg en_in7 (hg _ is_X7)
  obtain ⟨c8, j8, k8⟩ := u_known (C := RX8) (T := TX8) (N := 10) (n := 10) hg en_in8 (hg _ is_X8)
  obtain ⟨c9, j9, k9⟩ := u_known (C := RX9) (T := TX9) (N := 4) (n := 4) hg en_in9 (hg _ is_X9)
  obtain ⟨c10, j10, k10⟩ := u_known (C := RX10) (T := TX10) (N := 10) (n := 10) hg en_in10 (hg _ is_X10)
  obtain ⟨c11, j11, k11⟩ := u_known (C := RX11) (T := TX11) (N := 34) (n := 34) hg en_in11 (hg _ is_X11)
  obtain ⟨a0, ka0, p0, e0, f0, g0⟩ := Cond.arrayClass_spec (hg _ ac_int)
  obtain ⟨a1, ka1, p1, e1, f1, g1⟩ := Cond.arrayClass_spec (hg _ ac_long)
  obtain ⟨a2, ka2, p2, e2, f2, g2⟩ := Cond.arrayClass_spec (hg _ ac_boolean)
  obtain ⟨p3, a3, ka3, d3, -, f3, g3, e3⟩ := Cond.arrayOver_spec (hts (.arrayOver (.object "LaneFour$Text")) (List.mem_of_getElem? (i := 333) (by decide +kernel)))
  obtain ⟨p4, a4, ka4, d4, -, f4, g4, e4⟩ := Cond.arrayOver_spec (hts (.arrayOver (.object "LaneFour$Sheet")) (List.mem_of_getElem? (i := 354) (by decide +kernel)))
  refine ⟨(fun k => [c0, c1, c2, c3, c4, c5, c6, c7, c8, c9, c10, c11].getD k 0, fun k => [j0, j1, j2, j3, j4, j5, j6, j7, j8, j9, j10, j11].getD k (fun _ => 0)), fun k => [a0, a1, a2, a3, a4].getD k 0, fun l ad => ⟨?_, ?_⟩⟩
  · intro c q hq
    match c, hq with
    | 0, hq => cases hq; exact k0
    | 1, hq => cases hq; exact k1
    | 2, hq => cases hq; exact k2
    | 3, hq => cases hq; exact k3
    | 4, hq => cases hq; exact k4
    | 5, hq => cases hq; exact k5
    | 6, hq => cases hq; exact k6
    | 7, hq => cases hq; exact k7
    | 8, hq => cases hq; exact k8
    | 9, hq => cases hq; exact k9
    | 10, hq => cases hq; exact k10
    | 11, hq => cases hq; exact k11
    | k + 12, hq => simp [classes] at hq
  · intro k q hq
    match k, hq with
    | 0, hq => cases hq; exact ⟨fun n z => ⟨(fun k h => by cases h), ka0, f0, p0, g0⟩, e0⟩
    | 1, hq => cases hq; exact ⟨fun n z => ⟨(fun k h => by cases h), ka1, f1, p1, g1⟩, e1⟩
    | 2, hq => cases hq; exact ⟨fun n z => ⟨(fun k h => by cases h), ka2, f2, p2, g2⟩, e2⟩
    | 3, hq => cases hq; exact ⟨fun n z => ⟨(fun k h => by cases h), ka3, f3, p3, g3⟩, ka3, p3, f3, g3, d3, e3⟩
    | 4, hq => cases hq; exact ⟨fun n z => ⟨(fun k h => by cases h), ka4, f4, p4, g4⟩, ka4, p4, f4, g4, d4, e4⟩
    | k + 5, hq => simp [gty] at hq
theorem lw_AO {s : State} {b : Nat} (hts : ∀ w ∈ lw_tbl, w.before #[Value.ref b] s = true) : AOs s := ⟨va_AO.of (hts (.arrayOver (.object "LaneFour$Text")) (List.mem_of_getElem? (i := 333) (by decide +kernel))), va_AO.of (hts (.arrayOver (.object "LaneFour$Sheet")) (List.mem_of_getElem? (i := 354) (by decide +kernel)))⟩
theorem dL_law_0 : decode code 0 = .ok (.new 7, 3) := by decide +kernel
theorem dL_law_3 : decode code 3 = .ok (.dup, 1) := by decide +kernel
theorem dL_law_4 : decode code 4 = .ok (.invokespecial 9, 3) := by decide +kernel
theorem dL_law_7 : decode code 7 = .ok (.astore_n 1, 1) := by decide +kernel
theorem dL_law_8 : decode code 8 = .ok (.new 10, 3) := by decide +kernel
theorem dL_law_11 : decode code 11 = .ok (.dup, 1) := by decide +kernel
theorem dL_law_12 : decode code 12 = .ok (.invokespecial 12, 3) := by decide +kernel
theorem dL_law_15 : decode code 15 = .ok (.astore_n 2, 1) := by decide +kernel
theorem dL_law_16 : decode code 16 = .ok (.iconst 0, 1) := by decide +kernel
theorem dL_law_17 : decode code 17 = .ok (.istore_n 3, 1) := by decide +kernel
set_option maxRecDepth 20000 in
set_option maxHeartbeats 4000000 in
theorem law_enter {p : Program} {e : Env} {s : State} {m : MethodId} {below : List Frame} {meth : Method} {c : Code} (l : Launch) {b L : Nat} {xs : Nat → Int32} {Inv : Sg → Prop} (hok : AllOk Inv) (h0 : Inv sg0) (hL : L ≤ 3072) (C0 : lw_At p s m meth c b L xs) : W p l e room_1 s m #[Value.ref b] below meth c s.heap [] 0 0 (lw_Z below #[Value.ref b] s) (entryFrame m ([Value.ref b] : List Value).toArray 4) := by
  obtain ⟨hx, hb, hr, hml, hown, hts, hX, hbl, hlocks, hgv⟩ := C0
  obtain ⟨D, cA, hK⟩ := lw_K hts
  have hlow : ∀ q : Nat, s.heap.size ≤ q → (fun q : Nat => s.heap.size ≤ q) q := fun _ h => h
  have key : ∀ (M : Mu), M = (p, e, room_1, s, m, #[Value.ref b], below, meth, c, (fun q : Nat => s.heap.size ≤ q)) → CxU (l, D, fun _ => 0, cA) M iL room_1 → UU (l, D, fun _ => 0, cA) M iL (lw_Z below #[Value.ref b] s) 0 [some (.ref b), none, none, none] [] [] 0 0 := by
    intro M hM hC
    refine u_new (pc := 0) (ci := 10) (fs := [.null, .null, .null, .null, .null, .null, .null, .null, .null, .int 0]) hC rfl cl_L_7 is_X10 in_X10 (by decide +kernel) rfl rfl dL_law_0 (fun za => ?_)
    refine UU.eq (ws' := [(za, .inr (10, [.null, .null, .null, .null, .null, .null, .null, .null, .null, .int 0]))]) (cells' := 1) (slots' := 10) rfl rfl rfl ?_
    refine u_dup (pc := 3) hC rfl dL_law_3 ?_
    refine u_ci (pc := 4) (wr := []) (rest := [.ref za]) gi_X10_init hC (cu_X10_init) ml_L_9 rfl rfl rfl rfl rfl rfl rfl rfl dL_law_4 (fun w hw => ?_)
    obtain ⟨z0, z1, z2, z3, z4, z5, z6, z7, z8, z9, z10, z11, z12, z13, z14, z15, z16, z17, z18, z19, z20, z21, z22, z23, z24, z25, z26, z27, z28, z29, z30, z31, z32, z33, z34, z35, z36, z37, z38, z39, z40, z41, z42, z43, z44, z45, z46, z47, rfl⟩ := hw
    refine UU.eq (ws' := [(za, .inr (10, [.ref z0, .ref z20, .ref z31, .ref z36, .ref z17, .ref z18, .ref z37, .ref z38, .ref z47, .int (0 : Int32)])), (z0, .inr (3, [.int (0 : Int32), .int (0 : Int32), .ref z1, .ref z2, .ref z3, .ref z4, .ref z5, .ref z6, .ref z7])), (z1, .inl (cA 0, 16, .inl (fun _ => 0))), (z2, .inl (cA 0, 16, .inl (fun _ => 0))), (z3, .inl (cA 0, 64, .inl (fun _ => 0))), (z4, .inl (cA 0, 64, .inl (fun _ => 0))), (z5, .inl (cA 0, 64, .inl (fun _ => 0))), (z6, .inl (cA 0, 256, .inl (cst 256 (-1 : Int32)))), (z7, .inl (cA 0, 24, .inl (cst 24 (3000 : Int32)))), (z8, .inr (1, [.ref z9, .ref z10, .ref z11, .ref z12, .int (0 : Int32), .long (1 : Int64), .long (0 : Int64)])), (z9, .inl (cA 0, 8, .inl (fun _ => 0))), (z10, .inl (cA 1, 8, .inr (.inl (fun _ => 0)))), (z11, .inl (cA 1, 8, .inr (.inl (fun _ => 0)))), (z12, .inl (cA 0, 8, .inl (fun _ => 0))), (z13, .inr (7, [.ref z14, .int (0 : Int32)])), (z14, .inl (cA 0, 8, .inl (fun _ => 0))), (z15, .inr (7, [.ref z16, .int (0 : Int32)])), (z16, .inl (cA 0, 60, .inl (fun _ => 0))), (z17, .inr (4, [.ref z13])), (z18, .inr (9, [.ref z15, .ref z19, .int (0 : Int32), .int (1 : Int32)])), (z19, .inl (cA 0, 10, .inl (fun _ => 0))), (z20, .inr (8, [.ref z0, .ref z21, .ref z8, .ref z26, .ref z27, .ref z28, .int (0 : Int32), .int (0 : Int32), .ref z29, .ref z30])), (z21, .inr (1, [.ref z22, .ref z23, .ref z24, .ref z25, .int (0 : Int32), .long (1 : Int64), .long (0 : Int64)])), (z22, .inl (cA 0, 8, .inl (fun _ => 0))), (z23, .inl (cA 1, 8, .inr (.inl (fun _ => 0)))), (z24, .inl (cA 1, 8, .inr (.inl (fun _ => 0)))), (z25, .inl (cA 0, 8, .inl (fun _ => 0))), (z26, .inl (cA 2, 64, .inl (fun _ => 0))), (z27, .inl (cA 0, 64, .inl (fun _ => 0))), (z28, .inl (cA 0, 10, .inl (fun _ => 0))), (z29, .inl (cA 1, 7, .inr (.inl (fun _ => 0)))), (z30, .inl (cA 0, 7, .inl (fun _ => 0))), (z31, .inr (6, [.ref z0, .ref z8, .ref z32, .ref z33, .ref z34, .int (0 : Int32), .ref z35, .long (1 : Int64)])), (z32, .inl (cA 0, 64, .inl (fun _ => 0))), (z33, .inl (cA 0, 256, .inl (fun _ => 0))), (z34, .inl (cA 0, 8, .inl (fun _ => 0))), (z35, .inl (cA 1, 64, .inr (.inl (fun _ => 0)))), (z36, .inl (cA 3, 2, .inr (.inr (.inr (.inr (va_up (va_up (fun _ => none) ((0 : Int32)).toNatClampNeg (some z13)) ((1 : Int32)).toNatClampNeg (some z15))))))), (z37, .inr (2, [.ref z0, .ref z17, .ref z18, .int (0 : Int32)])), (z38, .inl (cA 4, 4, .inr (.inr (.inr (.inr (va_up (va_up (va_up (va_up (fun _ => none) ((0 : Int32)).toNatClampNeg (some z39)) ((1 : Int32)).toNatClampNeg (some z41)) ((2 : Int32)).toNatClampNeg (some z43)) ((3 : Int32)).toNatClampNeg (some z45))))))), (z39, .inr (5, [.int (1 : Int32), .int (0 : Int32), .int (0 : Int32), .ref z40])), (z40, .inl (cA 0, 48, .inl (fun _ => 0))), (z41, .inr (5, [.int (1 : Int32), .int (0 : Int32), .int (0 : Int32), .ref z42])), (z42, .inl (cA 0, 48, .inl (fun _ => 0))), (z43, .inr (5, [.int (1 : Int32), .int (0 : Int32), .int (0 : Int32), .ref z44])), (z44, .inl (cA 0, 48, .inl (fun _ => 0))), (z45, .inr (5, [.int (1 : Int32), .int (0 : Int32), .int (0 : Int32), .ref z46])), (z46, .inl (cA 0, 48, .inl (fun _ => 0))), (z47, .inr (0, [.long (0 : Int64), .long (1 : Int64)]))]) (cells' := 49) (slots' := 1470) rfl rfl rfl ?_
    refine u_astore_n (pc := 7) (lv' := [some (.ref b), some (.ref za), none, none]) hC dL_law_7 rfl rfl rfl ?_
    refine u_new (pc := 8) (ci := 11) (fs := [.int 0, .null, .null, .int 0, .null, .null, .null, .null, .null, .null, .null, .null, .null, .long 0, .long 0, .null, .null, .null, .null, .null, .null, .null, .null, .int 0, .int 0, .int 0, .int 0, .int 0, .null, .null, .null, .null, .null, .int 0]) hC rfl cl_L_10 is_X11 in_X11 (by decide +kernel) rfl rfl dL_law_8 (fun zb => ?_)
    refine UU.eq (ws' := [(za, .inr (10, [.ref z0, .ref z20, .ref z31, .ref z36, .ref z17, .ref z18, .ref z37, .ref z38, .ref z47, .int (0 : Int32)])), (z0, .inr (3, [.int (0 : Int32), .int (0 : Int32), .ref z1, .ref z2, .ref z3, .ref z4, .ref z5, .ref z6, .ref z7])), (z1, .inl (cA 0, 16, .inl (fun _ => 0))), (z2, .inl (cA 0, 16, .inl (fun _ => 0))), (z3, .inl (cA 0, 64, .inl (fun _ => 0))), (z4, .inl (cA 0, 64, .inl (fun _ => 0))), (z5, .inl (cA 0, 64, .inl (fun _ => 0))), (z6, .inl (cA 0, 256, .inl (cst 256 (-1 : Int32)))), (z7, .inl (cA 0, 24, .inl (cst 24 (3000 : Int32)))), (z8, .inr (1, [.ref z9, .ref z10, .ref z11, .ref z12, .int (0 : Int32), .long (1 : Int64), .long (0 : Int64)])), (z9, .inl (cA 0, 8, .inl (fun _ => 0))), (z10, .inl (cA 1, 8, .inr (.inl (fun _ => 0)))), (z11, .inl (cA 1, 8, .inr (.inl (fun _ => 0)))), (z12, .inl (cA 0, 8, .inl (fun _ => 0))), (z13, .inr (7, [.ref z14, .int (0 : Int32)])), (z14, .inl (cA 0, 8, .inl (fun _ => 0))), (z15, .inr (7, [.ref z16, .int (0 : Int32)])), (z16, .inl (cA 0, 60, .inl (fun _ => 0))), (z17, .inr (4, [.ref z13])), (z18, .inr (9, [.ref z15, .ref z19, .int (0 : Int32), .int (1 : Int32)])), (z19, .inl (cA 0, 10, .inl (fun _ => 0))), (z20, .inr (8, [.ref z0, .ref z21, .ref z8, .ref z26, .ref z27, .ref z28, .int (0 : Int32), .int (0 : Int32), .ref z29, .ref z30])), (z21, .inr (1, [.ref z22, .ref z23, .ref z24, .ref z25, .int (0 : Int32), .long (1 : Int64), .long (0 : Int64)])), (z22, .inl (cA 0, 8, .inl (fun _ => 0))), (z23, .inl (cA 1, 8, .inr (.inl (fun _ => 0)))), (z24, .inl (cA 1, 8, .inr (.inl (fun _ => 0)))), (z25, .inl (cA 0, 8, .inl (fun _ => 0))), (z26, .inl (cA 2, 64, .inl (fun _ => 0))), (z27, .inl (cA 0, 64, .inl (fun _ => 0))), (z28, .inl (cA 0, 10, .inl (fun _ => 0))), (z29, .inl (cA 1, 7, .inr (.inl (fun _ => 0)))), (z30, .inl (cA 0, 7, .inl (fun _ => 0))), (z31, .inr (6, [.ref z0, .ref z8, .ref z32, .ref z33, .ref z34, .int (0 : Int32), .ref z35, .long (1 : Int64)])), (z32, .inl (cA 0, 64, .inl (fun _ => 0))), (z33, .inl (cA 0, 256, .inl (fun _ => 0))), (z34, .inl (cA 0, 8, .inl (fun _ => 0))), (z35, .inl (cA 1, 64, .inr (.inl (fun _ => 0)))), (z36, .inl (cA 3, 2, .inr (.inr (.inr (.inr (va_up (va_up (fun _ => none) ((0 : Int32)).toNatClampNeg (some z13)) ((1 : Int32)).toNatClampNeg (some z15))))))), (z37, .inr (2, [.ref z0, .ref z17, .ref z18, .int (0 : Int32)])), (z38, .inl (cA 4, 4, .inr (.inr (.inr (.inr (va_up (va_up (va_up (va_up (fun _ => none) ((0 : Int32)).toNatClampNeg (some z39)) ((1 : Int32)).toNatClampNeg (some z41)) ((2 : Int32)).toNatClampNeg (some z43)) ((3 : Int32)).toNatClampNeg (some z45))))))), (z39, .inr (5, [.int (1 : Int32), .int (0 : Int32), .int (0 : Int32), .ref z40])), (z40, .inl (cA 0, 48, .inl (fun _ => 0))), (z41, .inr (5, [.int (1 : Int32), .int (0 : Int32), .int (0 : Int32), .ref z42])), (z42, .inl (cA 0, 48, .inl (fun _ => 0))), (z43, .inr (5, [.int (1 : Int32), .int (0 : Int32), .int (0 : Int32), .ref z44])), (z44, .inl (cA 0, 48, .inl (fun _ => 0))), (z45, .inr (5, [.int (1 : Int32), .int (0 : Int32), .int (0 : Int32), .ref z46])), (z46, .inl (cA 0, 48, .inl (fun _ => 0))), (z47, .inr (0, [.long (0 : Int64), .long (1 : Int64)])), (zb, .inr (11, [.int 0, .null, .null, .int 0, .null, .null, .null, .null, .null, .null, .null, .null, .null, .long 0, .long 0, .null, .null, .null, .null, .null, .null, .null, .null, .int 0, .int 0, .int 0, .int 0, .int 0, .null, .null, .null, .null, .null, .int 0]))]) (cells' := 50) (slots' := 1504) rfl rfl rfl ?_
    refine u_dup (pc := 11) hC rfl dL_law_11 ?_
    refine u_ci (pc := 12) (wr := [(za, .inr (10, [.ref z0, .ref z20, .ref z31, .ref z36, .ref z17, .ref z18, .ref z37, .ref z38, .ref z47, .int (0 : Int32)])), (z0, .inr (3, [.int (0 : Int32), .int (0 : Int32), .ref z1, .ref z2, .ref z3, .ref z4, .ref z5, .ref z6, .ref z7])), (z1, .inl (cA 0, 16, .inl (fun _ => 0))), (z2, .inl (cA 0, 16, .inl (fun _ => 0))), (z3, .inl (cA 0, 64, .inl (fun _ => 0))), (z4, .inl (cA 0, 64, .inl (fun _ => 0))), (z5, .inl (cA 0, 64, .inl (fun _ => 0))), (z6, .inl (cA 0, 256, .inl (cst 256 (-1 : Int32)))), (z7, .inl (cA 0, 24, .inl (cst 24 (3000 : Int32)))), (z8, .inr (1, [.ref z9, .ref z10, .ref z11, .ref z12, .int (0 : Int32), .long (1 : Int64), .long (0 : Int64)])), (z9, .inl (cA 0, 8, .inl (fun _ => 0))), (z10, .inl (cA 1, 8, .inr (.inl (fun _ => 0)))), (z11, .inl (cA 1, 8, .inr (.inl (fun _ => 0)))), (z12, .inl (cA 0, 8, .inl (fun _ => 0))), (z13, .inr (7, [.ref z14, .int (0 : Int32)])), (z14, .inl (cA 0, 8, .inl (fun _ => 0))), (z15, .inr (7, [.ref z16, .int (0 : Int32)])), (z16, .inl (cA 0, 60, .inl (fun _ => 0))), (z17, .inr (4, [.ref z13])), (z18, .inr (9, [.ref z15, .ref z19, .int (0 : Int32), .int (1 : Int32)])), (z19, .inl (cA 0, 10, .inl (fun _ => 0))), (z20, .inr (8, [.ref z0, .ref z21, .ref z8, .ref z26, .ref z27, .ref z28, .int (0 : Int32), .int (0 : Int32), .ref z29, .ref z30])), (z21, .inr (1, [.ref z22, .ref z23, .ref z24, .ref z25, .int (0 : Int32), .long (1 : Int64), .long (0 : Int64)])), (z22, .inl (cA 0, 8, .inl (fun _ => 0))), (z23, .inl (cA 1, 8, .inr (.inl (fun _ => 0)))), (z24, .inl (cA 1, 8, .inr (.inl (fun _ => 0)))), (z25, .inl (cA 0, 8, .inl (fun _ => 0))), (z26, .inl (cA 2, 64, .inl (fun _ => 0))), (z27, .inl (cA 0, 64, .inl (fun _ => 0))), (z28, .inl (cA 0, 10, .inl (fun _ => 0))), (z29, .inl (cA 1, 7, .inr (.inl (fun _ => 0)))), (z30, .inl (cA 0, 7, .inl (fun _ => 0))), (z31, .inr (6, [.ref z0, .ref z8, .ref z32, .ref z33, .ref z34, .int (0 : Int32), .ref z35, .long (1 : Int64)])), (z32, .inl (cA 0, 64, .inl (fun _ => 0))), (z33, .inl (cA 0, 256, .inl (fun _ => 0))), (z34, .inl (cA 0, 8, .inl (fun _ => 0))), (z35, .inl (cA 1, 64, .inr (.inl (fun _ => 0)))), (z36, .inl (cA 3, 2, .inr (.inr (.inr (.inr (va_up (va_up (fun _ => none) ((0 : Int32)).toNatClampNeg (some z13)) ((1 : Int32)).toNatClampNeg (some z15))))))), (z37, .inr (2, [.ref z0, .ref z17, .ref z18, .int (0 : Int32)])), (z38, .inl (cA 4, 4, .inr (.inr (.inr (.inr (va_up (va_up (va_up (va_up (fun _ => none) ((0 : Int32)).toNatClampNeg (some z39)) ((1 : Int32)).toNatClampNeg (some z41)) ((2 : Int32)).toNatClampNeg (some z43)) ((3 : Int32)).toNatClampNeg (some z45))))))), (z39, .inr (5, [.int (1 : Int32), .int (0 : Int32), .int (0 : Int32), .ref z40])), (z40, .inl (cA 0, 48, .inl (fun _ => 0))), (z41, .inr (5, [.int (1 : Int32), .int (0 : Int32), .int (0 : Int32), .ref z42])), (z42, .inl (cA 0, 48, .inl (fun _ => 0))), (z43, .inr (5, [.int (1 : Int32), .int (0 : Int32), .int (0 : Int32), .ref z44])), (z44, .inl (cA 0, 48, .inl (fun _ => 0))), (z45, .inr (5, [.int (1 : Int32), .int (0 : Int32), .int (0 : Int32), .ref z46])), (z46, .inl (cA 0, 48, .inl (fun _ => 0))), (z47, .inr (0, [.long (0 : Int64), .long (1 : Int64)]))]) (rest := [.ref zb]) gi_X11_init hC (cu_X11_init) ml_L_12 rfl rfl rfl rfl rfl rfl rfl rfl dL_law_12 (fun w hw => ?_)
    obtain ⟨z48, z49, z50, z51, z52, z53, z54, z55, z56, z57, z58, z59, z60, z61, z62, z63, z64, z65, z66, z67, z68, z69, z70, z71, rfl⟩ := hw
    refine UU.eq (ws' := wEnd cA (fun j => [za, z0, z1, z2, z3, z4, z5, z6, z7, z21, z22, z23, z24, z25, z8, z9, z10, z11, z12, z20, z26, z27, z28, z29, z30, z31, z32, z33, z34, z35, z13, z14, z15, z16, z17, z18, z19, z37, z36, z38, z39, z40, z41, z42, z43, z44, z45, z46, z47, zb, z48, z49, z50, z51, z52, z53, z54, z55, z56, z57, z58, z59, z60, z61, z62, z63, z64, z65, z66, z67, z68, z69, z70, z71].getD j 0)) (cells' := 74) (slots' := 2766) rfl rfl rfl ?_
    refine u_astore_n (pc := 15) (lv' := [some (.ref b), some (.ref za), some (.ref zb), none]) hC dL_law_15 rfl rfl rfl ?_
    refine u_iconst (pc := 16) (0 : Int32) rfl hC dL_law_16 ?_
    refine u_istore_n (pc := 17) (lv' := [some (.ref b), some (.ref za), some (.ref zb), some (.int (nI 0))]) hC dL_law_17 rfl rfl rfl ?_
    subst hM
    intro H locs ls hP hD hS hl
    generalize hGA : (fun j => [za, z0, z1, z2, z3, z4, z5, z6, z7, z21, z22, z23, z24, z25, z8, z9, z10, z11, z12, z20, z26, z27, z28, z29, z30, z31, z32, z33, z34, z35, z13, z14, z15, z16, z17, z18, z19, z37, z36, z38, z39, z40, z41, z42, z43, z44, z45, z46, z47, zb, z48, z49, z50, z51, z52, z53, z54, z55, z56, z57, z58, z59, z60, z61, z62, z63, z64, z65, z66, z67, z68, z69, z70, z71].getD j 0) = ad at hP hD
    have ez1 : za = ad 0 := by rw [← hGA]; rfl
    have ez2 : zb = ad 49 := by rw [← hGA]; rfl
    rw [ez1, ez2] at hl
    have hP2 := wEnd_P (l := l) (cA := cA) hP
    have hgap : gap SS (l, D, ad, cA) := by
      intro i j hi hj hij
      obtain ⟨e1, h1⟩ := wEnd_ad (cA := cA) (ad := ad) i hi
      obtain ⟨e2, h2⟩ := wEnd_ad (cA := cA) (ad := ad) j hj
      exact plc_inj i hi j hj (hD.1 _ _ _ _ h1 h2 hij)
    have hAd : ∀ k, k < SS.length → s.heap.size ≤ gad (l, D, ad, cA) k := by
      intro k hk
      obtain ⟨e1, h1⟩ := wEnd_ad (cA := cA) (ad := ad) k hk
      exact hD.2 _ _ h1
    have hC2 : Cx SS (l, D, ad, cA) (p, e, room_1, s, m, #[Value.ref b], below, meth, c, 74, 2766, (fun q : Nat => s.heap.size ≤ q)) iL room_1 := ⟨hx, hb, hml, hown, lw_gtb hts, hK l _, hr, hlocks, rfl, ⟨Nat.le_of_ble_eq_true rfl, Nat.le_of_ble_eq_true rfl⟩, hgap, hAd, hlow, lw_nst hts⟩
    have hX2 : HX (p, e, room_1, s, m, #[Value.ref b], below, meth, c, 74, 2766, (fun q : Nat => s.heap.size ≤ q)) b L xs := ⟨hX, hbl, Nat.not_le.mpr hbl⟩
    refine law_loop (rm := room_1) (Q := lw_Z below #[Value.ref b] s) rfl rfl hok hC2 hX2 hL ?_ (L + 1) 0 sg0 (by omega) (by omega) h0 H locs ls hP2 hS hl
    intro lv0 s1
    refine v_iconst (pc := 1297) (1 : Int32) rfl hC2 dL_law_1297 ?_
    intro H1 locs1 ls1 hP1 hS1 hl1
    refine va_forget (fun q hq => hS1.2.2 q hq) ?_
    refine W.widen (k := 600000) (n := 7302249) (Nat.le_of_ble_eq_true rfl) (Nat.le_of_ble_eq_true rfl) ?_
    exact lw_ret hx hb hr hlocks dL_law_1298
  have hl := lv_entry ([.ref b]) (n := 4) (Nat.le_of_ble_eq_true rfl)
  rw [lg_entry_eq]
  refine key _ rfl ⟨hx, hb, hml, hown, lw_gtb hts, hK l _, hr, hlocks, rfl, hlow, fun h => absurd h (by decide +kernel), lw_AO hts⟩ s.heap [] _ (fun k q h => by simp at h) ⟨fun i j p q h => by simp at h, fun k q h => by simp at h⟩ va_S.rf ⟨rfl, hl.1, hl.2.1, fun j v hj => ?_⟩
  match j, hj with
  | 0, hj => simp at hj; subst hj; exact hl.2.2 (0, .ref b) (by simp [lv_args])
  | 1, hj => simp at hj
  | 2, hj => simp at hj
  | 3, hj => simp at hj
  | j + 4, hj => simp at hj
