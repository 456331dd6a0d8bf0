/-! methods, printed by wip/whole/gen/meth.py: X3_hasDiff, X3_doubledDiff, X3_diffsInAll, X3_isSingle, X3_singlesInAll, X3_feltInRace, X3_tenthsIn, X3_tenthsInRace, X4_rankOf, X4_isKeptBy, X5_renew, X5_hasItems, X5_findingAt, X5_setItem, X6_addPairsOf, X6_survey, X6_pairsIfFirst, X6_leastFirst, X6_arrange -/
theorem dX3_hasDiff_0 : decode cX3_hasDiff 0 = .ok (.aload_n 0, 1) := by decide +kernel
theorem dX3_hasDiff_1 : decode cX3_hasDiff 1 = .ok (.iload_n 1, 1) := by decide +kernel
theorem dX3_hasDiff_2 : decode cX3_hasDiff 2 = .ok (.iconst 0, 1) := by decide +kernel
theorem dX3_hasDiff_3 : decode cX3_hasDiff 3 = .ok (.invokevirtual 48, 3) := by decide +kernel
theorem dX3_hasDiff_6 : decode cX3_hasDiff 6 = .ok (.ifCond .le 16, 3) := by decide +kernel
theorem dX3_hasDiff_9 : decode cX3_hasDiff 9 = .ok (.aload_n 0, 1) := by decide +kernel
theorem dX3_hasDiff_10 : decode cX3_hasDiff 10 = .ok (.iload_n 1, 1) := by decide +kernel
theorem dX3_hasDiff_11 : decode cX3_hasDiff 11 = .ok (.iconst 1, 1) := by decide +kernel
theorem dX3_hasDiff_12 : decode cX3_hasDiff 12 = .ok (.invokevirtual 48, 3) := by decide +kernel
theorem dX3_hasDiff_15 : decode cX3_hasDiff 15 = .ok (.ifCond .le 7, 3) := by decide +kernel
theorem dX3_hasDiff_18 : decode cX3_hasDiff 18 = .ok (.iconst 1, 1) := by decide +kernel
theorem dX3_hasDiff_19 : decode cX3_hasDiff 19 = .ok (.goto 4, 3) := by decide +kernel
theorem dX3_hasDiff_22 : decode cX3_hasDiff 22 = .ok (.iconst 0, 1) := by decide +kernel
theorem dX3_hasDiff_23 : decode cX3_hasDiff 23 = .ok (.ireturn, 1) := by decide +kernel
def fX3_hasDiff (x0_ : Int32) (s : Sg) : Option (Int32 × Sg) :=
  (fX3_doubledMean x0_ (0 : Int32) s).bind fun w1 =>
  if w1.1 ≤ 0 then
  some ((0 : Int32), w1.2)
  else
  (fX3_doubledMean x0_ (1 : Int32) w1.2).bind fun w3 =>
  if w3.1 ≤ 0 then
  some ((0 : Int32), w3.2)
  else
  some ((1 : Int32), w3.2)
theorem ct_X3_hasDiff {g : Gl} {x0_ : Int32} {s : Sg} {w : Int32 × Sg}  (h : fX3_hasDiff x0_ s = some w) : Ct SS g iX3_hasDiff 2 46 [.ref (gad g 1), .int x0_] s (Dt (some (.int w.1)) w.2) := by
  refine Ct.ofV (by decide +kernel) 0 (lv0 := [some (.ref (gad g 1)), some (.int x0_)]) rfl rfl (fun M hC => ?_)
  have hP : (Dt (some (.int w.1)) w.2) (some (.int w.1)) w.2 := ⟨rfl, rfl⟩
  generalize Dt (some (.int w.1)) w.2 = P at hP ⊢
  unfold fX3_hasDiff at h
  refine v_aload_n (pc := 0) hC dX3_hasDiff_0 rfl ?_
  refine v_iload_n (pc := 1) hC dX3_hasDiff_1 rfl ?_
  refine v_iconst (pc := 2) (0 : Int32) rfl hC dX3_hasDiff_2 ?_
  obtain ⟨w1, hw1, h⟩ := obd_s h
  refine v_cV (pc := 3) [] [.int w1.1] gm_X3_doubledMean hC s_1 rfl rfl (ct_X3_doubledMean  hw1) ml_X3_48 rfl rfl rfl rfl rfl rfl dX3_hasDiff_3 ?_
  refine v_if_le (pc := 6) (tgt := 22) hC dX3_hasDiff_6 rfl (fun c2 => ?_) (fun c2 => ?_)
  · replace h := (if_pos c2).symm.trans h
    refine v_iconst (pc := 22) (0 : Int32) rfl hC dX3_hasDiff_22 ?_
    obtain rfl := Option.some.inj h
    exact v_zret (pc := 23) hC rfl rfl dX3_hasDiff_23 hP
  · replace h := (if_neg c2).symm.trans h
    refine v_aload_n (pc := 9) hC dX3_hasDiff_9 rfl ?_
    refine v_iload_n (pc := 10) hC dX3_hasDiff_10 rfl ?_
    refine v_iconst (pc := 11) (1 : Int32) rfl hC dX3_hasDiff_11 ?_
    obtain ⟨w3, hw3, h⟩ := obd_s h
    refine v_cV (pc := 12) [] [.int w3.1] gm_X3_doubledMean hC s_1 rfl rfl (ct_X3_doubledMean  hw3) ml_X3_48 rfl rfl rfl rfl rfl rfl dX3_hasDiff_12 ?_
    refine v_if_le (pc := 15) (tgt := 22) hC dX3_hasDiff_15 rfl (fun c4 => ?_) (fun c4 => ?_)
    · replace h := (if_pos c4).symm.trans h
      refine v_iconst (pc := 22) (0 : Int32) rfl hC dX3_hasDiff_22 ?_
      obtain rfl := Option.some.inj h
      exact v_zret (pc := 23) hC rfl rfl dX3_hasDiff_23 hP
    · replace h := (if_neg c4).symm.trans h
      refine v_iconst (pc := 18) (1 : Int32) rfl hC dX3_hasDiff_18 ?_
      refine v_goto (pc := 19) (tgt := 23) hC dX3_hasDiff_19 rfl ?_
      obtain rfl := Option.some.inj h
      exact v_zret (pc := 23) hC rfl rfl dX3_hasDiff_23 hP
theorem dX3_doubledDiff_0 : decode cX3_doubledDiff 0 = .ok (.aload_n 0, 1) := by decide +kernel
theorem dX3_doubledDiff_1 : decode cX3_doubledDiff 1 = .ok (.iload_n 1, 1) := by decide +kernel
theorem dX3_doubledDiff_2 : decode cX3_doubledDiff 2 = .ok (.iconst 0, 1) := by decide +kernel
theorem dX3_doubledDiff_3 : decode cX3_doubledDiff 3 = .ok (.invokevirtual 48, 3) := by decide +kernel
theorem dX3_doubledDiff_6 : decode cX3_doubledDiff 6 = .ok (.aload_n 0, 1) := by decide +kernel
theorem dX3_doubledDiff_7 : decode cX3_doubledDiff 7 = .ok (.iload_n 1, 1) := by decide +kernel
theorem dX3_doubledDiff_8 : decode cX3_doubledDiff 8 = .ok (.iconst 1, 1) := by decide +kernel
theorem dX3_doubledDiff_9 : decode cX3_doubledDiff 9 = .ok (.invokevirtual 48, 3) := by decide +kernel
theorem dX3_doubledDiff_12 : decode cX3_doubledDiff 12 = .ok (.isub, 1) := by decide +kernel
theorem dX3_doubledDiff_13 : decode cX3_doubledDiff 13 = .ok (.ireturn, 1) := by decide +kernel
def fX3_doubledDiff (x0_ : Int32) (s : Sg) : Option (Int32 × Sg) :=
  (fX3_doubledMean x0_ (0 : Int32) s).bind fun w1 =>
  (fX3_doubledMean x0_ (1 : Int32) w1.2).bind fun w2 =>
  some ((w1.1 - w2.1), w2.2)
theorem ct_X3_doubledDiff {g : Gl} {x0_ : Int32} {s : Sg} {w : Int32 × Sg}  (h : fX3_doubledDiff x0_ s = some w) : Ct SS g iX3_doubledDiff 2 46 [.ref (gad g 1), .int x0_] s (Dt (some (.int w.1)) w.2) := by
  refine Ct.ofV (by decide +kernel) 0 (lv0 := [some (.ref (gad g 1)), some (.int x0_)]) rfl rfl (fun M hC => ?_)
  have hP : (Dt (some (.int w.1)) w.2) (some (.int w.1)) w.2 := ⟨rfl, rfl⟩
  generalize Dt (some (.int w.1)) w.2 = P at hP ⊢
  unfold fX3_doubledDiff at h
  refine v_aload_n (pc := 0) hC dX3_doubledDiff_0 rfl ?_
  refine v_iload_n (pc := 1) hC dX3_doubledDiff_1 rfl ?_
  refine v_iconst (pc := 2) (0 : Int32) rfl hC dX3_doubledDiff_2 ?_
  obtain ⟨w1, hw1, h⟩ := obd_s h
  refine v_cV (pc := 3) [] [.int w1.1] gm_X3_doubledMean hC s_1 rfl rfl (ct_X3_doubledMean  hw1) ml_X3_48 rfl rfl rfl rfl rfl rfl dX3_doubledDiff_3 ?_
  refine v_aload_n (pc := 6) hC dX3_doubledDiff_6 rfl ?_
  refine v_iload_n (pc := 7) hC dX3_doubledDiff_7 rfl ?_
  refine v_iconst (pc := 8) (1 : Int32) rfl hC dX3_doubledDiff_8 ?_
  obtain ⟨w2, hw2, h⟩ := obd_s h
  refine v_cV (pc := 9) [.int w1.1] [.int w2.1, .int w1.1] gm_X3_doubledMean hC s_1 rfl rfl (ct_X3_doubledMean  hw2) ml_X3_48 rfl rfl rfl rfl rfl rfl dX3_doubledDiff_9 ?_
  refine v_isub (pc := 12) hC dX3_doubledDiff_12 ?_
  obtain rfl := Option.some.inj h
  exact v_iret (pc := 13) hC rfl dX3_doubledDiff_13 hP
theorem dX3_diffsInAll_0 : decode cX3_diffsInAll 0 = .ok (.iconst 0, 1) := by decide +kernel
theorem dX3_diffsInAll_1 : decode cX3_diffsInAll 1 = .ok (.istore_n 1, 1) := by decide +kernel
theorem dX3_diffsInAll_2 : decode cX3_diffsInAll 2 = .ok (.iconst 0, 1) := by decide +kernel
theorem dX3_diffsInAll_3 : decode cX3_diffsInAll 3 = .ok (.istore_n 2, 1) := by decide +kernel
theorem dX3_diffsInAll_4 : decode cX3_diffsInAll 4 = .ok (.iload_n 2, 1) := by decide +kernel
theorem dX3_diffsInAll_5 : decode cX3_diffsInAll 5 = .ok (.aload_n 0, 1) := by decide +kernel
theorem dX3_diffsInAll_6 : decode cX3_diffsInAll 6 = .ok (.getfield 15, 3) := by decide +kernel
theorem dX3_diffsInAll_9 : decode cX3_diffsInAll 9 = .ok (.if_icmp .ge 20, 3) := by decide +kernel
theorem dX3_diffsInAll_12 : decode cX3_diffsInAll 12 = .ok (.aload_n 0, 1) := by decide +kernel
theorem dX3_diffsInAll_13 : decode cX3_diffsInAll 13 = .ok (.iload_n 2, 1) := by decide +kernel
theorem dX3_diffsInAll_14 : decode cX3_diffsInAll 14 = .ok (.invokevirtual 51, 3) := by decide +kernel
theorem dX3_diffsInAll_17 : decode cX3_diffsInAll 17 = .ok (.ifCond .eq 6, 3) := by decide +kernel
theorem dX3_diffsInAll_20 : decode cX3_diffsInAll 20 = .ok (.iinc 1 1, 3) := by decide +kernel
theorem dX3_diffsInAll_23 : decode cX3_diffsInAll 23 = .ok (.iinc 2 1, 3) := by decide +kernel
theorem dX3_diffsInAll_26 : decode cX3_diffsInAll 26 = .ok (.goto (-22), 3) := by decide +kernel
theorem dX3_diffsInAll_29 : decode cX3_diffsInAll 29 = .ok (.iload_n 1, 1) := by decide +kernel
theorem dX3_diffsInAll_30 : decode cX3_diffsInAll 30 = .ok (.ireturn, 1) := by decide +kernel
def fX3_diffsInAll_L4  (a : Int32 × Int32) (s : Sg) : Option (((Int32 × Int32) ⊕ (Int32)) × Sg) :=
  if (gI s 1 1) ≤ a.2 then
  some (.inr a.1, s)
  else
  (fX3_hasDiff a.2 s).bind fun w2 =>
  ((if w2.1 = 0 then
  some a.1
  else
  bnd (a.1 + (1 : Int32)) fun x7 =>
  some x7) : Option (Int32)).bind fun w3 =>
  bnd (a.2 + (1 : Int32)) fun x5 =>
  some (.inl (w3, x5), w2.2)
def fX3_diffsInAll  (s : Sg) : Option (Int32 × Sg) :=
  (lpG (fX3_diffsInAll_L4) FU ((0 : Int32), (0 : Int32)) s).bind fun w1 =>
  some (w1.1, w1.2)
theorem ct_X3_diffsInAll {g : Gl}  {s : Sg} {w : Int32 × Sg}  (h : fX3_diffsInAll s = some w) : Ct SS g iX3_diffsInAll 3 67 [.ref (gad g 1)] s (Dt (some (.int w.1)) w.2) := by
  refine Ct.ofV (by decide +kernel) 2 (lv0 := [some (.ref (gad g 1)), none, none]) rfl rfl (fun M hC => ?_)
  have hP : (Dt (some (.int w.1)) w.2) (some (.int w.1)) w.2 := ⟨rfl, rfl⟩
  generalize Dt (some (.int w.1)) w.2 = P at hP ⊢
  unfold fX3_diffsInAll at h
  refine v_iconst (pc := 0) (0 : Int32) rfl hC dX3_diffsInAll_0 ?_
  refine v_istore_n (pc := 1) (lv' := [some (.ref (gad g 1)), some (.int (0 : Int32)), none]) hC dX3_diffsInAll_1 rfl rfl rfl rfl ?_
  refine v_iconst (pc := 2) (0 : Int32) rfl hC dX3_diffsInAll_2 ?_
  refine v_istore_n (pc := 3) (lv' := [some (.ref (gad g 1)), some (.int (0 : Int32)), some (.int (0 : Int32))]) hC dX3_diffsInAll_3 rfl rfl rfl rfl ?_
  obtain ⟨w1, hw1, h⟩ := obd_s h
  have kx15 : V SS g M iX3_diffsInAll (PQ SS g M P) 29 [none, some (.int w1.1), none] [] w1.2 := by
    refine v_iload_n (pc := 29) hC dX3_diffsInAll_29 rfl ?_
    obtain rfl := Option.some.inj h
    exact v_iret (pc := 30) hC rfl dX3_diffsInAll_30 hP
  refine V.ls (ls_some (ls_some (ls_some ls_nil))) (v_loop (pc := 4) (fun a4 => [some (.ref (gad g 1)), some (.int a4.1), some (.int a4.2)]) (fun z t => V SS g M iX3_diffsInAll (PQ SS g M P) 29 [none, some (.int z), none] [] t) (fun a4 s2 u3 hu3 k5 k6 => ?_) _ _ _ _ hw1 kx15)
  unfold fX3_diffsInAll_L4 at hu3
  refine v_iload_n (pc := 4) hC dX3_diffsInAll_4 rfl ?_
  refine v_aload_n (pc := 5) hC dX3_diffsInAll_5 rfl ?_
  refine v_gt (pc := 6) 1 (.int (gI s2 1 1)) hC s_1 rfl rfl rfl rfl fl_X3_15 dX3_diffsInAll_6 ?_
  refine v_ic_ge (pc := 9) (tgt := 29) hC dX3_diffsInAll_9 rfl (fun c8 => ?_) (fun c8 => ?_)
  · replace hu3 := (if_pos c8).symm.trans hu3
    obtain rfl := Option.some.inj hu3
    exact V.ls (ls_none (ls_some (ls_none ls_nil))) (k6 _ rfl)
  · replace hu3 := (if_neg c8).symm.trans hu3
    refine v_aload_n (pc := 12) hC dX3_diffsInAll_12 rfl ?_
    refine v_iload_n (pc := 13) hC dX3_diffsInAll_13 rfl ?_
    obtain ⟨w9, hw9, hu3⟩ := obd_s hu3
    refine v_cV (pc := 14) [] [.int w9.1] gm_X3_hasDiff hC s_1 rfl rfl (ct_X3_hasDiff  hw9) ml_X3_51 rfl rfl rfl rfl rfl rfl dX3_diffsInAll_14 ?_
    obtain ⟨w10, hw10, hu3⟩ := obd_s hu3
    have kj11 : V SS g M iX3_diffsInAll (PQ SS g M P) 23 [some (.ref (gad g 1)), some (.int w10), some (.int a4.2)] [] w9.2 := by
      obtain ⟨x12, hx12, hu3⟩ := bnd_s hu3
      refine v_iinc (pc := 23) (lv' := [some (.ref (gad g 1)), some (.int w10), some (.int x12)]) (1 : Int32) rfl hx12 hC dX3_diffsInAll_23 rfl rfl rfl rfl ?_
      refine v_goto (pc := 26) (tgt := 4) hC dX3_diffsInAll_26 rfl ?_
      obtain rfl := Option.some.inj hu3
      exact V.ls (ls_some (ls_some (ls_some ls_nil))) (k5 _ rfl)
    refine v_if_eq (pc := 17) (tgt := 23) hC dX3_diffsInAll_17 rfl (fun c13 => ?_) (fun c13 => ?_)
    · replace hw10 := (if_pos c13).symm.trans hw10
      obtain rfl := Option.some.inj hw10
      exact V.ls (ls_some (ls_some (ls_some ls_nil))) kj11
    · replace hw10 := (if_neg c13).symm.trans hw10
      obtain ⟨x14, hx14, hw10⟩ := bnd_s hw10
      refine v_iinc (pc := 20) (lv' := [some (.ref (gad g 1)), some (.int x14), some (.int a4.2)]) (1 : Int32) rfl hx14 hC dX3_diffsInAll_20 rfl rfl rfl rfl ?_
      obtain rfl := Option.some.inj hw10
      exact V.ls (ls_some (ls_some (ls_some ls_nil))) kj11
theorem dX3_isSingle_0 : decode cX3_isSingle 0 = .ok (.aload_n 0, 1) := by decide +kernel
theorem dX3_isSingle_1 : decode cX3_isSingle 1 = .ok (.iload_n 1, 1) := by decide +kernel
theorem dX3_isSingle_2 : decode cX3_isSingle 2 = .ok (.invokevirtual 55, 3) := by decide +kernel
theorem dX3_isSingle_5 : decode cX3_isSingle 5 = .ok (.iconst 1, 1) := by decide +kernel
theorem dX3_isSingle_6 : decode cX3_isSingle 6 = .ok (.if_icmp .ne 17, 3) := by decide +kernel
theorem dX3_isSingle_9 : decode cX3_isSingle 9 = .ok (.aload_n 0, 1) := by decide +kernel
theorem dX3_isSingle_10 : decode cX3_isSingle 10 = .ok (.iload_n 1, 1) := by decide +kernel
theorem dX3_isSingle_11 : decode cX3_isSingle 11 = .ok (.iconst 0, 1) := by decide +kernel
theorem dX3_isSingle_12 : decode cX3_isSingle 12 = .ok (.invokevirtual 40, 3) := by decide +kernel
theorem dX3_isSingle_15 : decode cX3_isSingle 15 = .ok (.iconst (-1), 1) := by decide +kernel
theorem dX3_isSingle_16 : decode cX3_isSingle 16 = .ok (.if_icmp .eq 7, 3) := by decide +kernel
theorem dX3_isSingle_19 : decode cX3_isSingle 19 = .ok (.iconst 1, 1) := by decide +kernel
theorem dX3_isSingle_20 : decode cX3_isSingle 20 = .ok (.goto 4, 3) := by decide +kernel
theorem dX3_isSingle_23 : decode cX3_isSingle 23 = .ok (.iconst 0, 1) := by decide +kernel
theorem dX3_isSingle_24 : decode cX3_isSingle 24 = .ok (.ireturn, 1) := by decide +kernel
def fX3_isSingle (x0_ : Int32) (s : Sg) : Option (Int32 × Sg) :=
  (fX3_lengthsOf x0_ s).bind fun w1 =>
  if w1.1 = (1 : Int32) then
  (fX3_timeOf x0_ (0 : Int32) w1.2).bind fun w3 =>
  if w3.1 = (-1 : Int32) then
  some ((0 : Int32), w3.2)
  else
  some ((1 : Int32), w3.2)
  else
  some ((0 : Int32), w1.2)
theorem ct_X3_isSingle {g : Gl} {x0_ : Int32} {s : Sg} {w : Int32 × Sg}  (h : fX3_isSingle x0_ s = some w) : Ct SS g iX3_isSingle 1 22 [.ref (gad g 1), .int x0_] s (Dt (some (.int w.1)) w.2) := by
  refine Ct.ofV (by decide +kernel) 0 (lv0 := [some (.ref (gad g 1)), some (.int x0_)]) rfl rfl (fun M hC => ?_)
  have hP : (Dt (some (.int w.1)) w.2) (some (.int w.1)) w.2 := ⟨rfl, rfl⟩
  generalize Dt (some (.int w.1)) w.2 = P at hP ⊢
  unfold fX3_isSingle at h
  refine v_aload_n (pc := 0) hC dX3_isSingle_0 rfl ?_
  refine v_iload_n (pc := 1) hC dX3_isSingle_1 rfl ?_
  obtain ⟨w1, hw1, h⟩ := obd_s h
  refine v_cV (pc := 2) [] [.int w1.1] gm_X3_lengthsOf hC s_1 rfl rfl (ct_X3_lengthsOf  hw1) ml_X3_55 rfl rfl rfl rfl rfl rfl dX3_isSingle_2 ?_
  refine v_iconst (pc := 5) (1 : Int32) rfl hC dX3_isSingle_5 ?_
  refine v_ic_ne (pc := 6) (tgt := 23) hC dX3_isSingle_6 rfl (fun c2 => ?_) (fun c2 => ?_)
  · replace h := (if_neg c2).symm.trans h
    refine v_iconst (pc := 23) (0 : Int32) rfl hC dX3_isSingle_23 ?_
    obtain rfl := Option.some.inj h
    exact v_zret (pc := 24) hC rfl rfl dX3_isSingle_24 hP
  · replace h := (if_pos c2).symm.trans h
    refine v_aload_n (pc := 9) hC dX3_isSingle_9 rfl ?_
    refine v_iload_n (pc := 10) hC dX3_isSingle_10 rfl ?_
    refine v_iconst (pc := 11) (0 : Int32) rfl hC dX3_isSingle_11 ?_
    obtain ⟨w3, hw3, h⟩ := obd_s h
    refine v_cV (pc := 12) [] [.int w3.1] gm_X3_timeOf hC s_1 rfl rfl (ct_X3_timeOf  hw3) ml_X3_40 rfl rfl rfl rfl rfl rfl dX3_isSingle_12 ?_
    refine v_iconst (pc := 15) (-1 : Int32) rfl hC dX3_isSingle_15 ?_
    refine v_ic_eq (pc := 16) (tgt := 23) hC dX3_isSingle_16 rfl (fun c4 => ?_) (fun c4 => ?_)
    · replace h := (if_pos c4).symm.trans h
      refine v_iconst (pc := 23) (0 : Int32) rfl hC dX3_isSingle_23 ?_
      obtain rfl := Option.some.inj h
      exact v_zret (pc := 24) hC rfl rfl dX3_isSingle_24 hP
    · replace h := (if_neg c4).symm.trans h
      refine v_iconst (pc := 19) (1 : Int32) rfl hC dX3_isSingle_19 ?_
      refine v_goto (pc := 20) (tgt := 24) hC dX3_isSingle_20 rfl ?_
      obtain rfl := Option.some.inj h
      exact v_zret (pc := 24) hC rfl rfl dX3_isSingle_24 hP
theorem dX3_singlesInAll_0 : decode cX3_singlesInAll 0 = .ok (.iconst 0, 1) := by decide +kernel
theorem dX3_singlesInAll_1 : decode cX3_singlesInAll 1 = .ok (.istore_n 1, 1) := by decide +kernel
theorem dX3_singlesInAll_2 : decode cX3_singlesInAll 2 = .ok (.iconst 0, 1) := by decide +kernel
theorem dX3_singlesInAll_3 : decode cX3_singlesInAll 3 = .ok (.istore_n 2, 1) := by decide +kernel
theorem dX3_singlesInAll_4 : decode cX3_singlesInAll 4 = .ok (.iload_n 2, 1) := by decide +kernel
theorem dX3_singlesInAll_5 : decode cX3_singlesInAll 5 = .ok (.aload_n 0, 1) := by decide +kernel
theorem dX3_singlesInAll_6 : decode cX3_singlesInAll 6 = .ok (.getfield 15, 3) := by decide +kernel
theorem dX3_singlesInAll_9 : decode cX3_singlesInAll 9 = .ok (.if_icmp .ge 20, 3) := by decide +kernel
theorem dX3_singlesInAll_12 : decode cX3_singlesInAll 12 = .ok (.aload_n 0, 1) := by decide +kernel
theorem dX3_singlesInAll_13 : decode cX3_singlesInAll 13 = .ok (.iload_n 2, 1) := by decide +kernel
theorem dX3_singlesInAll_14 : decode cX3_singlesInAll 14 = .ok (.invokevirtual 58, 3) := by decide +kernel
theorem dX3_singlesInAll_17 : decode cX3_singlesInAll 17 = .ok (.ifCond .eq 6, 3) := by decide +kernel
theorem dX3_singlesInAll_20 : decode cX3_singlesInAll 20 = .ok (.iinc 1 1, 3) := by decide +kernel
theorem dX3_singlesInAll_23 : decode cX3_singlesInAll 23 = .ok (.iinc 2 1, 3) := by decide +kernel
theorem dX3_singlesInAll_26 : decode cX3_singlesInAll 26 = .ok (.goto (-22), 3) := by decide +kernel
theorem dX3_singlesInAll_29 : decode cX3_singlesInAll 29 = .ok (.iload_n 1, 1) := by decide +kernel
theorem dX3_singlesInAll_30 : decode cX3_singlesInAll 30 = .ok (.ireturn, 1) := by decide +kernel
def fX3_singlesInAll_L4  (a : Int32 × Int32) (s : Sg) : Option (((Int32 × Int32) ⊕ (Int32)) × Sg) :=
  if (gI s 1 1) ≤ a.2 then
  some (.inr a.1, s)
  else
  (fX3_isSingle a.2 s).bind fun w2 =>
  ((if w2.1 = 0 then
  some a.1
  else
  bnd (a.1 + (1 : Int32)) fun x7 =>
  some x7) : Option (Int32)).bind fun w3 =>
  bnd (a.2 + (1 : Int32)) fun x5 =>
  some (.inl (w3, x5), w2.2)
def fX3_singlesInAll  (s : Sg) : Option (Int32 × Sg) :=
  (lpG (fX3_singlesInAll_L4) FU ((0 : Int32), (0 : Int32)) s).bind fun w1 =>
  some (w1.1, w1.2)
theorem ct_X3_singlesInAll {g : Gl}  {s : Sg} {w : Int32 × Sg}  (h : fX3_singlesInAll s = some w) : Ct SS g iX3_singlesInAll 2 43 [.ref (gad g 1)] s (Dt (some (.int w.1)) w.2) := by
  refine Ct.ofV (by decide +kernel) 2 (lv0 := [some (.ref (gad g 1)), none, none]) rfl rfl (fun M hC => ?_)
  have hP : (Dt (some (.int w.1)) w.2) (some (.int w.1)) w.2 := ⟨rfl, rfl⟩
  generalize Dt (some (.int w.1)) w.2 = P at hP ⊢
  unfold fX3_singlesInAll at h
  refine v_iconst (pc := 0) (0 : Int32) rfl hC dX3_singlesInAll_0 ?_
  refine v_istore_n (pc := 1) (lv' := [some (.ref (gad g 1)), some (.int (0 : Int32)), none]) hC dX3_singlesInAll_1 rfl rfl rfl rfl ?_
  refine v_iconst (pc := 2) (0 : Int32) rfl hC dX3_singlesInAll_2 ?_
  refine v_istore_n (pc := 3) (lv' := [some (.ref (gad g 1)), some (.int (0 : Int32)), some (.int (0 : Int32))]) hC dX3_singlesInAll_3 rfl rfl rfl rfl ?_
  obtain ⟨w1, hw1, h⟩ := obd_s h
  have kx15 : V SS g M iX3_singlesInAll (PQ SS g M P) 29 [none, some (.int w1.1), none] [] w1.2 := by
    refine v_iload_n (pc := 29) hC dX3_singlesInAll_29 rfl ?_
    obtain rfl := Option.some.inj h
    exact v_iret (pc := 30) hC rfl dX3_singlesInAll_30 hP
  refine V.ls (ls_some (ls_some (ls_some ls_nil))) (v_loop (pc := 4) (fun a4 => [some (.ref (gad g 1)), some (.int a4.1), some (.int a4.2)]) (fun z t => V SS g M iX3_singlesInAll (PQ SS g M P) 29 [none, some (.int z), none] [] t) (fun a4 s2 u3 hu3 k5 k6 => ?_) _ _ _ _ hw1 kx15)
  unfold fX3_singlesInAll_L4 at hu3
  refine v_iload_n (pc := 4) hC dX3_singlesInAll_4 rfl ?_
  refine v_aload_n (pc := 5) hC dX3_singlesInAll_5 rfl ?_
  refine v_gt (pc := 6) 1 (.int (gI s2 1 1)) hC s_1 rfl rfl rfl rfl fl_X3_15 dX3_singlesInAll_6 ?_
  refine v_ic_ge (pc := 9) (tgt := 29) hC dX3_singlesInAll_9 rfl (fun c8 => ?_) (fun c8 => ?_)
  · replace hu3 := (if_pos c8).symm.trans hu3
    obtain rfl := Option.some.inj hu3
    exact V.ls (ls_none (ls_some (ls_none ls_nil))) (k6 _ rfl)
  · replace hu3 := (if_neg c8).symm.trans hu3
    refine v_aload_n (pc := 12) hC dX3_singlesInAll_12 rfl ?_
    refine v_iload_n (pc := 13) hC dX3_singlesInAll_13 rfl ?_
    obtain ⟨w9, hw9, hu3⟩ := obd_s hu3
    refine v_cV (pc := 14) [] [.int w9.1] gm_X3_isSingle hC s_1 rfl rfl (ct_X3_isSingle  hw9) ml_X3_58 rfl rfl rfl rfl rfl rfl dX3_singlesInAll_14 ?_
    obtain ⟨w10, hw10, hu3⟩ := obd_s hu3
    have kj11 : V SS g M iX3_singlesInAll (PQ SS g M P) 23 [some (.ref (gad g 1)), some (.int w10), some (.int a4.2)] [] w9.2 := by
      obtain ⟨x12, hx12, hu3⟩ := bnd_s hu3
      refine v_iinc (pc := 23) (lv' := [some (.ref (gad g 1)), some (.int w10), some (.int x12)]) (1 : Int32) rfl hx12 hC dX3_singlesInAll_23 rfl rfl rfl rfl ?_
      refine v_goto (pc := 26) (tgt := 4) hC dX3_singlesInAll_26 rfl ?_
      obtain rfl := Option.some.inj hu3
      exact V.ls (ls_some (ls_some (ls_some ls_nil))) (k5 _ rfl)
    refine v_if_eq (pc := 17) (tgt := 23) hC dX3_singlesInAll_17 rfl (fun c13 => ?_) (fun c13 => ?_)
    · replace hw10 := (if_pos c13).symm.trans hw10
      obtain rfl := Option.some.inj hw10
      exact V.ls (ls_some (ls_some (ls_some ls_nil))) kj11
    · replace hw10 := (if_neg c13).symm.trans hw10
      obtain ⟨x14, hx14, hw10⟩ := bnd_s hw10
      refine v_iinc (pc := 20) (lv' := [some (.ref (gad g 1)), some (.int x14), some (.int a4.2)]) (1 : Int32) rfl hx14 hC dX3_singlesInAll_20 rfl rfl rfl rfl ?_
      obtain rfl := Option.some.inj hw10
      exact V.ls (ls_some (ls_some (ls_some ls_nil))) kj11
theorem dX3_feltInRace_0 : decode cX3_feltInRace 0 = .ok (.iconst 0, 1) := by decide +kernel
theorem dX3_feltInRace_1 : decode cX3_feltInRace 1 = .ok (.istore_n 2, 1) := by decide +kernel
theorem dX3_feltInRace_2 : decode cX3_feltInRace 2 = .ok (.iconst 0, 1) := by decide +kernel
theorem dX3_feltInRace_3 : decode cX3_feltInRace 3 = .ok (.istore_n 3, 1) := by decide +kernel
theorem dX3_feltInRace_4 : decode cX3_feltInRace 4 = .ok (.iload_n 3, 1) := by decide +kernel
theorem dX3_feltInRace_5 : decode cX3_feltInRace 5 = .ok (.aload_n 0, 1) := by decide +kernel
theorem dX3_feltInRace_6 : decode cX3_feltInRace 6 = .ok (.getfield 15, 3) := by decide +kernel
theorem dX3_feltInRace_9 : decode cX3_feltInRace 9 = .ok (.if_icmp .ge 32, 3) := by decide +kernel
theorem dX3_feltInRace_12 : decode cX3_feltInRace 12 = .ok (.iload_n 1, 1) := by decide +kernel
theorem dX3_feltInRace_13 : decode cX3_feltInRace 13 = .ok (.iconst (-1), 1) := by decide +kernel
theorem dX3_feltInRace_14 : decode cX3_feltInRace 14 = .ok (.if_icmp .eq 13, 3) := by decide +kernel
theorem dX3_feltInRace_17 : decode cX3_feltInRace 17 = .ok (.aload_n 0, 1) := by decide +kernel
theorem dX3_feltInRace_18 : decode cX3_feltInRace 18 = .ok (.getfield 25, 3) := by decide +kernel
theorem dX3_feltInRace_21 : decode cX3_feltInRace 21 = .ok (.iload_n 3, 1) := by decide +kernel
theorem dX3_feltInRace_22 : decode cX3_feltInRace 22 = .ok (.iaload, 1) := by decide +kernel
theorem dX3_feltInRace_23 : decode cX3_feltInRace 23 = .ok (.iload_n 1, 1) := by decide +kernel
theorem dX3_feltInRace_24 : decode cX3_feltInRace 24 = .ok (.if_icmp .ne 11, 3) := by decide +kernel
theorem dX3_feltInRace_27 : decode cX3_feltInRace 27 = .ok (.iload_n 2, 1) := by decide +kernel
theorem dX3_feltInRace_28 : decode cX3_feltInRace 28 = .ok (.aload_n 0, 1) := by decide +kernel
theorem dX3_feltInRace_29 : decode cX3_feltInRace 29 = .ok (.iload_n 3, 1) := by decide +kernel
theorem dX3_feltInRace_30 : decode cX3_feltInRace 30 = .ok (.invokevirtual 61, 3) := by decide +kernel
theorem dX3_feltInRace_33 : decode cX3_feltInRace 33 = .ok (.iadd, 1) := by decide +kernel
theorem dX3_feltInRace_34 : decode cX3_feltInRace 34 = .ok (.istore_n 2, 1) := by decide +kernel
theorem dX3_feltInRace_35 : decode cX3_feltInRace 35 = .ok (.iinc 3 1, 3) := by decide +kernel
theorem dX3_feltInRace_38 : decode cX3_feltInRace 38 = .ok (.goto (-34), 3) := by decide +kernel
theorem dX3_feltInRace_41 : decode cX3_feltInRace 41 = .ok (.iload_n 2, 1) := by decide +kernel
theorem dX3_feltInRace_42 : decode cX3_feltInRace 42 = .ok (.ireturn, 1) := by decide +kernel
def fX3_feltInRace_L4 (p1 : Int32) (a : Int32 × Int32) (s : Sg) : Option (((Int32 × Int32) ⊕ (Int32)) × Sg) :=
  if (gI s 1 1) ≤ a.2 then
  some (.inr a.1, s)
  else
  ((if p1 = (-1 : Int32) then
  (fX3_feltIn a.2 s).bind fun w5 =>
  bnd (a.1 + w5.1) fun x6 =>
  some (x6, w5.2)
  else
  (aI s 4 64 a.2).bind fun v8 =>
  if v8 = p1 then
  (fX3_feltIn a.2 s).bind fun w10 =>
  bnd (a.1 + w10.1) fun x11 =>
  some (x11, w10.2)
  else
  some (a.1, s)) : Option (Int32 × Sg)).bind fun w2 =>
  bnd (a.2 + (1 : Int32)) fun x4 =>
  some (.inl (w2.1, x4), w2.2)
def fX3_feltInRace (x0_ : Int32) (s : Sg) : Option (Int32 × Sg) :=
  (lpG (fX3_feltInRace_L4 x0_) FU ((0 : Int32), (0 : Int32)) s).bind fun w1 =>
  some (w1.1, w1.2)
theorem ct_X3_feltInRace {g : Gl} {x0_ : Int32} {s : Sg} {w : Int32 × Sg}  (h : fX3_feltInRace x0_ s = some w) : Ct SS g iX3_feltInRace 2 45 [.ref (gad g 1), .int x0_] s (Dt (some (.int w.1)) w.2) := by
  refine Ct.ofV (by decide +kernel) 2 (lv0 := [some (.ref (gad g 1)), some (.int x0_), none, none]) rfl rfl (fun M hC => ?_)
  have hP : (Dt (some (.int w.1)) w.2) (some (.int w.1)) w.2 := ⟨rfl, rfl⟩
  generalize Dt (some (.int w.1)) w.2 = P at hP ⊢
  unfold fX3_feltInRace at h
  refine v_iconst (pc := 0) (0 : Int32) rfl hC dX3_feltInRace_0 ?_
  refine v_istore_n (pc := 1) (lv' := [some (.ref (gad g 1)), some (.int x0_), some (.int (0 : Int32)), none]) hC dX3_feltInRace_1 rfl rfl rfl rfl ?_
  refine v_iconst (pc := 2) (0 : Int32) rfl hC dX3_feltInRace_2 ?_
  refine v_istore_n (pc := 3) (lv' := [some (.ref (gad g 1)), some (.int x0_), some (.int (0 : Int32)), some (.int (0 : Int32))]) hC dX3_feltInRace_3 rfl rfl rfl rfl ?_
  obtain ⟨w1, hw1, h⟩ := obd_s h
  have kx19 : V SS g M iX3_feltInRace (PQ SS g M P) 41 [none, none, some (.int w1.1), none] [] w1.2 := by
    refine v_iload_n (pc := 41) hC dX3_feltInRace_41 rfl ?_
    obtain rfl := Option.some.inj h
    exact v_iret (pc := 42) hC rfl dX3_feltInRace_42 hP
  refine V.ls (ls_some (ls_some (ls_some (ls_some ls_nil)))) (v_loop (pc := 4) (fun a4 => [some (.ref (gad g 1)), some (.int x0_), some (.int a4.1), some (.int a4.2)]) (fun z t => V SS g M iX3_feltInRace (PQ SS g M P) 41 [none, none, some (.int z), none] [] t) (fun a4 s2 u3 hu3 k5 k6 => ?_) _ _ _ _ hw1 kx19)
  unfold fX3_feltInRace_L4 at hu3
  refine v_iload_n (pc := 4) hC dX3_feltInRace_4 rfl ?_
  refine v_aload_n (pc := 5) hC dX3_feltInRace_5 rfl ?_
  refine v_gt (pc := 6) 1 (.int (gI s2 1 1)) hC s_1 rfl rfl rfl rfl fl_X3_15 dX3_feltInRace_6 ?_
  refine v_ic_ge (pc := 9) (tgt := 41) hC dX3_feltInRace_9 rfl (fun c8 => ?_) (fun c8 => ?_)
  · replace hu3 := (if_pos c8).symm.trans hu3
    obtain rfl := Option.some.inj hu3
    exact V.ls (ls_none (ls_none (ls_some (ls_none ls_nil)))) (k6 _ rfl)
  · replace hu3 := (if_neg c8).symm.trans hu3
    refine v_iload_n (pc := 12) hC dX3_feltInRace_12 rfl ?_
    refine v_iconst (pc := 13) (-1 : Int32) rfl hC dX3_feltInRace_13 ?_
    obtain ⟨w9, hw9, hu3⟩ := obd_s hu3
    have kj10 : V SS g M iX3_feltInRace (PQ SS g M P) 35 [some (.ref (gad g 1)), some (.int x0_), some (.int w9.1), some (.int a4.2)] [] w9.2 := by
      obtain ⟨x11, hx11, hu3⟩ := bnd_s hu3
      refine v_iinc (pc := 35) (lv' := [some (.ref (gad g 1)), some (.int x0_), some (.int w9.1), some (.int x11)]) (1 : Int32) rfl hx11 hC dX3_feltInRace_35 rfl rfl rfl rfl ?_
      refine v_goto (pc := 38) (tgt := 4) hC dX3_feltInRace_38 rfl ?_
      obtain rfl := Option.some.inj hu3
      exact V.ls (ls_some (ls_some (ls_some (ls_some ls_nil)))) (k5 _ rfl)
    refine v_ic_eq (pc := 14) (tgt := 27) hC dX3_feltInRace_14 rfl (fun c14 => ?_) (fun c14 => ?_)
    · replace hw9 := (if_pos c14).symm.trans hw9
      refine v_iload_n (pc := 27) hC dX3_feltInRace_27 rfl ?_
      refine v_aload_n (pc := 28) hC dX3_feltInRace_28 rfl ?_
      refine v_iload_n (pc := 29) hC dX3_feltInRace_29 rfl ?_
      obtain ⟨w12, hw12, hw9⟩ := obd_s hw9
      refine v_cV (pc := 30) [.int a4.1] [.int w12.1, .int a4.1] gm_X3_feltIn hC s_1 rfl rfl (ct_X3_feltIn  hw12) ml_X3_61 rfl rfl rfl rfl rfl rfl dX3_feltInRace_30 ?_
      refine v_iadd (pc := 33) hC dX3_feltInRace_33 ?_
      obtain ⟨x13, hx13, hw9⟩ := bnd_s hw9
      refine v_istore_n (pc := 34) (lv' := [some (.ref (gad g 1)), some (.int x0_), some (.int x13), some (.int a4.2)]) hC dX3_feltInRace_34 hx13 rfl rfl rfl ?_
      obtain rfl := Option.some.inj hw9
      exact V.ls (ls_some (ls_some (ls_some (ls_some ls_nil)))) kj10
    · replace hw9 := (if_neg c14).symm.trans hw9
      refine v_aload_n (pc := 17) hC dX3_feltInRace_17 rfl ?_
      refine v_gt (pc := 18) 4 (.ref (gad g 4)) hC s_1 rfl rfl rfl rfl fl_X3_25 dX3_feltInRace_18 ?_
      refine v_iload_n (pc := 21) hC dX3_feltInRace_21 rfl ?_
      obtain ⟨v15, hv15, hw9⟩ := obd_s hw9
      refine v_aI (pc := 22) hC s_4 hv15 dX3_feltInRace_22 ?_
      refine v_iload_n (pc := 23) hC dX3_feltInRace_23 rfl ?_
      refine v_ic_ne (pc := 24) (tgt := 35) hC dX3_feltInRace_24 rfl (fun c16 => ?_) (fun c16 => ?_)
      · replace hw9 := (if_neg c16).symm.trans hw9
        obtain rfl := Option.some.inj hw9
        exact V.ls (ls_some (ls_some (ls_some (ls_some ls_nil)))) kj10
      · replace hw9 := (if_pos c16).symm.trans hw9
        refine v_iload_n (pc := 27) hC dX3_feltInRace_27 rfl ?_
        refine v_aload_n (pc := 28) hC dX3_feltInRace_28 rfl ?_
        refine v_iload_n (pc := 29) hC dX3_feltInRace_29 rfl ?_
        obtain ⟨w17, hw17, hw9⟩ := obd_s hw9
        refine v_cV (pc := 30) [.int a4.1] [.int w17.1, .int a4.1] gm_X3_feltIn hC s_1 rfl rfl (ct_X3_feltIn  hw17) ml_X3_61 rfl rfl rfl rfl rfl rfl dX3_feltInRace_30 ?_
        refine v_iadd (pc := 33) hC dX3_feltInRace_33 ?_
        obtain ⟨x18, hx18, hw9⟩ := bnd_s hw9
        refine v_istore_n (pc := 34) (lv' := [some (.ref (gad g 1)), some (.int x0_), some (.int x18), some (.int a4.2)]) hC dX3_feltInRace_34 hx18 rfl rfl rfl ?_
        obtain rfl := Option.some.inj hw9
        exact V.ls (ls_some (ls_some (ls_some (ls_some ls_nil)))) kj10
theorem dX3_tenthsIn_0 : decode cX3_tenthsIn 0 = .ok (.iconst 0, 1) := by decide +kernel
theorem dX3_tenthsIn_1 : decode cX3_tenthsIn 1 = .ok (.istore_n 2, 1) := by decide +kernel
theorem dX3_tenthsIn_2 : decode cX3_tenthsIn 2 = .ok (.iconst 0, 1) := by decide +kernel
theorem dX3_tenthsIn_3 : decode cX3_tenthsIn 3 = .ok (.istore_n 3, 1) := by decide +kernel
theorem dX3_tenthsIn_4 : decode cX3_tenthsIn 4 = .ok (.iload_n 3, 1) := by decide +kernel
theorem dX3_tenthsIn_5 : decode cX3_tenthsIn 5 = .ok (.iconst 4, 1) := by decide +kernel
theorem dX3_tenthsIn_6 : decode cX3_tenthsIn 6 = .ok (.if_icmp .ge 24, 3) := by decide +kernel
theorem dX3_tenthsIn_9 : decode cX3_tenthsIn 9 = .ok (.aload_n 0, 1) := by decide +kernel
theorem dX3_tenthsIn_10 : decode cX3_tenthsIn 10 = .ok (.iload_n 1, 1) := by decide +kernel
theorem dX3_tenthsIn_11 : decode cX3_tenthsIn 11 = .ok (.iload_n 3, 1) := by decide +kernel
theorem dX3_tenthsIn_12 : decode cX3_tenthsIn 12 = .ok (.invokevirtual 40, 3) := by decide +kernel
theorem dX3_tenthsIn_15 : decode cX3_tenthsIn 15 = .ok (.bipush 10, 2) := by decide +kernel
theorem dX3_tenthsIn_17 : decode cX3_tenthsIn 17 = .ok (.irem, 1) := by decide +kernel
theorem dX3_tenthsIn_18 : decode cX3_tenthsIn 18 = .ok (.ifCond .ne 6, 3) := by decide +kernel
theorem dX3_tenthsIn_21 : decode cX3_tenthsIn 21 = .ok (.iinc 2 1, 3) := by decide +kernel
theorem dX3_tenthsIn_24 : decode cX3_tenthsIn 24 = .ok (.iinc 3 1, 3) := by decide +kernel
theorem dX3_tenthsIn_27 : decode cX3_tenthsIn 27 = .ok (.goto (-23), 3) := by decide +kernel
theorem dX3_tenthsIn_30 : decode cX3_tenthsIn 30 = .ok (.iload_n 2, 1) := by decide +kernel
theorem dX3_tenthsIn_31 : decode cX3_tenthsIn 31 = .ok (.ireturn, 1) := by decide +kernel
def fX3_tenthsIn_L4 (p1 : Int32) (a : Int32 × Int32) (s : Sg) : Option (((Int32 × Int32) ⊕ (Int32)) × Sg) :=
  if (4 : Int32) ≤ a.2 then
  some (.inr a.1, s)
  else
  (fX3_timeOf p1 a.2 s).bind fun w2 =>
  (mI w2.1 (10 : Int32)).bind fun v3 =>
  ((if v3 = 0 then
  bnd (a.1 + (1 : Int32)) fun x8 =>
  some x8
  else
  some a.1) : Option (Int32)).bind fun w4 =>
  bnd (a.2 + (1 : Int32)) fun x6 =>
  some (.inl (w4, x6), w2.2)
def fX3_tenthsIn (x0_ : Int32) (s : Sg) : Option (Int32 × Sg) :=
  (lpG (fX3_tenthsIn_L4 x0_) FU ((0 : Int32), (0 : Int32)) s).bind fun w1 =>
  some (w1.1, w1.2)
theorem ct_X3_tenthsIn {g : Gl} {x0_ : Int32} {s : Sg} {w : Int32 × Sg}  (h : fX3_tenthsIn x0_ s = some w) : Ct SS g iX3_tenthsIn 1 22 [.ref (gad g 1), .int x0_] s (Dt (some (.int w.1)) w.2) := by
  refine Ct.ofV (by decide +kernel) 2 (lv0 := [some (.ref (gad g 1)), some (.int x0_), none, none]) rfl rfl (fun M hC => ?_)
  have hP : (Dt (some (.int w.1)) w.2) (some (.int w.1)) w.2 := ⟨rfl, rfl⟩
  generalize Dt (some (.int w.1)) w.2 = P at hP ⊢
  unfold fX3_tenthsIn at h
  refine v_iconst (pc := 0) (0 : Int32) rfl hC dX3_tenthsIn_0 ?_
  refine v_istore_n (pc := 1) (lv' := [some (.ref (gad g 1)), some (.int x0_), some (.int (0 : Int32)), none]) hC dX3_tenthsIn_1 rfl rfl rfl rfl ?_
  refine v_iconst (pc := 2) (0 : Int32) rfl hC dX3_tenthsIn_2 ?_
  refine v_istore_n (pc := 3) (lv' := [some (.ref (gad g 1)), some (.int x0_), some (.int (0 : Int32)), some (.int (0 : Int32))]) hC dX3_tenthsIn_3 rfl rfl rfl rfl ?_
  obtain ⟨w1, hw1, h⟩ := obd_s h
  have kx16 : V SS g M iX3_tenthsIn (PQ SS g M P) 30 [none, none, some (.int w1.1), none] [] w1.2 := by
    refine v_iload_n (pc := 30) hC dX3_tenthsIn_30 rfl ?_
    obtain rfl := Option.some.inj h
    exact v_iret (pc := 31) hC rfl dX3_tenthsIn_31 hP
  refine V.ls (ls_some (ls_some (ls_some (ls_some ls_nil)))) (v_loop (pc := 4) (fun a4 => [some (.ref (gad g 1)), some (.int x0_), some (.int a4.1), some (.int a4.2)]) (fun z t => V SS g M iX3_tenthsIn (PQ SS g M P) 30 [none, none, some (.int z), none] [] t) (fun a4 s2 u3 hu3 k5 k6 => ?_) _ _ _ _ hw1 kx16)
  unfold fX3_tenthsIn_L4 at hu3
  refine v_iload_n (pc := 4) hC dX3_tenthsIn_4 rfl ?_
  refine v_iconst (pc := 5) (4 : Int32) rfl hC dX3_tenthsIn_5 ?_
  refine v_ic_ge (pc := 6) (tgt := 30) hC dX3_tenthsIn_6 rfl (fun c8 => ?_) (fun c8 => ?_)
  · replace hu3 := (if_pos c8).symm.trans hu3
    obtain rfl := Option.some.inj hu3
    exact V.ls (ls_none (ls_none (ls_some (ls_none ls_nil)))) (k6 _ rfl)
  · replace hu3 := (if_neg c8).symm.trans hu3
    refine v_aload_n (pc := 9) hC dX3_tenthsIn_9 rfl ?_
    refine v_iload_n (pc := 10) hC dX3_tenthsIn_10 rfl ?_
    refine v_iload_n (pc := 11) hC dX3_tenthsIn_11 rfl ?_
    obtain ⟨w9, hw9, hu3⟩ := obd_s hu3
    refine v_cV (pc := 12) [] [.int w9.1] gm_X3_timeOf hC s_1 rfl rfl (ct_X3_timeOf  hw9) ml_X3_40 rfl rfl rfl rfl rfl rfl dX3_tenthsIn_12 ?_
    refine v_bipush (pc := 15) (10 : Int32) rfl hC dX3_tenthsIn_15 ?_
    obtain ⟨v10, hv10, hu3⟩ := obd_s hu3
    refine v_mI (pc := 17) hC hv10 dX3_tenthsIn_17 ?_
    obtain ⟨w11, hw11, hu3⟩ := obd_s hu3
    have kj12 : V SS g M iX3_tenthsIn (PQ SS g M P) 24 [some (.ref (gad g 1)), some (.int x0_), some (.int w11), some (.int a4.2)] [] w9.2 := by
      obtain ⟨x13, hx13, hu3⟩ := bnd_s hu3
      refine v_iinc (pc := 24) (lv' := [some (.ref (gad g 1)), some (.int x0_), some (.int w11), some (.int x13)]) (1 : Int32) rfl hx13 hC dX3_tenthsIn_24 rfl rfl rfl rfl ?_
      refine v_goto (pc := 27) (tgt := 4) hC dX3_tenthsIn_27 rfl ?_
      obtain rfl := Option.some.inj hu3
      exact V.ls (ls_some (ls_some (ls_some (ls_some ls_nil)))) (k5 _ rfl)
    refine v_if_ne (pc := 18) (tgt := 24) hC dX3_tenthsIn_18 rfl (fun c14 => ?_) (fun c14 => ?_)
    · replace hw11 := (if_neg c14).symm.trans hw11
      obtain rfl := Option.some.inj hw11
      exact V.ls (ls_some (ls_some (ls_some (ls_some ls_nil)))) kj12
    · replace hw11 := (if_pos c14).symm.trans hw11
      obtain ⟨x15, hx15, hw11⟩ := bnd_s hw11
      refine v_iinc (pc := 21) (lv' := [some (.ref (gad g 1)), some (.int x0_), some (.int x15), some (.int a4.2)]) (1 : Int32) rfl hx15 hC dX3_tenthsIn_21 rfl rfl rfl rfl ?_
      obtain rfl := Option.some.inj hw11
      exact V.ls (ls_some (ls_some (ls_some (ls_some ls_nil)))) kj12
theorem dX3_tenthsInRace_0 : decode cX3_tenthsInRace 0 = .ok (.iconst 0, 1) := by decide +kernel
theorem dX3_tenthsInRace_1 : decode cX3_tenthsInRace 1 = .ok (.istore_n 2, 1) := by decide +kernel
theorem dX3_tenthsInRace_2 : decode cX3_tenthsInRace 2 = .ok (.iconst 0, 1) := by decide +kernel
theorem dX3_tenthsInRace_3 : decode cX3_tenthsInRace 3 = .ok (.istore_n 3, 1) := by decide +kernel
theorem dX3_tenthsInRace_4 : decode cX3_tenthsInRace 4 = .ok (.iload_n 3, 1) := by decide +kernel
theorem dX3_tenthsInRace_5 : decode cX3_tenthsInRace 5 = .ok (.aload_n 0, 1) := by decide +kernel
theorem dX3_tenthsInRace_6 : decode cX3_tenthsInRace 6 = .ok (.getfield 15, 3) := by decide +kernel
theorem dX3_tenthsInRace_9 : decode cX3_tenthsInRace 9 = .ok (.if_icmp .ge 32, 3) := by decide +kernel
theorem dX3_tenthsInRace_12 : decode cX3_tenthsInRace 12 = .ok (.iload_n 1, 1) := by decide +kernel
theorem dX3_tenthsInRace_13 : decode cX3_tenthsInRace 13 = .ok (.iconst (-1), 1) := by decide +kernel
theorem dX3_tenthsInRace_14 : decode cX3_tenthsInRace 14 = .ok (.if_icmp .eq 13, 3) := by decide +kernel
theorem dX3_tenthsInRace_17 : decode cX3_tenthsInRace 17 = .ok (.aload_n 0, 1) := by decide +kernel
theorem dX3_tenthsInRace_18 : decode cX3_tenthsInRace 18 = .ok (.getfield 25, 3) := by decide +kernel
theorem dX3_tenthsInRace_21 : decode cX3_tenthsInRace 21 = .ok (.iload_n 3, 1) := by decide +kernel
theorem dX3_tenthsInRace_22 : decode cX3_tenthsInRace 22 = .ok (.iaload, 1) := by decide +kernel
theorem dX3_tenthsInRace_23 : decode cX3_tenthsInRace 23 = .ok (.iload_n 1, 1) := by decide +kernel
theorem dX3_tenthsInRace_24 : decode cX3_tenthsInRace 24 = .ok (.if_icmp .ne 11, 3) := by decide +kernel
theorem dX3_tenthsInRace_27 : decode cX3_tenthsInRace 27 = .ok (.iload_n 2, 1) := by decide +kernel
theorem dX3_tenthsInRace_28 : decode cX3_tenthsInRace 28 = .ok (.aload_n 0, 1) := by decide +kernel
theorem dX3_tenthsInRace_29 : decode cX3_tenthsInRace 29 = .ok (.iload_n 3, 1) := by decide +kernel
theorem dX3_tenthsInRace_30 : decode cX3_tenthsInRace 30 = .ok (.invokevirtual 64, 3) := by decide +kernel
theorem dX3_tenthsInRace_33 : decode cX3_tenthsInRace 33 = .ok (.iadd, 1) := by decide +kernel
theorem dX3_tenthsInRace_34 : decode cX3_tenthsInRace 34 = .ok (.istore_n 2, 1) := by decide +kernel
theorem dX3_tenthsInRace_35 : decode cX3_tenthsInRace 35 = .ok (.iinc 3 1, 3) := by decide +kernel
theorem dX3_tenthsInRace_38 : decode cX3_tenthsInRace 38 = .ok (.goto (-34), 3) := by decide +kernel
theorem dX3_tenthsInRace_41 : decode cX3_tenthsInRace 41 = .ok (.iload_n 2, 1) := by decide +kernel
theorem dX3_tenthsInRace_42 : decode cX3_tenthsInRace 42 = .ok (.ireturn, 1) := by decide +kernel
def fX3_tenthsInRace_L4 (p1 : Int32) (a : Int32 × Int32) (s : Sg) : Option (((Int32 × Int32) ⊕ (Int32)) × Sg) :=
  if (gI s 1 1) ≤ a.2 then
  some (.inr a.1, s)
  else
  ((if p1 = (-1 : Int32) then
  (fX3_tenthsIn a.2 s).bind fun w5 =>
  bnd (a.1 + w5.1) fun x6 =>
  some (x6, w5.2)
  else
  (aI s 4 64 a.2).bind fun v8 =>
  if v8 = p1 then
  (fX3_tenthsIn a.2 s).bind fun w10 =>
  bnd (a.1 + w10.1) fun x11 =>
  some (x11, w10.2)
  else
  some (a.1, s)) : Option (Int32 × Sg)).bind fun w2 =>
  bnd (a.2 + (1 : Int32)) fun x4 =>
  some (.inl (w2.1, x4), w2.2)
def fX3_tenthsInRace (x0_ : Int32) (s : Sg) : Option (Int32 × Sg) :=
  (lpG (fX3_tenthsInRace_L4 x0_) FU ((0 : Int32), (0 : Int32)) s).bind fun w1 =>
  some (w1.1, w1.2)
theorem ct_X3_tenthsInRace {g : Gl} {x0_ : Int32} {s : Sg} {w : Int32 × Sg}  (h : fX3_tenthsInRace x0_ s = some w) : Ct SS g iX3_tenthsInRace 2 45 [.ref (gad g 1), .int x0_] s (Dt (some (.int w.1)) w.2) := by
  refine Ct.ofV (by decide +kernel) 2 (lv0 := [some (.ref (gad g 1)), some (.int x0_), none, none]) rfl rfl (fun M hC => ?_)
  have hP : (Dt (some (.int w.1)) w.2) (some (.int w.1)) w.2 := ⟨rfl, rfl⟩
  generalize Dt (some (.int w.1)) w.2 = P at hP ⊢
  unfold fX3_tenthsInRace at h
  refine v_iconst (pc := 0) (0 : Int32) rfl hC dX3_tenthsInRace_0 ?_
  refine v_istore_n (pc := 1) (lv' := [some (.ref (gad g 1)), some (.int x0_), some (.int (0 : Int32)), none]) hC dX3_tenthsInRace_1 rfl rfl rfl rfl ?_
  refine v_iconst (pc := 2) (0 : Int32) rfl hC dX3_tenthsInRace_2 ?_
  refine v_istore_n (pc := 3) (lv' := [some (.ref (gad g 1)), some (.int x0_), some (.int (0 : Int32)), some (.int (0 : Int32))]) hC dX3_tenthsInRace_3 rfl rfl rfl rfl ?_
  obtain ⟨w1, hw1, h⟩ := obd_s h
  have kx19 : V SS g M iX3_tenthsInRace (PQ SS g M P) 41 [none, none, some (.int w1.1), none] [] w1.2 := by
    refine v_iload_n (pc := 41) hC dX3_tenthsInRace_41 rfl ?_
    obtain rfl := Option.some.inj h
    exact v_iret (pc := 42) hC rfl dX3_tenthsInRace_42 hP
  refine V.ls (ls_some (ls_some (ls_some (ls_some ls_nil)))) (v_loop (pc := 4) (fun a4 => [some (.ref (gad g 1)), some (.int x0_), some (.int a4.1), some (.int a4.2)]) (fun z t => V SS g M iX3_tenthsInRace (PQ SS g M P) 41 [none, none, some (.int z), none] [] t) (fun a4 s2 u3 hu3 k5 k6 => ?_) _ _ _ _ hw1 kx19)
  unfold fX3_tenthsInRace_L4 at hu3
  refine v_iload_n (pc := 4) hC dX3_tenthsInRace_4 rfl ?_
  refine v_aload_n (pc := 5) hC dX3_tenthsInRace_5 rfl ?_
  refine v_gt (pc := 6) 1 (.int (gI s2 1 1)) hC s_1 rfl rfl rfl rfl fl_X3_15 dX3_tenthsInRace_6 ?_
  refine v_ic_ge (pc := 9) (tgt := 41) hC dX3_tenthsInRace_9 rfl (fun c8 => ?_) (fun c8 => ?_)
  · replace hu3 := (if_pos c8).symm.trans hu3
    obtain rfl := Option.some.inj hu3
    exact V.ls (ls_none (ls_none (ls_some (ls_none ls_nil)))) (k6 _ rfl)
  · replace hu3 := (if_neg c8).symm.trans hu3
    refine v_iload_n (pc := 12) hC dX3_tenthsInRace_12 rfl ?_
    refine v_iconst (pc := 13) (-1 : Int32) rfl hC dX3_tenthsInRace_13 ?_
    obtain ⟨w9, hw9, hu3⟩ := obd_s hu3
    have kj10 : V SS g M iX3_tenthsInRace (PQ SS g M P) 35 [some (.ref (gad g 1)), some (.int x0_), some (.int w9.1), some (.int a4.2)] [] w9.2 := by
      obtain ⟨x11, hx11, hu3⟩ := bnd_s hu3
      refine v_iinc (pc := 35) (lv' := [some (.ref (gad g 1)), some (.int x0_), some (.int w9.1), some (.int x11)]) (1 : Int32) rfl hx11 hC dX3_tenthsInRace_35 rfl rfl rfl rfl ?_
      refine v_goto (pc := 38) (tgt := 4) hC dX3_tenthsInRace_38 rfl ?_
      obtain rfl := Option.some.inj hu3
      exact V.ls (ls_some (ls_some (ls_some (ls_some ls_nil)))) (k5 _ rfl)
    refine v_ic_eq (pc := 14) (tgt := 27) hC dX3_tenthsInRace_14 rfl (fun c14 => ?_) (fun c14 => ?_)
    · replace hw9 := (if_pos c14).symm.trans hw9
      refine v_iload_n (pc := 27) hC dX3_tenthsInRace_27 rfl ?_
      refine v_aload_n (pc := 28) hC dX3_tenthsInRace_28 rfl ?_
      refine v_iload_n (pc := 29) hC dX3_tenthsInRace_29 rfl ?_
      obtain ⟨w12, hw12, hw9⟩ := obd_s hw9
      refine v_cV (pc := 30) [.int a4.1] [.int w12.1, .int a4.1] gm_X3_tenthsIn hC s_1 rfl rfl (ct_X3_tenthsIn  hw12) ml_X3_64 rfl rfl rfl rfl rfl rfl dX3_tenthsInRace_30 ?_
      refine v_iadd (pc := 33) hC dX3_tenthsInRace_33 ?_
      obtain ⟨x13, hx13, hw9⟩ := bnd_s hw9
      refine v_istore_n (pc := 34) (lv' := [some (.ref (gad g 1)), some (.int x0_), some (.int x13), some (.int a4.2)]) hC dX3_tenthsInRace_34 hx13 rfl rfl rfl ?_
      obtain rfl := Option.some.inj hw9
      exact V.ls (ls_some (ls_some (ls_some (ls_some ls_nil)))) kj10
    · replace hw9 := (if_neg c14).symm.trans hw9
      refine v_aload_n (pc := 17) hC dX3_tenthsInRace_17 rfl ?_
      refine v_gt (pc := 18) 4 (.ref (gad g 4)) hC s_1 rfl rfl rfl rfl fl_X3_25 dX3_tenthsInRace_18 ?_
      refine v_iload_n (pc := 21) hC dX3_tenthsInRace_21 rfl ?_
      obtain ⟨v15, hv15, hw9⟩ := obd_s hw9
      refine v_aI (pc := 22) hC s_4 hv15 dX3_tenthsInRace_22 ?_
      refine v_iload_n (pc := 23) hC dX3_tenthsInRace_23 rfl ?_
      refine v_ic_ne (pc := 24) (tgt := 35) hC dX3_tenthsInRace_24 rfl (fun c16 => ?_) (fun c16 => ?_)
      · replace hw9 := (if_neg c16).symm.trans hw9
        obtain rfl := Option.some.inj hw9
        exact V.ls (ls_some (ls_some (ls_some (ls_some ls_nil)))) kj10
      · replace hw9 := (if_pos c16).symm.trans hw9
        refine v_iload_n (pc := 27) hC dX3_tenthsInRace_27 rfl ?_
        refine v_aload_n (pc := 28) hC dX3_tenthsInRace_28 rfl ?_
        refine v_iload_n (pc := 29) hC dX3_tenthsInRace_29 rfl ?_
        obtain ⟨w17, hw17, hw9⟩ := obd_s hw9
        refine v_cV (pc := 30) [.int a4.1] [.int w17.1, .int a4.1] gm_X3_tenthsIn hC s_1 rfl rfl (ct_X3_tenthsIn  hw17) ml_X3_64 rfl rfl rfl rfl rfl rfl dX3_tenthsInRace_30 ?_
        refine v_iadd (pc := 33) hC dX3_tenthsInRace_33 ?_
        obtain ⟨x18, hx18, hw9⟩ := bnd_s hw9
        refine v_istore_n (pc := 34) (lv' := [some (.ref (gad g 1)), some (.int x0_), some (.int x18), some (.int a4.2)]) hC dX3_tenthsInRace_34 hx18 rfl rfl rfl ?_
        obtain rfl := Option.some.inj hw9
        exact V.ls (ls_some (ls_some (ls_some (ls_some ls_nil)))) kj10
theorem dX4_rankOf_0 : decode cX4_rankOf 0 = .ok (.iconst 0, 1) := by decide +kernel
theorem dX4_rankOf_1 : decode cX4_rankOf 1 = .ok (.istore_n 2, 1) := by decide +kernel
theorem dX4_rankOf_2 : decode cX4_rankOf 2 = .ok (.iconst 0, 1) := by decide +kernel
theorem dX4_rankOf_3 : decode cX4_rankOf 3 = .ok (.istore_n 3, 1) := by decide +kernel
theorem dX4_rankOf_4 : decode cX4_rankOf 4 = .ok (.iload_n 3, 1) := by decide +kernel
theorem dX4_rankOf_5 : decode cX4_rankOf 5 = .ok (.aload_n 0, 1) := by decide +kernel
theorem dX4_rankOf_6 : decode cX4_rankOf 6 = .ok (.getfield 29, 3) := by decide +kernel
theorem dX4_rankOf_9 : decode cX4_rankOf 9 = .ok (.if_icmp .ge 46, 3) := by decide +kernel
theorem dX4_rankOf_12 : decode cX4_rankOf 12 = .ok (.aload_n 0, 1) := by decide +kernel
theorem dX4_rankOf_13 : decode cX4_rankOf 13 = .ok (.getfield 34, 3) := by decide +kernel
theorem dX4_rankOf_16 : decode cX4_rankOf 16 = .ok (.iload_n 3, 1) := by decide +kernel
theorem dX4_rankOf_17 : decode cX4_rankOf 17 = .ok (.iaload, 1) := by decide +kernel
theorem dX4_rankOf_18 : decode cX4_rankOf 18 = .ok (.aload_n 0, 1) := by decide +kernel
theorem dX4_rankOf_19 : decode cX4_rankOf 19 = .ok (.getfield 34, 3) := by decide +kernel
theorem dX4_rankOf_22 : decode cX4_rankOf 22 = .ok (.iload_n 1, 1) := by decide +kernel
theorem dX4_rankOf_23 : decode cX4_rankOf 23 = .ok (.iaload, 1) := by decide +kernel
theorem dX4_rankOf_24 : decode cX4_rankOf 24 = .ok (.if_icmp .ne 25, 3) := by decide +kernel
theorem dX4_rankOf_27 : decode cX4_rankOf 27 = .ok (.aload_n 0, 1) := by decide +kernel
theorem dX4_rankOf_28 : decode cX4_rankOf 28 = .ok (.aload_n 0, 1) := by decide +kernel
theorem dX4_rankOf_29 : decode cX4_rankOf 29 = .ok (.getfield 48, 3) := by decide +kernel
theorem dX4_rankOf_32 : decode cX4_rankOf 32 = .ok (.iload_n 3, 1) := by decide +kernel
theorem dX4_rankOf_33 : decode cX4_rankOf 33 = .ok (.iaload, 1) := by decide +kernel
theorem dX4_rankOf_34 : decode cX4_rankOf 34 = .ok (.aload_n 0, 1) := by decide +kernel
theorem dX4_rankOf_35 : decode cX4_rankOf 35 = .ok (.getfield 48, 3) := by decide +kernel
theorem dX4_rankOf_38 : decode cX4_rankOf 38 = .ok (.iload_n 1, 1) := by decide +kernel
theorem dX4_rankOf_39 : decode cX4_rankOf 39 = .ok (.iaload, 1) := by decide +kernel
theorem dX4_rankOf_40 : decode cX4_rankOf 40 = .ok (.invokevirtual 51, 3) := by decide +kernel
theorem dX4_rankOf_43 : decode cX4_rankOf 43 = .ok (.ifCond .eq 6, 3) := by decide +kernel
theorem dX4_rankOf_46 : decode cX4_rankOf 46 = .ok (.iinc 2 1, 3) := by decide +kernel
theorem dX4_rankOf_49 : decode cX4_rankOf 49 = .ok (.iinc 3 1, 3) := by decide +kernel
theorem dX4_rankOf_52 : decode cX4_rankOf 52 = .ok (.goto (-48), 3) := by decide +kernel
theorem dX4_rankOf_55 : decode cX4_rankOf 55 = .ok (.iload_n 2, 1) := by decide +kernel
theorem dX4_rankOf_56 : decode cX4_rankOf 56 = .ok (.ireturn, 1) := by decide +kernel
def fX4_rankOf_L4 (p1 : Int32) (a : Int32 × Int32) (s : Sg) : Option (((Int32 × Int32) ⊕ (Int32)) × Sg) :=
  if (gI s 1 1) ≤ a.2 then
  some (.inr a.1, s)
  else
  (aI s 4 64 a.2).bind fun v2 =>
  (aI s 4 64 p1).bind fun v3 =>
  ((if v2 = v3 then
  (aI s 5 64 a.2).bind fun v8 =>
  (aI s 5 64 p1).bind fun v9 =>
  (fX3_isBetter v8 v9 s).bind fun w10 =>
  if w10.1 = 0 then
  some (a.1, w10.2)
  else
  bnd (a.1 + (1 : Int32)) fun x12 =>
  some (x12, w10.2)
  else
  some (a.1, s)) : Option (Int32 × Sg)).bind fun w4 =>
  bnd (a.2 + (1 : Int32)) fun x6 =>
  some (.inl (w4.1, x6), w4.2)
def fX4_rankOf (x1_ : Int32) (s : Sg) : Option (Int32 × Sg) :=
  (lpG (fX4_rankOf_L4 x1_) FU ((0 : Int32), (0 : Int32)) s).bind fun w1 =>
  some (w1.1, w1.2)
theorem ct_X4_rankOf {g : Gl} {x1_ : Int32} {s : Sg} {w : Int32 × Sg}  (h : fX4_rankOf x1_ s = some w) : Ct SS g iX4_rankOf 1 22 [.ref (gad g 1), .int x1_] s (Dt (some (.int w.1)) w.2) := by
  refine Ct.ofV (by decide +kernel) 2 (lv0 := [some (.ref (gad g 1)), some (.int x1_), none, none]) rfl rfl (fun M hC => ?_)
  have hP : (Dt (some (.int w.1)) w.2) (some (.int w.1)) w.2 := ⟨rfl, rfl⟩
  generalize Dt (some (.int w.1)) w.2 = P at hP ⊢
  unfold fX4_rankOf at h
  refine v_iconst (pc := 0) (0 : Int32) rfl hC dX4_rankOf_0 ?_
  refine v_istore_n (pc := 1) (lv' := [some (.ref (gad g 1)), some (.int x1_), some (.int (0 : Int32)), none]) hC dX4_rankOf_1 rfl rfl rfl rfl ?_
  refine v_iconst (pc := 2) (0 : Int32) rfl hC dX4_rankOf_2 ?_
  refine v_istore_n (pc := 3) (lv' := [some (.ref (gad g 1)), some (.int x1_), some (.int (0 : Int32)), some (.int (0 : Int32))]) hC dX4_rankOf_3 rfl rfl rfl rfl ?_
  obtain ⟨w1, hw1, h⟩ := obd_s h
  have kx20 : V SS g M iX4_rankOf (PQ SS g M P) 55 [none, none, some (.int w1.1), none] [] w1.2 := by
    refine v_iload_n (pc := 55) hC dX4_rankOf_55 rfl ?_
    obtain rfl := Option.some.inj h
    exact v_iret (pc := 56) hC rfl dX4_rankOf_56 hP
  refine V.ls (ls_some (ls_some (ls_some (ls_some ls_nil)))) (v_loop (pc := 4) (fun a4 => [some (.ref (gad g 1)), some (.int x1_), some (.int a4.1), some (.int a4.2)]) (fun z t => V SS g M iX4_rankOf (PQ SS g M P) 55 [none, none, some (.int z), none] [] t) (fun a4 s2 u3 hu3 k5 k6 => ?_) _ _ _ _ hw1 kx20)
  unfold fX4_rankOf_L4 at hu3
  refine v_iload_n (pc := 4) hC dX4_rankOf_4 rfl ?_
  refine v_aload_n (pc := 5) hC dX4_rankOf_5 rfl ?_
  refine v_gtN (pc := 6) 1 (.int (gI s2 1 1)) hC s_1 rfl rfl rfl rfl fl_X4_29 dX4_rankOf_6 ?_
  refine v_ic_ge (pc := 9) (tgt := 55) hC dX4_rankOf_9 rfl (fun c8 => ?_) (fun c8 => ?_)
  · replace hu3 := (if_pos c8).symm.trans hu3
    obtain rfl := Option.some.inj hu3
    exact V.ls (ls_none (ls_none (ls_some (ls_none ls_nil)))) (k6 _ rfl)
  · replace hu3 := (if_neg c8).symm.trans hu3
    refine v_aload_n (pc := 12) hC dX4_rankOf_12 rfl ?_
    refine v_gtN (pc := 13) 4 (.ref (gad g 4)) hC s_1 rfl rfl rfl rfl fl_X4_34 dX4_rankOf_13 ?_
    refine v_iload_n (pc := 16) hC dX4_rankOf_16 rfl ?_
    obtain ⟨v9, hv9, hu3⟩ := obd_s hu3
    refine v_aI (pc := 17) hC s_4 hv9 dX4_rankOf_17 ?_
    refine v_aload_n (pc := 18) hC dX4_rankOf_18 rfl ?_
    refine v_gtN (pc := 19) 4 (.ref (gad g 4)) hC s_1 rfl rfl rfl rfl fl_X4_34 dX4_rankOf_19 ?_
    refine v_iload_n (pc := 22) hC dX4_rankOf_22 rfl ?_
    obtain ⟨v10, hv10, hu3⟩ := obd_s hu3
    refine v_aI (pc := 23) hC s_4 hv10 dX4_rankOf_23 ?_
    obtain ⟨w11, hw11, hu3⟩ := obd_s hu3
    have kj12 : V SS g M iX4_rankOf (PQ SS g M P) 49 [some (.ref (gad g 1)), some (.int x1_), some (.int w11.1), some (.int a4.2)] [] w11.2 := by
      obtain ⟨x13, hx13, hu3⟩ := bnd_s hu3
      refine v_iinc (pc := 49) (lv' := [some (.ref (gad g 1)), some (.int x1_), some (.int w11.1), some (.int x13)]) (1 : Int32) rfl hx13 hC dX4_rankOf_49 rfl rfl rfl rfl ?_
      refine v_goto (pc := 52) (tgt := 4) hC dX4_rankOf_52 rfl ?_
      obtain rfl := Option.some.inj hu3
      exact V.ls (ls_some (ls_some (ls_some (ls_some ls_nil)))) (k5 _ rfl)
    refine v_ic_ne (pc := 24) (tgt := 49) hC dX4_rankOf_24 rfl (fun c14 => ?_) (fun c14 => ?_)
    · replace hw11 := (if_neg c14).symm.trans hw11
      obtain rfl := Option.some.inj hw11
      exact V.ls (ls_some (ls_some (ls_some (ls_some ls_nil)))) kj12
    · replace hw11 := (if_pos c14).symm.trans hw11
      refine v_aload_n (pc := 27) hC dX4_rankOf_27 rfl ?_
      refine v_aload_n (pc := 28) hC dX4_rankOf_28 rfl ?_
      refine v_gtN (pc := 29) 5 (.ref (gad g 5)) hC s_1 rfl rfl rfl rfl fl_X4_48 dX4_rankOf_29 ?_
      refine v_iload_n (pc := 32) hC dX4_rankOf_32 rfl ?_
      obtain ⟨v15, hv15, hw11⟩ := obd_s hw11
      refine v_aI (pc := 33) hC s_5 hv15 dX4_rankOf_33 ?_
      refine v_aload_n (pc := 34) hC dX4_rankOf_34 rfl ?_
      refine v_gtN (pc := 35) 5 (.ref (gad g 5)) hC s_1 rfl rfl rfl rfl fl_X4_48 dX4_rankOf_35 ?_
      refine v_iload_n (pc := 38) hC dX4_rankOf_38 rfl ?_
      obtain ⟨v16, hv16, hw11⟩ := obd_s hw11
      refine v_aI (pc := 39) hC s_5 hv16 dX4_rankOf_39 ?_
      obtain ⟨w17, hw17, hw11⟩ := obd_s hw11
      refine v_cV (pc := 40) [] [.int w17.1] gm_X3_isBetter hC s_1 rfl rfl (ct_X3_isBetter  hw17) ml_X4_51 rfl rfl rfl rfl rfl rfl dX4_rankOf_40 ?_
      refine v_if_eq (pc := 43) (tgt := 49) hC dX4_rankOf_43 rfl (fun c18 => ?_) (fun c18 => ?_)
      · replace hw11 := (if_pos c18).symm.trans hw11
        obtain rfl := Option.some.inj hw11
        exact V.ls (ls_some (ls_some (ls_some (ls_some ls_nil)))) kj12
      · replace hw11 := (if_neg c18).symm.trans hw11
        obtain ⟨x19, hx19, hw11⟩ := bnd_s hw11
        refine v_iinc (pc := 46) (lv' := [some (.ref (gad g 1)), some (.int x1_), some (.int x19), some (.int a4.2)]) (1 : Int32) rfl hx19 hC dX4_rankOf_46 rfl rfl rfl rfl ?_
        obtain rfl := Option.some.inj hw11
        exact V.ls (ls_some (ls_some (ls_some (ls_some ls_nil)))) kj12
theorem dX4_isKeptBy_0 : decode cX4_isKeptBy 0 = .ok (.iconst 0, 1) := by decide +kernel
theorem dX4_isKeptBy_1 : decode cX4_isKeptBy 1 = .ok (.istore_n 3, 1) := by decide +kernel
theorem dX4_isKeptBy_2 : decode cX4_isKeptBy 2 = .ok (.iload_n 3, 1) := by decide +kernel
theorem dX4_isKeptBy_3 : decode cX4_isKeptBy 3 = .ok (.aload_n 1, 1) := by decide +kernel
theorem dX4_isKeptBy_4 : decode cX4_isKeptBy 4 = .ok (.getfield 29, 3) := by decide +kernel
theorem dX4_isKeptBy_7 : decode cX4_isKeptBy 7 = .ok (.if_icmp .ge 39, 3) := by decide +kernel
theorem dX4_isKeptBy_10 : decode cX4_isKeptBy 10 = .ok (.aload_n 1, 1) := by decide +kernel
theorem dX4_isKeptBy_11 : decode cX4_isKeptBy 11 = .ok (.getfield 34, 3) := by decide +kernel
theorem dX4_isKeptBy_14 : decode cX4_isKeptBy 14 = .ok (.iload_n 3, 1) := by decide +kernel
theorem dX4_isKeptBy_15 : decode cX4_isKeptBy 15 = .ok (.iaload, 1) := by decide +kernel
theorem dX4_isKeptBy_16 : decode cX4_isKeptBy 16 = .ok (.iload_n 2, 1) := by decide +kernel
theorem dX4_isKeptBy_17 : decode cX4_isKeptBy 17 = .ok (.if_icmp .ne 23, 3) := by decide +kernel
theorem dX4_isKeptBy_20 : decode cX4_isKeptBy 20 = .ok (.aload_n 1, 1) := by decide +kernel
theorem dX4_isKeptBy_21 : decode cX4_isKeptBy 21 = .ok (.getfield 37, 3) := by decide +kernel
theorem dX4_isKeptBy_24 : decode cX4_isKeptBy 24 = .ok (.iload_n 3, 1) := by decide +kernel
theorem dX4_isKeptBy_25 : decode cX4_isKeptBy 25 = .ok (.iaload, 1) := by decide +kernel
theorem dX4_isKeptBy_26 : decode cX4_isKeptBy 26 = .ok (.aload_n 0, 1) := by decide +kernel
theorem dX4_isKeptBy_27 : decode cX4_isKeptBy 27 = .ok (.aload_n 1, 1) := by decide +kernel
theorem dX4_isKeptBy_28 : decode cX4_isKeptBy 28 = .ok (.iload_n 3, 1) := by decide +kernel
theorem dX4_isKeptBy_29 : decode cX4_isKeptBy 29 = .ok (.invokestatic 40, 3) := by decide +kernel
theorem dX4_isKeptBy_32 : decode cX4_isKeptBy 32 = .ok (.invokevirtual 44, 3) := by decide +kernel
theorem dX4_isKeptBy_35 : decode cX4_isKeptBy 35 = .ok (.if_icmp .eq 5, 3) := by decide +kernel
theorem dX4_isKeptBy_38 : decode cX4_isKeptBy 38 = .ok (.iconst 0, 1) := by decide +kernel
theorem dX4_isKeptBy_39 : decode cX4_isKeptBy 39 = .ok (.ireturn, 1) := by decide +kernel
theorem dX4_isKeptBy_40 : decode cX4_isKeptBy 40 = .ok (.iinc 3 1, 3) := by decide +kernel
theorem dX4_isKeptBy_43 : decode cX4_isKeptBy 43 = .ok (.goto (-41), 3) := by decide +kernel
theorem dX4_isKeptBy_46 : decode cX4_isKeptBy 46 = .ok (.iconst 1, 1) := by decide +kernel
theorem dX4_isKeptBy_47 : decode cX4_isKeptBy 47 = .ok (.ireturn, 1) := by decide +kernel
def fX4_isKeptBy_L2 (p2 : Int32) (a : Int32) (s : Sg) : Option (((Int32) ⊕ (Int32 ⊕ (Unit))) × Sg) :=
  if (gI s 1 1) ≤ a then
  some (.inr (.inr ()), s)
  else
  (aI s 4 64 a).bind fun v2 =>
  if v2 = p2 then
  (aI s 6 64 a).bind fun v5 =>
  (fX4_rankOf a s).bind fun w6 =>
  (fX4_laneFor w6.1 w6.2).bind fun w7 =>
  if v5 = w7.1 then
  bnd (a + (1 : Int32)) fun x8 =>
  some (.inl x8, w7.2)
  else
  some (.inr (.inl (0 : Int32)), w7.2)
  else
  bnd (a + (1 : Int32)) fun x3 =>
  some (.inl x3, s)
def fX4_isKeptBy (x1_ : Int32) (s : Sg) : Option (Int32 × Sg) :=
  (lpG (fX4_isKeptBy_L2 x1_) FU (0 : Int32) s).bind fun w1 =>
  Sum.elim (fun r20 => some (r20, w1.2)) (fun e2 => some ((1 : Int32), w1.2)) w1.1
theorem ct_X4_isKeptBy {g : Gl} {x1_ : Int32} {s : Sg} {w : Int32 × Sg}  (h : fX4_isKeptBy x1_ s = some w) : Ct SS g iX4_isKeptBy 2 45 [.ref (gad g 34), .ref (gad g 1), .int x1_] s (Dt (some (.int w.1)) w.2) := by
  refine Ct.ofV (by decide +kernel) 1 (lv0 := [some (.ref (gad g 34)), some (.ref (gad g 1)), some (.int x1_), none]) rfl rfl (fun M hC => ?_)
  have hP : (Dt (some (.int w.1)) w.2) (some (.int w.1)) w.2 := ⟨rfl, rfl⟩
  generalize Dt (some (.int w.1)) w.2 = P at hP ⊢
  unfold fX4_isKeptBy at h
  refine v_iconst (pc := 0) (0 : Int32) rfl hC dX4_isKeptBy_0 ?_
  refine v_istore_n (pc := 1) (lv' := [some (.ref (gad g 34)), some (.ref (gad g 1)), some (.int x1_), some (.int (0 : Int32))]) hC dX4_isKeptBy_1 rfl rfl rfl rfl ?_
  obtain ⟨w1, hw1, h⟩ := obd_s h
  have kr18 : ∀ r20, w1.1 = .inl r20 → P (some (.int r20)) w1.2 := by
    intro r20 hr20
    rw [hr20] at h
    replace h := (Sum.elim_inl _ _ _).symm.trans h
    obtain rfl := Option.some.inj h
    exact hP
  have ke19 : ∀ e2, w1.1 = .inr e2 → V SS g M iX4_isKeptBy (PQ SS g M P) 46 [none, none, none, none] [] w1.2 := by
    intro e2 he2
    rw [he2] at h
    replace h := (Sum.elim_inr _ _ _).symm.trans h
    refine v_iconst (pc := 46) (1 : Int32) rfl hC dX4_isKeptBy_46 ?_
    obtain rfl := Option.some.inj h
    exact v_zret (pc := 47) hC rfl rfl dX4_isKeptBy_47 hP
  refine V.ls (ls_some (ls_some (ls_some (ls_some ls_nil)))) (v_loopR (pc := 2) (fun a5 => [some (.ref (gad g 34)), some (.ref (gad g 1)), some (.int x1_), some (.int a5)]) (fun (r20 : Int32) t => P (some (.int r20)) t) (fun z t => V SS g M iX4_isKeptBy (PQ SS g M P) 46 [none, none, none, none] [] t) (fun a5 s3 u4 hu4 k6 k8 k7 => ?_) _ _ _ _ hw1 kr18 ke19)
  unfold fX4_isKeptBy_L2 at hu4
  refine v_iload_n (pc := 2) hC dX4_isKeptBy_2 rfl ?_
  refine v_aload_n (pc := 3) hC dX4_isKeptBy_3 rfl ?_
  refine v_gtN (pc := 4) 1 (.int (gI s3 1 1)) hC s_1 rfl rfl rfl rfl fl_X4_29 dX4_isKeptBy_4 ?_
  refine v_ic_ge (pc := 7) (tgt := 46) hC dX4_isKeptBy_7 rfl (fun c9 => ?_) (fun c9 => ?_)
  · replace hu4 := (if_pos c9).symm.trans hu4
    obtain rfl := Option.some.inj hu4
    exact V.ls (ls_none (ls_none (ls_none (ls_none ls_nil)))) (k7 _ rfl)
  · replace hu4 := (if_neg c9).symm.trans hu4
    refine v_aload_n (pc := 10) hC dX4_isKeptBy_10 rfl ?_
    refine v_gtN (pc := 11) 4 (.ref (gad g 4)) hC s_1 rfl rfl rfl rfl fl_X4_34 dX4_isKeptBy_11 ?_
    refine v_iload_n (pc := 14) hC dX4_isKeptBy_14 rfl ?_
    obtain ⟨v10, hv10, hu4⟩ := obd_s hu4
    refine v_aI (pc := 15) hC s_4 hv10 dX4_isKeptBy_15 ?_
    refine v_iload_n (pc := 16) hC dX4_isKeptBy_16 rfl ?_
    refine v_ic_ne (pc := 17) (tgt := 40) hC dX4_isKeptBy_17 rfl (fun c12 => ?_) (fun c12 => ?_)
    · replace hu4 := (if_neg c12).symm.trans hu4
      obtain ⟨x11, hx11, hu4⟩ := bnd_s hu4
      refine v_iinc (pc := 40) (lv' := [some (.ref (gad g 34)), some (.ref (gad g 1)), some (.int x1_), some (.int x11)]) (1 : Int32) rfl hx11 hC dX4_isKeptBy_40 rfl rfl rfl rfl ?_
      refine v_goto (pc := 43) (tgt := 2) hC dX4_isKeptBy_43 rfl ?_
      obtain rfl := Option.some.inj hu4
      exact V.ls (ls_some (ls_some (ls_some (ls_some ls_nil)))) (k6 _ rfl)
    · replace hu4 := (if_pos c12).symm.trans hu4
      refine v_aload_n (pc := 20) hC dX4_isKeptBy_20 rfl ?_
      refine v_gtN (pc := 21) 6 (.ref (gad g 6)) hC s_1 rfl rfl rfl rfl fl_X4_37 dX4_isKeptBy_21 ?_
      refine v_iload_n (pc := 24) hC dX4_isKeptBy_24 rfl ?_
      obtain ⟨v13, hv13, hu4⟩ := obd_s hu4
      refine v_aI (pc := 25) hC s_6 hv13 dX4_isKeptBy_25 ?_
      refine v_aload_n (pc := 26) hC dX4_isKeptBy_26 rfl ?_
      refine v_aload_n (pc := 27) hC dX4_isKeptBy_27 rfl ?_
      refine v_iload_n (pc := 28) hC dX4_isKeptBy_28 rfl ?_
      obtain ⟨w14, hw14, hu4⟩ := obd_s hu4
      refine v_cS (pc := 29) [.ref (gad g 34), .int v13] [.int w14.1, .ref (gad g 34), .int v13] gm_X4_rankOf hC (ct_X4_rankOf  hw14) ml_X4_40 rfl rfl rfl rfl rfl rfl dX4_isKeptBy_29 ?_
      obtain ⟨w15, hw15, hu4⟩ := obd_s hu4
      refine v_cV (pc := 32) [.int v13] [.int w15.1, .int v13] gm_X4_laneFor hC s_34 rfl rfl (ct_X4_laneFor  hw15) ml_X4_44 rfl rfl rfl rfl rfl rfl dX4_isKeptBy_32 ?_
      refine v_ic_eq (pc := 35) (tgt := 40) hC dX4_isKeptBy_35 rfl (fun c17 => ?_) (fun c17 => ?_)
      · replace hu4 := (if_pos c17).symm.trans hu4
        obtain ⟨x16, hx16, hu4⟩ := bnd_s hu4
        refine v_iinc (pc := 40) (lv' := [some (.ref (gad g 34)), some (.ref (gad g 1)), some (.int x1_), some (.int x16)]) (1 : Int32) rfl hx16 hC dX4_isKeptBy_40 rfl rfl rfl rfl ?_
        refine v_goto (pc := 43) (tgt := 2) hC dX4_isKeptBy_43 rfl ?_
        obtain rfl := Option.some.inj hu4
        exact V.ls (ls_some (ls_some (ls_some (ls_some ls_nil)))) (k6 _ rfl)
      · replace hu4 := (if_neg c17).symm.trans hu4
        refine v_iconst (pc := 38) (0 : Int32) rfl hC dX4_isKeptBy_38 ?_
        obtain rfl := Option.some.inj hu4
        exact v_zret (pc := 39) hC rfl rfl dX4_isKeptBy_39 (k8 _ rfl)
theorem dX5_renew_0 : decode cX5_renew 0 = .ok (.aload_n 0, 1) := by decide +kernel
theorem dX5_renew_1 : decode cX5_renew 1 = .ok (.iconst 0, 1) := by decide +kernel
theorem dX5_renew_2 : decode cX5_renew 2 = .ok (.putfield 9, 3) := by decide +kernel
theorem dX5_renew_5 : decode cX5_renew 5 = .ok (.aload_n 0, 1) := by decide +kernel
theorem dX5_renew_6 : decode cX5_renew 6 = .ok (.iload_n 1, 1) := by decide +kernel
theorem dX5_renew_7 : decode cX5_renew 7 = .ok (.putfield 15, 3) := by decide +kernel
theorem dX5_renew_10 : decode cX5_renew 10 = .ok (.aload_n 0, 1) := by decide +kernel
theorem dX5_renew_11 : decode cX5_renew 11 = .ok (.iload_n 2, 1) := by decide +kernel
theorem dX5_renew_12 : decode cX5_renew 12 = .ok (.putfield 19, 3) := by decide +kernel
theorem dX5_renew_15 : decode cX5_renew 15 = .ok (.iconst 0, 1) := by decide +kernel
theorem dX5_renew_16 : decode cX5_renew 16 = .ok (.istore_n 3, 1) := by decide +kernel
theorem dX5_renew_17 : decode cX5_renew 17 = .ok (.iload_n 3, 1) := by decide +kernel
theorem dX5_renew_18 : decode cX5_renew 18 = .ok (.bipush 48, 2) := by decide +kernel
theorem dX5_renew_20 : decode cX5_renew 20 = .ok (.if_icmp .ge 16, 3) := by decide +kernel
theorem dX5_renew_23 : decode cX5_renew 23 = .ok (.aload_n 0, 1) := by decide +kernel
theorem dX5_renew_24 : decode cX5_renew 24 = .ok (.getfield 22, 3) := by decide +kernel
theorem dX5_renew_27 : decode cX5_renew 27 = .ok (.iload_n 3, 1) := by decide +kernel
theorem dX5_renew_28 : decode cX5_renew 28 = .ok (.iconst 0, 1) := by decide +kernel
theorem dX5_renew_29 : decode cX5_renew 29 = .ok (.iastore, 1) := by decide +kernel
theorem dX5_renew_30 : decode cX5_renew 30 = .ok (.iinc 3 1, 3) := by decide +kernel
theorem dX5_renew_33 : decode cX5_renew 33 = .ok (.goto (-16), 3) := by decide +kernel
theorem dX5_renew_36 : decode cX5_renew 36 = .ok (.return_, 1) := by decide +kernel
def fX5_renew_L17 (b0 : Nat) (a : Int32) (s : Sg) : Option (((Int32) ⊕ (Unit)) × Sg) :=
  if (48 : Int32) ≤ a then
  some (.inr (), s)
  else
  (wI s (b0 + 1) 48 a (0 : Int32)).bind fun s2 =>
  bnd (a + (1 : Int32)) fun x3 =>
  some (.inl x3, s2)
def fX5_renew (b0 : Nat) (x0_ : Int32) (x1_ : Int32) (s : Sg) : Option (Sg) :=
  bnd (sI s b0 0 (0 : Int32)) fun s1 =>
  bnd (sI s1 b0 1 x0_) fun s2 =>
  bnd (sI s2 b0 2 x1_) fun s3 =>
  (lpG (fX5_renew_L17 b0) FU (0 : Int32) s3).bind fun w4 =>
  some w4.2
theorem ct_X5_renew {g : Gl} {b0 : Nat} {x0_ : Int32} {x1_ : Int32} {s : Sg} {w : Sg} (hb0 : isSh b0) (h : fX5_renew b0 x0_ x1_ s = some w) : Ct SS g iX5_renew 0 0 [.ref (gad g b0), .int x0_, .int x1_] s (Dt none w) := by
  refine Ct.ofV (by decide +kernel) 1 (lv0 := [some (.ref (gad g b0)), some (.int x0_), some (.int x1_), none]) rfl rfl (fun M hC => ?_)
  have hP : (Dt none w) none w := ⟨rfl, rfl⟩
  generalize Dt none w = P at hP ⊢
  unfold fX5_renew at h
  refine v_aload_n (pc := 0) hC dX5_renew_0 rfl ?_
  refine v_iconst (pc := 1) (0 : Int32) rfl hC dX5_renew_1 ?_
  obtain ⟨s1, hs1, h⟩ := bnd_s h
  refine v_pI (pc := 2) 0 hC hb0.1 rfl rfl rfl rfl rfl rfl fl_X5_9 hs1 dX5_renew_2 ?_
  refine v_aload_n (pc := 5) hC dX5_renew_5 rfl ?_
  refine v_iload_n (pc := 6) hC dX5_renew_6 rfl ?_
  obtain ⟨s2, hs2, h⟩ := bnd_s h
  refine v_pI (pc := 7) 1 hC hb0.1 rfl rfl rfl rfl rfl rfl fl_X5_15 hs2 dX5_renew_7 ?_
  refine v_aload_n (pc := 10) hC dX5_renew_10 rfl ?_
  refine v_iload_n (pc := 11) hC dX5_renew_11 rfl ?_
  obtain ⟨s3, hs3, h⟩ := bnd_s h
  refine v_pI (pc := 12) 2 hC hb0.1 rfl rfl rfl rfl rfl rfl fl_X5_19 hs3 dX5_renew_12 ?_
  refine v_iconst (pc := 15) (0 : Int32) rfl hC dX5_renew_15 ?_
  refine v_istore_n (pc := 16) (lv' := [some (.ref (gad g b0)), some (.int x0_), some (.int x1_), some (.int (0 : Int32))]) hC dX5_renew_16 rfl rfl rfl rfl ?_
  obtain ⟨w4, hw4, h⟩ := obd_s h
  have kx14 : V SS g M iX5_renew (PQ SS g M P) 36 [none, none, none, none] [] w4.2 := by
    obtain rfl := Option.some.inj h
    exact v_vret (pc := 36) hC rfl dX5_renew_36 hP
  refine V.ls (ls_some (ls_none (ls_none (ls_some ls_nil)))) (v_loop (pc := 17) (fun a7 => [some (.ref (gad g b0)), none, none, some (.int a7)]) (fun z t => V SS g M iX5_renew (PQ SS g M P) 36 [none, none, none, none] [] t) (fun a7 s5 u6 hu6 k8 k9 => ?_) _ _ _ _ hw4 kx14)
  unfold fX5_renew_L17 at hu6
  refine v_iload_n (pc := 17) hC dX5_renew_17 rfl ?_
  refine v_bipush (pc := 18) (48 : Int32) rfl hC dX5_renew_18 ?_
  refine v_ic_ge (pc := 20) (tgt := 36) hC dX5_renew_20 rfl (fun c11 => ?_) (fun c11 => ?_)
  · replace hu6 := (if_pos c11).symm.trans hu6
    obtain rfl := Option.some.inj hu6
    exact V.ls (ls_none (ls_none (ls_none (ls_none ls_nil)))) (k9 _ rfl)
  · replace hu6 := (if_neg c11).symm.trans hu6
    refine v_aload_n (pc := 23) hC dX5_renew_23 rfl ?_
    refine v_gt (pc := 24) 3 (.ref (gad g (b0 + 1))) hC hb0.1 rfl rfl rfl rfl fl_X5_22 dX5_renew_24 ?_
    refine v_iload_n (pc := 27) hC dX5_renew_27 rfl ?_
    refine v_iconst (pc := 28) (0 : Int32) rfl hC dX5_renew_28 ?_
    obtain ⟨s12, hs12, hu6⟩ := obd_s hu6
    refine v_wI (pc := 29) hC hb0.2 hs12 dX5_renew_29 ?_
    obtain ⟨x13, hx13, hu6⟩ := bnd_s hu6
    refine v_iinc (pc := 30) (lv' := [some (.ref (gad g b0)), none, none, some (.int x13)]) (1 : Int32) rfl hx13 hC dX5_renew_30 rfl rfl rfl rfl ?_
    refine v_goto (pc := 33) (tgt := 17) hC dX5_renew_33 rfl ?_
    obtain rfl := Option.some.inj hu6
    exact V.ls (ls_some (ls_none (ls_none (ls_some ls_nil)))) (k8 _ rfl)
theorem dX5_hasItems_0 : decode cX5_hasItems 0 = .ok (.iload_n 1, 1) := by decide +kernel
theorem dX5_hasItems_1 : decode cX5_hasItems 1 = .ok (.ifCond .lt 29, 3) := by decide +kernel
theorem dX5_hasItems_4 : decode cX5_hasItems 4 = .ok (.iload_n 2, 1) := by decide +kernel
theorem dX5_hasItems_5 : decode cX5_hasItems 5 = .ok (.ifCond .lt 25, 3) := by decide +kernel
theorem dX5_hasItems_8 : decode cX5_hasItems 8 = .ok (.iload_n 1, 1) := by decide +kernel
theorem dX5_hasItems_9 : decode cX5_hasItems 9 = .ok (.aload_n 0, 1) := by decide +kernel
theorem dX5_hasItems_10 : decode cX5_hasItems 10 = .ok (.getfield 19, 3) := by decide +kernel
theorem dX5_hasItems_13 : decode cX5_hasItems 13 = .ok (.if_icmp .gt 17, 3) := by decide +kernel
theorem dX5_hasItems_16 : decode cX5_hasItems 16 = .ok (.iload_n 2, 1) := by decide +kernel
theorem dX5_hasItems_17 : decode cX5_hasItems 17 = .ok (.aload_n 0, 1) := by decide +kernel
theorem dX5_hasItems_18 : decode cX5_hasItems 18 = .ok (.getfield 19, 3) := by decide +kernel
theorem dX5_hasItems_21 : decode cX5_hasItems 21 = .ok (.iload_n 1, 1) := by decide +kernel
theorem dX5_hasItems_22 : decode cX5_hasItems 22 = .ok (.isub, 1) := by decide +kernel
theorem dX5_hasItems_23 : decode cX5_hasItems 23 = .ok (.if_icmp .gt 7, 3) := by decide +kernel
theorem dX5_hasItems_26 : decode cX5_hasItems 26 = .ok (.iconst 1, 1) := by decide +kernel
theorem dX5_hasItems_27 : decode cX5_hasItems 27 = .ok (.goto 4, 3) := by decide +kernel
theorem dX5_hasItems_30 : decode cX5_hasItems 30 = .ok (.iconst 0, 1) := by decide +kernel
theorem dX5_hasItems_31 : decode cX5_hasItems 31 = .ok (.ireturn, 1) := by decide +kernel
def fX5_hasItems (b0 : Nat) (x0_ : Int32) (x1_ : Int32) (s : Sg) : Option (Int32 × Sg) :=
  if x0_ < 0 then
  some ((0 : Int32), s)
  else
  if x1_ < 0 then
  some ((0 : Int32), s)
  else
  if (gI s b0 2) < x0_ then
  some ((0 : Int32), s)
  else
  if ((gI s b0 2) - x0_) < x1_ then
  some ((0 : Int32), s)
  else
  some ((1 : Int32), s)
theorem ct_X5_hasItems {g : Gl} {b0 : Nat} {x0_ : Int32} {x1_ : Int32} {s : Sg} {w : Int32 × Sg} (hb0 : isSh b0) (h : fX5_hasItems b0 x0_ x1_ s = some w) : Ct SS g iX5_hasItems 0 0 [.ref (gad g b0), .int x0_, .int x1_] s (Dt (some (.int w.1)) w.2) := by
  refine Ct.ofV (by decide +kernel) 0 (lv0 := [some (.ref (gad g b0)), some (.int x0_), some (.int x1_)]) rfl rfl (fun M hC => ?_)
  have hP : (Dt (some (.int w.1)) w.2) (some (.int w.1)) w.2 := ⟨rfl, rfl⟩
  generalize Dt (some (.int w.1)) w.2 = P at hP ⊢
  unfold fX5_hasItems at h
  refine v_iload_n (pc := 0) hC dX5_hasItems_0 rfl ?_
  refine v_if_lt (pc := 1) (tgt := 30) hC dX5_hasItems_1 rfl (fun c1 => ?_) (fun c1 => ?_)
  · replace h := (if_pos c1).symm.trans h
    refine v_iconst (pc := 30) (0 : Int32) rfl hC dX5_hasItems_30 ?_
    obtain rfl := Option.some.inj h
    exact v_zret (pc := 31) hC rfl rfl dX5_hasItems_31 hP
  · replace h := (if_neg c1).symm.trans h
    refine v_iload_n (pc := 4) hC dX5_hasItems_4 rfl ?_
    refine v_if_lt (pc := 5) (tgt := 30) hC dX5_hasItems_5 rfl (fun c2 => ?_) (fun c2 => ?_)
    · replace h := (if_pos c2).symm.trans h
      refine v_iconst (pc := 30) (0 : Int32) rfl hC dX5_hasItems_30 ?_
      obtain rfl := Option.some.inj h
      exact v_zret (pc := 31) hC rfl rfl dX5_hasItems_31 hP
    · replace h := (if_neg c2).symm.trans h
      refine v_iload_n (pc := 8) hC dX5_hasItems_8 rfl ?_
      refine v_aload_n (pc := 9) hC dX5_hasItems_9 rfl ?_
      refine v_gt (pc := 10) 2 (.int (gI s b0 2)) hC hb0.1 rfl rfl rfl rfl fl_X5_19 dX5_hasItems_10 ?_
      refine v_ic_gt (pc := 13) (tgt := 30) hC dX5_hasItems_13 rfl (fun c3 => ?_) (fun c3 => ?_)
      · replace h := (if_pos c3).symm.trans h
        refine v_iconst (pc := 30) (0 : Int32) rfl hC dX5_hasItems_30 ?_
        obtain rfl := Option.some.inj h
        exact v_zret (pc := 31) hC rfl rfl dX5_hasItems_31 hP
      · replace h := (if_neg c3).symm.trans h
        refine v_iload_n (pc := 16) hC dX5_hasItems_16 rfl ?_
        refine v_aload_n (pc := 17) hC dX5_hasItems_17 rfl ?_
        refine v_gt (pc := 18) 2 (.int (gI s b0 2)) hC hb0.1 rfl rfl rfl rfl fl_X5_19 dX5_hasItems_18 ?_
        refine v_iload_n (pc := 21) hC dX5_hasItems_21 rfl ?_
        refine v_isub (pc := 22) hC dX5_hasItems_22 ?_
        refine v_ic_gt (pc := 23) (tgt := 30) hC dX5_hasItems_23 rfl (fun c4 => ?_) (fun c4 => ?_)
        · replace h := (if_pos c4).symm.trans h
          refine v_iconst (pc := 30) (0 : Int32) rfl hC dX5_hasItems_30 ?_
          obtain rfl := Option.some.inj h
          exact v_zret (pc := 31) hC rfl rfl dX5_hasItems_31 hP
        · replace h := (if_neg c4).symm.trans h
          refine v_iconst (pc := 26) (1 : Int32) rfl hC dX5_hasItems_26 ?_
          refine v_goto (pc := 27) (tgt := 31) hC dX5_hasItems_27 rfl ?_
          obtain rfl := Option.some.inj h
          exact v_zret (pc := 31) hC rfl rfl dX5_hasItems_31 hP
theorem dX5_findingAt_0 : decode cX5_findingAt 0 = .ok (.aload_n 0, 1) := by decide +kernel
theorem dX5_findingAt_1 : decode cX5_findingAt 1 = .ok (.getfield 9, 3) := by decide +kernel
theorem dX5_findingAt_4 : decode cX5_findingAt 4 = .ok (.ifCond .eq 5, 3) := by decide +kernel
theorem dX5_findingAt_7 : decode cX5_findingAt 7 = .ok (.iconst 1, 1) := by decide +kernel
theorem dX5_findingAt_8 : decode cX5_findingAt 8 = .ok (.ireturn, 1) := by decide +kernel
theorem dX5_findingAt_9 : decode cX5_findingAt 9 = .ok (.aload_n 0, 1) := by decide +kernel
theorem dX5_findingAt_10 : decode cX5_findingAt 10 = .ok (.getfield 15, 3) := by decide +kernel
theorem dX5_findingAt_13 : decode cX5_findingAt 13 = .ok (.iload_n 1, 1) := by decide +kernel
theorem dX5_findingAt_14 : decode cX5_findingAt 14 = .ok (.if_icmp .eq 5, 3) := by decide +kernel
theorem dX5_findingAt_17 : decode cX5_findingAt 17 = .ok (.iconst 3, 1) := by decide +kernel
theorem dX5_findingAt_18 : decode cX5_findingAt 18 = .ok (.ireturn, 1) := by decide +kernel
theorem dX5_findingAt_19 : decode cX5_findingAt 19 = .ok (.iload_n 2, 1) := by decide +kernel
theorem dX5_findingAt_20 : decode cX5_findingAt 20 = .ok (.ifCond .lt 15, 3) := by decide +kernel
theorem dX5_findingAt_23 : decode cX5_findingAt 23 = .ok (.iload_n 2, 1) := by decide +kernel
theorem dX5_findingAt_24 : decode cX5_findingAt 24 = .ok (.aload_n 0, 1) := by decide +kernel
theorem dX5_findingAt_25 : decode cX5_findingAt 25 = .ok (.getfield 19, 3) := by decide +kernel
theorem dX5_findingAt_28 : decode cX5_findingAt 28 = .ok (.if_icmp .ge 7, 3) := by decide +kernel
theorem dX5_findingAt_31 : decode cX5_findingAt 31 = .ok (.iconst 0, 1) := by decide +kernel
theorem dX5_findingAt_32 : decode cX5_findingAt 32 = .ok (.goto 4, 3) := by decide +kernel
theorem dX5_findingAt_35 : decode cX5_findingAt 35 = .ok (.iconst 2, 1) := by decide +kernel
theorem dX5_findingAt_36 : decode cX5_findingAt 36 = .ok (.ireturn, 1) := by decide +kernel
def fX5_findingAt (b0 : Nat) (x0_ : Int32) (x1_ : Int32) (s : Sg) : Option (Int32 × Sg) :=
  if (gI s b0 0) = 0 then
  if (gI s b0 1) = x0_ then
  if x1_ < 0 then
  some ((2 : Int32), s)
  else
  if (gI s b0 2) ≤ x1_ then
  some ((2 : Int32), s)
  else
  some ((0 : Int32), s)
  else
  some ((3 : Int32), s)
  else
  some ((1 : Int32), s)
theorem ct_X5_findingAt {g : Gl} {b0 : Nat} {x0_ : Int32} {x1_ : Int32} {s : Sg} {w : Int32 × Sg} (hb0 : isSh b0) (h : fX5_findingAt b0 x0_ x1_ s = some w) : Ct SS g iX5_findingAt 0 0 [.ref (gad g b0), .int x0_, .int x1_] s (Dt (some (.int w.1)) w.2) := by
  refine Ct.ofV (by decide +kernel) 0 (lv0 := [some (.ref (gad g b0)), some (.int x0_), some (.int x1_)]) rfl rfl (fun M hC => ?_)
  have hP : (Dt (some (.int w.1)) w.2) (some (.int w.1)) w.2 := ⟨rfl, rfl⟩
  generalize Dt (some (.int w.1)) w.2 = P at hP ⊢
  unfold fX5_findingAt at h
  refine v_aload_n (pc := 0) hC dX5_findingAt_0 rfl ?_
  refine v_gt (pc := 1) 0 (.int (gI s b0 0)) hC hb0.1 rfl rfl rfl rfl fl_X5_9 dX5_findingAt_1 ?_
  refine v_if_eq (pc := 4) (tgt := 9) hC dX5_findingAt_4 rfl (fun c4 => ?_) (fun c4 => ?_)
  · replace h := (if_pos c4).symm.trans h
    refine v_aload_n (pc := 9) hC dX5_findingAt_9 rfl ?_
    refine v_gt (pc := 10) 1 (.int (gI s b0 1)) hC hb0.1 rfl rfl rfl rfl fl_X5_15 dX5_findingAt_10 ?_
    refine v_iload_n (pc := 13) hC dX5_findingAt_13 rfl ?_
    refine v_ic_eq (pc := 14) (tgt := 19) hC dX5_findingAt_14 rfl (fun c3 => ?_) (fun c3 => ?_)
    · replace h := (if_pos c3).symm.trans h
      refine v_iload_n (pc := 19) hC dX5_findingAt_19 rfl ?_
      refine v_if_lt (pc := 20) (tgt := 35) hC dX5_findingAt_20 rfl (fun c1 => ?_) (fun c1 => ?_)
      · replace h := (if_pos c1).symm.trans h
        refine v_iconst (pc := 35) (2 : Int32) rfl hC dX5_findingAt_35 ?_
        obtain rfl := Option.some.inj h
        exact v_iret (pc := 36) hC rfl dX5_findingAt_36 hP
      · replace h := (if_neg c1).symm.trans h
        refine v_iload_n (pc := 23) hC dX5_findingAt_23 rfl ?_
        refine v_aload_n (pc := 24) hC dX5_findingAt_24 rfl ?_
        refine v_gt (pc := 25) 2 (.int (gI s b0 2)) hC hb0.1 rfl rfl rfl rfl fl_X5_19 dX5_findingAt_25 ?_
        refine v_ic_ge (pc := 28) (tgt := 35) hC dX5_findingAt_28 rfl (fun c2 => ?_) (fun c2 => ?_)
        · replace h := (if_pos c2).symm.trans h
          refine v_iconst (pc := 35) (2 : Int32) rfl hC dX5_findingAt_35 ?_
          obtain rfl := Option.some.inj h
          exact v_iret (pc := 36) hC rfl dX5_findingAt_36 hP
        · replace h := (if_neg c2).symm.trans h
          refine v_iconst (pc := 31) (0 : Int32) rfl hC dX5_findingAt_31 ?_
          refine v_goto (pc := 32) (tgt := 36) hC dX5_findingAt_32 rfl ?_
          obtain rfl := Option.some.inj h
          exact v_iret (pc := 36) hC rfl dX5_findingAt_36 hP
    · replace h := (if_neg c3).symm.trans h
      refine v_iconst (pc := 17) (3 : Int32) rfl hC dX5_findingAt_17 ?_
      obtain rfl := Option.some.inj h
      exact v_iret (pc := 18) hC rfl dX5_findingAt_18 hP
  · replace h := (if_neg c4).symm.trans h
    refine v_iconst (pc := 7) (1 : Int32) rfl hC dX5_findingAt_7 ?_
    obtain rfl := Option.some.inj h
    exact v_iret (pc := 8) hC rfl dX5_findingAt_8 hP
theorem dX5_setItem_0 : decode cX5_setItem 0 = .ok (.aload_n 0, 1) := by decide +kernel
theorem dX5_setItem_1 : decode cX5_setItem 1 = .ok (.getfield 15, 3) := by decide +kernel
theorem dX5_setItem_4 : decode cX5_setItem 4 = .ok (.ifCond .ne 14, 3) := by decide +kernel
theorem dX5_setItem_7 : decode cX5_setItem 7 = .ok (.aload_n 0, 1) := by decide +kernel
theorem dX5_setItem_8 : decode cX5_setItem 8 = .ok (.getfield 22, 3) := by decide +kernel
theorem dX5_setItem_11 : decode cX5_setItem 11 = .ok (.iload_n 1, 1) := by decide +kernel
theorem dX5_setItem_12 : decode cX5_setItem 12 = .ok (.iload_n 2, 1) := by decide +kernel
theorem dX5_setItem_13 : decode cX5_setItem 13 = .ok (.i2b, 1) := by decide +kernel
theorem dX5_setItem_14 : decode cX5_setItem 14 = .ok (.iastore, 1) := by decide +kernel
theorem dX5_setItem_15 : decode cX5_setItem 15 = .ok (.goto 29, 3) := by decide +kernel
theorem dX5_setItem_18 : decode cX5_setItem 18 = .ok (.aload_n 0, 1) := by decide +kernel
theorem dX5_setItem_19 : decode cX5_setItem 19 = .ok (.getfield 15, 3) := by decide +kernel
theorem dX5_setItem_22 : decode cX5_setItem 22 = .ok (.iconst 1, 1) := by decide +kernel
theorem dX5_setItem_23 : decode cX5_setItem 23 = .ok (.if_icmp .ne 14, 3) := by decide +kernel
theorem dX5_setItem_26 : decode cX5_setItem 26 = .ok (.aload_n 0, 1) := by decide +kernel
theorem dX5_setItem_27 : decode cX5_setItem 27 = .ok (.getfield 22, 3) := by decide +kernel
theorem dX5_setItem_30 : decode cX5_setItem 30 = .ok (.iload_n 1, 1) := by decide +kernel
theorem dX5_setItem_31 : decode cX5_setItem 31 = .ok (.iload_n 2, 1) := by decide +kernel
theorem dX5_setItem_32 : decode cX5_setItem 32 = .ok (.i2s, 1) := by decide +kernel
theorem dX5_setItem_33 : decode cX5_setItem 33 = .ok (.iastore, 1) := by decide +kernel
theorem dX5_setItem_34 : decode cX5_setItem 34 = .ok (.goto 10, 3) := by decide +kernel
theorem dX5_setItem_37 : decode cX5_setItem 37 = .ok (.aload_n 0, 1) := by decide +kernel
theorem dX5_setItem_38 : decode cX5_setItem 38 = .ok (.getfield 22, 3) := by decide +kernel
theorem dX5_setItem_41 : decode cX5_setItem 41 = .ok (.iload_n 1, 1) := by decide +kernel
theorem dX5_setItem_42 : decode cX5_setItem 42 = .ok (.iload_n 2, 1) := by decide +kernel
theorem dX5_setItem_43 : decode cX5_setItem 43 = .ok (.iastore, 1) := by decide +kernel
theorem dX5_setItem_44 : decode cX5_setItem 44 = .ok (.return_, 1) := by decide +kernel
def fX5_setItem (b0 : Nat) (x0_ : Int32) (x1_ : Int32) (s : Sg) : Option (Sg) :=
  if (gI s b0 1) = 0 then
  (wI s (b0 + 1) 48 x0_ ((x1_).toInt8.toInt32)).bind fun s5 =>
  some s5
  else
  if (gI s b0 1) = (1 : Int32) then
  (wI s (b0 + 1) 48 x0_ ((x1_).toInt16.toInt32)).bind fun s3 =>
  some s3
  else
  (wI s (b0 + 1) 48 x0_ x1_).bind fun s1 =>
  some s1
theorem ct_X5_setItem {g : Gl} {b0 : Nat} {x0_ : Int32} {x1_ : Int32} {s : Sg} {w : Sg} (hb0 : isSh b0) (h : fX5_setItem b0 x0_ x1_ s = some w) : Ct SS g iX5_setItem 0 0 [.ref (gad g b0), .int x0_, .int x1_] s (Dt none w) := by
  refine Ct.ofV (by decide +kernel) 0 (lv0 := [some (.ref (gad g b0)), some (.int x0_), some (.int x1_)]) rfl rfl (fun M hC => ?_)
  have hP : (Dt none w) none w := ⟨rfl, rfl⟩
  generalize Dt none w = P at hP ⊢
  unfold fX5_setItem at h
  refine v_aload_n (pc := 0) hC dX5_setItem_0 rfl ?_
  refine v_gt (pc := 1) 1 (.int (gI s b0 1)) hC hb0.1 rfl rfl rfl rfl fl_X5_15 dX5_setItem_1 ?_
  refine v_if_ne (pc := 4) (tgt := 18) hC dX5_setItem_4 rfl (fun c4 => ?_) (fun c4 => ?_)
  · replace h := (if_neg c4).symm.trans h
    refine v_aload_n (pc := 18) hC dX5_setItem_18 rfl ?_
    refine v_gt (pc := 19) 1 (.int (gI s b0 1)) hC hb0.1 rfl rfl rfl rfl fl_X5_15 dX5_setItem_19 ?_
    refine v_iconst (pc := 22) (1 : Int32) rfl hC dX5_setItem_22 ?_
    refine v_ic_ne (pc := 23) (tgt := 37) hC dX5_setItem_23 rfl (fun c2 => ?_) (fun c2 => ?_)
    · replace h := (if_neg c2).symm.trans h
      refine v_aload_n (pc := 37) hC dX5_setItem_37 rfl ?_
      refine v_gt (pc := 38) 3 (.ref (gad g (b0 + 1))) hC hb0.1 rfl rfl rfl rfl fl_X5_22 dX5_setItem_38 ?_
      refine v_iload_n (pc := 41) hC dX5_setItem_41 rfl ?_
      refine v_iload_n (pc := 42) hC dX5_setItem_42 rfl ?_
      obtain ⟨s1, hs1, h⟩ := obd_s h
      refine v_wI (pc := 43) hC hb0.2 hs1 dX5_setItem_43 ?_
      obtain rfl := Option.some.inj h
      exact v_vret (pc := 44) hC rfl dX5_setItem_44 hP
    · replace h := (if_pos c2).symm.trans h
      refine v_aload_n (pc := 26) hC dX5_setItem_26 rfl ?_
      refine v_gt (pc := 27) 3 (.ref (gad g (b0 + 1))) hC hb0.1 rfl rfl rfl rfl fl_X5_22 dX5_setItem_27 ?_
      refine v_iload_n (pc := 30) hC dX5_setItem_30 rfl ?_
      refine v_iload_n (pc := 31) hC dX5_setItem_31 rfl ?_
      refine v_i2s (pc := 32) hC dX5_setItem_32 ?_
      obtain ⟨s3, hs3, h⟩ := obd_s h
      refine v_wI (pc := 33) hC hb0.2 hs3 dX5_setItem_33 ?_
      refine v_goto (pc := 34) (tgt := 44) hC dX5_setItem_34 rfl ?_
      obtain rfl := Option.some.inj h
      exact v_vret (pc := 44) hC rfl dX5_setItem_44 hP
  · replace h := (if_pos c4).symm.trans h
    refine v_aload_n (pc := 7) hC dX5_setItem_7 rfl ?_
    refine v_gt (pc := 8) 3 (.ref (gad g (b0 + 1))) hC hb0.1 rfl rfl rfl rfl fl_X5_22 dX5_setItem_8 ?_
    refine v_iload_n (pc := 11) hC dX5_setItem_11 rfl ?_
    refine v_iload_n (pc := 12) hC dX5_setItem_12 rfl ?_
    refine v_i2b (pc := 13) hC dX5_setItem_13 ?_
    obtain ⟨s5, hs5, h⟩ := obd_s h
    refine v_wI (pc := 14) hC hb0.2 hs5 dX5_setItem_14 ?_
    refine v_goto (pc := 15) (tgt := 44) hC dX5_setItem_15 rfl ?_
    obtain rfl := Option.some.inj h
    exact v_vret (pc := 44) hC rfl dX5_setItem_44 hP
theorem dX6_addPairsOf_0 : decode cX6_addPairsOf 0 = .ok (.iconst 0, 1) := by decide +kernel
theorem dX6_addPairsOf_1 : decode cX6_addPairsOf 1 = .ok (.istore_n 2, 1) := by decide +kernel
theorem dX6_addPairsOf_2 : decode cX6_addPairsOf 2 = .ok (.iload_n 2, 1) := by decide +kernel
theorem dX6_addPairsOf_3 : decode cX6_addPairsOf 3 = .ok (.aload_n 0, 1) := by decide +kernel
theorem dX6_addPairsOf_4 : decode cX6_addPairsOf 4 = .ok (.getfield 9, 3) := by decide +kernel
theorem dX6_addPairsOf_7 : decode cX6_addPairsOf 7 = .ok (.getfield 41, 3) := by decide +kernel
theorem dX6_addPairsOf_10 : decode cX6_addPairsOf 10 = .ok (.if_icmp .ge 93, 3) := by decide +kernel
theorem dX6_addPairsOf_13 : decode cX6_addPairsOf 13 = .ok (.aload_n 0, 1) := by decide +kernel
theorem dX6_addPairsOf_14 : decode cX6_addPairsOf 14 = .ok (.getfield 9, 3) := by decide +kernel
theorem dX6_addPairsOf_17 : decode cX6_addPairsOf 17 = .ok (.getfield 54, 3) := by decide +kernel
theorem dX6_addPairsOf_20 : decode cX6_addPairsOf 20 = .ok (.iload_n 1, 1) := by decide +kernel
theorem dX6_addPairsOf_21 : decode cX6_addPairsOf 21 = .ok (.iaload, 1) := by decide +kernel
theorem dX6_addPairsOf_22 : decode cX6_addPairsOf 22 = .ok (.aload_n 0, 1) := by decide +kernel
theorem dX6_addPairsOf_23 : decode cX6_addPairsOf 23 = .ok (.getfield 9, 3) := by decide +kernel
theorem dX6_addPairsOf_26 : decode cX6_addPairsOf 26 = .ok (.getfield 54, 3) := by decide +kernel
theorem dX6_addPairsOf_29 : decode cX6_addPairsOf 29 = .ok (.iload_n 2, 1) := by decide +kernel
theorem dX6_addPairsOf_30 : decode cX6_addPairsOf 30 = .ok (.iaload, 1) := by decide +kernel
theorem dX6_addPairsOf_31 : decode cX6_addPairsOf 31 = .ok (.if_icmp .ne 66, 3) := by decide +kernel
theorem dX6_addPairsOf_34 : decode cX6_addPairsOf 34 = .ok (.aload_n 0, 1) := by decide +kernel
theorem dX6_addPairsOf_35 : decode cX6_addPairsOf 35 = .ok (.getfield 9, 3) := by decide +kernel
theorem dX6_addPairsOf_38 : decode cX6_addPairsOf 38 = .ok (.iload_n 2, 1) := by decide +kernel
theorem dX6_addPairsOf_39 : decode cX6_addPairsOf 39 = .ok (.invokevirtual 46, 3) := by decide +kernel
theorem dX6_addPairsOf_42 : decode cX6_addPairsOf 42 = .ok (.ifCond .eq 55, 3) := by decide +kernel
theorem dX6_addPairsOf_45 : decode cX6_addPairsOf 45 = .ok (.aload_n 0, 1) := by decide +kernel
theorem dX6_addPairsOf_46 : decode cX6_addPairsOf 46 = .ok (.getfield 9, 3) := by decide +kernel
theorem dX6_addPairsOf_49 : decode cX6_addPairsOf 49 = .ok (.iload_n 1, 1) := by decide +kernel
theorem dX6_addPairsOf_50 : decode cX6_addPairsOf 50 = .ok (.iconst 0, 1) := by decide +kernel
theorem dX6_addPairsOf_51 : decode cX6_addPairsOf 51 = .ok (.invokevirtual 57, 3) := by decide +kernel
theorem dX6_addPairsOf_54 : decode cX6_addPairsOf 54 = .ok (.aload_n 0, 1) := by decide +kernel
theorem dX6_addPairsOf_55 : decode cX6_addPairsOf 55 = .ok (.getfield 9, 3) := by decide +kernel
theorem dX6_addPairsOf_58 : decode cX6_addPairsOf 58 = .ok (.iload_n 2, 1) := by decide +kernel
theorem dX6_addPairsOf_59 : decode cX6_addPairsOf 59 = .ok (.iconst 0, 1) := by decide +kernel
theorem dX6_addPairsOf_60 : decode cX6_addPairsOf 60 = .ok (.invokevirtual 57, 3) := by decide +kernel
theorem dX6_addPairsOf_63 : decode cX6_addPairsOf 63 = .ok (.if_icmp .ge 34, 3) := by decide +kernel
theorem dX6_addPairsOf_66 : decode cX6_addPairsOf 66 = .ok (.aload_n 0, 1) := by decide +kernel
theorem dX6_addPairsOf_67 : decode cX6_addPairsOf 67 = .ok (.getfield 19, 3) := by decide +kernel
theorem dX6_addPairsOf_70 : decode cX6_addPairsOf 70 = .ok (.aload_n 0, 1) := by decide +kernel
theorem dX6_addPairsOf_71 : decode cX6_addPairsOf 71 = .ok (.getfield 9, 3) := by decide +kernel
theorem dX6_addPairsOf_74 : decode cX6_addPairsOf 74 = .ok (.getfield 61, 3) := by decide +kernel
theorem dX6_addPairsOf_77 : decode cX6_addPairsOf 77 = .ok (.iload_n 1, 1) := by decide +kernel
theorem dX6_addPairsOf_78 : decode cX6_addPairsOf 78 = .ok (.iaload, 1) := by decide +kernel
theorem dX6_addPairsOf_79 : decode cX6_addPairsOf 79 = .ok (.bipush 8, 2) := by decide +kernel
theorem dX6_addPairsOf_81 : decode cX6_addPairsOf 81 = .ok (.imul, 1) := by decide +kernel
theorem dX6_addPairsOf_82 : decode cX6_addPairsOf 82 = .ok (.aload_n 0, 1) := by decide +kernel
theorem dX6_addPairsOf_83 : decode cX6_addPairsOf 83 = .ok (.getfield 9, 3) := by decide +kernel
theorem dX6_addPairsOf_86 : decode cX6_addPairsOf 86 = .ok (.getfield 61, 3) := by decide +kernel
theorem dX6_addPairsOf_89 : decode cX6_addPairsOf 89 = .ok (.iload_n 2, 1) := by decide +kernel
theorem dX6_addPairsOf_90 : decode cX6_addPairsOf 90 = .ok (.iaload, 1) := by decide +kernel
theorem dX6_addPairsOf_91 : decode cX6_addPairsOf 91 = .ok (.iadd, 1) := by decide +kernel
theorem dX6_addPairsOf_92 : decode cX6_addPairsOf 92 = .ok (.dup2, 1) := by decide +kernel
theorem dX6_addPairsOf_93 : decode cX6_addPairsOf 93 = .ok (.iaload, 1) := by decide +kernel
theorem dX6_addPairsOf_94 : decode cX6_addPairsOf 94 = .ok (.iconst 1, 1) := by decide +kernel
theorem dX6_addPairsOf_95 : decode cX6_addPairsOf 95 = .ok (.iadd, 1) := by decide +kernel
theorem dX6_addPairsOf_96 : decode cX6_addPairsOf 96 = .ok (.iastore, 1) := by decide +kernel
theorem dX6_addPairsOf_97 : decode cX6_addPairsOf 97 = .ok (.iinc 2 1, 3) := by decide +kernel
theorem dX6_addPairsOf_100 : decode cX6_addPairsOf 100 = .ok (.goto (-98), 3) := by decide +kernel
theorem dX6_addPairsOf_103 : decode cX6_addPairsOf 103 = .ok (.return_, 1) := by decide +kernel
def fX6_addPairsOf_L2 (p1 : Int32) (a : Int32) (s : Sg) : Option (((Int32) ⊕ (Unit)) × Sg) :=
  if (gI s 1 1) ≤ a then
  some (.inr (), s)
  else
  (aI s 5 64 p1).bind fun v2 =>
  (aI s 5 64 a).bind fun v3 =>
  ((if v2 = v3 then
  (fX3_isSingle a s).bind fun w8 =>
  if w8.1 = 0 then
  some w8.2
  else
  (fX3_timeOf p1 (0 : Int32) w8.2).bind fun w10 =>
  (fX3_timeOf a (0 : Int32) w10.2).bind fun w11 =>
  if w11.1 ≤ w10.1 then
  some w11.2
  else
  (aI w11.2 6 64 p1).bind fun v13 =>
  (aI w11.2 6 64 a).bind fun v14 =>
  (aI w11.2 26 64 ((v13 * (8 : Int32)) + v14)).bind fun v15 =>
  (wI w11.2 26 64 ((v13 * (8 : Int32)) + v14) (v15 + (1 : Int32))).bind fun s16 =>
  some s16
  else
  some s) : Option (Sg)).bind fun w4 =>
  bnd (a + (1 : Int32)) fun x6 =>
  some (.inl x6, w4)
def fX6_addPairsOf (x0_ : Int32) (s : Sg) : Option (Sg) :=
  (lpG (fX6_addPairsOf_L2 x0_) FU (0 : Int32) s).bind fun w1 =>
  some w1.2
theorem ct_X6_addPairsOf {g : Gl} {x0_ : Int32} {s : Sg} {w : Sg}  (h : fX6_addPairsOf x0_ s = some w) : Ct SS g iX6_addPairsOf 2 43 [.ref (gad g 25), .int x0_] s (Dt none w) := by
  refine Ct.ofV (by decide +kernel) 1 (lv0 := [some (.ref (gad g 25)), some (.int x0_), none]) rfl rfl (fun M hC => ?_)
  have hP : (Dt none w) none w := ⟨rfl, rfl⟩
  generalize Dt none w = P at hP ⊢
  unfold fX6_addPairsOf at h
  refine v_iconst (pc := 0) (0 : Int32) rfl hC dX6_addPairsOf_0 ?_
  refine v_istore_n (pc := 1) (lv' := [some (.ref (gad g 25)), some (.int x0_), some (.int (0 : Int32))]) hC dX6_addPairsOf_1 rfl rfl rfl rfl ?_
  obtain ⟨w1, hw1, h⟩ := obd_s h
  have kx24 : V SS g M iX6_addPairsOf (PQ SS g M P) 103 [none, none, none] [] w1.2 := by
    obtain rfl := Option.some.inj h
    exact v_vret (pc := 103) hC rfl dX6_addPairsOf_103 hP
  refine V.ls (ls_some (ls_some (ls_some ls_nil))) (v_loop (pc := 2) (fun a4 => [some (.ref (gad g 25)), some (.int x0_), some (.int a4)]) (fun z t => V SS g M iX6_addPairsOf (PQ SS g M P) 103 [none, none, none] [] t) (fun a4 s2 u3 hu3 k5 k6 => ?_) _ _ _ _ hw1 kx24)
  unfold fX6_addPairsOf_L2 at hu3
  refine v_iload_n (pc := 2) hC dX6_addPairsOf_2 rfl ?_
  refine v_aload_n (pc := 3) hC dX6_addPairsOf_3 rfl ?_
  refine v_gt (pc := 4) 0 (.ref (gad g 1)) hC s_25 rfl rfl rfl rfl fl_X6_9 dX6_addPairsOf_4 ?_
  refine v_gtN (pc := 7) 1 (.int (gI s2 1 1)) hC s_1 rfl rfl rfl rfl fl_X6_41 dX6_addPairsOf_7 ?_
  refine v_ic_ge (pc := 10) (tgt := 103) hC dX6_addPairsOf_10 rfl (fun c8 => ?_) (fun c8 => ?_)
  · replace hu3 := (if_pos c8).symm.trans hu3
    obtain rfl := Option.some.inj hu3
    exact V.ls (ls_none (ls_none (ls_none ls_nil))) (k6 _ rfl)
  · replace hu3 := (if_neg c8).symm.trans hu3
    refine v_aload_n (pc := 13) hC dX6_addPairsOf_13 rfl ?_
    refine v_gt (pc := 14) 0 (.ref (gad g 1)) hC s_25 rfl rfl rfl rfl fl_X6_9 dX6_addPairsOf_14 ?_
    refine v_gtN (pc := 17) 5 (.ref (gad g 5)) hC s_1 rfl rfl rfl rfl fl_X6_54 dX6_addPairsOf_17 ?_
    refine v_iload_n (pc := 20) hC dX6_addPairsOf_20 rfl ?_
    obtain ⟨v9, hv9, hu3⟩ := obd_s hu3
    refine v_aI (pc := 21) hC s_5 hv9 dX6_addPairsOf_21 ?_
    refine v_aload_n (pc := 22) hC dX6_addPairsOf_22 rfl ?_
    refine v_gt (pc := 23) 0 (.ref (gad g 1)) hC s_25 rfl rfl rfl rfl fl_X6_9 dX6_addPairsOf_23 ?_
    refine v_gtN (pc := 26) 5 (.ref (gad g 5)) hC s_1 rfl rfl rfl rfl fl_X6_54 dX6_addPairsOf_26 ?_
    refine v_iload_n (pc := 29) hC dX6_addPairsOf_29 rfl ?_
    obtain ⟨v10, hv10, hu3⟩ := obd_s hu3
    refine v_aI (pc := 30) hC s_5 hv10 dX6_addPairsOf_30 ?_
    obtain ⟨w11, hw11, hu3⟩ := obd_s hu3
    have kj12 : V SS g M iX6_addPairsOf (PQ SS g M P) 97 [some (.ref (gad g 25)), some (.int x0_), some (.int a4)] [] w11 := by
      obtain ⟨x13, hx13, hu3⟩ := bnd_s hu3
      refine v_iinc (pc := 97) (lv' := [some (.ref (gad g 25)), some (.int x0_), some (.int x13)]) (1 : Int32) rfl hx13 hC dX6_addPairsOf_97 rfl rfl rfl rfl ?_
      refine v_goto (pc := 100) (tgt := 2) hC dX6_addPairsOf_100 rfl ?_
      obtain rfl := Option.some.inj hu3
      exact V.ls (ls_some (ls_some (ls_some ls_nil))) (k5 _ rfl)
    refine v_ic_ne (pc := 31) (tgt := 97) hC dX6_addPairsOf_31 rfl (fun c14 => ?_) (fun c14 => ?_)
    · replace hw11 := (if_neg c14).symm.trans hw11
      obtain rfl := Option.some.inj hw11
      exact V.ls (ls_some (ls_some (ls_some ls_nil))) kj12
    · replace hw11 := (if_pos c14).symm.trans hw11
      refine v_aload_n (pc := 34) hC dX6_addPairsOf_34 rfl ?_
      refine v_gt (pc := 35) 0 (.ref (gad g 1)) hC s_25 rfl rfl rfl rfl fl_X6_9 dX6_addPairsOf_35 ?_
      refine v_iload_n (pc := 38) hC dX6_addPairsOf_38 rfl ?_
      obtain ⟨w15, hw15, hw11⟩ := obd_s hw11
      refine v_cV (pc := 39) [] [.int w15.1] gm_X3_isSingle hC s_1 rfl rfl (ct_X3_isSingle  hw15) ml_X6_46 rfl rfl rfl rfl rfl rfl dX6_addPairsOf_39 ?_
      refine v_if_eq (pc := 42) (tgt := 97) hC dX6_addPairsOf_42 rfl (fun c16 => ?_) (fun c16 => ?_)
      · replace hw11 := (if_pos c16).symm.trans hw11
        obtain rfl := Option.some.inj hw11
        exact V.ls (ls_some (ls_some (ls_some ls_nil))) kj12
      · replace hw11 := (if_neg c16).symm.trans hw11
        refine v_aload_n (pc := 45) hC dX6_addPairsOf_45 rfl ?_
        refine v_gt (pc := 46) 0 (.ref (gad g 1)) hC s_25 rfl rfl rfl rfl fl_X6_9 dX6_addPairsOf_46 ?_
        refine v_iload_n (pc := 49) hC dX6_addPairsOf_49 rfl ?_
        refine v_iconst (pc := 50) (0 : Int32) rfl hC dX6_addPairsOf_50 ?_
        obtain ⟨w17, hw17, hw11⟩ := obd_s hw11
        refine v_cV (pc := 51) [] [.int w17.1] gm_X3_timeOf hC s_1 rfl rfl (ct_X3_timeOf  hw17) ml_X6_57 rfl rfl rfl rfl rfl rfl dX6_addPairsOf_51 ?_
        refine v_aload_n (pc := 54) hC dX6_addPairsOf_54 rfl ?_
        refine v_gt (pc := 55) 0 (.ref (gad g 1)) hC s_25 rfl rfl rfl rfl fl_X6_9 dX6_addPairsOf_55 ?_
        refine v_iload_n (pc := 58) hC dX6_addPairsOf_58 rfl ?_
        refine v_iconst (pc := 59) (0 : Int32) rfl hC dX6_addPairsOf_59 ?_
        obtain ⟨w18, hw18, hw11⟩ := obd_s hw11
        refine v_cV (pc := 60) [.int w17.1] [.int w18.1, .int w17.1] gm_X3_timeOf hC s_1 rfl rfl (ct_X3_timeOf  hw18) ml_X6_57 rfl rfl rfl rfl rfl rfl dX6_addPairsOf_60 ?_
        refine v_ic_ge (pc := 63) (tgt := 97) hC dX6_addPairsOf_63 rfl (fun c19 => ?_) (fun c19 => ?_)
        · replace hw11 := (if_pos c19).symm.trans hw11
          obtain rfl := Option.some.inj hw11
          exact V.ls (ls_some (ls_some (ls_some ls_nil))) kj12
        · replace hw11 := (if_neg c19).symm.trans hw11
          refine v_aload_n (pc := 66) hC dX6_addPairsOf_66 rfl ?_
          refine v_gt (pc := 67) 2 (.ref (gad g 26)) hC s_25 rfl rfl rfl rfl fl_X6_19 dX6_addPairsOf_67 ?_
          refine v_aload_n (pc := 70) hC dX6_addPairsOf_70 rfl ?_
          refine v_gt (pc := 71) 0 (.ref (gad g 1)) hC s_25 rfl rfl rfl rfl fl_X6_9 dX6_addPairsOf_71 ?_
          refine v_gtN (pc := 74) 6 (.ref (gad g 6)) hC s_1 rfl rfl rfl rfl fl_X6_61 dX6_addPairsOf_74 ?_
          refine v_iload_n (pc := 77) hC dX6_addPairsOf_77 rfl ?_
          obtain ⟨v20, hv20, hw11⟩ := obd_s hw11
          refine v_aI (pc := 78) hC s_6 hv20 dX6_addPairsOf_78 ?_
          refine v_bipush (pc := 79) (8 : Int32) rfl hC dX6_addPairsOf_79 ?_
          refine v_imul (pc := 81) hC dX6_addPairsOf_81 ?_
          refine v_aload_n (pc := 82) hC dX6_addPairsOf_82 rfl ?_
          refine v_gt (pc := 83) 0 (.ref (gad g 1)) hC s_25 rfl rfl rfl rfl fl_X6_9 dX6_addPairsOf_83 ?_
          refine v_gtN (pc := 86) 6 (.ref (gad g 6)) hC s_1 rfl rfl rfl rfl fl_X6_61 dX6_addPairsOf_86 ?_
          refine v_iload_n (pc := 89) hC dX6_addPairsOf_89 rfl ?_
          obtain ⟨v21, hv21, hw11⟩ := obd_s hw11
          refine v_aI (pc := 90) hC s_6 hv21 dX6_addPairsOf_90 ?_
          refine v_iadd (pc := 91) hC dX6_addPairsOf_91 ?_
          refine v_dup2 (pc := 92) hC rfl rfl dX6_addPairsOf_92 ?_
          obtain ⟨v22, hv22, hw11⟩ := obd_s hw11
          refine v_aI (pc := 93) hC s_26 hv22 dX6_addPairsOf_93 ?_
          refine v_iconst (pc := 94) (1 : Int32) rfl hC dX6_addPairsOf_94 ?_
          refine v_iadd (pc := 95) hC dX6_addPairsOf_95 ?_
          obtain ⟨s23, hs23, hw11⟩ := obd_s hw11
          refine v_wI (pc := 96) hC s_26 hs23 dX6_addPairsOf_96 ?_
          obtain rfl := Option.some.inj hw11
          exact V.ls (ls_some (ls_some (ls_some ls_nil))) kj12
theorem dX6_survey_0 : decode cX6_survey 0 = .ok (.iconst 0, 1) := by decide +kernel
theorem dX6_survey_1 : decode cX6_survey 1 = .ok (.istore_n 1, 1) := by decide +kernel
theorem dX6_survey_2 : decode cX6_survey 2 = .ok (.iload_n 1, 1) := by decide +kernel
theorem dX6_survey_3 : decode cX6_survey 3 = .ok (.bipush 64, 2) := by decide +kernel
theorem dX6_survey_5 : decode cX6_survey 5 = .ok (.if_icmp .ge 16, 3) := by decide +kernel
theorem dX6_survey_8 : decode cX6_survey 8 = .ok (.aload_n 0, 1) := by decide +kernel
theorem dX6_survey_9 : decode cX6_survey 9 = .ok (.getfield 19, 3) := by decide +kernel
theorem dX6_survey_12 : decode cX6_survey 12 = .ok (.iload_n 1, 1) := by decide +kernel
theorem dX6_survey_13 : decode cX6_survey 13 = .ok (.iconst 0, 1) := by decide +kernel
theorem dX6_survey_14 : decode cX6_survey 14 = .ok (.iastore, 1) := by decide +kernel
theorem dX6_survey_15 : decode cX6_survey 15 = .ok (.iinc 1 1, 3) := by decide +kernel
theorem dX6_survey_18 : decode cX6_survey 18 = .ok (.goto (-16), 3) := by decide +kernel
theorem dX6_survey_21 : decode cX6_survey 21 = .ok (.iconst 0, 1) := by decide +kernel
theorem dX6_survey_22 : decode cX6_survey 22 = .ok (.istore_n 1, 1) := by decide +kernel
theorem dX6_survey_23 : decode cX6_survey 23 = .ok (.iload_n 1, 1) := by decide +kernel
theorem dX6_survey_24 : decode cX6_survey 24 = .ok (.aload_n 0, 1) := by decide +kernel
theorem dX6_survey_25 : decode cX6_survey 25 = .ok (.getfield 9, 3) := by decide +kernel
theorem dX6_survey_28 : decode cX6_survey 28 = .ok (.getfield 41, 3) := by decide +kernel
theorem dX6_survey_31 : decode cX6_survey 31 = .ok (.if_icmp .ge 25, 3) := by decide +kernel
theorem dX6_survey_34 : decode cX6_survey 34 = .ok (.aload_n 0, 1) := by decide +kernel
theorem dX6_survey_35 : decode cX6_survey 35 = .ok (.getfield 9, 3) := by decide +kernel
theorem dX6_survey_38 : decode cX6_survey 38 = .ok (.iload_n 1, 1) := by decide +kernel
theorem dX6_survey_39 : decode cX6_survey 39 = .ok (.invokevirtual 46, 3) := by decide +kernel
theorem dX6_survey_42 : decode cX6_survey 42 = .ok (.ifCond .eq 8, 3) := by decide +kernel
theorem dX6_survey_45 : decode cX6_survey 45 = .ok (.aload_n 0, 1) := by decide +kernel
theorem dX6_survey_46 : decode cX6_survey 46 = .ok (.iload_n 1, 1) := by decide +kernel
theorem dX6_survey_47 : decode cX6_survey 47 = .ok (.invokevirtual 50, 3) := by decide +kernel
theorem dX6_survey_50 : decode cX6_survey 50 = .ok (.iinc 1 1, 3) := by decide +kernel
theorem dX6_survey_53 : decode cX6_survey 53 = .ok (.goto (-30), 3) := by decide +kernel
theorem dX6_survey_56 : decode cX6_survey 56 = .ok (.return_, 1) := by decide +kernel
def fX6_survey_L2  (a : Int32) (s : Sg) : Option (((Int32) ⊕ (Unit)) × Sg) :=
  if (64 : Int32) ≤ a then
  some (.inr (), s)
  else
  (wI s 26 64 a (0 : Int32)).bind fun s2 =>
  bnd (a + (1 : Int32)) fun x3 =>
  some (.inl x3, s2)
def fX6_survey_L23  (a : Int32) (s : Sg) : Option (((Int32) ⊕ (Unit)) × Sg) :=
  if (gI s 1 1) ≤ a then
  some (.inr (), s)
  else
  (fX3_isSingle a s).bind fun w2 =>
  ((if w2.1 = 0 then
  some w2.2
  else
  (fX6_addPairsOf a w2.2).bind fun w7 =>
  some w7) : Option (Sg)).bind fun w3 =>
  bnd (a + (1 : Int32)) fun x5 =>
  some (.inl x5, w3)
def fX6_survey  (s : Sg) : Option (Sg) :=
  (lpG (fX6_survey_L2) FU (0 : Int32) s).bind fun w1 =>
  (lpG (fX6_survey_L23) FU (0 : Int32) w1.2).bind fun w2 =>
  some w2.2
theorem ct_X6_survey {g : Gl}  {s : Sg} {w : Sg}  (h : fX6_survey s = some w) : Ct SS g iX6_survey 3 65 [.ref (gad g 25)] s (Dt none w) := by
  refine Ct.ofV (by decide +kernel) 1 (lv0 := [some (.ref (gad g 25)), none]) rfl rfl (fun M hC => ?_)
  have hP : (Dt none w) none w := ⟨rfl, rfl⟩
  generalize Dt none w = P at hP ⊢
  unfold fX6_survey at h
  refine v_iconst (pc := 0) (0 : Int32) rfl hC dX6_survey_0 ?_
  refine v_istore_n (pc := 1) (lv' := [some (.ref (gad g 25)), some (.int (0 : Int32))]) hC dX6_survey_1 rfl rfl rfl rfl ?_
  obtain ⟨w1, hw1, h⟩ := obd_s h
  have kx26 : V SS g M iX6_survey (PQ SS g M P) 21 [some (.ref (gad g 25)), none] [] w1.2 := by
    refine v_iconst (pc := 21) (0 : Int32) rfl hC dX6_survey_21 ?_
    refine v_istore_n (pc := 22) (lv' := [some (.ref (gad g 25)), some (.int (0 : Int32))]) hC dX6_survey_22 rfl rfl rfl rfl ?_
    obtain ⟨w2, hw2, h⟩ := obd_s h
    have kx16 : V SS g M iX6_survey (PQ SS g M P) 56 [none, none] [] w2.2 := by
      obtain rfl := Option.some.inj h
      exact v_vret (pc := 56) hC rfl dX6_survey_56 hP
    refine V.ls (ls_some (ls_some ls_nil)) (v_loop (pc := 23) (fun a5 => [some (.ref (gad g 25)), some (.int a5)]) (fun z t => V SS g M iX6_survey (PQ SS g M P) 56 [none, none] [] t) (fun a5 s3 u4 hu4 k6 k7 => ?_) _ _ _ _ hw2 kx16)
    unfold fX6_survey_L23 at hu4
    refine v_iload_n (pc := 23) hC dX6_survey_23 rfl ?_
    refine v_aload_n (pc := 24) hC dX6_survey_24 rfl ?_
    refine v_gt (pc := 25) 0 (.ref (gad g 1)) hC s_25 rfl rfl rfl rfl fl_X6_9 dX6_survey_25 ?_
    refine v_gtN (pc := 28) 1 (.int (gI s3 1 1)) hC s_1 rfl rfl rfl rfl fl_X6_41 dX6_survey_28 ?_
    refine v_ic_ge (pc := 31) (tgt := 56) hC dX6_survey_31 rfl (fun c9 => ?_) (fun c9 => ?_)
    · replace hu4 := (if_pos c9).symm.trans hu4
      obtain rfl := Option.some.inj hu4
      exact V.ls (ls_none (ls_none ls_nil)) (k7 _ rfl)
    · replace hu4 := (if_neg c9).symm.trans hu4
      refine v_aload_n (pc := 34) hC dX6_survey_34 rfl ?_
      refine v_gt (pc := 35) 0 (.ref (gad g 1)) hC s_25 rfl rfl rfl rfl fl_X6_9 dX6_survey_35 ?_
      refine v_iload_n (pc := 38) hC dX6_survey_38 rfl ?_
      obtain ⟨w10, hw10, hu4⟩ := obd_s hu4
      refine v_cV (pc := 39) [] [.int w10.1] gm_X3_isSingle hC s_1 rfl rfl (ct_X3_isSingle  hw10) ml_X6_46 rfl rfl rfl rfl rfl rfl dX6_survey_39 ?_
      obtain ⟨w11, hw11, hu4⟩ := obd_s hu4
      have kj12 : V SS g M iX6_survey (PQ SS g M P) 50 [some (.ref (gad g 25)), some (.int a5)] [] w11 := by
        obtain ⟨x13, hx13, hu4⟩ := bnd_s hu4
        refine v_iinc (pc := 50) (lv' := [some (.ref (gad g 25)), some (.int x13)]) (1 : Int32) rfl hx13 hC dX6_survey_50 rfl rfl rfl rfl ?_
        refine v_goto (pc := 53) (tgt := 23) hC dX6_survey_53 rfl ?_
        obtain rfl := Option.some.inj hu4
        exact V.ls (ls_some (ls_some ls_nil)) (k6 _ rfl)
      refine v_if_eq (pc := 42) (tgt := 50) hC dX6_survey_42 rfl (fun c14 => ?_) (fun c14 => ?_)
      · replace hw11 := (if_pos c14).symm.trans hw11
        obtain rfl := Option.some.inj hw11
        exact V.ls (ls_some (ls_some ls_nil)) kj12
      · replace hw11 := (if_neg c14).symm.trans hw11
        refine v_aload_n (pc := 45) hC dX6_survey_45 rfl ?_
        refine v_iload_n (pc := 46) hC dX6_survey_46 rfl ?_
        obtain ⟨w15, hw15, hw11⟩ := obd_s hw11
        refine v_cV (pc := 47) [] [] gm_X6_addPairsOf hC s_25 rfl rfl (ct_X6_addPairsOf  hw15) ml_X6_50 rfl rfl rfl rfl rfl rfl dX6_survey_47 ?_
        obtain rfl := Option.some.inj hw11
        exact V.ls (ls_some (ls_some ls_nil)) kj12
  refine V.ls (ls_some (ls_some ls_nil)) (v_loop (pc := 2) (fun a19 => [some (.ref (gad g 25)), some (.int a19)]) (fun z t => V SS g M iX6_survey (PQ SS g M P) 21 [some (.ref (gad g 25)), none] [] t) (fun a19 s17 u18 hu18 k20 k21 => ?_) _ _ _ _ hw1 kx26)
  unfold fX6_survey_L2 at hu18
  refine v_iload_n (pc := 2) hC dX6_survey_2 rfl ?_
  refine v_bipush (pc := 3) (64 : Int32) rfl hC dX6_survey_3 ?_
  refine v_ic_ge (pc := 5) (tgt := 21) hC dX6_survey_5 rfl (fun c23 => ?_) (fun c23 => ?_)
  · replace hu18 := (if_pos c23).symm.trans hu18
    obtain rfl := Option.some.inj hu18
    exact V.ls (ls_some (ls_none ls_nil)) (k21 _ rfl)
  · replace hu18 := (if_neg c23).symm.trans hu18
    refine v_aload_n (pc := 8) hC dX6_survey_8 rfl ?_
    refine v_gt (pc := 9) 2 (.ref (gad g 26)) hC s_25 rfl rfl rfl rfl fl_X6_19 dX6_survey_9 ?_
    refine v_iload_n (pc := 12) hC dX6_survey_12 rfl ?_
    refine v_iconst (pc := 13) (0 : Int32) rfl hC dX6_survey_13 ?_
    obtain ⟨s24, hs24, hu18⟩ := obd_s hu18
    refine v_wI (pc := 14) hC s_26 hs24 dX6_survey_14 ?_
    obtain ⟨x25, hx25, hu18⟩ := bnd_s hu18
    refine v_iinc (pc := 15) (lv' := [some (.ref (gad g 25)), some (.int x25)]) (1 : Int32) rfl hx25 hC dX6_survey_15 rfl rfl rfl rfl ?_
    refine v_goto (pc := 18) (tgt := 2) hC dX6_survey_18 rfl ?_
    obtain rfl := Option.some.inj hu18
    exact V.ls (ls_some (ls_some ls_nil)) (k20 _ rfl)
theorem dX6_pairsIfFirst_0 : decode cX6_pairsIfFirst 0 = .ok (.iload_n 2, 1) := by decide +kernel
theorem dX6_pairsIfFirst_1 : decode cX6_pairsIfFirst 1 = .ok (.iconst 1, 1) := by decide +kernel
theorem dX6_pairsIfFirst_2 : decode cX6_pairsIfFirst 2 = .ok (.iload_n 1, 1) := by decide +kernel
theorem dX6_pairsIfFirst_3 : decode cX6_pairsIfFirst 3 = .ok (.ishl, 1) := by decide +kernel
theorem dX6_pairsIfFirst_4 : decode cX6_pairsIfFirst 4 = .ok (.iconst (-1), 1) := by decide +kernel
theorem dX6_pairsIfFirst_5 : decode cX6_pairsIfFirst 5 = .ok (.ixor, 1) := by decide +kernel
theorem dX6_pairsIfFirst_6 : decode cX6_pairsIfFirst 6 = .ok (.iand, 1) := by decide +kernel
theorem dX6_pairsIfFirst_7 : decode cX6_pairsIfFirst 7 = .ok (.istore_n 3, 1) := by decide +kernel
theorem dX6_pairsIfFirst_8 : decode cX6_pairsIfFirst 8 = .ok (.aload_n 0, 1) := by decide +kernel
theorem dX6_pairsIfFirst_9 : decode cX6_pairsIfFirst 9 = .ok (.getfield 23, 3) := by decide +kernel
theorem dX6_pairsIfFirst_12 : decode cX6_pairsIfFirst 12 = .ok (.iload_n 3, 1) := by decide +kernel
theorem dX6_pairsIfFirst_13 : decode cX6_pairsIfFirst 13 = .ok (.iaload, 1) := by decide +kernel
theorem dX6_pairsIfFirst_14 : decode cX6_pairsIfFirst 14 = .ok (.istore 4, 2) := by decide +kernel
theorem dX6_pairsIfFirst_16 : decode cX6_pairsIfFirst 16 = .ok (.iconst 0, 1) := by decide +kernel
theorem dX6_pairsIfFirst_17 : decode cX6_pairsIfFirst 17 = .ok (.istore 5, 2) := by decide +kernel
theorem dX6_pairsIfFirst_19 : decode cX6_pairsIfFirst 19 = .ok (.iload 5, 2) := by decide +kernel
theorem dX6_pairsIfFirst_21 : decode cX6_pairsIfFirst 21 = .ok (.bipush 8, 2) := by decide +kernel
theorem dX6_pairsIfFirst_23 : decode cX6_pairsIfFirst 23 = .ok (.if_icmp .ge 36, 3) := by decide +kernel
theorem dX6_pairsIfFirst_26 : decode cX6_pairsIfFirst 26 = .ok (.iload_n 3, 1) := by decide +kernel
theorem dX6_pairsIfFirst_27 : decode cX6_pairsIfFirst 27 = .ok (.iload 5, 2) := by decide +kernel
theorem dX6_pairsIfFirst_29 : decode cX6_pairsIfFirst 29 = .ok (.ishr, 1) := by decide +kernel
theorem dX6_pairsIfFirst_30 : decode cX6_pairsIfFirst 30 = .ok (.iconst 1, 1) := by decide +kernel
theorem dX6_pairsIfFirst_31 : decode cX6_pairsIfFirst 31 = .ok (.iand, 1) := by decide +kernel
theorem dX6_pairsIfFirst_32 : decode cX6_pairsIfFirst 32 = .ok (.iconst 1, 1) := by decide +kernel
theorem dX6_pairsIfFirst_33 : decode cX6_pairsIfFirst 33 = .ok (.if_icmp .ne 20, 3) := by decide +kernel
theorem dX6_pairsIfFirst_36 : decode cX6_pairsIfFirst 36 = .ok (.iload 4, 2) := by decide +kernel
theorem dX6_pairsIfFirst_38 : decode cX6_pairsIfFirst 38 = .ok (.aload_n 0, 1) := by decide +kernel
theorem dX6_pairsIfFirst_39 : decode cX6_pairsIfFirst 39 = .ok (.getfield 19, 3) := by decide +kernel
theorem dX6_pairsIfFirst_42 : decode cX6_pairsIfFirst 42 = .ok (.iload_n 1, 1) := by decide +kernel
theorem dX6_pairsIfFirst_43 : decode cX6_pairsIfFirst 43 = .ok (.bipush 8, 2) := by decide +kernel
theorem dX6_pairsIfFirst_45 : decode cX6_pairsIfFirst 45 = .ok (.imul, 1) := by decide +kernel
theorem dX6_pairsIfFirst_46 : decode cX6_pairsIfFirst 46 = .ok (.iload 5, 2) := by decide +kernel
theorem dX6_pairsIfFirst_48 : decode cX6_pairsIfFirst 48 = .ok (.iadd, 1) := by decide +kernel
theorem dX6_pairsIfFirst_49 : decode cX6_pairsIfFirst 49 = .ok (.iaload, 1) := by decide +kernel
theorem dX6_pairsIfFirst_50 : decode cX6_pairsIfFirst 50 = .ok (.iadd, 1) := by decide +kernel
theorem dX6_pairsIfFirst_51 : decode cX6_pairsIfFirst 51 = .ok (.istore 4, 2) := by decide +kernel
theorem dX6_pairsIfFirst_53 : decode cX6_pairsIfFirst 53 = .ok (.iinc 5 1, 3) := by decide +kernel
theorem dX6_pairsIfFirst_56 : decode cX6_pairsIfFirst 56 = .ok (.goto (-37), 3) := by decide +kernel
theorem dX6_pairsIfFirst_59 : decode cX6_pairsIfFirst 59 = .ok (.iload 4, 2) := by decide +kernel
theorem dX6_pairsIfFirst_61 : decode cX6_pairsIfFirst 61 = .ok (.ireturn, 1) := by decide +kernel
def fX6_pairsIfFirst_L19 (p1 : Int32) (p3 : Int32) (a : Int32 × Int32) (s : Sg) : Option (((Int32 × Int32) ⊕ (Int32)) × Sg) :=
  if (8 : Int32) ≤ a.2 then
  some (.inr a.1, s)
  else
  ((if ((p3 >>> (a.2 &&& 31)) &&& (1 : Int32)) = (1 : Int32) then
  (aI s 26 64 ((p1 * (8 : Int32)) + a.2)).bind fun v6 =>
  bnd (a.1 + v6) fun x7 =>
  some x7
  else
  some a.1) : Option (Int32)).bind fun w2 =>
  bnd (a.2 + (1 : Int32)) fun x4 =>
  some (.inl (w2, x4), s)
def fX6_pairsIfFirst (x0_ : Int32) (x1_ : Int32) (s : Sg) : Option (Int32 × Sg) :=
  bnd (x1_ &&& (((1 : Int32) <<< (x0_ &&& 31)) ^^^ (-1 : Int32))) fun x1 =>
  (aI s 27 256 x1).bind fun v2 =>
  (lpG (fX6_pairsIfFirst_L19 x0_ x1) FU (v2, (0 : Int32)) s).bind fun w3 =>
  some (w3.1, w3.2)
theorem ct_X6_pairsIfFirst {g : Gl} {x0_ : Int32} {x1_ : Int32} {s : Sg} {w : Int32 × Sg}  (h : fX6_pairsIfFirst x0_ x1_ s = some w) : Ct SS g iX6_pairsIfFirst 0 0 [.ref (gad g 25), .int x0_, .int x1_] s (Dt (some (.int w.1)) w.2) := by
  refine Ct.ofV (by decide +kernel) 3 (lv0 := [some (.ref (gad g 25)), some (.int x0_), some (.int x1_), none, none, none]) rfl rfl (fun M hC => ?_)
  have hP : (Dt (some (.int w.1)) w.2) (some (.int w.1)) w.2 := ⟨rfl, rfl⟩
  generalize Dt (some (.int w.1)) w.2 = P at hP ⊢
  unfold fX6_pairsIfFirst at h
  refine v_iload_n (pc := 0) hC dX6_pairsIfFirst_0 rfl ?_
  refine v_iconst (pc := 1) (1 : Int32) rfl hC dX6_pairsIfFirst_1 ?_
  refine v_iload_n (pc := 2) hC dX6_pairsIfFirst_2 rfl ?_
  refine v_ishl (pc := 3) hC dX6_pairsIfFirst_3 ?_
  refine v_iconst (pc := 4) (-1 : Int32) rfl hC dX6_pairsIfFirst_4 ?_
  refine v_ixor (pc := 5) hC dX6_pairsIfFirst_5 ?_
  refine v_iand (pc := 6) hC dX6_pairsIfFirst_6 ?_
  obtain ⟨x1, hx1, h⟩ := bnd_s h
  refine v_istore_n (pc := 7) (lv' := [some (.ref (gad g 25)), some (.int x0_), some (.int x1_), some (.int x1), none, none]) hC dX6_pairsIfFirst_7 hx1 rfl rfl rfl ?_
  refine v_aload_n (pc := 8) hC dX6_pairsIfFirst_8 rfl ?_
  refine v_gt (pc := 9) 3 (.ref (gad g 27)) hC s_25 rfl rfl rfl rfl fl_X6_23 dX6_pairsIfFirst_9 ?_
  refine v_iload_n (pc := 12) hC dX6_pairsIfFirst_12 rfl ?_
  obtain ⟨v2, hv2, h⟩ := obd_s h
  refine v_aI (pc := 13) hC s_27 hv2 dX6_pairsIfFirst_13 ?_
  refine v_istore (pc := 14) (lv' := [some (.ref (gad g 25)), some (.int x0_), some (.int x1_), some (.int x1), some (.int v2), none]) hC dX6_pairsIfFirst_14 rfl rfl rfl rfl ?_
  refine v_iconst (pc := 16) (0 : Int32) rfl hC dX6_pairsIfFirst_16 ?_
  refine v_istore (pc := 17) (lv' := [some (.ref (gad g 25)), some (.int x0_), some (.int x1_), some (.int x1), some (.int v2), some (.int (0 : Int32))]) hC dX6_pairsIfFirst_17 rfl rfl rfl rfl ?_
  obtain ⟨w3, hw3, h⟩ := obd_s h
  have kx17 : V SS g M iX6_pairsIfFirst (PQ SS g M P) 59 [none, none, none, none, some (.int w3.1), none] [] w3.2 := by
    refine v_iload (pc := 59) hC dX6_pairsIfFirst_59 rfl ?_
    obtain rfl := Option.some.inj h
    exact v_iret (pc := 61) hC rfl dX6_pairsIfFirst_61 hP
  refine V.ls (ls_some (ls_some (ls_none (ls_some (ls_some (ls_some ls_nil)))))) (v_loop (pc := 19) (fun a6 => [some (.ref (gad g 25)), some (.int x0_), none, some (.int x1), some (.int a6.1), some (.int a6.2)]) (fun z t => V SS g M iX6_pairsIfFirst (PQ SS g M P) 59 [none, none, none, none, some (.int z), none] [] t) (fun a6 s4 u5 hu5 k7 k8 => ?_) _ _ _ _ hw3 kx17)
  unfold fX6_pairsIfFirst_L19 at hu5
  refine v_iload (pc := 19) hC dX6_pairsIfFirst_19 rfl ?_
  refine v_bipush (pc := 21) (8 : Int32) rfl hC dX6_pairsIfFirst_21 ?_
  refine v_ic_ge (pc := 23) (tgt := 59) hC dX6_pairsIfFirst_23 rfl (fun c10 => ?_) (fun c10 => ?_)
  · replace hu5 := (if_pos c10).symm.trans hu5
    obtain rfl := Option.some.inj hu5
    exact V.ls (ls_none (ls_none (ls_none (ls_none (ls_some (ls_none ls_nil)))))) (k8 _ rfl)
  · replace hu5 := (if_neg c10).symm.trans hu5
    refine v_iload_n (pc := 26) hC dX6_pairsIfFirst_26 rfl ?_
    refine v_iload (pc := 27) hC dX6_pairsIfFirst_27 rfl ?_
    refine v_ishr (pc := 29) hC dX6_pairsIfFirst_29 ?_
    refine v_iconst (pc := 30) (1 : Int32) rfl hC dX6_pairsIfFirst_30 ?_
    refine v_iand (pc := 31) hC dX6_pairsIfFirst_31 ?_
    refine v_iconst (pc := 32) (1 : Int32) rfl hC dX6_pairsIfFirst_32 ?_
    obtain ⟨w11, hw11, hu5⟩ := obd_s hu5
    have kj12 : V SS g M iX6_pairsIfFirst (PQ SS g M P) 53 [some (.ref (gad g 25)), some (.int x0_), none, some (.int x1), some (.int w11), some (.int a6.2)] [] s4 := by
      obtain ⟨x13, hx13, hu5⟩ := bnd_s hu5
      refine v_iinc (pc := 53) (lv' := [some (.ref (gad g 25)), some (.int x0_), none, some (.int x1), some (.int w11), some (.int x13)]) (1 : Int32) rfl hx13 hC dX6_pairsIfFirst_53 rfl rfl rfl rfl ?_
      refine v_goto (pc := 56) (tgt := 19) hC dX6_pairsIfFirst_56 rfl ?_
      obtain rfl := Option.some.inj hu5
      exact V.ls (ls_some (ls_some (ls_none (ls_some (ls_some (ls_some ls_nil)))))) (k7 _ rfl)
    refine v_ic_ne (pc := 33) (tgt := 53) hC dX6_pairsIfFirst_33 rfl (fun c14 => ?_) (fun c14 => ?_)
    · replace hw11 := (if_neg c14).symm.trans hw11
      obtain rfl := Option.some.inj hw11
      exact V.ls (ls_some (ls_some (ls_none (ls_some (ls_some (ls_some ls_nil)))))) kj12
    · replace hw11 := (if_pos c14).symm.trans hw11
      refine v_iload (pc := 36) hC dX6_pairsIfFirst_36 rfl ?_
      refine v_aload_n (pc := 38) hC dX6_pairsIfFirst_38 rfl ?_
      refine v_gt (pc := 39) 2 (.ref (gad g 26)) hC s_25 rfl rfl rfl rfl fl_X6_19 dX6_pairsIfFirst_39 ?_
      refine v_iload_n (pc := 42) hC dX6_pairsIfFirst_42 rfl ?_
      refine v_bipush (pc := 43) (8 : Int32) rfl hC dX6_pairsIfFirst_43 ?_
      refine v_imul (pc := 45) hC dX6_pairsIfFirst_45 ?_
      refine v_iload (pc := 46) hC dX6_pairsIfFirst_46 rfl ?_
      refine v_iadd (pc := 48) hC dX6_pairsIfFirst_48 ?_
      obtain ⟨v15, hv15, hw11⟩ := obd_s hw11
      refine v_aI (pc := 49) hC s_26 hv15 dX6_pairsIfFirst_49 ?_
      refine v_iadd (pc := 50) hC dX6_pairsIfFirst_50 ?_
      obtain ⟨x16, hx16, hw11⟩ := bnd_s hw11
      refine v_istore (pc := 51) (lv' := [some (.ref (gad g 25)), some (.int x0_), none, some (.int x1), some (.int x16), some (.int a6.2)]) hC dX6_pairsIfFirst_51 hx16 rfl rfl rfl ?_
      obtain rfl := Option.some.inj hw11
      exact V.ls (ls_some (ls_some (ls_none (ls_some (ls_some (ls_some ls_nil)))))) kj12
theorem dX6_leastFirst_0 : decode cX6_leastFirst 0 = .ok (.iconst 0, 1) := by decide +kernel
theorem dX6_leastFirst_1 : decode cX6_leastFirst 1 = .ok (.istore_n 2, 1) := by decide +kernel
theorem dX6_leastFirst_2 : decode cX6_leastFirst 2 = .ok (.iload_n 2, 1) := by decide +kernel
theorem dX6_leastFirst_3 : decode cX6_leastFirst 3 = .ok (.bipush 8, 2) := by decide +kernel
theorem dX6_leastFirst_5 : decode cX6_leastFirst 5 = .ok (.if_icmp .ge 35, 3) := by decide +kernel
theorem dX6_leastFirst_8 : decode cX6_leastFirst 8 = .ok (.iload_n 1, 1) := by decide +kernel
theorem dX6_leastFirst_9 : decode cX6_leastFirst 9 = .ok (.iload_n 2, 1) := by decide +kernel
theorem dX6_leastFirst_10 : decode cX6_leastFirst 10 = .ok (.ishr, 1) := by decide +kernel
theorem dX6_leastFirst_11 : decode cX6_leastFirst 11 = .ok (.iconst 1, 1) := by decide +kernel
theorem dX6_leastFirst_12 : decode cX6_leastFirst 12 = .ok (.iand, 1) := by decide +kernel
theorem dX6_leastFirst_13 : decode cX6_leastFirst 13 = .ok (.iconst 1, 1) := by decide +kernel
theorem dX6_leastFirst_14 : decode cX6_leastFirst 14 = .ok (.if_icmp .ne 20, 3) := by decide +kernel
theorem dX6_leastFirst_17 : decode cX6_leastFirst 17 = .ok (.aload_n 0, 1) := by decide +kernel
theorem dX6_leastFirst_18 : decode cX6_leastFirst 18 = .ok (.iload_n 2, 1) := by decide +kernel
theorem dX6_leastFirst_19 : decode cX6_leastFirst 19 = .ok (.iload_n 1, 1) := by decide +kernel
theorem dX6_leastFirst_20 : decode cX6_leastFirst 20 = .ok (.invokevirtual 64, 3) := by decide +kernel
theorem dX6_leastFirst_23 : decode cX6_leastFirst 23 = .ok (.aload_n 0, 1) := by decide +kernel
theorem dX6_leastFirst_24 : decode cX6_leastFirst 24 = .ok (.getfield 23, 3) := by decide +kernel
theorem dX6_leastFirst_27 : decode cX6_leastFirst 27 = .ok (.iload_n 1, 1) := by decide +kernel
theorem dX6_leastFirst_28 : decode cX6_leastFirst 28 = .ok (.iaload, 1) := by decide +kernel
theorem dX6_leastFirst_29 : decode cX6_leastFirst 29 = .ok (.if_icmp .ne 5, 3) := by decide +kernel
theorem dX6_leastFirst_32 : decode cX6_leastFirst 32 = .ok (.iload_n 2, 1) := by decide +kernel
theorem dX6_leastFirst_33 : decode cX6_leastFirst 33 = .ok (.ireturn, 1) := by decide +kernel
theorem dX6_leastFirst_34 : decode cX6_leastFirst 34 = .ok (.iinc 2 1, 3) := by decide +kernel
theorem dX6_leastFirst_37 : decode cX6_leastFirst 37 = .ok (.goto (-35), 3) := by decide +kernel
theorem dX6_leastFirst_40 : decode cX6_leastFirst 40 = .ok (.iconst 0, 1) := by decide +kernel
theorem dX6_leastFirst_41 : decode cX6_leastFirst 41 = .ok (.ireturn, 1) := by decide +kernel
def fX6_leastFirst_L2 (p1 : Int32) (a : Int32) (s : Sg) : Option (((Int32) ⊕ (Int32 ⊕ (Unit))) × Sg) :=
  if (8 : Int32) ≤ a then
  some (.inr (.inr ()), s)
  else
  if ((p1 >>> (a &&& 31)) &&& (1 : Int32)) = (1 : Int32) then
  (fX6_pairsIfFirst a p1 s).bind fun w4 =>
  (aI w4.2 27 256 p1).bind fun v5 =>
  if w4.1 = v5 then
  some (.inr (.inl a), w4.2)
  else
  bnd (a + (1 : Int32)) fun x6 =>
  some (.inl x6, w4.2)
  else
  bnd (a + (1 : Int32)) fun x2 =>
  some (.inl x2, s)
def fX6_leastFirst (x0_ : Int32) (s : Sg) : Option (Int32 × Sg) :=
  (lpG (fX6_leastFirst_L2 x0_) FU (0 : Int32) s).bind fun w1 =>
  Sum.elim (fun r18 => some (r18, w1.2)) (fun e2 => some ((0 : Int32), w1.2)) w1.1
theorem ct_X6_leastFirst {g : Gl} {x0_ : Int32} {s : Sg} {w : Int32 × Sg}  (h : fX6_leastFirst x0_ s = some w) : Ct SS g iX6_leastFirst 1 25 [.ref (gad g 25), .int x0_] s (Dt (some (.int w.1)) w.2) := by
  refine Ct.ofV (by decide +kernel) 1 (lv0 := [some (.ref (gad g 25)), some (.int x0_), none]) rfl rfl (fun M hC => ?_)
  have hP : (Dt (some (.int w.1)) w.2) (some (.int w.1)) w.2 := ⟨rfl, rfl⟩
  generalize Dt (some (.int w.1)) w.2 = P at hP ⊢
  unfold fX6_leastFirst at h
  refine v_iconst (pc := 0) (0 : Int32) rfl hC dX6_leastFirst_0 ?_
  refine v_istore_n (pc := 1) (lv' := [some (.ref (gad g 25)), some (.int x0_), some (.int (0 : Int32))]) hC dX6_leastFirst_1 rfl rfl rfl rfl ?_
  obtain ⟨w1, hw1, h⟩ := obd_s h
  have kr16 : ∀ r18, w1.1 = .inl r18 → P (some (.int r18)) w1.2 := by
    intro r18 hr18
    rw [hr18] at h
    replace h := (Sum.elim_inl _ _ _).symm.trans h
    obtain rfl := Option.some.inj h
    exact hP
  have ke17 : ∀ e2, w1.1 = .inr e2 → V SS g M iX6_leastFirst (PQ SS g M P) 40 [none, none, none] [] w1.2 := by
    intro e2 he2
    rw [he2] at h
    replace h := (Sum.elim_inr _ _ _).symm.trans h
    refine v_iconst (pc := 40) (0 : Int32) rfl hC dX6_leastFirst_40 ?_
    obtain rfl := Option.some.inj h
    exact v_iret (pc := 41) hC rfl dX6_leastFirst_41 hP
  refine V.ls (ls_some (ls_some (ls_some ls_nil))) (v_loopR (pc := 2) (fun a5 => [some (.ref (gad g 25)), some (.int x0_), some (.int a5)]) (fun (r18 : Int32) t => P (some (.int r18)) t) (fun z t => V SS g M iX6_leastFirst (PQ SS g M P) 40 [none, none, none] [] t) (fun a5 s3 u4 hu4 k6 k8 k7 => ?_) _ _ _ _ hw1 kr16 ke17)
  unfold fX6_leastFirst_L2 at hu4
  refine v_iload_n (pc := 2) hC dX6_leastFirst_2 rfl ?_
  refine v_bipush (pc := 3) (8 : Int32) rfl hC dX6_leastFirst_3 ?_
  refine v_ic_ge (pc := 5) (tgt := 40) hC dX6_leastFirst_5 rfl (fun c9 => ?_) (fun c9 => ?_)
  · replace hu4 := (if_pos c9).symm.trans hu4
    obtain rfl := Option.some.inj hu4
    exact V.ls (ls_none (ls_none (ls_none ls_nil))) (k7 _ rfl)
  · replace hu4 := (if_neg c9).symm.trans hu4
    refine v_iload_n (pc := 8) hC dX6_leastFirst_8 rfl ?_
    refine v_iload_n (pc := 9) hC dX6_leastFirst_9 rfl ?_
    refine v_ishr (pc := 10) hC dX6_leastFirst_10 ?_
    refine v_iconst (pc := 11) (1 : Int32) rfl hC dX6_leastFirst_11 ?_
    refine v_iand (pc := 12) hC dX6_leastFirst_12 ?_
    refine v_iconst (pc := 13) (1 : Int32) rfl hC dX6_leastFirst_13 ?_
    refine v_ic_ne (pc := 14) (tgt := 34) hC dX6_leastFirst_14 rfl (fun c11 => ?_) (fun c11 => ?_)
    · replace hu4 := (if_neg c11).symm.trans hu4
      obtain ⟨x10, hx10, hu4⟩ := bnd_s hu4
      refine v_iinc (pc := 34) (lv' := [some (.ref (gad g 25)), some (.int x0_), some (.int x10)]) (1 : Int32) rfl hx10 hC dX6_leastFirst_34 rfl rfl rfl rfl ?_
      refine v_goto (pc := 37) (tgt := 2) hC dX6_leastFirst_37 rfl ?_
      obtain rfl := Option.some.inj hu4
      exact V.ls (ls_some (ls_some (ls_some ls_nil))) (k6 _ rfl)
    · replace hu4 := (if_pos c11).symm.trans hu4
      refine v_aload_n (pc := 17) hC dX6_leastFirst_17 rfl ?_
      refine v_iload_n (pc := 18) hC dX6_leastFirst_18 rfl ?_
      refine v_iload_n (pc := 19) hC dX6_leastFirst_19 rfl ?_
      obtain ⟨w12, hw12, hu4⟩ := obd_s hu4
      refine v_cV (pc := 20) [] [.int w12.1] gm_X6_pairsIfFirst hC s_25 rfl rfl (ct_X6_pairsIfFirst  hw12) ml_X6_64 rfl rfl rfl rfl rfl rfl dX6_leastFirst_20 ?_
      refine v_aload_n (pc := 23) hC dX6_leastFirst_23 rfl ?_
      refine v_gt (pc := 24) 3 (.ref (gad g 27)) hC s_25 rfl rfl rfl rfl fl_X6_23 dX6_leastFirst_24 ?_
      refine v_iload_n (pc := 27) hC dX6_leastFirst_27 rfl ?_
      obtain ⟨v13, hv13, hu4⟩ := obd_s hu4
      refine v_aI (pc := 28) hC s_27 hv13 dX6_leastFirst_28 ?_
      refine v_ic_ne (pc := 29) (tgt := 34) hC dX6_leastFirst_29 rfl (fun c15 => ?_) (fun c15 => ?_)
      · replace hu4 := (if_neg c15).symm.trans hu4
        obtain ⟨x14, hx14, hu4⟩ := bnd_s hu4
        refine v_iinc (pc := 34) (lv' := [some (.ref (gad g 25)), some (.int x0_), some (.int x14)]) (1 : Int32) rfl hx14 hC dX6_leastFirst_34 rfl rfl rfl rfl ?_
        refine v_goto (pc := 37) (tgt := 2) hC dX6_leastFirst_37 rfl ?_
        obtain rfl := Option.some.inj hu4
        exact V.ls (ls_some (ls_some (ls_some ls_nil))) (k6 _ rfl)
      · replace hu4 := (if_pos c15).symm.trans hu4
        refine v_iload_n (pc := 32) hC dX6_leastFirst_32 rfl ?_
        obtain rfl := Option.some.inj hu4
        exact v_iret (pc := 33) hC rfl dX6_leastFirst_33 (k8 _ rfl)
theorem dX6_arrange_0 : decode cX6_arrange 0 = .ok (.aload_n 0, 1) := by decide +kernel
theorem dX6_arrange_1 : decode cX6_arrange 1 = .ok (.getfield 23, 3) := by decide +kernel
theorem dX6_arrange_4 : decode cX6_arrange 4 = .ok (.iconst 0, 1) := by decide +kernel
theorem dX6_arrange_5 : decode cX6_arrange 5 = .ok (.iconst 0, 1) := by decide +kernel
theorem dX6_arrange_6 : decode cX6_arrange 6 = .ok (.iastore, 1) := by decide +kernel
theorem dX6_arrange_7 : decode cX6_arrange 7 = .ok (.iconst 1, 1) := by decide +kernel
theorem dX6_arrange_8 : decode cX6_arrange 8 = .ok (.istore_n 1, 1) := by decide +kernel
theorem dX6_arrange_9 : decode cX6_arrange 9 = .ok (.iload_n 1, 1) := by decide +kernel
theorem dX6_arrange_10 : decode cX6_arrange 10 = .ok (.sipush 255, 3) := by decide +kernel
theorem dX6_arrange_13 : decode cX6_arrange 13 = .ok (.if_icmp .gt 52, 3) := by decide +kernel
theorem dX6_arrange_16 : decode cX6_arrange 16 = .ok (.iconst 0, 1) := by decide +kernel
theorem dX6_arrange_17 : decode cX6_arrange 17 = .ok (.istore_n 2, 1) := by decide +kernel
theorem dX6_arrange_18 : decode cX6_arrange 18 = .ok (.iconst 0, 1) := by decide +kernel
theorem dX6_arrange_19 : decode cX6_arrange 19 = .ok (.istore_n 3, 1) := by decide +kernel
theorem dX6_arrange_20 : decode cX6_arrange 20 = .ok (.iload_n 3, 1) := by decide +kernel
theorem dX6_arrange_21 : decode cX6_arrange 21 = .ok (.bipush 8, 2) := by decide +kernel
theorem dX6_arrange_23 : decode cX6_arrange 23 = .ok (.if_icmp .ge 29, 3) := by decide +kernel
theorem dX6_arrange_26 : decode cX6_arrange 26 = .ok (.iload_n 1, 1) := by decide +kernel
theorem dX6_arrange_27 : decode cX6_arrange 27 = .ok (.iload_n 3, 1) := by decide +kernel
theorem dX6_arrange_28 : decode cX6_arrange 28 = .ok (.ishr, 1) := by decide +kernel
theorem dX6_arrange_29 : decode cX6_arrange 29 = .ok (.iconst 1, 1) := by decide +kernel
theorem dX6_arrange_30 : decode cX6_arrange 30 = .ok (.iand, 1) := by decide +kernel
theorem dX6_arrange_31 : decode cX6_arrange 31 = .ok (.iconst 1, 1) := by decide +kernel
theorem dX6_arrange_32 : decode cX6_arrange 32 = .ok (.if_icmp .ne 14, 3) := by decide +kernel
theorem dX6_arrange_35 : decode cX6_arrange 35 = .ok (.iload_n 2, 1) := by decide +kernel
theorem dX6_arrange_36 : decode cX6_arrange 36 = .ok (.aload_n 0, 1) := by decide +kernel
theorem dX6_arrange_37 : decode cX6_arrange 37 = .ok (.iload_n 3, 1) := by decide +kernel
theorem dX6_arrange_38 : decode cX6_arrange 38 = .ok (.iload_n 1, 1) := by decide +kernel
theorem dX6_arrange_39 : decode cX6_arrange 39 = .ok (.invokevirtual 64, 3) := by decide +kernel
theorem dX6_arrange_42 : decode cX6_arrange 42 = .ok (.invokestatic 67, 3) := by decide +kernel
theorem dX6_arrange_45 : decode cX6_arrange 45 = .ok (.istore_n 2, 1) := by decide +kernel
theorem dX6_arrange_46 : decode cX6_arrange 46 = .ok (.iinc 3 1, 3) := by decide +kernel
theorem dX6_arrange_49 : decode cX6_arrange 49 = .ok (.goto (-29), 3) := by decide +kernel
theorem dX6_arrange_52 : decode cX6_arrange 52 = .ok (.aload_n 0, 1) := by decide +kernel
theorem dX6_arrange_53 : decode cX6_arrange 53 = .ok (.getfield 23, 3) := by decide +kernel
theorem dX6_arrange_56 : decode cX6_arrange 56 = .ok (.iload_n 1, 1) := by decide +kernel
theorem dX6_arrange_57 : decode cX6_arrange 57 = .ok (.iload_n 2, 1) := by decide +kernel
theorem dX6_arrange_58 : decode cX6_arrange 58 = .ok (.iastore, 1) := by decide +kernel
theorem dX6_arrange_59 : decode cX6_arrange 59 = .ok (.iinc 1 1, 3) := by decide +kernel
theorem dX6_arrange_62 : decode cX6_arrange 62 = .ok (.goto (-53), 3) := by decide +kernel
theorem dX6_arrange_65 : decode cX6_arrange 65 = .ok (.aload_n 0, 1) := by decide +kernel
theorem dX6_arrange_66 : decode cX6_arrange 66 = .ok (.aload_n 0, 1) := by decide +kernel
theorem dX6_arrange_67 : decode cX6_arrange 67 = .ok (.getfield 23, 3) := by decide +kernel
theorem dX6_arrange_70 : decode cX6_arrange 70 = .ok (.sipush 255, 3) := by decide +kernel
theorem dX6_arrange_73 : decode cX6_arrange 73 = .ok (.iaload, 1) := by decide +kernel
theorem dX6_arrange_74 : decode cX6_arrange 74 = .ok (.putfield 29, 3) := by decide +kernel
theorem dX6_arrange_77 : decode cX6_arrange 77 = .ok (.sipush 255, 3) := by decide +kernel
theorem dX6_arrange_80 : decode cX6_arrange 80 = .ok (.istore_n 1, 1) := by decide +kernel
theorem dX6_arrange_81 : decode cX6_arrange 81 = .ok (.iconst 0, 1) := by decide +kernel
theorem dX6_arrange_82 : decode cX6_arrange 82 = .ok (.istore_n 2, 1) := by decide +kernel
theorem dX6_arrange_83 : decode cX6_arrange 83 = .ok (.iload_n 2, 1) := by decide +kernel
theorem dX6_arrange_84 : decode cX6_arrange 84 = .ok (.bipush 8, 2) := by decide +kernel
theorem dX6_arrange_86 : decode cX6_arrange 86 = .ok (.if_icmp .ge 33, 3) := by decide +kernel
theorem dX6_arrange_89 : decode cX6_arrange 89 = .ok (.aload_n 0, 1) := by decide +kernel
theorem dX6_arrange_90 : decode cX6_arrange 90 = .ok (.getfield 26, 3) := by decide +kernel
theorem dX6_arrange_93 : decode cX6_arrange 93 = .ok (.iload_n 2, 1) := by decide +kernel
theorem dX6_arrange_94 : decode cX6_arrange 94 = .ok (.aload_n 0, 1) := by decide +kernel
theorem dX6_arrange_95 : decode cX6_arrange 95 = .ok (.iload_n 1, 1) := by decide +kernel
theorem dX6_arrange_96 : decode cX6_arrange 96 = .ok (.invokevirtual 72, 3) := by decide +kernel
theorem dX6_arrange_99 : decode cX6_arrange 99 = .ok (.iastore, 1) := by decide +kernel
theorem dX6_arrange_100 : decode cX6_arrange 100 = .ok (.iload_n 1, 1) := by decide +kernel
theorem dX6_arrange_101 : decode cX6_arrange 101 = .ok (.iconst 1, 1) := by decide +kernel
theorem dX6_arrange_102 : decode cX6_arrange 102 = .ok (.aload_n 0, 1) := by decide +kernel
theorem dX6_arrange_103 : decode cX6_arrange 103 = .ok (.getfield 26, 3) := by decide +kernel
theorem dX6_arrange_106 : decode cX6_arrange 106 = .ok (.iload_n 2, 1) := by decide +kernel
theorem dX6_arrange_107 : decode cX6_arrange 107 = .ok (.iaload, 1) := by decide +kernel
theorem dX6_arrange_108 : decode cX6_arrange 108 = .ok (.ishl, 1) := by decide +kernel
theorem dX6_arrange_109 : decode cX6_arrange 109 = .ok (.iconst (-1), 1) := by decide +kernel
theorem dX6_arrange_110 : decode cX6_arrange 110 = .ok (.ixor, 1) := by decide +kernel
theorem dX6_arrange_111 : decode cX6_arrange 111 = .ok (.iand, 1) := by decide +kernel
theorem dX6_arrange_112 : decode cX6_arrange 112 = .ok (.istore_n 1, 1) := by decide +kernel
theorem dX6_arrange_113 : decode cX6_arrange 113 = .ok (.iinc 2 1, 3) := by decide +kernel
theorem dX6_arrange_116 : decode cX6_arrange 116 = .ok (.goto (-33), 3) := by decide +kernel
theorem dX6_arrange_119 : decode cX6_arrange 119 = .ok (.return_, 1) := by decide +kernel
def fX6_arrange_L20 (p1 : Int32) (a : Int32 × Int32) (s : Sg) : Option (((Int32 × Int32) ⊕ (Int32)) × Sg) :=
  if (8 : Int32) ≤ a.2 then
  some (.inr a.1, s)
  else
  ((if ((p1 >>> (a.2 &&& 31)) &&& (1 : Int32)) = (1 : Int32) then
  (fX6_pairsIfFirst a.2 p1 s).bind fun w6 =>
  bnd (mxI a.1 w6.1) fun x7 =>
  some (x7, w6.2)
  else
  some (a.1, s)) : Option (Int32 × Sg)).bind fun w2 =>
  bnd (a.2 + (1 : Int32)) fun x4 =>
  some (.inl (w2.1, x4), w2.2)
def fX6_arrange_L9  (a : Int32) (s : Sg) : Option (((Int32) ⊕ (Unit)) × Sg) :=
  if (255 : Int32) < a then
  some (.inr (), s)
  else
  (lpG (fX6_arrange_L20 a) FU ((0 : Int32), (0 : Int32)) s).bind fun w2 =>
  (wI w2.2 27 256 a w2.1).bind fun s3 =>
  bnd (a + (1 : Int32)) fun x4 =>
  some (.inl x4, s3)
def fX6_arrange_L83  (a : Int32 × Int32) (s : Sg) : Option (((Int32 × Int32) ⊕ (Unit)) × Sg) :=
  if (8 : Int32) ≤ a.2 then
  some (.inr (), s)
  else
  (fX6_leastFirst a.1 s).bind fun w2 =>
  (wI w2.2 28 8 a.2 w2.1).bind fun s3 =>
  (aI s3 28 8 a.2).bind fun v4 =>
  bnd (a.1 &&& (((1 : Int32) <<< (v4 &&& 31)) ^^^ (-1 : Int32))) fun x5 =>
  bnd (a.2 + (1 : Int32)) fun x6 =>
  some (.inl (x5, x6), s3)
def fX6_arrange  (s : Sg) : Option (Sg) :=
  (wI s 27 256 (0 : Int32) (0 : Int32)).bind fun s1 =>
  (lpG (fX6_arrange_L9) FU (1 : Int32) s1).bind fun w2 =>
  (aI w2.2 27 256 (255 : Int32)).bind fun v3 =>
  bnd (sI w2.2 25 5 v3) fun s4 =>
  (lpG (fX6_arrange_L83) FU ((255 : Int32), (0 : Int32)) s4).bind fun w5 =>
  some w5.2
theorem ct_X6_arrange {g : Gl}  {s : Sg} {w : Sg}  (h : fX6_arrange s = some w) : Ct SS g iX6_arrange 2 47 [.ref (gad g 25)] s (Dt none w) := by
  refine Ct.ofV (by decide +kernel) 3 (lv0 := [some (.ref (gad g 25)), none, none, none]) rfl rfl (fun M hC => ?_)
  have hP : (Dt none w) none w := ⟨rfl, rfl⟩
  generalize Dt none w = P at hP ⊢
  unfold fX6_arrange at h
  refine v_aload_n (pc := 0) hC dX6_arrange_0 rfl ?_
  refine v_gt (pc := 1) 3 (.ref (gad g 27)) hC s_25 rfl rfl rfl rfl fl_X6_23 dX6_arrange_1 ?_
  refine v_iconst (pc := 4) (0 : Int32) rfl hC dX6_arrange_4 ?_
  refine v_iconst (pc := 5) (0 : Int32) rfl hC dX6_arrange_5 ?_
  obtain ⟨s1, hs1, h⟩ := obd_s h
  refine v_wI (pc := 6) hC s_27 hs1 dX6_arrange_6 ?_
  refine v_iconst (pc := 7) (1 : Int32) rfl hC dX6_arrange_7 ?_
  refine v_istore_n (pc := 8) (lv' := [some (.ref (gad g 25)), some (.int (1 : Int32)), none, none]) hC dX6_arrange_8 rfl rfl rfl rfl ?_
  obtain ⟨w2, hw2, h⟩ := obd_s h
  have kx43 : V SS g M iX6_arrange (PQ SS g M P) 65 [some (.ref (gad g 25)), none, none, none] [] w2.2 := by
    refine v_aload_n (pc := 65) hC dX6_arrange_65 rfl ?_
    refine v_aload_n (pc := 66) hC dX6_arrange_66 rfl ?_
    refine v_gt (pc := 67) 3 (.ref (gad g 27)) hC s_25 rfl rfl rfl rfl fl_X6_23 dX6_arrange_67 ?_
    refine v_sipush (pc := 70) (255 : Int32) rfl hC dX6_arrange_70 ?_
    obtain ⟨v3, hv3, h⟩ := obd_s h
    refine v_aI (pc := 73) hC s_27 hv3 dX6_arrange_73 ?_
    obtain ⟨s4, hs4, h⟩ := bnd_s h
    refine v_pI (pc := 74) 5 hC s_25 rfl rfl rfl rfl rfl rfl fl_X6_29 hs4 dX6_arrange_74 ?_
    refine v_sipush (pc := 77) (255 : Int32) rfl hC dX6_arrange_77 ?_
    refine v_istore_n (pc := 80) (lv' := [some (.ref (gad g 25)), some (.int (255 : Int32)), none, none]) hC dX6_arrange_80 rfl rfl rfl rfl ?_
    refine v_iconst (pc := 81) (0 : Int32) rfl hC dX6_arrange_81 ?_
    refine v_istore_n (pc := 82) (lv' := [some (.ref (gad g 25)), some (.int (255 : Int32)), some (.int (0 : Int32)), none]) hC dX6_arrange_82 rfl rfl rfl rfl ?_
    obtain ⟨w5, hw5, h⟩ := obd_s h
    have kx18 : V SS g M iX6_arrange (PQ SS g M P) 119 [none, none, none, none] [] w5.2 := by
      obtain rfl := Option.some.inj h
      exact v_vret (pc := 119) hC rfl dX6_arrange_119 hP
    refine V.ls (ls_some (ls_some (ls_some (ls_none ls_nil)))) (v_loop (pc := 83) (fun a8 => [some (.ref (gad g 25)), some (.int a8.1), some (.int a8.2), none]) (fun z t => V SS g M iX6_arrange (PQ SS g M P) 119 [none, none, none, none] [] t) (fun a8 s6 u7 hu7 k9 k10 => ?_) _ _ _ _ hw5 kx18)
    unfold fX6_arrange_L83 at hu7
    refine v_iload_n (pc := 83) hC dX6_arrange_83 rfl ?_
    refine v_bipush (pc := 84) (8 : Int32) rfl hC dX6_arrange_84 ?_
    refine v_ic_ge (pc := 86) (tgt := 119) hC dX6_arrange_86 rfl (fun c12 => ?_) (fun c12 => ?_)
    · replace hu7 := (if_pos c12).symm.trans hu7
      obtain rfl := Option.some.inj hu7
      exact V.ls (ls_none (ls_none (ls_none (ls_none ls_nil)))) (k10 _ rfl)
    · replace hu7 := (if_neg c12).symm.trans hu7
      refine v_aload_n (pc := 89) hC dX6_arrange_89 rfl ?_
      refine v_gt (pc := 90) 4 (.ref (gad g 28)) hC s_25 rfl rfl rfl rfl fl_X6_26 dX6_arrange_90 ?_
      refine v_iload_n (pc := 93) hC dX6_arrange_93 rfl ?_
      refine v_aload_n (pc := 94) hC dX6_arrange_94 rfl ?_
      refine v_iload_n (pc := 95) hC dX6_arrange_95 rfl ?_
      obtain ⟨w13, hw13, hu7⟩ := obd_s hu7
      refine v_cV (pc := 96) [.int a8.2, .ref (gad g 28)] [.int w13.1, .int a8.2, .ref (gad g 28)] gm_X6_leastFirst hC s_25 rfl rfl (ct_X6_leastFirst  hw13) ml_X6_72 rfl rfl rfl rfl rfl rfl dX6_arrange_96 ?_
      obtain ⟨s14, hs14, hu7⟩ := obd_s hu7
      refine v_wI (pc := 99) hC s_28 hs14 dX6_arrange_99 ?_
      refine v_iload_n (pc := 100) hC dX6_arrange_100 rfl ?_
      refine v_iconst (pc := 101) (1 : Int32) rfl hC dX6_arrange_101 ?_
      refine v_aload_n (pc := 102) hC dX6_arrange_102 rfl ?_
      refine v_gt (pc := 103) 4 (.ref (gad g 28)) hC s_25 rfl rfl rfl rfl fl_X6_26 dX6_arrange_103 ?_
      refine v_iload_n (pc := 106) hC dX6_arrange_106 rfl ?_
      obtain ⟨v15, hv15, hu7⟩ := obd_s hu7
      refine v_aI (pc := 107) hC s_28 hv15 dX6_arrange_107 ?_
      refine v_ishl (pc := 108) hC dX6_arrange_108 ?_
      refine v_iconst (pc := 109) (-1 : Int32) rfl hC dX6_arrange_109 ?_
      refine v_ixor (pc := 110) hC dX6_arrange_110 ?_
      refine v_iand (pc := 111) hC dX6_arrange_111 ?_
      obtain ⟨x16, hx16, hu7⟩ := bnd_s hu7
      refine v_istore_n (pc := 112) (lv' := [some (.ref (gad g 25)), some (.int x16), some (.int a8.2), none]) hC dX6_arrange_112 hx16 rfl rfl rfl ?_
      obtain ⟨x17, hx17, hu7⟩ := bnd_s hu7
      refine v_iinc (pc := 113) (lv' := [some (.ref (gad g 25)), some (.int x16), some (.int x17), none]) (1 : Int32) rfl hx17 hC dX6_arrange_113 rfl rfl rfl rfl ?_
      refine v_goto (pc := 116) (tgt := 83) hC dX6_arrange_116 rfl ?_
      obtain rfl := Option.some.inj hu7
      exact V.ls (ls_some (ls_some (ls_some (ls_none ls_nil)))) (k9 _ rfl)
  refine V.ls (ls_some (ls_some (ls_none (ls_none ls_nil)))) (v_loop (pc := 9) (fun a21 => [some (.ref (gad g 25)), some (.int a21), none, none]) (fun z t => V SS g M iX6_arrange (PQ SS g M P) 65 [some (.ref (gad g 25)), none, none, none] [] t) (fun a21 s19 u20 hu20 k22 k23 => ?_) _ _ _ _ hw2 kx43)
  unfold fX6_arrange_L9 at hu20
  refine v_iload_n (pc := 9) hC dX6_arrange_9 rfl ?_
  refine v_sipush (pc := 10) (255 : Int32) rfl hC dX6_arrange_10 ?_
  refine v_ic_gt (pc := 13) (tgt := 65) hC dX6_arrange_13 rfl (fun c25 => ?_) (fun c25 => ?_)
  · replace hu20 := (if_pos c25).symm.trans hu20
    obtain rfl := Option.some.inj hu20
    exact V.ls (ls_some (ls_none (ls_none (ls_none ls_nil)))) (k23 _ rfl)
  · replace hu20 := (if_neg c25).symm.trans hu20
    refine v_iconst (pc := 16) (0 : Int32) rfl hC dX6_arrange_16 ?_
    refine v_istore_n (pc := 17) (lv' := [some (.ref (gad g 25)), some (.int a21), some (.int (0 : Int32)), none]) hC dX6_arrange_17 rfl rfl rfl rfl ?_
    refine v_iconst (pc := 18) (0 : Int32) rfl hC dX6_arrange_18 ?_
    refine v_istore_n (pc := 19) (lv' := [some (.ref (gad g 25)), some (.int a21), some (.int (0 : Int32)), some (.int (0 : Int32))]) hC dX6_arrange_19 rfl rfl rfl rfl ?_
    obtain ⟨w26, hw26, hu20⟩ := obd_s hu20
    have kx42 : V SS g M iX6_arrange (PQ SS g M P) 52 [some (.ref (gad g 25)), some (.int a21), some (.int w26.1), none] [] w26.2 := by
      refine v_aload_n (pc := 52) hC dX6_arrange_52 rfl ?_
      refine v_gt (pc := 53) 3 (.ref (gad g 27)) hC s_25 rfl rfl rfl rfl fl_X6_23 dX6_arrange_53 ?_
      refine v_iload_n (pc := 56) hC dX6_arrange_56 rfl ?_
      refine v_iload_n (pc := 57) hC dX6_arrange_57 rfl ?_
      obtain ⟨s27, hs27, hu20⟩ := obd_s hu20
      refine v_wI (pc := 58) hC s_27 hs27 dX6_arrange_58 ?_
      obtain ⟨x28, hx28, hu20⟩ := bnd_s hu20
      refine v_iinc (pc := 59) (lv' := [some (.ref (gad g 25)), some (.int x28), some (.int w26.1), none]) (1 : Int32) rfl hx28 hC dX6_arrange_59 rfl rfl rfl rfl ?_
      refine v_goto (pc := 62) (tgt := 9) hC dX6_arrange_62 rfl ?_
      obtain rfl := Option.some.inj hu20
      exact V.ls (ls_some (ls_some (ls_none (ls_none ls_nil)))) (k22 _ rfl)
    refine V.ls (ls_some (ls_some (ls_some (ls_some ls_nil)))) (v_loop (pc := 20) (fun a31 => [some (.ref (gad g 25)), some (.int a21), some (.int a31.1), some (.int a31.2)]) (fun z t => V SS g M iX6_arrange (PQ SS g M P) 52 [some (.ref (gad g 25)), some (.int a21), some (.int z), none] [] t) (fun a31 s29 u30 hu30 k32 k33 => ?_) _ _ _ _ hw26 kx42)
    unfold fX6_arrange_L20 at hu30
    refine v_iload_n (pc := 20) hC dX6_arrange_20 rfl ?_
    refine v_bipush (pc := 21) (8 : Int32) rfl hC dX6_arrange_21 ?_
    refine v_ic_ge (pc := 23) (tgt := 52) hC dX6_arrange_23 rfl (fun c35 => ?_) (fun c35 => ?_)
    · replace hu30 := (if_pos c35).symm.trans hu30
      obtain rfl := Option.some.inj hu30
      exact V.ls (ls_some (ls_some (ls_some (ls_none ls_nil)))) (k33 _ rfl)
    · replace hu30 := (if_neg c35).symm.trans hu30
      refine v_iload_n (pc := 26) hC dX6_arrange_26 rfl ?_
      refine v_iload_n (pc := 27) hC dX6_arrange_27 rfl ?_
      refine v_ishr (pc := 28) hC dX6_arrange_28 ?_
      refine v_iconst (pc := 29) (1 : Int32) rfl hC dX6_arrange_29 ?_
      refine v_iand (pc := 30) hC dX6_arrange_30 ?_
      refine v_iconst (pc := 31) (1 : Int32) rfl hC dX6_arrange_31 ?_
      obtain ⟨w36, hw36, hu30⟩ := obd_s hu30
      have kj37 : V SS g M iX6_arrange (PQ SS g M P) 46 [some (.ref (gad g 25)), some (.int a21), some (.int w36.1), some (.int a31.2)] [] w36.2 := by
        obtain ⟨x38, hx38, hu30⟩ := bnd_s hu30
        refine v_iinc (pc := 46) (lv' := [some (.ref (gad g 25)), some (.int a21), some (.int w36.1), some (.int x38)]) (1 : Int32) rfl hx38 hC dX6_arrange_46 rfl rfl rfl rfl ?_
        refine v_goto (pc := 49) (tgt := 20) hC dX6_arrange_49 rfl ?_
        obtain rfl := Option.some.inj hu30
        exact V.ls (ls_some (ls_some (ls_some (ls_some ls_nil)))) (k32 _ rfl)
      refine v_ic_ne (pc := 32) (tgt := 46) hC dX6_arrange_32 rfl (fun c39 => ?_) (fun c39 => ?_)
      · replace hw36 := (if_neg c39).symm.trans hw36
        obtain rfl := Option.some.inj hw36
        exact V.ls (ls_some (ls_some (ls_some (ls_some ls_nil)))) kj37
      · replace hw36 := (if_pos c39).symm.trans hw36
        refine v_iload_n (pc := 35) hC dX6_arrange_35 rfl ?_
        refine v_aload_n (pc := 36) hC dX6_arrange_36 rfl ?_
        refine v_iload_n (pc := 37) hC dX6_arrange_37 rfl ?_
        refine v_iload_n (pc := 38) hC dX6_arrange_38 rfl ?_
        obtain ⟨w40, hw40, hw36⟩ := obd_s hw36
        refine v_cV (pc := 39) [.int a31.1] [.int w40.1, .int a31.1] gm_X6_pairsIfFirst hC s_25 rfl rfl (ct_X6_pairsIfFirst  hw40) ml_X6_64 rfl rfl rfl rfl rfl rfl dX6_arrange_39 ?_
        refine v_mx (pc := 42) hC mm_X6_67 rfl rfl dX6_arrange_42 ?_
        obtain ⟨x41, hx41, hw36⟩ := bnd_s hw36
        refine v_istore_n (pc := 45) (lv' := [some (.ref (gad g 25)), some (.int a21), some (.int x41), some (.int a31.2)]) hC dX6_arrange_45 hx41 rfl rfl rfl ?_
        obtain rfl := Option.some.inj hw36
        exact V.ls (ls_some (ls_some (ls_some (ls_some ls_nil)))) kj37
