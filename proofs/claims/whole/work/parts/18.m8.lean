/-! methods, printed by wip/whole/gen/meth.py: X11_twiceMean, X11_hasDiff, X11_twiceDiff, X11_diff, X11_laysLanes, X11_joins, X11_laysShape, X11_lays, X11_adds, X11_lanesMany, X11_laysLane, X11_laneNow, X11_lane, X11_countsNow, X11_counts -/
theorem dX11_twiceMean_0 : decode cX11_twiceMean 0 = .ok (.iconst 0, 1) := by decide +kernel
theorem dX11_twiceMean_1 : decode cX11_twiceMean 1 = .ok (.istore_n 3, 1) := by decide +kernel
theorem dX11_twiceMean_2 : decode cX11_twiceMean 2 = .ok (.iload_n 2, 1) := by decide +kernel
theorem dX11_twiceMean_3 : decode cX11_twiceMean 3 = .ok (.istore 4, 2) := by decide +kernel
theorem dX11_twiceMean_5 : decode cX11_twiceMean 5 = .ok (.iload 4, 2) := by decide +kernel
theorem dX11_twiceMean_7 : decode cX11_twiceMean 7 = .ok (.iconst 4, 1) := by decide +kernel
theorem dX11_twiceMean_8 : decode cX11_twiceMean 8 = .ok (.if_icmp .ge 42, 3) := by decide +kernel
theorem dX11_twiceMean_11 : decode cX11_twiceMean 11 = .ok (.iload_n 3, 1) := by decide +kernel
theorem dX11_twiceMean_12 : decode cX11_twiceMean 12 = .ok (.aload_n 0, 1) := by decide +kernel
theorem dX11_twiceMean_13 : decode cX11_twiceMean 13 = .ok (.getfield 25, 3) := by decide +kernel
theorem dX11_twiceMean_16 : decode cX11_twiceMean 16 = .ok (.iconst 4, 1) := by decide +kernel
theorem dX11_twiceMean_17 : decode cX11_twiceMean 17 = .ok (.iload_n 1, 1) := by decide +kernel
theorem dX11_twiceMean_18 : decode cX11_twiceMean 18 = .ok (.imul, 1) := by decide +kernel
theorem dX11_twiceMean_19 : decode cX11_twiceMean 19 = .ok (.iload 4, 2) := by decide +kernel
theorem dX11_twiceMean_21 : decode cX11_twiceMean 21 = .ok (.iadd, 1) := by decide +kernel
theorem dX11_twiceMean_22 : decode cX11_twiceMean 22 = .ok (.iaload, 1) := by decide +kernel
theorem dX11_twiceMean_23 : decode cX11_twiceMean 23 = .ok (.iconst (-1), 1) := by decide +kernel
theorem dX11_twiceMean_24 : decode cX11_twiceMean 24 = .ok (.if_icmp .ne 7, 3) := by decide +kernel
theorem dX11_twiceMean_27 : decode cX11_twiceMean 27 = .ok (.iconst 0, 1) := by decide +kernel
theorem dX11_twiceMean_28 : decode cX11_twiceMean 28 = .ok (.goto 14, 3) := by decide +kernel
theorem dX11_twiceMean_31 : decode cX11_twiceMean 31 = .ok (.aload_n 0, 1) := by decide +kernel
theorem dX11_twiceMean_32 : decode cX11_twiceMean 32 = .ok (.getfield 25, 3) := by decide +kernel
theorem dX11_twiceMean_35 : decode cX11_twiceMean 35 = .ok (.iconst 4, 1) := by decide +kernel
theorem dX11_twiceMean_36 : decode cX11_twiceMean 36 = .ok (.iload_n 1, 1) := by decide +kernel
theorem dX11_twiceMean_37 : decode cX11_twiceMean 37 = .ok (.imul, 1) := by decide +kernel
theorem dX11_twiceMean_38 : decode cX11_twiceMean 38 = .ok (.iload 4, 2) := by decide +kernel
theorem dX11_twiceMean_40 : decode cX11_twiceMean 40 = .ok (.iadd, 1) := by decide +kernel
theorem dX11_twiceMean_41 : decode cX11_twiceMean 41 = .ok (.iaload, 1) := by decide +kernel
theorem dX11_twiceMean_42 : decode cX11_twiceMean 42 = .ok (.iadd, 1) := by decide +kernel
theorem dX11_twiceMean_43 : decode cX11_twiceMean 43 = .ok (.istore_n 3, 1) := by decide +kernel
theorem dX11_twiceMean_44 : decode cX11_twiceMean 44 = .ok (.iinc 4 2, 3) := by decide +kernel
theorem dX11_twiceMean_47 : decode cX11_twiceMean 47 = .ok (.goto (-42), 3) := by decide +kernel
theorem dX11_twiceMean_50 : decode cX11_twiceMean 50 = .ok (.aload_n 0, 1) := by decide +kernel
theorem dX11_twiceMean_51 : decode cX11_twiceMean 51 = .ok (.iload_n 1, 1) := by decide +kernel
theorem dX11_twiceMean_52 : decode cX11_twiceMean 52 = .ok (.iload_n 2, 1) := by decide +kernel
theorem dX11_twiceMean_53 : decode cX11_twiceMean 53 = .ok (.invokevirtual 138, 3) := by decide +kernel
theorem dX11_twiceMean_56 : decode cX11_twiceMean 56 = .ok (.iconst 1, 1) := by decide +kernel
theorem dX11_twiceMean_57 : decode cX11_twiceMean 57 = .ok (.if_icmp .ne 9, 3) := by decide +kernel
theorem dX11_twiceMean_60 : decode cX11_twiceMean 60 = .ok (.iconst 2, 1) := by decide +kernel
theorem dX11_twiceMean_61 : decode cX11_twiceMean 61 = .ok (.iload_n 3, 1) := by decide +kernel
theorem dX11_twiceMean_62 : decode cX11_twiceMean 62 = .ok (.imul, 1) := by decide +kernel
theorem dX11_twiceMean_63 : decode cX11_twiceMean 63 = .ok (.goto 4, 3) := by decide +kernel
theorem dX11_twiceMean_66 : decode cX11_twiceMean 66 = .ok (.iload_n 3, 1) := by decide +kernel
theorem dX11_twiceMean_67 : decode cX11_twiceMean 67 = .ok (.ireturn, 1) := by decide +kernel
def fX11_twiceMean_L5 (p1 : Int32) (p2 : Int32) (a : Int32 × Int32) (s : Sg) : Option (((Int32 × Int32) ⊕ (Int32)) × Sg) :=
  if (4 : Int32) ≤ a.2 then
  some (.inr a.1, s)
  else
  (aI s 55 256 (((4 : Int32) * p1) + a.2)).bind fun v2 =>
  ((if v2 = (-1 : Int32) then
  some (0 : Int32)
  else
  (aI s 55 256 (((4 : Int32) * p1) + a.2)).bind fun v7 =>
  some v7) : Option (Int32)).bind fun w3 =>
  bnd (a.1 + w3) fun x5 =>
  bnd (a.2 + (2 : Int32)) fun x6 =>
  some (.inl (x5, x6), s)
def fX11_twiceMean (x0_ : Int32) (x1_ : Int32) (s : Sg) : Option (Int32 × Sg) :=
  (lpG (fX11_twiceMean_L5 x0_ x1_) FU ((0 : Int32), x1_) s).bind fun w1 =>
  (fX11_feltOn x0_ x1_ w1.2).bind fun w2 =>
  if w2.1 = (1 : Int32) then
  some (((2 : Int32) * w1.1), w2.2)
  else
  some (w1.1, w2.2)
theorem ct_X11_twiceMean {g : Gl} {x0_ : Int32} {x1_ : Int32} {s : Sg} {w : Int32 × Sg}  (h : fX11_twiceMean x0_ x1_ s = some w) : Ct SS g iX11_twiceMean 1 24 [.ref (gad g 49), .int x0_, .int x1_] s (Dt (some (.int w.1)) w.2) := by
  refine Ct.ofV (by decide +kernel) 2 (lv0 := [some (.ref (gad g 49)), some (.int x0_), some (.int x1_), none, none]) rfl rfl (fun M hC => ?_)
  have hP : (Dt (some (.int w.1)) w.2) (some (.int w.1)) w.2 := ⟨rfl, rfl⟩
  generalize Dt (some (.int w.1)) w.2 = P at hP ⊢
  unfold fX11_twiceMean at h
  refine v_iconst (pc := 0) (0 : Int32) rfl hC dX11_twiceMean_0 ?_
  refine v_istore_n (pc := 1) (lv' := [some (.ref (gad g 49)), some (.int x0_), some (.int x1_), some (.int (0 : Int32)), none]) hC dX11_twiceMean_1 rfl rfl rfl rfl ?_
  refine v_iload_n (pc := 2) hC dX11_twiceMean_2 rfl ?_
  refine v_istore (pc := 3) (lv' := [some (.ref (gad g 49)), some (.int x0_), some (.int x1_), some (.int (0 : Int32)), some (.int x1_)]) hC dX11_twiceMean_3 rfl rfl rfl rfl ?_
  obtain ⟨w1, hw1, h⟩ := obd_s h
  have kx18 : V SS g M iX11_twiceMean (PQ SS g M P) 50 [some (.ref (gad g 49)), some (.int x0_), some (.int x1_), some (.int w1.1), none] [] w1.2 := by
    refine v_aload_n (pc := 50) hC dX11_twiceMean_50 rfl ?_
    refine v_iload_n (pc := 51) hC dX11_twiceMean_51 rfl ?_
    refine v_iload_n (pc := 52) hC dX11_twiceMean_52 rfl ?_
    obtain ⟨w2, hw2, h⟩ := obd_s h
    refine v_cV (pc := 53) [] [.int w2.1] gm_X11_feltOn hC s_49 rfl rfl (ct_X11_feltOn  hw2) ml_X11_138 rfl rfl rfl rfl rfl rfl dX11_twiceMean_53 ?_
    refine v_iconst (pc := 56) (1 : Int32) rfl hC dX11_twiceMean_56 ?_
    refine v_ic_ne (pc := 57) (tgt := 66) hC dX11_twiceMean_57 rfl (fun c3 => ?_) (fun c3 => ?_)
    · replace h := (if_neg c3).symm.trans h
      refine v_iload_n (pc := 66) hC dX11_twiceMean_66 rfl ?_
      obtain rfl := Option.some.inj h
      exact v_iret (pc := 67) hC rfl dX11_twiceMean_67 hP
    · replace h := (if_pos c3).symm.trans h
      refine v_iconst (pc := 60) (2 : Int32) rfl hC dX11_twiceMean_60 ?_
      refine v_iload_n (pc := 61) hC dX11_twiceMean_61 rfl ?_
      refine v_imul (pc := 62) hC dX11_twiceMean_62 ?_
      refine v_goto (pc := 63) (tgt := 67) hC dX11_twiceMean_63 rfl ?_
      obtain rfl := Option.some.inj h
      exact v_iret (pc := 67) hC rfl dX11_twiceMean_67 hP
  refine V.ls (ls_some (ls_some (ls_some (ls_some (ls_some ls_nil))))) (v_loop (pc := 5) (fun a6 => [some (.ref (gad g 49)), some (.int x0_), some (.int x1_), some (.int a6.1), some (.int a6.2)]) (fun z t => V SS g M iX11_twiceMean (PQ SS g M P) 50 [some (.ref (gad g 49)), some (.int x0_), some (.int x1_), some (.int z), none] [] t) (fun a6 s4 u5 hu5 k7 k8 => ?_) _ _ _ _ hw1 kx18)
  unfold fX11_twiceMean_L5 at hu5
  refine v_iload (pc := 5) hC dX11_twiceMean_5 rfl ?_
  refine v_iconst (pc := 7) (4 : Int32) rfl hC dX11_twiceMean_7 ?_
  refine v_ic_ge (pc := 8) (tgt := 50) hC dX11_twiceMean_8 rfl (fun c10 => ?_) (fun c10 => ?_)
  · replace hu5 := (if_pos c10).symm.trans hu5
    obtain rfl := Option.some.inj hu5
    exact V.ls (ls_some (ls_some (ls_some (ls_some (ls_none ls_nil))))) (k8 _ rfl)
  · replace hu5 := (if_neg c10).symm.trans hu5
    refine v_iload_n (pc := 11) hC dX11_twiceMean_11 rfl ?_
    refine v_aload_n (pc := 12) hC dX11_twiceMean_12 rfl ?_
    refine v_gt (pc := 13) 7 (.ref (gad g 55)) hC s_49 rfl rfl rfl rfl fl_X11_25 dX11_twiceMean_13 ?_
    refine v_iconst (pc := 16) (4 : Int32) rfl hC dX11_twiceMean_16 ?_
    refine v_iload_n (pc := 17) hC dX11_twiceMean_17 rfl ?_
    refine v_imul (pc := 18) hC dX11_twiceMean_18 ?_
    refine v_iload (pc := 19) hC dX11_twiceMean_19 rfl ?_
    refine v_iadd (pc := 21) hC dX11_twiceMean_21 ?_
    obtain ⟨v11, hv11, hu5⟩ := obd_s hu5
    refine v_aI (pc := 22) hC s_55 hv11 dX11_twiceMean_22 ?_
    refine v_iconst (pc := 23) (-1 : Int32) rfl hC dX11_twiceMean_23 ?_
    obtain ⟨w12, hw12, hu5⟩ := obd_s hu5
    have kj13 : V SS g M iX11_twiceMean (PQ SS g M P) 42 [some (.ref (gad g 49)), some (.int x0_), some (.int x1_), none, some (.int a6.2)] [.int w12, .int a6.1] s4 := by
      refine v_iadd (pc := 42) hC dX11_twiceMean_42 ?_
      obtain ⟨x14, hx14, hu5⟩ := bnd_s hu5
      refine v_istore_n (pc := 43) (lv' := [some (.ref (gad g 49)), some (.int x0_), some (.int x1_), some (.int x14), some (.int a6.2)]) hC dX11_twiceMean_43 hx14 rfl rfl rfl ?_
      obtain ⟨x15, hx15, hu5⟩ := bnd_s hu5
      refine v_iinc (pc := 44) (lv' := [some (.ref (gad g 49)), some (.int x0_), some (.int x1_), some (.int x14), some (.int x15)]) (2 : Int32) rfl hx15 hC dX11_twiceMean_44 rfl rfl rfl rfl ?_
      refine v_goto (pc := 47) (tgt := 5) hC dX11_twiceMean_47 rfl ?_
      obtain rfl := Option.some.inj hu5
      exact V.ls (ls_some (ls_some (ls_some (ls_some (ls_some ls_nil))))) (k7 _ rfl)
    refine v_ic_ne (pc := 24) (tgt := 31) hC dX11_twiceMean_24 rfl (fun c17 => ?_) (fun c17 => ?_)
    · replace hw12 := (if_neg c17).symm.trans hw12
      refine v_aload_n (pc := 31) hC dX11_twiceMean_31 rfl ?_
      refine v_gt (pc := 32) 7 (.ref (gad g 55)) hC s_49 rfl rfl rfl rfl fl_X11_25 dX11_twiceMean_32 ?_
      refine v_iconst (pc := 35) (4 : Int32) rfl hC dX11_twiceMean_35 ?_
      refine v_iload_n (pc := 36) hC dX11_twiceMean_36 rfl ?_
      refine v_imul (pc := 37) hC dX11_twiceMean_37 ?_
      refine v_iload (pc := 38) hC dX11_twiceMean_38 rfl ?_
      refine v_iadd (pc := 40) hC dX11_twiceMean_40 ?_
      obtain ⟨v16, hv16, hw12⟩ := obd_s hw12
      refine v_aI (pc := 41) hC s_55 hv16 dX11_twiceMean_41 ?_
      obtain rfl := Option.some.inj hw12
      exact V.ls (ls_some (ls_some (ls_some (ls_none (ls_some ls_nil))))) kj13
    · replace hw12 := (if_pos c17).symm.trans hw12
      refine v_iconst (pc := 27) (0 : Int32) rfl hC dX11_twiceMean_27 ?_
      refine v_goto (pc := 28) (tgt := 42) hC dX11_twiceMean_28 rfl ?_
      obtain rfl := Option.some.inj hw12
      exact V.ls (ls_some (ls_some (ls_some (ls_none (ls_some ls_nil))))) kj13
theorem dX11_hasDiff_0 : decode cX11_hasDiff 0 = .ok (.aload_n 0, 1) := by decide +kernel
theorem dX11_hasDiff_1 : decode cX11_hasDiff 1 = .ok (.iload_n 1, 1) := by decide +kernel
theorem dX11_hasDiff_2 : decode cX11_hasDiff 2 = .ok (.iconst 0, 1) := by decide +kernel
theorem dX11_hasDiff_3 : decode cX11_hasDiff 3 = .ok (.invokevirtual 138, 3) := by decide +kernel
theorem dX11_hasDiff_6 : decode cX11_hasDiff 6 = .ok (.ifCond .le 16, 3) := by decide +kernel
theorem dX11_hasDiff_9 : decode cX11_hasDiff 9 = .ok (.aload_n 0, 1) := by decide +kernel
theorem dX11_hasDiff_10 : decode cX11_hasDiff 10 = .ok (.iload_n 1, 1) := by decide +kernel
theorem dX11_hasDiff_11 : decode cX11_hasDiff 11 = .ok (.iconst 1, 1) := by decide +kernel
theorem dX11_hasDiff_12 : decode cX11_hasDiff 12 = .ok (.invokevirtual 138, 3) := by decide +kernel
theorem dX11_hasDiff_15 : decode cX11_hasDiff 15 = .ok (.ifCond .le 7, 3) := by decide +kernel
theorem dX11_hasDiff_18 : decode cX11_hasDiff 18 = .ok (.iconst 1, 1) := by decide +kernel
theorem dX11_hasDiff_19 : decode cX11_hasDiff 19 = .ok (.goto 4, 3) := by decide +kernel
theorem dX11_hasDiff_22 : decode cX11_hasDiff 22 = .ok (.iconst 0, 1) := by decide +kernel
theorem dX11_hasDiff_23 : decode cX11_hasDiff 23 = .ok (.ireturn, 1) := by decide +kernel
def fX11_hasDiff (x0_ : Int32) (s : Sg) : Option (Int32 × Sg) :=
  (fX11_feltOn x0_ (0 : Int32) s).bind fun w1 =>
  if w1.1 ≤ 0 then
  some ((0 : Int32), w1.2)
  else
  (fX11_feltOn x0_ (1 : Int32) w1.2).bind fun w3 =>
  if w3.1 ≤ 0 then
  some ((0 : Int32), w3.2)
  else
  some ((1 : Int32), w3.2)
theorem ct_X11_hasDiff {g : Gl} {x0_ : Int32} {s : Sg} {w : Int32 × Sg}  (h : fX11_hasDiff x0_ s = some w) : Ct SS g iX11_hasDiff 1 24 [.ref (gad g 49), .int x0_] s (Dt (some (.int w.1)) w.2) := by
  refine Ct.ofV (by decide +kernel) 0 (lv0 := [some (.ref (gad g 49)), some (.int x0_)]) rfl rfl (fun M hC => ?_)
  have hP : (Dt (some (.int w.1)) w.2) (some (.int w.1)) w.2 := ⟨rfl, rfl⟩
  generalize Dt (some (.int w.1)) w.2 = P at hP ⊢
  unfold fX11_hasDiff at h
  refine v_aload_n (pc := 0) hC dX11_hasDiff_0 rfl ?_
  refine v_iload_n (pc := 1) hC dX11_hasDiff_1 rfl ?_
  refine v_iconst (pc := 2) (0 : Int32) rfl hC dX11_hasDiff_2 ?_
  obtain ⟨w1, hw1, h⟩ := obd_s h
  refine v_cV (pc := 3) [] [.int w1.1] gm_X11_feltOn hC s_49 rfl rfl (ct_X11_feltOn  hw1) ml_X11_138 rfl rfl rfl rfl rfl rfl dX11_hasDiff_3 ?_
  refine v_if_le (pc := 6) (tgt := 22) hC dX11_hasDiff_6 rfl (fun c2 => ?_) (fun c2 => ?_)
  · replace h := (if_pos c2).symm.trans h
    refine v_iconst (pc := 22) (0 : Int32) rfl hC dX11_hasDiff_22 ?_
    obtain rfl := Option.some.inj h
    exact v_zret (pc := 23) hC rfl rfl dX11_hasDiff_23 hP
  · replace h := (if_neg c2).symm.trans h
    refine v_aload_n (pc := 9) hC dX11_hasDiff_9 rfl ?_
    refine v_iload_n (pc := 10) hC dX11_hasDiff_10 rfl ?_
    refine v_iconst (pc := 11) (1 : Int32) rfl hC dX11_hasDiff_11 ?_
    obtain ⟨w3, hw3, h⟩ := obd_s h
    refine v_cV (pc := 12) [] [.int w3.1] gm_X11_feltOn hC s_49 rfl rfl (ct_X11_feltOn  hw3) ml_X11_138 rfl rfl rfl rfl rfl rfl dX11_hasDiff_12 ?_
    refine v_if_le (pc := 15) (tgt := 22) hC dX11_hasDiff_15 rfl (fun c4 => ?_) (fun c4 => ?_)
    · replace h := (if_pos c4).symm.trans h
      refine v_iconst (pc := 22) (0 : Int32) rfl hC dX11_hasDiff_22 ?_
      obtain rfl := Option.some.inj h
      exact v_zret (pc := 23) hC rfl rfl dX11_hasDiff_23 hP
    · replace h := (if_neg c4).symm.trans h
      refine v_iconst (pc := 18) (1 : Int32) rfl hC dX11_hasDiff_18 ?_
      refine v_goto (pc := 19) (tgt := 23) hC dX11_hasDiff_19 rfl ?_
      obtain rfl := Option.some.inj h
      exact v_zret (pc := 23) hC rfl rfl dX11_hasDiff_23 hP
theorem dX11_twiceDiff_0 : decode cX11_twiceDiff 0 = .ok (.aload_n 0, 1) := by decide +kernel
theorem dX11_twiceDiff_1 : decode cX11_twiceDiff 1 = .ok (.iload_n 1, 1) := by decide +kernel
theorem dX11_twiceDiff_2 : decode cX11_twiceDiff 2 = .ok (.iconst 0, 1) := by decide +kernel
theorem dX11_twiceDiff_3 : decode cX11_twiceDiff 3 = .ok (.invokevirtual 141, 3) := by decide +kernel
theorem dX11_twiceDiff_6 : decode cX11_twiceDiff 6 = .ok (.aload_n 0, 1) := by decide +kernel
theorem dX11_twiceDiff_7 : decode cX11_twiceDiff 7 = .ok (.iload_n 1, 1) := by decide +kernel
theorem dX11_twiceDiff_8 : decode cX11_twiceDiff 8 = .ok (.iconst 1, 1) := by decide +kernel
theorem dX11_twiceDiff_9 : decode cX11_twiceDiff 9 = .ok (.invokevirtual 141, 3) := by decide +kernel
theorem dX11_twiceDiff_12 : decode cX11_twiceDiff 12 = .ok (.isub, 1) := by decide +kernel
theorem dX11_twiceDiff_13 : decode cX11_twiceDiff 13 = .ok (.ireturn, 1) := by decide +kernel
def fX11_twiceDiff (x0_ : Int32) (s : Sg) : Option (Int32 × Sg) :=
  (fX11_twiceMean x0_ (0 : Int32) s).bind fun w1 =>
  (fX11_twiceMean x0_ (1 : Int32) w1.2).bind fun w2 =>
  some ((w1.1 - w2.1), w2.2)
theorem ct_X11_twiceDiff {g : Gl} {x0_ : Int32} {s : Sg} {w : Int32 × Sg}  (h : fX11_twiceDiff x0_ s = some w) : Ct SS g iX11_twiceDiff 2 48 [.ref (gad g 49), .int x0_] s (Dt (some (.int w.1)) w.2) := by
  refine Ct.ofV (by decide +kernel) 0 (lv0 := [some (.ref (gad g 49)), some (.int x0_)]) rfl rfl (fun M hC => ?_)
  have hP : (Dt (some (.int w.1)) w.2) (some (.int w.1)) w.2 := ⟨rfl, rfl⟩
  generalize Dt (some (.int w.1)) w.2 = P at hP ⊢
  unfold fX11_twiceDiff at h
  refine v_aload_n (pc := 0) hC dX11_twiceDiff_0 rfl ?_
  refine v_iload_n (pc := 1) hC dX11_twiceDiff_1 rfl ?_
  refine v_iconst (pc := 2) (0 : Int32) rfl hC dX11_twiceDiff_2 ?_
  obtain ⟨w1, hw1, h⟩ := obd_s h
  refine v_cV (pc := 3) [] [.int w1.1] gm_X11_twiceMean hC s_49 rfl rfl (ct_X11_twiceMean  hw1) ml_X11_141 rfl rfl rfl rfl rfl rfl dX11_twiceDiff_3 ?_
  refine v_aload_n (pc := 6) hC dX11_twiceDiff_6 rfl ?_
  refine v_iload_n (pc := 7) hC dX11_twiceDiff_7 rfl ?_
  refine v_iconst (pc := 8) (1 : Int32) rfl hC dX11_twiceDiff_8 ?_
  obtain ⟨w2, hw2, h⟩ := obd_s h
  refine v_cV (pc := 9) [.int w1.1] [.int w2.1, .int w1.1] gm_X11_twiceMean hC s_49 rfl rfl (ct_X11_twiceMean  hw2) ml_X11_141 rfl rfl rfl rfl rfl rfl dX11_twiceDiff_9 ?_
  refine v_isub (pc := 12) hC dX11_twiceDiff_12 ?_
  obtain rfl := Option.some.inj h
  exact v_iret (pc := 13) hC rfl dX11_twiceDiff_13 hP
theorem dX11_diff_0 : decode cX11_diff 0 = .ok (.aload_n 0, 1) := by decide +kernel
theorem dX11_diff_1 : decode cX11_diff 1 = .ok (.iload_n 1, 1) := by decide +kernel
theorem dX11_diff_2 : decode cX11_diff 2 = .ok (.invokevirtual 119, 3) := by decide +kernel
theorem dX11_diff_5 : decode cX11_diff 5 = .ok (.ifCond .eq 12, 3) := by decide +kernel
theorem dX11_diff_8 : decode cX11_diff 8 = .ok (.iload_n 2, 1) := by decide +kernel
theorem dX11_diff_9 : decode cX11_diff 9 = .ok (.iconst 0, 1) := by decide +kernel
theorem dX11_diff_10 : decode cX11_diff 10 = .ok (.iconst 1, 1) := by decide +kernel
theorem dX11_diff_11 : decode cX11_diff 11 = .ok (.invokestatic 94, 3) := by decide +kernel
theorem dX11_diff_14 : decode cX11_diff 14 = .ok (.ifCond .ne 9, 3) := by decide +kernel
theorem dX11_diff_17 : decode cX11_diff 17 = .ok (.bipush (-2), 2) := by decide +kernel
theorem dX11_diff_19 : decode cX11_diff 19 = .ok (.invokestatic 144, 3) := by decide +kernel
theorem dX11_diff_22 : decode cX11_diff 22 = .ok (.lreturn, 1) := by decide +kernel
theorem dX11_diff_23 : decode cX11_diff 23 = .ok (.aload_n 0, 1) := by decide +kernel
theorem dX11_diff_24 : decode cX11_diff 24 = .ok (.iload_n 1, 1) := by decide +kernel
theorem dX11_diff_25 : decode cX11_diff 25 = .ok (.invokevirtual 148, 3) := by decide +kernel
theorem dX11_diff_28 : decode cX11_diff 28 = .ok (.ifCond .eq 19, 3) := by decide +kernel
theorem dX11_diff_31 : decode cX11_diff 31 = .ok (.aload_n 0, 1) := by decide +kernel
theorem dX11_diff_32 : decode cX11_diff 32 = .ok (.iload_n 1, 1) := by decide +kernel
theorem dX11_diff_33 : decode cX11_diff 33 = .ok (.invokevirtual 151, 3) := by decide +kernel
theorem dX11_diff_36 : decode cX11_diff 36 = .ok (.i2l, 1) := by decide +kernel
theorem dX11_diff_37 : decode cX11_diff 37 = .ok (.ldc2_w 154, 3) := by decide +kernel
theorem dX11_diff_40 : decode cX11_diff 40 = .ok (.iload_n 2, 1) := by decide +kernel
theorem dX11_diff_41 : decode cX11_diff 41 = .ok (.invokestatic 156, 3) := by decide +kernel
theorem dX11_diff_44 : decode cX11_diff 44 = .ok (.goto 8, 3) := by decide +kernel
theorem dX11_diff_47 : decode cX11_diff 47 = .ok (.bipush (-3), 2) := by decide +kernel
theorem dX11_diff_49 : decode cX11_diff 49 = .ok (.invokestatic 144, 3) := by decide +kernel
theorem dX11_diff_52 : decode cX11_diff 52 = .ok (.lreturn, 1) := by decide +kernel
def fX11_diff (x0_ : Int32) (x1_ : Int32) (s : Sg) : Option (Int64 × Sg) :=
  (fX11_isSwim x0_ s).bind fun w1 =>
  if w1.1 = 0 then
  (fX11_no (-2 : Int32) w1.2).bind fun w2 =>
  some (w2.1, w2.2)
  else
  (fX11_in x1_ (0 : Int32) (1 : Int32) w1.2).bind fun w4 =>
  if w4.1 = 0 then
  (fX11_no (-2 : Int32) w4.2).bind fun w11 =>
  some (w11.1, w11.2)
  else
  (fX11_hasDiff x0_ w4.2).bind fun w5 =>
  if w5.1 = 0 then
  (fX11_no (-3 : Int32) w5.2).bind fun w6 =>
  some (w6.1, w6.2)
  else
  (fX11_twiceDiff x0_ w5.2).bind fun w8 =>
  (fX11_lowest ((w8.1).toInt64) (2 : Int64) x1_ w8.2).bind fun w9 =>
  some (w9.1, w9.2)
theorem ct_X11_diff {g : Gl} {x0_ : Int32} {x1_ : Int32} {s : Sg} {w : Int64 × Sg}  (h : fX11_diff x0_ x1_ s = some w) : Ct SS g iX11_diff 3 69 [.ref (gad g 49), .int x0_, .int x1_] s (Dt (some (.long w.1)) w.2) := by
  refine Ct.ofV (by decide +kernel) 0 (lv0 := [some (.ref (gad g 49)), some (.int x0_), some (.int x1_)]) rfl rfl (fun M hC => ?_)
  have hP : (Dt (some (.long w.1)) w.2) (some (.long w.1)) w.2 := ⟨rfl, rfl⟩
  generalize Dt (some (.long w.1)) w.2 = P at hP ⊢
  unfold fX11_diff at h
  refine v_aload_n (pc := 0) hC dX11_diff_0 rfl ?_
  refine v_iload_n (pc := 1) hC dX11_diff_1 rfl ?_
  obtain ⟨w1, hw1, h⟩ := obd_s h
  refine v_cV (pc := 2) [] [.int w1.1] gm_X11_isSwim hC s_49 rfl rfl (ct_X11_isSwim  hw1) ml_X11_119 rfl rfl rfl rfl rfl rfl dX11_diff_2 ?_
  refine v_if_eq (pc := 5) (tgt := 17) hC dX11_diff_5 rfl (fun c3 => ?_) (fun c3 => ?_)
  · replace h := (if_pos c3).symm.trans h
    refine v_bipush (pc := 17) (-2 : Int32) rfl hC dX11_diff_17 ?_
    obtain ⟨w2, hw2, h⟩ := obd_s h
    refine v_cS (pc := 19) [] [.long w2.1] gm_X11_no hC (ct_X11_no  hw2) ml_X11_144 rfl rfl rfl rfl rfl rfl dX11_diff_19 ?_
    obtain rfl := Option.some.inj h
    exact v_lret (pc := 22) hC rfl dX11_diff_22 hP
  · replace h := (if_neg c3).symm.trans h
    refine v_iload_n (pc := 8) hC dX11_diff_8 rfl ?_
    refine v_iconst (pc := 9) (0 : Int32) rfl hC dX11_diff_9 ?_
    refine v_iconst (pc := 10) (1 : Int32) rfl hC dX11_diff_10 ?_
    obtain ⟨w4, hw4, h⟩ := obd_s h
    refine v_cS (pc := 11) [] [.int w4.1] gm_X11_in hC (ct_X11_in  hw4) ml_X11_94 rfl rfl rfl rfl rfl rfl dX11_diff_11 ?_
    refine v_if_ne (pc := 14) (tgt := 23) hC dX11_diff_14 rfl (fun c10 => ?_) (fun c10 => ?_)
    · replace h := (if_neg c10).symm.trans h
      refine v_aload_n (pc := 23) hC dX11_diff_23 rfl ?_
      refine v_iload_n (pc := 24) hC dX11_diff_24 rfl ?_
      obtain ⟨w5, hw5, h⟩ := obd_s h
      refine v_cV (pc := 25) [] [.int w5.1] gm_X11_hasDiff hC s_49 rfl rfl (ct_X11_hasDiff  hw5) ml_X11_148 rfl rfl rfl rfl rfl rfl dX11_diff_25 ?_
      refine v_if_eq (pc := 28) (tgt := 47) hC dX11_diff_28 rfl (fun c7 => ?_) (fun c7 => ?_)
      · replace h := (if_pos c7).symm.trans h
        refine v_bipush (pc := 47) (-3 : Int32) rfl hC dX11_diff_47 ?_
        obtain ⟨w6, hw6, h⟩ := obd_s h
        refine v_cS (pc := 49) [] [.long w6.1] gm_X11_no hC (ct_X11_no  hw6) ml_X11_144 rfl rfl rfl rfl rfl rfl dX11_diff_49 ?_
        obtain rfl := Option.some.inj h
        exact v_lret (pc := 52) hC rfl dX11_diff_52 hP
      · replace h := (if_neg c7).symm.trans h
        refine v_aload_n (pc := 31) hC dX11_diff_31 rfl ?_
        refine v_iload_n (pc := 32) hC dX11_diff_32 rfl ?_
        obtain ⟨w8, hw8, h⟩ := obd_s h
        refine v_cV (pc := 33) [] [.int w8.1] gm_X11_twiceDiff hC s_49 rfl rfl (ct_X11_twiceDiff  hw8) ml_X11_151 rfl rfl rfl rfl rfl rfl dX11_diff_33 ?_
        refine v_i2l (pc := 36) hC dX11_diff_36 ?_
        refine v_ldc2 (pc := 37) (2 : Int64) kc_X11_154 hC dX11_diff_37 ?_
        refine v_iload_n (pc := 40) hC dX11_diff_40 rfl ?_
        obtain ⟨w9, hw9, h⟩ := obd_s h
        refine v_cS (pc := 41) [] [.long w9.1] gm_X11_lowest hC (ct_X11_lowest  hw9) ml_X11_156 rfl rfl rfl rfl rfl rfl dX11_diff_41 ?_
        refine v_goto (pc := 44) (tgt := 52) hC dX11_diff_44 rfl ?_
        obtain rfl := Option.some.inj h
        exact v_lret (pc := 52) hC rfl dX11_diff_52 hP
    · replace h := (if_pos c10).symm.trans h
      refine v_bipush (pc := 17) (-2 : Int32) rfl hC dX11_diff_17 ?_
      obtain ⟨w11, hw11, h⟩ := obd_s h
      refine v_cS (pc := 19) [] [.long w11.1] gm_X11_no hC (ct_X11_no  hw11) ml_X11_144 rfl rfl rfl rfl rfl rfl dX11_diff_19 ?_
      obtain rfl := Option.some.inj h
      exact v_lret (pc := 22) hC rfl dX11_diff_22 hP
theorem dX11_laysLanes_0 : decode cX11_laysLanes 0 = .ok (.iconst 0, 1) := by decide +kernel
theorem dX11_laysLanes_1 : decode cX11_laysLanes 1 = .ok (.istore_n 1, 1) := by decide +kernel
theorem dX11_laysLanes_2 : decode cX11_laysLanes 2 = .ok (.iload_n 1, 1) := by decide +kernel
theorem dX11_laysLanes_3 : decode cX11_laysLanes 3 = .ok (.bipush 8, 2) := by decide +kernel
theorem dX11_laysLanes_5 : decode cX11_laysLanes 5 = .ok (.if_icmp .ge 23, 3) := by decide +kernel
theorem dX11_laysLanes_8 : decode cX11_laysLanes 8 = .ok (.aload_n 0, 1) := by decide +kernel
theorem dX11_laysLanes_9 : decode cX11_laysLanes 9 = .ok (.getfield 31, 3) := by decide +kernel
theorem dX11_laysLanes_12 : decode cX11_laysLanes 12 = .ok (.iload_n 1, 1) := by decide +kernel
theorem dX11_laysLanes_13 : decode cX11_laysLanes 13 = .ok (.lconst 0, 1) := by decide +kernel
theorem dX11_laysLanes_14 : decode cX11_laysLanes 14 = .ok (.lastore, 1) := by decide +kernel
theorem dX11_laysLanes_15 : decode cX11_laysLanes 15 = .ok (.aload_n 0, 1) := by decide +kernel
theorem dX11_laysLanes_16 : decode cX11_laysLanes 16 = .ok (.getfield 35, 3) := by decide +kernel
theorem dX11_laysLanes_19 : decode cX11_laysLanes 19 = .ok (.iload_n 1, 1) := by decide +kernel
theorem dX11_laysLanes_20 : decode cX11_laysLanes 20 = .ok (.lconst 0, 1) := by decide +kernel
theorem dX11_laysLanes_21 : decode cX11_laysLanes 21 = .ok (.lastore, 1) := by decide +kernel
theorem dX11_laysLanes_22 : decode cX11_laysLanes 22 = .ok (.iinc 1 1, 3) := by decide +kernel
theorem dX11_laysLanes_25 : decode cX11_laysLanes 25 = .ok (.goto (-23), 3) := by decide +kernel
theorem dX11_laysLanes_28 : decode cX11_laysLanes 28 = .ok (.iconst 0, 1) := by decide +kernel
theorem dX11_laysLanes_29 : decode cX11_laysLanes 29 = .ok (.istore_n 1, 1) := by decide +kernel
theorem dX11_laysLanes_30 : decode cX11_laysLanes 30 = .ok (.iload_n 1, 1) := by decide +kernel
theorem dX11_laysLanes_31 : decode cX11_laysLanes 31 = .ok (.aload_n 0, 1) := by decide +kernel
theorem dX11_laysLanes_32 : decode cX11_laysLanes 32 = .ok (.getfield 98, 3) := by decide +kernel
theorem dX11_laysLanes_35 : decode cX11_laysLanes 35 = .ok (.if_icmp .ge 52, 3) := by decide +kernel
theorem dX11_laysLanes_38 : decode cX11_laysLanes 38 = .ok (.aload_n 0, 1) := by decide +kernel
theorem dX11_laysLanes_39 : decode cX11_laysLanes 39 = .ok (.iload_n 1, 1) := by decide +kernel
theorem dX11_laysLanes_40 : decode cX11_laysLanes 40 = .ok (.invokevirtual 148, 3) := by decide +kernel
theorem dX11_laysLanes_43 : decode cX11_laysLanes 43 = .ok (.ifCond .eq 38, 3) := by decide +kernel
theorem dX11_laysLanes_46 : decode cX11_laysLanes 46 = .ok (.aload_n 0, 1) := by decide +kernel
theorem dX11_laysLanes_47 : decode cX11_laysLanes 47 = .ok (.getfield 31, 3) := by decide +kernel
theorem dX11_laysLanes_50 : decode cX11_laysLanes 50 = .ok (.aload_n 0, 1) := by decide +kernel
theorem dX11_laysLanes_51 : decode cX11_laysLanes 51 = .ok (.getfield 22, 3) := by decide +kernel
theorem dX11_laysLanes_54 : decode cX11_laysLanes 54 = .ok (.iload_n 1, 1) := by decide +kernel
theorem dX11_laysLanes_55 : decode cX11_laysLanes 55 = .ok (.iaload, 1) := by decide +kernel
theorem dX11_laysLanes_56 : decode cX11_laysLanes 56 = .ok (.dup2, 1) := by decide +kernel
theorem dX11_laysLanes_57 : decode cX11_laysLanes 57 = .ok (.laload, 1) := by decide +kernel
theorem dX11_laysLanes_58 : decode cX11_laysLanes 58 = .ok (.aload_n 0, 1) := by decide +kernel
theorem dX11_laysLanes_59 : decode cX11_laysLanes 59 = .ok (.iload_n 1, 1) := by decide +kernel
theorem dX11_laysLanes_60 : decode cX11_laysLanes 60 = .ok (.invokevirtual 151, 3) := by decide +kernel
theorem dX11_laysLanes_63 : decode cX11_laysLanes 63 = .ok (.i2l, 1) := by decide +kernel
theorem dX11_laysLanes_64 : decode cX11_laysLanes 64 = .ok (.ladd, 1) := by decide +kernel
theorem dX11_laysLanes_65 : decode cX11_laysLanes 65 = .ok (.lastore, 1) := by decide +kernel
theorem dX11_laysLanes_66 : decode cX11_laysLanes 66 = .ok (.aload_n 0, 1) := by decide +kernel
theorem dX11_laysLanes_67 : decode cX11_laysLanes 67 = .ok (.getfield 35, 3) := by decide +kernel
theorem dX11_laysLanes_70 : decode cX11_laysLanes 70 = .ok (.aload_n 0, 1) := by decide +kernel
theorem dX11_laysLanes_71 : decode cX11_laysLanes 71 = .ok (.getfield 22, 3) := by decide +kernel
theorem dX11_laysLanes_74 : decode cX11_laysLanes 74 = .ok (.iload_n 1, 1) := by decide +kernel
theorem dX11_laysLanes_75 : decode cX11_laysLanes 75 = .ok (.iaload, 1) := by decide +kernel
theorem dX11_laysLanes_76 : decode cX11_laysLanes 76 = .ok (.dup2, 1) := by decide +kernel
theorem dX11_laysLanes_77 : decode cX11_laysLanes 77 = .ok (.laload, 1) := by decide +kernel
theorem dX11_laysLanes_78 : decode cX11_laysLanes 78 = .ok (.lconst 1, 1) := by decide +kernel
theorem dX11_laysLanes_79 : decode cX11_laysLanes 79 = .ok (.ladd, 1) := by decide +kernel
theorem dX11_laysLanes_80 : decode cX11_laysLanes 80 = .ok (.lastore, 1) := by decide +kernel
theorem dX11_laysLanes_81 : decode cX11_laysLanes 81 = .ok (.iinc 1 1, 3) := by decide +kernel
theorem dX11_laysLanes_84 : decode cX11_laysLanes 84 = .ok (.goto (-54), 3) := by decide +kernel
theorem dX11_laysLanes_87 : decode cX11_laysLanes 87 = .ok (.return_, 1) := by decide +kernel
def fX11_laysLanes_L2  (a : Int32) (s : Sg) : Option (((Int32) ⊕ (Unit)) × Sg) :=
  if (8 : Int32) ≤ a then
  some (.inr (), s)
  else
  (wL s 57 8 a (0 : Int64)).bind fun s2 =>
  (wL s2 58 8 a (0 : Int64)).bind fun s3 =>
  bnd (a + (1 : Int32)) fun x4 =>
  some (.inl x4, s3)
def fX11_laysLanes_L30  (a : Int32) (s : Sg) : Option (((Int32) ⊕ (Unit)) × Sg) :=
  if (gI s 49 3) ≤ a then
  some (.inr (), s)
  else
  (fX11_hasDiff a s).bind fun w2 =>
  ((if w2.1 = 0 then
  some w2.2
  else
  (aI w2.2 54 64 a).bind fun v7 =>
  (aL w2.2 57 8 v7).bind fun v8 =>
  (fX11_twiceDiff a w2.2).bind fun w9 =>
  (wL w9.2 57 8 v7 (v8 + ((w9.1).toInt64))).bind fun s10 =>
  (aI s10 54 64 a).bind fun v11 =>
  (aL s10 58 8 v11).bind fun v12 =>
  (wL s10 58 8 v11 (v12 + (1 : Int64))).bind fun s13 =>
  some s13) : Option (Sg)).bind fun w3 =>
  bnd (a + (1 : Int32)) fun x5 =>
  some (.inl x5, w3)
def fX11_laysLanes  (s : Sg) : Option (Sg) :=
  (lpG (fX11_laysLanes_L2) FU (0 : Int32) s).bind fun w1 =>
  (lpG (fX11_laysLanes_L30) FU (0 : Int32) w1.2).bind fun w2 =>
  some w2.2
theorem ct_X11_laysLanes {g : Gl}  {s : Sg} {w : Sg}  (h : fX11_laysLanes s = some w) : Ct SS g iX11_laysLanes 3 69 [.ref (gad g 49)] s (Dt none w) := by
  refine Ct.ofV (by decide +kernel) 1 (lv0 := [some (.ref (gad g 49)), none]) rfl rfl (fun M hC => ?_)
  have hP : (Dt none w) none w := ⟨rfl, rfl⟩
  generalize Dt none w = P at hP ⊢
  unfold fX11_laysLanes at h
  refine v_iconst (pc := 0) (0 : Int32) rfl hC dX11_laysLanes_0 ?_
  refine v_istore_n (pc := 1) (lv' := [some (.ref (gad g 49)), some (.int (0 : Int32))]) hC dX11_laysLanes_1 rfl rfl rfl rfl ?_
  obtain ⟨w1, hw1, h⟩ := obd_s h
  have kx33 : V SS g M iX11_laysLanes (PQ SS g M P) 28 [some (.ref (gad g 49)), none] [] w1.2 := by
    refine v_iconst (pc := 28) (0 : Int32) rfl hC dX11_laysLanes_28 ?_
    refine v_istore_n (pc := 29) (lv' := [some (.ref (gad g 49)), some (.int (0 : Int32))]) hC dX11_laysLanes_29 rfl rfl rfl rfl ?_
    obtain ⟨w2, hw2, h⟩ := obd_s h
    have kx22 : V SS g M iX11_laysLanes (PQ SS g M P) 87 [none, none] [] w2.2 := by
      obtain rfl := Option.some.inj h
      exact v_vret (pc := 87) hC rfl dX11_laysLanes_87 hP
    refine V.ls (ls_some (ls_some ls_nil)) (v_loop (pc := 30) (fun a5 => [some (.ref (gad g 49)), some (.int a5)]) (fun z t => V SS g M iX11_laysLanes (PQ SS g M P) 87 [none, none] [] t) (fun a5 s3 u4 hu4 k6 k7 => ?_) _ _ _ _ hw2 kx22)
    unfold fX11_laysLanes_L30 at hu4
    refine v_iload_n (pc := 30) hC dX11_laysLanes_30 rfl ?_
    refine v_aload_n (pc := 31) hC dX11_laysLanes_31 rfl ?_
    refine v_gt (pc := 32) 3 (.int (gI s3 49 3)) hC s_49 rfl rfl rfl rfl fl_X11_98 dX11_laysLanes_32 ?_
    refine v_ic_ge (pc := 35) (tgt := 87) hC dX11_laysLanes_35 rfl (fun c9 => ?_) (fun c9 => ?_)
    · replace hu4 := (if_pos c9).symm.trans hu4
      obtain rfl := Option.some.inj hu4
      exact V.ls (ls_none (ls_none ls_nil)) (k7 _ rfl)
    · replace hu4 := (if_neg c9).symm.trans hu4
      refine v_aload_n (pc := 38) hC dX11_laysLanes_38 rfl ?_
      refine v_iload_n (pc := 39) hC dX11_laysLanes_39 rfl ?_
      obtain ⟨w10, hw10, hu4⟩ := obd_s hu4
      refine v_cV (pc := 40) [] [.int w10.1] gm_X11_hasDiff hC s_49 rfl rfl (ct_X11_hasDiff  hw10) ml_X11_148 rfl rfl rfl rfl rfl rfl dX11_laysLanes_40 ?_
      obtain ⟨w11, hw11, hu4⟩ := obd_s hu4
      have kj12 : V SS g M iX11_laysLanes (PQ SS g M P) 81 [some (.ref (gad g 49)), some (.int a5)] [] w11 := by
        obtain ⟨x13, hx13, hu4⟩ := bnd_s hu4
        refine v_iinc (pc := 81) (lv' := [some (.ref (gad g 49)), some (.int x13)]) (1 : Int32) rfl hx13 hC dX11_laysLanes_81 rfl rfl rfl rfl ?_
        refine v_goto (pc := 84) (tgt := 30) hC dX11_laysLanes_84 rfl ?_
        obtain rfl := Option.some.inj hu4
        exact V.ls (ls_some (ls_some ls_nil)) (k6 _ rfl)
      refine v_if_eq (pc := 43) (tgt := 81) hC dX11_laysLanes_43 rfl (fun c14 => ?_) (fun c14 => ?_)
      · replace hw11 := (if_pos c14).symm.trans hw11
        obtain rfl := Option.some.inj hw11
        exact V.ls (ls_some (ls_some ls_nil)) kj12
      · replace hw11 := (if_neg c14).symm.trans hw11
        refine v_aload_n (pc := 46) hC dX11_laysLanes_46 rfl ?_
        refine v_gt (pc := 47) 9 (.ref (gad g 57)) hC s_49 rfl rfl rfl rfl fl_X11_31 dX11_laysLanes_47 ?_
        refine v_aload_n (pc := 50) hC dX11_laysLanes_50 rfl ?_
        refine v_gt (pc := 51) 6 (.ref (gad g 54)) hC s_49 rfl rfl rfl rfl fl_X11_22 dX11_laysLanes_51 ?_
        refine v_iload_n (pc := 54) hC dX11_laysLanes_54 rfl ?_
        obtain ⟨v15, hv15, hw11⟩ := obd_s hw11
        refine v_aI (pc := 55) hC s_54 hv15 dX11_laysLanes_55 ?_
        refine v_dup2 (pc := 56) hC rfl rfl dX11_laysLanes_56 ?_
        obtain ⟨v16, hv16, hw11⟩ := obd_s hw11
        refine v_aL (pc := 57) hC s_57 hv16 dX11_laysLanes_57 ?_
        refine v_aload_n (pc := 58) hC dX11_laysLanes_58 rfl ?_
        refine v_iload_n (pc := 59) hC dX11_laysLanes_59 rfl ?_
        obtain ⟨w17, hw17, hw11⟩ := obd_s hw11
        refine v_cV (pc := 60) [.long v16, .int v15, .ref (gad g 57)] [.int w17.1, .long v16, .int v15, .ref (gad g 57)] gm_X11_twiceDiff hC s_49 rfl rfl (ct_X11_twiceDiff  hw17) ml_X11_151 rfl rfl rfl rfl rfl rfl dX11_laysLanes_60 ?_
        refine v_i2l (pc := 63) hC dX11_laysLanes_63 ?_
        refine v_ladd (pc := 64) hC dX11_laysLanes_64 ?_
        obtain ⟨s18, hs18, hw11⟩ := obd_s hw11
        refine v_wL (pc := 65) hC s_57 hs18 dX11_laysLanes_65 ?_
        refine v_aload_n (pc := 66) hC dX11_laysLanes_66 rfl ?_
        refine v_gt (pc := 67) 10 (.ref (gad g 58)) hC s_49 rfl rfl rfl rfl fl_X11_35 dX11_laysLanes_67 ?_
        refine v_aload_n (pc := 70) hC dX11_laysLanes_70 rfl ?_
        refine v_gt (pc := 71) 6 (.ref (gad g 54)) hC s_49 rfl rfl rfl rfl fl_X11_22 dX11_laysLanes_71 ?_
        refine v_iload_n (pc := 74) hC dX11_laysLanes_74 rfl ?_
        obtain ⟨v19, hv19, hw11⟩ := obd_s hw11
        refine v_aI (pc := 75) hC s_54 hv19 dX11_laysLanes_75 ?_
        refine v_dup2 (pc := 76) hC rfl rfl dX11_laysLanes_76 ?_
        obtain ⟨v20, hv20, hw11⟩ := obd_s hw11
        refine v_aL (pc := 77) hC s_58 hv20 dX11_laysLanes_77 ?_
        refine v_lconst (pc := 78) (1 : Int64) rfl hC dX11_laysLanes_78 ?_
        refine v_ladd (pc := 79) hC dX11_laysLanes_79 ?_
        obtain ⟨s21, hs21, hw11⟩ := obd_s hw11
        refine v_wL (pc := 80) hC s_58 hs21 dX11_laysLanes_80 ?_
        obtain rfl := Option.some.inj hw11
        exact V.ls (ls_some (ls_some ls_nil)) kj12
  refine V.ls (ls_some (ls_some ls_nil)) (v_loop (pc := 2) (fun a25 => [some (.ref (gad g 49)), some (.int a25)]) (fun z t => V SS g M iX11_laysLanes (PQ SS g M P) 28 [some (.ref (gad g 49)), none] [] t) (fun a25 s23 u24 hu24 k26 k27 => ?_) _ _ _ _ hw1 kx33)
  unfold fX11_laysLanes_L2 at hu24
  refine v_iload_n (pc := 2) hC dX11_laysLanes_2 rfl ?_
  refine v_bipush (pc := 3) (8 : Int32) rfl hC dX11_laysLanes_3 ?_
  refine v_ic_ge (pc := 5) (tgt := 28) hC dX11_laysLanes_5 rfl (fun c29 => ?_) (fun c29 => ?_)
  · replace hu24 := (if_pos c29).symm.trans hu24
    obtain rfl := Option.some.inj hu24
    exact V.ls (ls_some (ls_none ls_nil)) (k27 _ rfl)
  · replace hu24 := (if_neg c29).symm.trans hu24
    refine v_aload_n (pc := 8) hC dX11_laysLanes_8 rfl ?_
    refine v_gt (pc := 9) 9 (.ref (gad g 57)) hC s_49 rfl rfl rfl rfl fl_X11_31 dX11_laysLanes_9 ?_
    refine v_iload_n (pc := 12) hC dX11_laysLanes_12 rfl ?_
    refine v_lconst (pc := 13) (0 : Int64) rfl hC dX11_laysLanes_13 ?_
    obtain ⟨s30, hs30, hu24⟩ := obd_s hu24
    refine v_wL (pc := 14) hC s_57 hs30 dX11_laysLanes_14 ?_
    refine v_aload_n (pc := 15) hC dX11_laysLanes_15 rfl ?_
    refine v_gt (pc := 16) 10 (.ref (gad g 58)) hC s_49 rfl rfl rfl rfl fl_X11_35 dX11_laysLanes_16 ?_
    refine v_iload_n (pc := 19) hC dX11_laysLanes_19 rfl ?_
    refine v_lconst (pc := 20) (0 : Int64) rfl hC dX11_laysLanes_20 ?_
    obtain ⟨s31, hs31, hu24⟩ := obd_s hu24
    refine v_wL (pc := 21) hC s_58 hs31 dX11_laysLanes_21 ?_
    obtain ⟨x32, hx32, hu24⟩ := bnd_s hu24
    refine v_iinc (pc := 22) (lv' := [some (.ref (gad g 49)), some (.int x32)]) (1 : Int32) rfl hx32 hC dX11_laysLanes_22 rfl rfl rfl rfl ?_
    refine v_goto (pc := 25) (tgt := 2) hC dX11_laysLanes_25 rfl ?_
    obtain rfl := Option.some.inj hu24
    exact V.ls (ls_some (ls_some ls_nil)) (k26 _ rfl)
theorem dX11_joins_0 : decode cX11_joins 0 = .ok (.iload_n 1, 1) := by decide +kernel
theorem dX11_joins_1 : decode cX11_joins 1 = .ok (.istore_n 3, 1) := by decide +kernel
theorem dX11_joins_2 : decode cX11_joins 2 = .ok (.iload_n 2, 1) := by decide +kernel
theorem dX11_joins_3 : decode cX11_joins 3 = .ok (.istore 4, 2) := by decide +kernel
theorem dX11_joins_5 : decode cX11_joins 5 = .ok (.aload_n 0, 1) := by decide +kernel
theorem dX11_joins_6 : decode cX11_joins 6 = .ok (.getfield 38, 3) := by decide +kernel
theorem dX11_joins_9 : decode cX11_joins 9 = .ok (.iload_n 1, 1) := by decide +kernel
theorem dX11_joins_10 : decode cX11_joins 10 = .ok (.laload, 1) := by decide +kernel
theorem dX11_joins_11 : decode cX11_joins 11 = .ok (.lstore 5, 2) := by decide +kernel
theorem dX11_joins_13 : decode cX11_joins 13 = .ok (.aload_n 0, 1) := by decide +kernel
theorem dX11_joins_14 : decode cX11_joins 14 = .ok (.getfield 41, 3) := by decide +kernel
theorem dX11_joins_17 : decode cX11_joins 17 = .ok (.iload_n 1, 1) := by decide +kernel
theorem dX11_joins_18 : decode cX11_joins 18 = .ok (.laload, 1) := by decide +kernel
theorem dX11_joins_19 : decode cX11_joins 19 = .ok (.lstore 7, 2) := by decide +kernel
theorem dX11_joins_21 : decode cX11_joins 21 = .ok (.aload_n 0, 1) := by decide +kernel
theorem dX11_joins_22 : decode cX11_joins 22 = .ok (.getfield 38, 3) := by decide +kernel
theorem dX11_joins_25 : decode cX11_joins 25 = .ok (.iload_n 2, 1) := by decide +kernel
theorem dX11_joins_26 : decode cX11_joins 26 = .ok (.laload, 1) := by decide +kernel
theorem dX11_joins_27 : decode cX11_joins 27 = .ok (.lstore 9, 2) := by decide +kernel
theorem dX11_joins_29 : decode cX11_joins 29 = .ok (.aload_n 0, 1) := by decide +kernel
theorem dX11_joins_30 : decode cX11_joins 30 = .ok (.getfield 41, 3) := by decide +kernel
theorem dX11_joins_33 : decode cX11_joins 33 = .ok (.iload_n 2, 1) := by decide +kernel
theorem dX11_joins_34 : decode cX11_joins 34 = .ok (.laload, 1) := by decide +kernel
theorem dX11_joins_35 : decode cX11_joins 35 = .ok (.lstore 11, 2) := by decide +kernel
theorem dX11_joins_37 : decode cX11_joins 37 = .ok (.lload 7, 2) := by decide +kernel
theorem dX11_joins_39 : decode cX11_joins 39 = .ok (.lstore 13, 2) := by decide +kernel
theorem dX11_joins_41 : decode cX11_joins 41 = .ok (.iload_n 1, 1) := by decide +kernel
theorem dX11_joins_42 : decode cX11_joins 42 = .ok (.istore 15, 2) := by decide +kernel
theorem dX11_joins_44 : decode cX11_joins 44 = .ok (.iload 15, 2) := by decide +kernel
theorem dX11_joins_46 : decode cX11_joins 46 = .ok (.ifCond .lt 31, 3) := by decide +kernel
theorem dX11_joins_49 : decode cX11_joins 49 = .ok (.lload 13, 2) := by decide +kernel
theorem dX11_joins_51 : decode cX11_joins 51 = .ok (.lconst 0, 1) := by decide +kernel
theorem dX11_joins_52 : decode cX11_joins 52 = .ok (.lcmp, 1) := by decide +kernel
theorem dX11_joins_53 : decode cX11_joins 53 = .ok (.ifCond .le 24, 3) := by decide +kernel
theorem dX11_joins_56 : decode cX11_joins 56 = .ok (.lload 13, 2) := by decide +kernel
theorem dX11_joins_58 : decode cX11_joins 58 = .ok (.aload_n 0, 1) := by decide +kernel
theorem dX11_joins_59 : decode cX11_joins 59 = .ok (.getfield 35, 3) := by decide +kernel
theorem dX11_joins_62 : decode cX11_joins 62 = .ok (.iload 15, 2) := by decide +kernel
theorem dX11_joins_64 : decode cX11_joins 64 = .ok (.laload, 1) := by decide +kernel
theorem dX11_joins_65 : decode cX11_joins 65 = .ok (.lsub, 1) := by decide +kernel
theorem dX11_joins_66 : decode cX11_joins 66 = .ok (.lstore 13, 2) := by decide +kernel
theorem dX11_joins_68 : decode cX11_joins 68 = .ok (.iload 15, 2) := by decide +kernel
theorem dX11_joins_70 : decode cX11_joins 70 = .ok (.istore_n 3, 1) := by decide +kernel
theorem dX11_joins_71 : decode cX11_joins 71 = .ok (.iinc 15 (-1), 3) := by decide +kernel
theorem dX11_joins_74 : decode cX11_joins 74 = .ok (.goto (-30), 3) := by decide +kernel
theorem dX11_joins_77 : decode cX11_joins 77 = .ok (.lload 11, 2) := by decide +kernel
theorem dX11_joins_79 : decode cX11_joins 79 = .ok (.lstore 13, 2) := by decide +kernel
theorem dX11_joins_81 : decode cX11_joins 81 = .ok (.iload_n 2, 1) := by decide +kernel
theorem dX11_joins_82 : decode cX11_joins 82 = .ok (.istore 15, 2) := by decide +kernel
theorem dX11_joins_84 : decode cX11_joins 84 = .ok (.iload 15, 2) := by decide +kernel
theorem dX11_joins_86 : decode cX11_joins 86 = .ok (.bipush 8, 2) := by decide +kernel
theorem dX11_joins_88 : decode cX11_joins 88 = .ok (.if_icmp .ge 32, 3) := by decide +kernel
theorem dX11_joins_91 : decode cX11_joins 91 = .ok (.lload 13, 2) := by decide +kernel
theorem dX11_joins_93 : decode cX11_joins 93 = .ok (.lconst 0, 1) := by decide +kernel
theorem dX11_joins_94 : decode cX11_joins 94 = .ok (.lcmp, 1) := by decide +kernel
theorem dX11_joins_95 : decode cX11_joins 95 = .ok (.ifCond .le 25, 3) := by decide +kernel
theorem dX11_joins_98 : decode cX11_joins 98 = .ok (.lload 13, 2) := by decide +kernel
theorem dX11_joins_100 : decode cX11_joins 100 = .ok (.aload_n 0, 1) := by decide +kernel
theorem dX11_joins_101 : decode cX11_joins 101 = .ok (.getfield 35, 3) := by decide +kernel
theorem dX11_joins_104 : decode cX11_joins 104 = .ok (.iload 15, 2) := by decide +kernel
theorem dX11_joins_106 : decode cX11_joins 106 = .ok (.laload, 1) := by decide +kernel
theorem dX11_joins_107 : decode cX11_joins 107 = .ok (.lsub, 1) := by decide +kernel
theorem dX11_joins_108 : decode cX11_joins 108 = .ok (.lstore 13, 2) := by decide +kernel
theorem dX11_joins_110 : decode cX11_joins 110 = .ok (.iload 15, 2) := by decide +kernel
theorem dX11_joins_112 : decode cX11_joins 112 = .ok (.istore 4, 2) := by decide +kernel
theorem dX11_joins_114 : decode cX11_joins 114 = .ok (.iinc 15 1, 3) := by decide +kernel
theorem dX11_joins_117 : decode cX11_joins 117 = .ok (.goto (-33), 3) := by decide +kernel
theorem dX11_joins_120 : decode cX11_joins 120 = .ok (.iload_n 3, 1) := by decide +kernel
theorem dX11_joins_121 : decode cX11_joins 121 = .ok (.istore 15, 2) := by decide +kernel
theorem dX11_joins_123 : decode cX11_joins 123 = .ok (.iload 15, 2) := by decide +kernel
theorem dX11_joins_125 : decode cX11_joins 125 = .ok (.iload 4, 2) := by decide +kernel
theorem dX11_joins_127 : decode cX11_joins 127 = .ok (.if_icmp .gt 33, 3) := by decide +kernel
theorem dX11_joins_130 : decode cX11_joins 130 = .ok (.aload_n 0, 1) := by decide +kernel
theorem dX11_joins_131 : decode cX11_joins 131 = .ok (.getfield 38, 3) := by decide +kernel
theorem dX11_joins_134 : decode cX11_joins 134 = .ok (.iload 15, 2) := by decide +kernel
theorem dX11_joins_136 : decode cX11_joins 136 = .ok (.lload 5, 2) := by decide +kernel
theorem dX11_joins_138 : decode cX11_joins 138 = .ok (.lload 9, 2) := by decide +kernel
theorem dX11_joins_140 : decode cX11_joins 140 = .ok (.ladd, 1) := by decide +kernel
theorem dX11_joins_141 : decode cX11_joins 141 = .ok (.lastore, 1) := by decide +kernel
theorem dX11_joins_142 : decode cX11_joins 142 = .ok (.aload_n 0, 1) := by decide +kernel
theorem dX11_joins_143 : decode cX11_joins 143 = .ok (.getfield 41, 3) := by decide +kernel
theorem dX11_joins_146 : decode cX11_joins 146 = .ok (.iload 15, 2) := by decide +kernel
theorem dX11_joins_148 : decode cX11_joins 148 = .ok (.lload 7, 2) := by decide +kernel
theorem dX11_joins_150 : decode cX11_joins 150 = .ok (.lload 11, 2) := by decide +kernel
theorem dX11_joins_152 : decode cX11_joins 152 = .ok (.ladd, 1) := by decide +kernel
theorem dX11_joins_153 : decode cX11_joins 153 = .ok (.lastore, 1) := by decide +kernel
theorem dX11_joins_154 : decode cX11_joins 154 = .ok (.iinc 15 1, 3) := by decide +kernel
theorem dX11_joins_157 : decode cX11_joins 157 = .ok (.goto (-34), 3) := by decide +kernel
theorem dX11_joins_160 : decode cX11_joins 160 = .ok (.return_, 1) := by decide +kernel
def fX11_joins_L44 (p2 : Int32) (p4 : Int32) (p5 : Int64) (p7 : Int64) (p9 : Int64) (p11 : Int64) (a : Int32 × Int64 × Int32) (s : Sg) : Option (((Int32 × Int64 × Int32) ⊕ (Int32)) × Sg) :=
  if a.2.2 < 0 then
  some (.inr a.1, s)
  else
  if (lg_cmp a.2.1 (0 : Int64)) ≤ 0 then
  some (.inr a.1, s)
  else
  (aL s 58 8 a.2.2).bind fun v3 =>
  bnd (a.2.1 - v3) fun x4 =>
  bnd (a.2.2 + (-1 : Int32)) fun x5 =>
  some (.inl (a.2.2, x4, x5), s)
def fX11_joins_L84 (p3 : Int32) (p5 : Int64) (p7 : Int64) (p9 : Int64) (p11 : Int64) (a : Int32 × Int64 × Int32) (s : Sg) : Option (((Int32 × Int64 × Int32) ⊕ (Int32)) × Sg) :=
  if (8 : Int32) ≤ a.2.2 then
  some (.inr a.1, s)
  else
  if (lg_cmp a.2.1 (0 : Int64)) ≤ 0 then
  some (.inr a.1, s)
  else
  (aL s 58 8 a.2.2).bind fun v3 =>
  bnd (a.2.1 - v3) fun x4 =>
  bnd (a.2.2 + (1 : Int32)) fun x5 =>
  some (.inl (a.2.2, x4, x5), s)
def fX11_joins_L123 (p4 : Int32) (p5 : Int64) (p7 : Int64) (p9 : Int64) (p11 : Int64) (a : Int32) (s : Sg) : Option (((Int32) ⊕ (Unit)) × Sg) :=
  if p4 < a then
  some (.inr (), s)
  else
  (wL s 59 8 a (p5 + p9)).bind fun s2 =>
  (wL s2 60 8 a (p7 + p11)).bind fun s3 =>
  bnd (a + (1 : Int32)) fun x4 =>
  some (.inl x4, s3)
def fX11_joins (x0_ : Int32) (x1_ : Int32) (s : Sg) : Option (Sg) :=
  (aL s 59 8 x0_).bind fun v1 =>
  (aL s 60 8 x0_).bind fun v2 =>
  (aL s 59 8 x1_).bind fun v3 =>
  (aL s 60 8 x1_).bind fun v4 =>
  (lpG (fX11_joins_L44 x1_ x1_ v1 v2 v3 v4) FU (x0_, v2, x0_) s).bind fun w5 =>
  (lpG (fX11_joins_L84 w5.1 v1 v2 v3 v4) FU (x1_, v4, x1_) w5.2).bind fun w6 =>
  (lpG (fX11_joins_L123 w6.1 v1 v2 v3 v4) FU w5.1 w6.2).bind fun w7 =>
  some w7.2
theorem ct_X11_joins {g : Gl} {x0_ : Int32} {x1_ : Int32} {s : Sg} {w : Sg}  (h : fX11_joins x0_ x1_ s = some w) : Ct SS g iX11_joins 0 0 [.ref (gad g 49), .int x0_, .int x1_] s (Dt none w) := by
  refine Ct.ofV (by decide +kernel) 13 (lv0 := [some (.ref (gad g 49)), some (.int x0_), some (.int x1_), none, none, none, none, none, none, none, none, none, none, none, none, none]) rfl rfl (fun M hC => ?_)
  have hP : (Dt none w) none w := ⟨rfl, rfl⟩
  generalize Dt none w = P at hP ⊢
  unfold fX11_joins at h
  refine v_iload_n (pc := 0) hC dX11_joins_0 rfl ?_
  refine v_istore_n (pc := 1) (lv' := [some (.ref (gad g 49)), some (.int x0_), some (.int x1_), some (.int x0_), none, none, none, none, none, none, none, none, none, none, none, none]) hC dX11_joins_1 rfl rfl rfl rfl ?_
  refine v_iload_n (pc := 2) hC dX11_joins_2 rfl ?_
  refine v_istore (pc := 3) (lv' := [some (.ref (gad g 49)), some (.int x0_), some (.int x1_), some (.int x0_), some (.int x1_), none, none, none, none, none, none, none, none, none, none, none]) hC dX11_joins_3 rfl rfl rfl rfl ?_
  refine v_aload_n (pc := 5) hC dX11_joins_5 rfl ?_
  refine v_gt (pc := 6) 11 (.ref (gad g 59)) hC s_49 rfl rfl rfl rfl fl_X11_38 dX11_joins_6 ?_
  refine v_iload_n (pc := 9) hC dX11_joins_9 rfl ?_
  obtain ⟨v1, hv1, h⟩ := obd_s h
  refine v_aL (pc := 10) hC s_59 hv1 dX11_joins_10 ?_
  refine v_lstore (pc := 11) (lv' := [some (.ref (gad g 49)), some (.int x0_), some (.int x1_), some (.int x0_), some (.int x1_), some (.long v1), none, none, none, none, none, none, none, none, none, none]) hC dX11_joins_11 rfl rfl rfl rfl ?_
  refine v_aload_n (pc := 13) hC dX11_joins_13 rfl ?_
  refine v_gt (pc := 14) 12 (.ref (gad g 60)) hC s_49 rfl rfl rfl rfl fl_X11_41 dX11_joins_14 ?_
  refine v_iload_n (pc := 17) hC dX11_joins_17 rfl ?_
  obtain ⟨v2, hv2, h⟩ := obd_s h
  refine v_aL (pc := 18) hC s_60 hv2 dX11_joins_18 ?_
  refine v_lstore (pc := 19) (lv' := [some (.ref (gad g 49)), some (.int x0_), some (.int x1_), some (.int x0_), some (.int x1_), some (.long v1), none, some (.long v2), none, none, none, none, none, none, none, none]) hC dX11_joins_19 rfl rfl rfl rfl ?_
  refine v_aload_n (pc := 21) hC dX11_joins_21 rfl ?_
  refine v_gt (pc := 22) 11 (.ref (gad g 59)) hC s_49 rfl rfl rfl rfl fl_X11_38 dX11_joins_22 ?_
  refine v_iload_n (pc := 25) hC dX11_joins_25 rfl ?_
  obtain ⟨v3, hv3, h⟩ := obd_s h
  refine v_aL (pc := 26) hC s_59 hv3 dX11_joins_26 ?_
  refine v_lstore (pc := 27) (lv' := [some (.ref (gad g 49)), some (.int x0_), some (.int x1_), some (.int x0_), some (.int x1_), some (.long v1), none, some (.long v2), none, some (.long v3), none, none, none, none, none, none]) hC dX11_joins_27 rfl rfl rfl rfl ?_
  refine v_aload_n (pc := 29) hC dX11_joins_29 rfl ?_
  refine v_gt (pc := 30) 12 (.ref (gad g 60)) hC s_49 rfl rfl rfl rfl fl_X11_41 dX11_joins_30 ?_
  refine v_iload_n (pc := 33) hC dX11_joins_33 rfl ?_
  obtain ⟨v4, hv4, h⟩ := obd_s h
  refine v_aL (pc := 34) hC s_60 hv4 dX11_joins_34 ?_
  refine v_lstore (pc := 35) (lv' := [some (.ref (gad g 49)), some (.int x0_), some (.int x1_), some (.int x0_), some (.int x1_), some (.long v1), none, some (.long v2), none, some (.long v3), none, some (.long v4), none, none, none, none]) hC dX11_joins_35 rfl rfl rfl rfl ?_
  refine v_lload (pc := 37) hC dX11_joins_37 rfl ?_
  refine v_lstore (pc := 39) (lv' := [some (.ref (gad g 49)), some (.int x0_), some (.int x1_), some (.int x0_), some (.int x1_), some (.long v1), none, some (.long v2), none, some (.long v3), none, some (.long v4), none, some (.long v2), none, none]) hC dX11_joins_39 rfl rfl rfl rfl ?_
  refine v_iload_n (pc := 41) hC dX11_joins_41 rfl ?_
  refine v_istore (pc := 42) (lv' := [some (.ref (gad g 49)), some (.int x0_), some (.int x1_), some (.int x0_), some (.int x1_), some (.long v1), none, some (.long v2), none, some (.long v3), none, some (.long v4), none, some (.long v2), none, some (.int x0_)]) hC dX11_joins_42 rfl rfl rfl rfl ?_
  obtain ⟨w5, hw5, h⟩ := obd_s h
  have kx42 : V SS g M iX11_joins (PQ SS g M P) 77 [some (.ref (gad g 49)), none, some (.int x1_), some (.int w5.1), some (.int x1_), some (.long v1), none, some (.long v2), none, some (.long v3), none, some (.long v4), none, none, none, none] [] w5.2 := by
    refine v_lload (pc := 77) hC dX11_joins_77 rfl ?_
    refine v_lstore (pc := 79) (lv' := [some (.ref (gad g 49)), none, some (.int x1_), some (.int w5.1), some (.int x1_), some (.long v1), none, some (.long v2), none, some (.long v3), none, some (.long v4), none, some (.long v4), none, none]) hC dX11_joins_79 rfl rfl rfl rfl ?_
    refine v_iload_n (pc := 81) hC dX11_joins_81 rfl ?_
    refine v_istore (pc := 82) (lv' := [some (.ref (gad g 49)), none, some (.int x1_), some (.int w5.1), some (.int x1_), some (.long v1), none, some (.long v2), none, some (.long v3), none, some (.long v4), none, some (.long v4), none, some (.int x1_)]) hC dX11_joins_82 rfl rfl rfl rfl ?_
    obtain ⟨w6, hw6, h⟩ := obd_s h
    have kx30 : V SS g M iX11_joins (PQ SS g M P) 120 [some (.ref (gad g 49)), none, none, some (.int w5.1), some (.int w6.1), some (.long v1), none, some (.long v2), none, some (.long v3), none, some (.long v4), none, none, none, none] [] w6.2 := by
      refine v_iload_n (pc := 120) hC dX11_joins_120 rfl ?_
      refine v_istore (pc := 121) (lv' := [some (.ref (gad g 49)), none, none, some (.int w5.1), some (.int w6.1), some (.long v1), none, some (.long v2), none, some (.long v3), none, some (.long v4), none, none, none, some (.int w5.1)]) hC dX11_joins_121 rfl rfl rfl rfl ?_
      obtain ⟨w7, hw7, h⟩ := obd_s h
      have kx18 : V SS g M iX11_joins (PQ SS g M P) 160 [none, none, none, none, none, none, none, none, none, none, none, none, none, none, none, none] [] w7.2 := by
        obtain rfl := Option.some.inj h
        exact v_vret (pc := 160) hC rfl dX11_joins_160 hP
      refine V.ls (ls_some (ls_none (ls_none (ls_none (ls_some (ls_some (ls_none (ls_some (ls_none (ls_some (ls_none (ls_some (ls_none (ls_none (ls_none (ls_some ls_nil)))))))))))))))) (v_loop (pc := 123) (fun a10 => [some (.ref (gad g 49)), none, none, none, some (.int w6.1), some (.long v1), none, some (.long v2), none, some (.long v3), none, some (.long v4), none, none, none, some (.int a10)]) (fun z t => V SS g M iX11_joins (PQ SS g M P) 160 [none, none, none, none, none, none, none, none, none, none, none, none, none, none, none, none] [] t) (fun a10 s8 u9 hu9 k11 k12 => ?_) _ _ _ _ hw7 kx18)
      unfold fX11_joins_L123 at hu9
      refine v_iload (pc := 123) hC dX11_joins_123 rfl ?_
      refine v_iload (pc := 125) hC dX11_joins_125 rfl ?_
      refine v_ic_gt (pc := 127) (tgt := 160) hC dX11_joins_127 rfl (fun c14 => ?_) (fun c14 => ?_)
      · replace hu9 := (if_pos c14).symm.trans hu9
        obtain rfl := Option.some.inj hu9
        exact V.ls (ls_none (ls_none (ls_none (ls_none (ls_none (ls_none (ls_none (ls_none (ls_none (ls_none (ls_none (ls_none (ls_none (ls_none (ls_none (ls_none ls_nil)))))))))))))))) (k12 _ rfl)
      · replace hu9 := (if_neg c14).symm.trans hu9
        refine v_aload_n (pc := 130) hC dX11_joins_130 rfl ?_
        refine v_gt (pc := 131) 11 (.ref (gad g 59)) hC s_49 rfl rfl rfl rfl fl_X11_38 dX11_joins_131 ?_
        refine v_iload (pc := 134) hC dX11_joins_134 rfl ?_
        refine v_lload (pc := 136) hC dX11_joins_136 rfl ?_
        refine v_lload (pc := 138) hC dX11_joins_138 rfl ?_
        refine v_ladd (pc := 140) hC dX11_joins_140 ?_
        obtain ⟨s15, hs15, hu9⟩ := obd_s hu9
        refine v_wL (pc := 141) hC s_59 hs15 dX11_joins_141 ?_
        refine v_aload_n (pc := 142) hC dX11_joins_142 rfl ?_
        refine v_gt (pc := 143) 12 (.ref (gad g 60)) hC s_49 rfl rfl rfl rfl fl_X11_41 dX11_joins_143 ?_
        refine v_iload (pc := 146) hC dX11_joins_146 rfl ?_
        refine v_lload (pc := 148) hC dX11_joins_148 rfl ?_
        refine v_lload (pc := 150) hC dX11_joins_150 rfl ?_
        refine v_ladd (pc := 152) hC dX11_joins_152 ?_
        obtain ⟨s16, hs16, hu9⟩ := obd_s hu9
        refine v_wL (pc := 153) hC s_60 hs16 dX11_joins_153 ?_
        obtain ⟨x17, hx17, hu9⟩ := bnd_s hu9
        refine v_iinc (pc := 154) (lv' := [some (.ref (gad g 49)), none, none, none, some (.int w6.1), some (.long v1), none, some (.long v2), none, some (.long v3), none, some (.long v4), none, none, none, some (.int x17)]) (1 : Int32) rfl hx17 hC dX11_joins_154 rfl rfl rfl rfl ?_
        refine v_goto (pc := 157) (tgt := 123) hC dX11_joins_157 rfl ?_
        obtain rfl := Option.some.inj hu9
        exact V.ls (ls_some (ls_none (ls_none (ls_none (ls_some (ls_some (ls_none (ls_some (ls_none (ls_some (ls_none (ls_some (ls_none (ls_none (ls_none (ls_some ls_nil)))))))))))))))) (k11 _ rfl)
    refine V.ls (ls_some (ls_none (ls_none (ls_some (ls_some (ls_some (ls_none (ls_some (ls_none (ls_some (ls_none (ls_some (ls_none (ls_some (ls_none (ls_some ls_nil)))))))))))))))) (v_loop (pc := 84) (fun a21 => [some (.ref (gad g 49)), none, none, some (.int w5.1), some (.int a21.1), some (.long v1), none, some (.long v2), none, some (.long v3), none, some (.long v4), none, some (.long a21.2.1), none, some (.int a21.2.2)]) (fun z t => V SS g M iX11_joins (PQ SS g M P) 120 [some (.ref (gad g 49)), none, none, some (.int w5.1), some (.int z), some (.long v1), none, some (.long v2), none, some (.long v3), none, some (.long v4), none, none, none, none] [] t) (fun a21 s19 u20 hu20 k22 k23 => ?_) _ _ _ _ hw6 kx30)
    unfold fX11_joins_L84 at hu20
    refine v_iload (pc := 84) hC dX11_joins_84 rfl ?_
    refine v_bipush (pc := 86) (8 : Int32) rfl hC dX11_joins_86 ?_
    refine v_ic_ge (pc := 88) (tgt := 120) hC dX11_joins_88 rfl (fun c25 => ?_) (fun c25 => ?_)
    · replace hu20 := (if_pos c25).symm.trans hu20
      obtain rfl := Option.some.inj hu20
      exact V.ls (ls_some (ls_none (ls_none (ls_some (ls_some (ls_some (ls_none (ls_some (ls_none (ls_some (ls_none (ls_some (ls_none (ls_none (ls_none (ls_none ls_nil)))))))))))))))) (k23 _ rfl)
    · replace hu20 := (if_neg c25).symm.trans hu20
      refine v_lload (pc := 91) hC dX11_joins_91 rfl ?_
      refine v_lconst (pc := 93) (0 : Int64) rfl hC dX11_joins_93 ?_
      refine v_lcmp (pc := 94) hC dX11_joins_94 ?_
      refine v_if_le (pc := 95) (tgt := 120) hC dX11_joins_95 rfl (fun c26 => ?_) (fun c26 => ?_)
      · replace hu20 := (if_pos c26).symm.trans hu20
        obtain rfl := Option.some.inj hu20
        exact V.ls (ls_some (ls_none (ls_none (ls_some (ls_some (ls_some (ls_none (ls_some (ls_none (ls_some (ls_none (ls_some (ls_none (ls_none (ls_none (ls_none ls_nil)))))))))))))))) (k23 _ rfl)
      · replace hu20 := (if_neg c26).symm.trans hu20
        refine v_lload (pc := 98) hC dX11_joins_98 rfl ?_
        refine v_aload_n (pc := 100) hC dX11_joins_100 rfl ?_
        refine v_gt (pc := 101) 10 (.ref (gad g 58)) hC s_49 rfl rfl rfl rfl fl_X11_35 dX11_joins_101 ?_
        refine v_iload (pc := 104) hC dX11_joins_104 rfl ?_
        obtain ⟨v27, hv27, hu20⟩ := obd_s hu20
        refine v_aL (pc := 106) hC s_58 hv27 dX11_joins_106 ?_
        refine v_lsub (pc := 107) hC dX11_joins_107 ?_
        obtain ⟨x28, hx28, hu20⟩ := bnd_s hu20
        refine v_lstore (pc := 108) (lv' := [some (.ref (gad g 49)), none, none, some (.int w5.1), some (.int a21.1), some (.long v1), none, some (.long v2), none, some (.long v3), none, some (.long v4), none, some (.long x28), none, some (.int a21.2.2)]) hC dX11_joins_108 hx28 rfl rfl rfl ?_
        refine v_iload (pc := 110) hC dX11_joins_110 rfl ?_
        refine v_istore (pc := 112) (lv' := [some (.ref (gad g 49)), none, none, some (.int w5.1), some (.int a21.2.2), some (.long v1), none, some (.long v2), none, some (.long v3), none, some (.long v4), none, some (.long x28), none, some (.int a21.2.2)]) hC dX11_joins_112 rfl rfl rfl rfl ?_
        obtain ⟨x29, hx29, hu20⟩ := bnd_s hu20
        refine v_iinc (pc := 114) (lv' := [some (.ref (gad g 49)), none, none, some (.int w5.1), some (.int a21.2.2), some (.long v1), none, some (.long v2), none, some (.long v3), none, some (.long v4), none, some (.long x28), none, some (.int x29)]) (1 : Int32) rfl hx29 hC dX11_joins_114 rfl rfl rfl rfl ?_
        refine v_goto (pc := 117) (tgt := 84) hC dX11_joins_117 rfl ?_
        obtain rfl := Option.some.inj hu20
        exact V.ls (ls_some (ls_none (ls_none (ls_some (ls_some (ls_some (ls_none (ls_some (ls_none (ls_some (ls_none (ls_some (ls_none (ls_some (ls_none (ls_some ls_nil)))))))))))))))) (k22 _ rfl)
  refine V.ls (ls_some (ls_none (ls_some (ls_some (ls_some (ls_some (ls_none (ls_some (ls_none (ls_some (ls_none (ls_some (ls_none (ls_some (ls_none (ls_some ls_nil)))))))))))))))) (v_loop (pc := 44) (fun a33 => [some (.ref (gad g 49)), none, some (.int x1_), some (.int a33.1), some (.int x1_), some (.long v1), none, some (.long v2), none, some (.long v3), none, some (.long v4), none, some (.long a33.2.1), none, some (.int a33.2.2)]) (fun z t => V SS g M iX11_joins (PQ SS g M P) 77 [some (.ref (gad g 49)), none, some (.int x1_), some (.int z), some (.int x1_), some (.long v1), none, some (.long v2), none, some (.long v3), none, some (.long v4), none, none, none, none] [] t) (fun a33 s31 u32 hu32 k34 k35 => ?_) _ _ _ _ hw5 kx42)
  unfold fX11_joins_L44 at hu32
  refine v_iload (pc := 44) hC dX11_joins_44 rfl ?_
  refine v_if_lt (pc := 46) (tgt := 77) hC dX11_joins_46 rfl (fun c37 => ?_) (fun c37 => ?_)
  · replace hu32 := (if_pos c37).symm.trans hu32
    obtain rfl := Option.some.inj hu32
    exact V.ls (ls_some (ls_none (ls_some (ls_some (ls_some (ls_some (ls_none (ls_some (ls_none (ls_some (ls_none (ls_some (ls_none (ls_none (ls_none (ls_none ls_nil)))))))))))))))) (k35 _ rfl)
  · replace hu32 := (if_neg c37).symm.trans hu32
    refine v_lload (pc := 49) hC dX11_joins_49 rfl ?_
    refine v_lconst (pc := 51) (0 : Int64) rfl hC dX11_joins_51 ?_
    refine v_lcmp (pc := 52) hC dX11_joins_52 ?_
    refine v_if_le (pc := 53) (tgt := 77) hC dX11_joins_53 rfl (fun c38 => ?_) (fun c38 => ?_)
    · replace hu32 := (if_pos c38).symm.trans hu32
      obtain rfl := Option.some.inj hu32
      exact V.ls (ls_some (ls_none (ls_some (ls_some (ls_some (ls_some (ls_none (ls_some (ls_none (ls_some (ls_none (ls_some (ls_none (ls_none (ls_none (ls_none ls_nil)))))))))))))))) (k35 _ rfl)
    · replace hu32 := (if_neg c38).symm.trans hu32
      refine v_lload (pc := 56) hC dX11_joins_56 rfl ?_
      refine v_aload_n (pc := 58) hC dX11_joins_58 rfl ?_
      refine v_gt (pc := 59) 10 (.ref (gad g 58)) hC s_49 rfl rfl rfl rfl fl_X11_35 dX11_joins_59 ?_
      refine v_iload (pc := 62) hC dX11_joins_62 rfl ?_
      obtain ⟨v39, hv39, hu32⟩ := obd_s hu32
      refine v_aL (pc := 64) hC s_58 hv39 dX11_joins_64 ?_
      refine v_lsub (pc := 65) hC dX11_joins_65 ?_
      obtain ⟨x40, hx40, hu32⟩ := bnd_s hu32
      refine v_lstore (pc := 66) (lv' := [some (.ref (gad g 49)), none, some (.int x1_), some (.int a33.1), some (.int x1_), some (.long v1), none, some (.long v2), none, some (.long v3), none, some (.long v4), none, some (.long x40), none, some (.int a33.2.2)]) hC dX11_joins_66 hx40 rfl rfl rfl ?_
      refine v_iload (pc := 68) hC dX11_joins_68 rfl ?_
      refine v_istore_n (pc := 70) (lv' := [some (.ref (gad g 49)), none, some (.int x1_), some (.int a33.2.2), some (.int x1_), some (.long v1), none, some (.long v2), none, some (.long v3), none, some (.long v4), none, some (.long x40), none, some (.int a33.2.2)]) hC dX11_joins_70 rfl rfl rfl rfl ?_
      obtain ⟨x41, hx41, hu32⟩ := bnd_s hu32
      refine v_iinc (pc := 71) (lv' := [some (.ref (gad g 49)), none, some (.int x1_), some (.int a33.2.2), some (.int x1_), some (.long v1), none, some (.long v2), none, some (.long v3), none, some (.long v4), none, some (.long x40), none, some (.int x41)]) (-1 : Int32) rfl hx41 hC dX11_joins_71 rfl rfl rfl rfl ?_
      refine v_goto (pc := 74) (tgt := 44) hC dX11_joins_74 rfl ?_
      obtain rfl := Option.some.inj hu32
      exact V.ls (ls_some (ls_none (ls_some (ls_some (ls_some (ls_some (ls_none (ls_some (ls_none (ls_some (ls_none (ls_some (ls_none (ls_some (ls_none (ls_some ls_nil)))))))))))))))) (k34 _ rfl)
theorem dX11_laysShape_0 : decode cX11_laysShape 0 = .ok (.aload_n 0, 1) := by decide +kernel
theorem dX11_laysShape_1 : decode cX11_laysShape 1 = .ok (.invokevirtual 160, 3) := by decide +kernel
theorem dX11_laysShape_4 : decode cX11_laysShape 4 = .ok (.iconst 0, 1) := by decide +kernel
theorem dX11_laysShape_5 : decode cX11_laysShape 5 = .ok (.istore_n 1, 1) := by decide +kernel
theorem dX11_laysShape_6 : decode cX11_laysShape 6 = .ok (.iload_n 1, 1) := by decide +kernel
theorem dX11_laysShape_7 : decode cX11_laysShape 7 = .ok (.bipush 8, 2) := by decide +kernel
theorem dX11_laysShape_9 : decode cX11_laysShape 9 = .ok (.if_icmp .ge 33, 3) := by decide +kernel
theorem dX11_laysShape_12 : decode cX11_laysShape 12 = .ok (.aload_n 0, 1) := by decide +kernel
theorem dX11_laysShape_13 : decode cX11_laysShape 13 = .ok (.getfield 38, 3) := by decide +kernel
theorem dX11_laysShape_16 : decode cX11_laysShape 16 = .ok (.iload_n 1, 1) := by decide +kernel
theorem dX11_laysShape_17 : decode cX11_laysShape 17 = .ok (.aload_n 0, 1) := by decide +kernel
theorem dX11_laysShape_18 : decode cX11_laysShape 18 = .ok (.getfield 31, 3) := by decide +kernel
theorem dX11_laysShape_21 : decode cX11_laysShape 21 = .ok (.iload_n 1, 1) := by decide +kernel
theorem dX11_laysShape_22 : decode cX11_laysShape 22 = .ok (.laload, 1) := by decide +kernel
theorem dX11_laysShape_23 : decode cX11_laysShape 23 = .ok (.lastore, 1) := by decide +kernel
theorem dX11_laysShape_24 : decode cX11_laysShape 24 = .ok (.aload_n 0, 1) := by decide +kernel
theorem dX11_laysShape_25 : decode cX11_laysShape 25 = .ok (.getfield 41, 3) := by decide +kernel
theorem dX11_laysShape_28 : decode cX11_laysShape 28 = .ok (.iload_n 1, 1) := by decide +kernel
theorem dX11_laysShape_29 : decode cX11_laysShape 29 = .ok (.aload_n 0, 1) := by decide +kernel
theorem dX11_laysShape_30 : decode cX11_laysShape 30 = .ok (.getfield 35, 3) := by decide +kernel
theorem dX11_laysShape_33 : decode cX11_laysShape 33 = .ok (.iload_n 1, 1) := by decide +kernel
theorem dX11_laysShape_34 : decode cX11_laysShape 34 = .ok (.laload, 1) := by decide +kernel
theorem dX11_laysShape_35 : decode cX11_laysShape 35 = .ok (.lastore, 1) := by decide +kernel
theorem dX11_laysShape_36 : decode cX11_laysShape 36 = .ok (.iinc 1 1, 3) := by decide +kernel
theorem dX11_laysShape_39 : decode cX11_laysShape 39 = .ok (.goto (-33), 3) := by decide +kernel
theorem dX11_laysShape_42 : decode cX11_laysShape 42 = .ok (.iconst 1, 1) := by decide +kernel
theorem dX11_laysShape_43 : decode cX11_laysShape 43 = .ok (.istore_n 1, 1) := by decide +kernel
theorem dX11_laysShape_44 : decode cX11_laysShape 44 = .ok (.iload_n 1, 1) := by decide +kernel
theorem dX11_laysShape_45 : decode cX11_laysShape 45 = .ok (.ifCond .eq 80, 3) := by decide +kernel
theorem dX11_laysShape_48 : decode cX11_laysShape 48 = .ok (.iconst 0, 1) := by decide +kernel
theorem dX11_laysShape_49 : decode cX11_laysShape 49 = .ok (.istore_n 1, 1) := by decide +kernel
theorem dX11_laysShape_50 : decode cX11_laysShape 50 = .ok (.iconst (-1), 1) := by decide +kernel
theorem dX11_laysShape_51 : decode cX11_laysShape 51 = .ok (.istore_n 2, 1) := by decide +kernel
theorem dX11_laysShape_52 : decode cX11_laysShape 52 = .ok (.iconst 0, 1) := by decide +kernel
theorem dX11_laysShape_53 : decode cX11_laysShape 53 = .ok (.istore_n 3, 1) := by decide +kernel
theorem dX11_laysShape_54 : decode cX11_laysShape 54 = .ok (.iload_n 3, 1) := by decide +kernel
theorem dX11_laysShape_55 : decode cX11_laysShape 55 = .ok (.bipush 8, 2) := by decide +kernel
theorem dX11_laysShape_57 : decode cX11_laysShape 57 = .ok (.if_icmp .ge 65, 3) := by decide +kernel
theorem dX11_laysShape_60 : decode cX11_laysShape 60 = .ok (.aload_n 0, 1) := by decide +kernel
theorem dX11_laysShape_61 : decode cX11_laysShape 61 = .ok (.getfield 35, 3) := by decide +kernel
theorem dX11_laysShape_64 : decode cX11_laysShape 64 = .ok (.iload_n 3, 1) := by decide +kernel
theorem dX11_laysShape_65 : decode cX11_laysShape 65 = .ok (.laload, 1) := by decide +kernel
theorem dX11_laysShape_66 : decode cX11_laysShape 66 = .ok (.lconst 0, 1) := by decide +kernel
theorem dX11_laysShape_67 : decode cX11_laysShape 67 = .ok (.lcmp, 1) := by decide +kernel
theorem dX11_laysShape_68 : decode cX11_laysShape 68 = .ok (.ifCond .le 48, 3) := by decide +kernel
theorem dX11_laysShape_71 : decode cX11_laysShape 71 = .ok (.iload_n 2, 1) := by decide +kernel
theorem dX11_laysShape_72 : decode cX11_laysShape 72 = .ok (.iconst (-1), 1) := by decide +kernel
theorem dX11_laysShape_73 : decode cX11_laysShape 73 = .ok (.if_icmp .eq 41, 3) := by decide +kernel
theorem dX11_laysShape_76 : decode cX11_laysShape 76 = .ok (.aload_n 0, 1) := by decide +kernel
theorem dX11_laysShape_77 : decode cX11_laysShape 77 = .ok (.getfield 38, 3) := by decide +kernel
theorem dX11_laysShape_80 : decode cX11_laysShape 80 = .ok (.iload_n 3, 1) := by decide +kernel
theorem dX11_laysShape_81 : decode cX11_laysShape 81 = .ok (.laload, 1) := by decide +kernel
theorem dX11_laysShape_82 : decode cX11_laysShape 82 = .ok (.aload_n 0, 1) := by decide +kernel
theorem dX11_laysShape_83 : decode cX11_laysShape 83 = .ok (.getfield 41, 3) := by decide +kernel
theorem dX11_laysShape_86 : decode cX11_laysShape 86 = .ok (.iload_n 2, 1) := by decide +kernel
theorem dX11_laysShape_87 : decode cX11_laysShape 87 = .ok (.laload, 1) := by decide +kernel
theorem dX11_laysShape_88 : decode cX11_laysShape 88 = .ok (.lmul, 1) := by decide +kernel
theorem dX11_laysShape_89 : decode cX11_laysShape 89 = .ok (.aload_n 0, 1) := by decide +kernel
theorem dX11_laysShape_90 : decode cX11_laysShape 90 = .ok (.getfield 38, 3) := by decide +kernel
theorem dX11_laysShape_93 : decode cX11_laysShape 93 = .ok (.iload_n 2, 1) := by decide +kernel
theorem dX11_laysShape_94 : decode cX11_laysShape 94 = .ok (.laload, 1) := by decide +kernel
theorem dX11_laysShape_95 : decode cX11_laysShape 95 = .ok (.aload_n 0, 1) := by decide +kernel
theorem dX11_laysShape_96 : decode cX11_laysShape 96 = .ok (.getfield 41, 3) := by decide +kernel
theorem dX11_laysShape_99 : decode cX11_laysShape 99 = .ok (.iload_n 3, 1) := by decide +kernel
theorem dX11_laysShape_100 : decode cX11_laysShape 100 = .ok (.laload, 1) := by decide +kernel
theorem dX11_laysShape_101 : decode cX11_laysShape 101 = .ok (.lmul, 1) := by decide +kernel
theorem dX11_laysShape_102 : decode cX11_laysShape 102 = .ok (.lcmp, 1) := by decide +kernel
theorem dX11_laysShape_103 : decode cX11_laysShape 103 = .ok (.ifCond .ge 11, 3) := by decide +kernel
theorem dX11_laysShape_106 : decode cX11_laysShape 106 = .ok (.aload_n 0, 1) := by decide +kernel
theorem dX11_laysShape_107 : decode cX11_laysShape 107 = .ok (.iload_n 2, 1) := by decide +kernel
theorem dX11_laysShape_108 : decode cX11_laysShape 108 = .ok (.iload_n 3, 1) := by decide +kernel
theorem dX11_laysShape_109 : decode cX11_laysShape 109 = .ok (.invokevirtual 163, 3) := by decide +kernel
theorem dX11_laysShape_112 : decode cX11_laysShape 112 = .ok (.iconst 1, 1) := by decide +kernel
theorem dX11_laysShape_113 : decode cX11_laysShape 113 = .ok (.istore_n 1, 1) := by decide +kernel
theorem dX11_laysShape_114 : decode cX11_laysShape 114 = .ok (.iload_n 3, 1) := by decide +kernel
theorem dX11_laysShape_115 : decode cX11_laysShape 115 = .ok (.istore_n 2, 1) := by decide +kernel
theorem dX11_laysShape_116 : decode cX11_laysShape 116 = .ok (.iinc 3 1, 3) := by decide +kernel
theorem dX11_laysShape_119 : decode cX11_laysShape 119 = .ok (.goto (-65), 3) := by decide +kernel
theorem dX11_laysShape_122 : decode cX11_laysShape 122 = .ok (.goto (-78), 3) := by decide +kernel
theorem dX11_laysShape_125 : decode cX11_laysShape 125 = .ok (.return_, 1) := by decide +kernel
def fX11_laysShape_L6  (a : Int32) (s : Sg) : Option (((Int32) ⊕ (Unit)) × Sg) :=
  if (8 : Int32) ≤ a then
  some (.inr (), s)
  else
  (aL s 57 8 a).bind fun v2 =>
  (wL s 59 8 a v2).bind fun s3 =>
  (aL s3 58 8 a).bind fun v4 =>
  (wL s3 60 8 a v4).bind fun s5 =>
  bnd (a + (1 : Int32)) fun x6 =>
  some (.inl x6, s5)
def fX11_laysShape_L54  (a : Int32 × Int32 × Int32) (s : Sg) : Option (((Int32 × Int32 × Int32) ⊕ (Int32)) × Sg) :=
  if (8 : Int32) ≤ a.2.2 then
  some (.inr a.1, s)
  else
  (aL s 58 8 a.2.2).bind fun v2 =>
  ((if (lg_cmp v2 (0 : Int64)) ≤ 0 then
  some (a.1, a.2.1, s)
  else
  ((if a.2.1 = (-1 : Int32) then
  some (a.1, s)
  else
  (aL s 59 8 a.2.2).bind fun v10 =>
  (aL s 60 8 a.2.1).bind fun v11 =>
  (aL s 59 8 a.2.1).bind fun v12 =>
  (aL s 60 8 a.2.2).bind fun v13 =>
  if 0 ≤ (lg_cmp (v10 * v11) (v12 * v13)) then
  some (a.1, s)
  else
  (fX11_joins a.2.1 a.2.2 s).bind fun w15 =>
  some ((1 : Int32), w15)) : Option (Int32 × Sg)).bind fun w7 =>
  some (w7.1, a.2.2, w7.2)) : Option (Int32 × Int32 × Sg)).bind fun w3 =>
  bnd (a.2.2 + (1 : Int32)) fun x5 =>
  some (.inl (w3.1, w3.2.1, x5), w3.2.2)
def fX11_laysShape_L44  (a : Int32) (s : Sg) : Option (((Int32) ⊕ (Unit)) × Sg) :=
  if a = 0 then
  some (.inr (), s)
  else
  (lpG (fX11_laysShape_L54) FU ((0 : Int32), (-1 : Int32), (0 : Int32)) s).bind fun w2 =>
  some (.inl w2.1, w2.2)
def fX11_laysShape  (s : Sg) : Option (Sg) :=
  (fX11_laysLanes s).bind fun w1 =>
  (lpG (fX11_laysShape_L6) FU (0 : Int32) w1).bind fun w2 =>
  (lpG (fX11_laysShape_L44) FU (1 : Int32) w2.2).bind fun w3 =>
  some w3.2
theorem ct_X11_laysShape {g : Gl}  {s : Sg} {w : Sg}  (h : fX11_laysShape s = some w) : Ct SS g iX11_laysShape 4 90 [.ref (gad g 49)] s (Dt none w) := by
  refine Ct.ofV (by decide +kernel) 3 (lv0 := [some (.ref (gad g 49)), none, none, none]) rfl rfl (fun M hC => ?_)
  have hP : (Dt none w) none w := ⟨rfl, rfl⟩
  generalize Dt none w = P at hP ⊢
  unfold fX11_laysShape at h
  refine v_aload_n (pc := 0) hC dX11_laysShape_0 rfl ?_
  obtain ⟨w1, hw1, h⟩ := obd_s h
  refine v_cV (pc := 1) [] [] gm_X11_laysLanes hC s_49 rfl rfl (ct_X11_laysLanes  hw1) ml_X11_160 rfl rfl rfl rfl rfl rfl dX11_laysShape_1 ?_
  refine v_iconst (pc := 4) (0 : Int32) rfl hC dX11_laysShape_4 ?_
  refine v_istore_n (pc := 5) (lv' := [some (.ref (gad g 49)), some (.int (0 : Int32)), none, none]) hC dX11_laysShape_5 rfl rfl rfl rfl ?_
  obtain ⟨w2, hw2, h⟩ := obd_s h
  have kx47 : V SS g M iX11_laysShape (PQ SS g M P) 42 [some (.ref (gad g 49)), none, none, none] [] w2.2 := by
    refine v_iconst (pc := 42) (1 : Int32) rfl hC dX11_laysShape_42 ?_
    refine v_istore_n (pc := 43) (lv' := [some (.ref (gad g 49)), some (.int (1 : Int32)), none, none]) hC dX11_laysShape_43 rfl rfl rfl rfl ?_
    obtain ⟨w3, hw3, h⟩ := obd_s h
    have kx34 : V SS g M iX11_laysShape (PQ SS g M P) 125 [none, none, none, none] [] w3.2 := by
      obtain rfl := Option.some.inj h
      exact v_vret (pc := 125) hC rfl dX11_laysShape_125 hP
    refine V.ls (ls_some (ls_some (ls_none (ls_none ls_nil)))) (v_loop (pc := 44) (fun a6 => [some (.ref (gad g 49)), some (.int a6), none, none]) (fun z t => V SS g M iX11_laysShape (PQ SS g M P) 125 [none, none, none, none] [] t) (fun a6 s4 u5 hu5 k7 k8 => ?_) _ _ _ _ hw3 kx34)
    unfold fX11_laysShape_L44 at hu5
    refine v_iload_n (pc := 44) hC dX11_laysShape_44 rfl ?_
    refine v_if_eq (pc := 45) (tgt := 125) hC dX11_laysShape_45 rfl (fun c10 => ?_) (fun c10 => ?_)
    · replace hu5 := (if_pos c10).symm.trans hu5
      obtain rfl := Option.some.inj hu5
      exact V.ls (ls_none (ls_none (ls_none (ls_none ls_nil)))) (k8 _ rfl)
    · replace hu5 := (if_neg c10).symm.trans hu5
      refine v_iconst (pc := 48) (0 : Int32) rfl hC dX11_laysShape_48 ?_
      refine v_istore_n (pc := 49) (lv' := [some (.ref (gad g 49)), some (.int (0 : Int32)), none, none]) hC dX11_laysShape_49 rfl rfl rfl rfl ?_
      refine v_iconst (pc := 50) (-1 : Int32) rfl hC dX11_laysShape_50 ?_
      refine v_istore_n (pc := 51) (lv' := [some (.ref (gad g 49)), some (.int (0 : Int32)), some (.int (-1 : Int32)), none]) hC dX11_laysShape_51 rfl rfl rfl rfl ?_
      refine v_iconst (pc := 52) (0 : Int32) rfl hC dX11_laysShape_52 ?_
      refine v_istore_n (pc := 53) (lv' := [some (.ref (gad g 49)), some (.int (0 : Int32)), some (.int (-1 : Int32)), some (.int (0 : Int32))]) hC dX11_laysShape_53 rfl rfl rfl rfl ?_
      obtain ⟨w11, hw11, hu5⟩ := obd_s hu5
      have kx33 : V SS g M iX11_laysShape (PQ SS g M P) 122 [some (.ref (gad g 49)), some (.int w11.1), none, none] [] w11.2 := by
        refine v_goto (pc := 122) (tgt := 44) hC dX11_laysShape_122 rfl ?_
        obtain rfl := Option.some.inj hu5
        exact V.ls (ls_some (ls_some (ls_none (ls_none ls_nil)))) (k7 _ rfl)
      refine V.ls (ls_some (ls_some (ls_some (ls_some ls_nil)))) (v_loop (pc := 54) (fun a14 => [some (.ref (gad g 49)), some (.int a14.1), some (.int a14.2.1), some (.int a14.2.2)]) (fun z t => V SS g M iX11_laysShape (PQ SS g M P) 122 [some (.ref (gad g 49)), some (.int z), none, none] [] t) (fun a14 s12 u13 hu13 k15 k16 => ?_) _ _ _ _ hw11 kx33)
      unfold fX11_laysShape_L54 at hu13
      refine v_iload_n (pc := 54) hC dX11_laysShape_54 rfl ?_
      refine v_bipush (pc := 55) (8 : Int32) rfl hC dX11_laysShape_55 ?_
      refine v_ic_ge (pc := 57) (tgt := 122) hC dX11_laysShape_57 rfl (fun c18 => ?_) (fun c18 => ?_)
      · replace hu13 := (if_pos c18).symm.trans hu13
        obtain rfl := Option.some.inj hu13
        exact V.ls (ls_some (ls_some (ls_none (ls_none ls_nil)))) (k16 _ rfl)
      · replace hu13 := (if_neg c18).symm.trans hu13
        refine v_aload_n (pc := 60) hC dX11_laysShape_60 rfl ?_
        refine v_gt (pc := 61) 10 (.ref (gad g 58)) hC s_49 rfl rfl rfl rfl fl_X11_35 dX11_laysShape_61 ?_
        refine v_iload_n (pc := 64) hC dX11_laysShape_64 rfl ?_
        obtain ⟨v19, hv19, hu13⟩ := obd_s hu13
        refine v_aL (pc := 65) hC s_58 hv19 dX11_laysShape_65 ?_
        refine v_lconst (pc := 66) (0 : Int64) rfl hC dX11_laysShape_66 ?_
        refine v_lcmp (pc := 67) hC dX11_laysShape_67 ?_
        obtain ⟨w20, hw20, hu13⟩ := obd_s hu13
        have kj21 : V SS g M iX11_laysShape (PQ SS g M P) 116 [some (.ref (gad g 49)), some (.int w20.1), some (.int w20.2.1), some (.int a14.2.2)] [] w20.2.2 := by
          obtain ⟨x22, hx22, hu13⟩ := bnd_s hu13
          refine v_iinc (pc := 116) (lv' := [some (.ref (gad g 49)), some (.int w20.1), some (.int w20.2.1), some (.int x22)]) (1 : Int32) rfl hx22 hC dX11_laysShape_116 rfl rfl rfl rfl ?_
          refine v_goto (pc := 119) (tgt := 54) hC dX11_laysShape_119 rfl ?_
          obtain rfl := Option.some.inj hu13
          exact V.ls (ls_some (ls_some (ls_some (ls_some ls_nil)))) (k15 _ rfl)
        refine v_if_le (pc := 68) (tgt := 116) hC dX11_laysShape_68 rfl (fun c23 => ?_) (fun c23 => ?_)
        · replace hw20 := (if_pos c23).symm.trans hw20
          obtain rfl := Option.some.inj hw20
          exact V.ls (ls_some (ls_some (ls_some (ls_some ls_nil)))) kj21
        · replace hw20 := (if_neg c23).symm.trans hw20
          refine v_iload_n (pc := 71) hC dX11_laysShape_71 rfl ?_
          refine v_iconst (pc := 72) (-1 : Int32) rfl hC dX11_laysShape_72 ?_
          obtain ⟨w24, hw24, hw20⟩ := obd_s hw20
          have kj25 : V SS g M iX11_laysShape (PQ SS g M P) 114 [some (.ref (gad g 49)), some (.int w24.1), none, some (.int a14.2.2)] [] w24.2 := by
            refine v_iload_n (pc := 114) hC dX11_laysShape_114 rfl ?_
            refine v_istore_n (pc := 115) (lv' := [some (.ref (gad g 49)), some (.int w24.1), some (.int a14.2.2), some (.int a14.2.2)]) hC dX11_laysShape_115 rfl rfl rfl rfl ?_
            obtain rfl := Option.some.inj hw20
            exact V.ls (ls_some (ls_some (ls_some (ls_some ls_nil)))) kj21
          refine v_ic_eq (pc := 73) (tgt := 114) hC dX11_laysShape_73 rfl (fun c26 => ?_) (fun c26 => ?_)
          · replace hw24 := (if_pos c26).symm.trans hw24
            obtain rfl := Option.some.inj hw24
            exact V.ls (ls_some (ls_some (ls_none (ls_some ls_nil)))) kj25
          · replace hw24 := (if_neg c26).symm.trans hw24
            refine v_aload_n (pc := 76) hC dX11_laysShape_76 rfl ?_
            refine v_gt (pc := 77) 11 (.ref (gad g 59)) hC s_49 rfl rfl rfl rfl fl_X11_38 dX11_laysShape_77 ?_
            refine v_iload_n (pc := 80) hC dX11_laysShape_80 rfl ?_
            obtain ⟨v27, hv27, hw24⟩ := obd_s hw24
            refine v_aL (pc := 81) hC s_59 hv27 dX11_laysShape_81 ?_
            refine v_aload_n (pc := 82) hC dX11_laysShape_82 rfl ?_
            refine v_gt (pc := 83) 12 (.ref (gad g 60)) hC s_49 rfl rfl rfl rfl fl_X11_41 dX11_laysShape_83 ?_
            refine v_iload_n (pc := 86) hC dX11_laysShape_86 rfl ?_
            obtain ⟨v28, hv28, hw24⟩ := obd_s hw24
            refine v_aL (pc := 87) hC s_60 hv28 dX11_laysShape_87 ?_
            refine v_lmul (pc := 88) hC dX11_laysShape_88 ?_
            refine v_aload_n (pc := 89) hC dX11_laysShape_89 rfl ?_
            refine v_gt (pc := 90) 11 (.ref (gad g 59)) hC s_49 rfl rfl rfl rfl fl_X11_38 dX11_laysShape_90 ?_
            refine v_iload_n (pc := 93) hC dX11_laysShape_93 rfl ?_
            obtain ⟨v29, hv29, hw24⟩ := obd_s hw24
            refine v_aL (pc := 94) hC s_59 hv29 dX11_laysShape_94 ?_
            refine v_aload_n (pc := 95) hC dX11_laysShape_95 rfl ?_
            refine v_gt (pc := 96) 12 (.ref (gad g 60)) hC s_49 rfl rfl rfl rfl fl_X11_41 dX11_laysShape_96 ?_
            refine v_iload_n (pc := 99) hC dX11_laysShape_99 rfl ?_
            obtain ⟨v30, hv30, hw24⟩ := obd_s hw24
            refine v_aL (pc := 100) hC s_60 hv30 dX11_laysShape_100 ?_
            refine v_lmul (pc := 101) hC dX11_laysShape_101 ?_
            refine v_lcmp (pc := 102) hC dX11_laysShape_102 ?_
            refine v_if_ge (pc := 103) (tgt := 114) hC dX11_laysShape_103 rfl (fun c31 => ?_) (fun c31 => ?_)
            · replace hw24 := (if_pos c31).symm.trans hw24
              obtain rfl := Option.some.inj hw24
              exact V.ls (ls_some (ls_some (ls_none (ls_some ls_nil)))) kj25
            · replace hw24 := (if_neg c31).symm.trans hw24
              refine v_aload_n (pc := 106) hC dX11_laysShape_106 rfl ?_
              refine v_iload_n (pc := 107) hC dX11_laysShape_107 rfl ?_
              refine v_iload_n (pc := 108) hC dX11_laysShape_108 rfl ?_
              obtain ⟨w32, hw32, hw24⟩ := obd_s hw24
              refine v_cV (pc := 109) [] [] gm_X11_joins hC s_49 rfl rfl (ct_X11_joins  hw32) ml_X11_163 rfl rfl rfl rfl rfl rfl dX11_laysShape_109 ?_
              refine v_iconst (pc := 112) (1 : Int32) rfl hC dX11_laysShape_112 ?_
              refine v_istore_n (pc := 113) (lv' := [some (.ref (gad g 49)), some (.int (1 : Int32)), some (.int a14.2.1), some (.int a14.2.2)]) hC dX11_laysShape_113 rfl rfl rfl rfl ?_
              obtain rfl := Option.some.inj hw24
              exact V.ls (ls_some (ls_some (ls_none (ls_some ls_nil)))) kj25
  refine V.ls (ls_some (ls_some (ls_none (ls_none ls_nil)))) (v_loop (pc := 6) (fun a37 => [some (.ref (gad g 49)), some (.int a37), none, none]) (fun z t => V SS g M iX11_laysShape (PQ SS g M P) 42 [some (.ref (gad g 49)), none, none, none] [] t) (fun a37 s35 u36 hu36 k38 k39 => ?_) _ _ _ _ hw2 kx47)
  unfold fX11_laysShape_L6 at hu36
  refine v_iload_n (pc := 6) hC dX11_laysShape_6 rfl ?_
  refine v_bipush (pc := 7) (8 : Int32) rfl hC dX11_laysShape_7 ?_
  refine v_ic_ge (pc := 9) (tgt := 42) hC dX11_laysShape_9 rfl (fun c41 => ?_) (fun c41 => ?_)
  · replace hu36 := (if_pos c41).symm.trans hu36
    obtain rfl := Option.some.inj hu36
    exact V.ls (ls_some (ls_none (ls_none (ls_none ls_nil)))) (k39 _ rfl)
  · replace hu36 := (if_neg c41).symm.trans hu36
    refine v_aload_n (pc := 12) hC dX11_laysShape_12 rfl ?_
    refine v_gt (pc := 13) 11 (.ref (gad g 59)) hC s_49 rfl rfl rfl rfl fl_X11_38 dX11_laysShape_13 ?_
    refine v_iload_n (pc := 16) hC dX11_laysShape_16 rfl ?_
    refine v_aload_n (pc := 17) hC dX11_laysShape_17 rfl ?_
    refine v_gt (pc := 18) 9 (.ref (gad g 57)) hC s_49 rfl rfl rfl rfl fl_X11_31 dX11_laysShape_18 ?_
    refine v_iload_n (pc := 21) hC dX11_laysShape_21 rfl ?_
    obtain ⟨v42, hv42, hu36⟩ := obd_s hu36
    refine v_aL (pc := 22) hC s_57 hv42 dX11_laysShape_22 ?_
    obtain ⟨s43, hs43, hu36⟩ := obd_s hu36
    refine v_wL (pc := 23) hC s_59 hs43 dX11_laysShape_23 ?_
    refine v_aload_n (pc := 24) hC dX11_laysShape_24 rfl ?_
    refine v_gt (pc := 25) 12 (.ref (gad g 60)) hC s_49 rfl rfl rfl rfl fl_X11_41 dX11_laysShape_25 ?_
    refine v_iload_n (pc := 28) hC dX11_laysShape_28 rfl ?_
    refine v_aload_n (pc := 29) hC dX11_laysShape_29 rfl ?_
    refine v_gt (pc := 30) 10 (.ref (gad g 58)) hC s_49 rfl rfl rfl rfl fl_X11_35 dX11_laysShape_30 ?_
    refine v_iload_n (pc := 33) hC dX11_laysShape_33 rfl ?_
    obtain ⟨v44, hv44, hu36⟩ := obd_s hu36
    refine v_aL (pc := 34) hC s_58 hv44 dX11_laysShape_34 ?_
    obtain ⟨s45, hs45, hu36⟩ := obd_s hu36
    refine v_wL (pc := 35) hC s_60 hs45 dX11_laysShape_35 ?_
    obtain ⟨x46, hx46, hu36⟩ := bnd_s hu36
    refine v_iinc (pc := 36) (lv' := [some (.ref (gad g 49)), some (.int x46), none, none]) (1 : Int32) rfl hx46 hC dX11_laysShape_36 rfl rfl rfl rfl ?_
    refine v_goto (pc := 39) (tgt := 6) hC dX11_laysShape_39 rfl ?_
    obtain rfl := Option.some.inj hu36
    exact V.ls (ls_some (ls_some (ls_none (ls_none ls_nil)))) (k38 _ rfl)
theorem dX11_lays_0 : decode cX11_lays 0 = .ok (.lload_n 1, 1) := by decide +kernel
theorem dX11_lays_1 : decode cX11_lays 1 = .ok (.lload_n 3, 1) := by decide +kernel
theorem dX11_lays_2 : decode cX11_lays 2 = .ok (.invokestatic 86, 3) := by decide +kernel
theorem dX11_lays_5 : decode cX11_lays 5 = .ok (.lstore 5, 2) := by decide +kernel
theorem dX11_lays_7 : decode cX11_lays 7 = .ok (.aload_n 0, 1) := by decide +kernel
theorem dX11_lays_8 : decode cX11_lays 8 = .ok (.lload_n 1, 1) := by decide +kernel
theorem dX11_lays_9 : decode cX11_lays 9 = .ok (.lload 5, 2) := by decide +kernel
theorem dX11_lays_11 : decode cX11_lays 11 = .ok (.ldiv, 1) := by decide +kernel
theorem dX11_lays_12 : decode cX11_lays 12 = .ok (.putfield 167, 3) := by decide +kernel
theorem dX11_lays_15 : decode cX11_lays 15 = .ok (.aload_n 0, 1) := by decide +kernel
theorem dX11_lays_16 : decode cX11_lays 16 = .ok (.lload_n 3, 1) := by decide +kernel
theorem dX11_lays_17 : decode cX11_lays 17 = .ok (.lload 5, 2) := by decide +kernel
theorem dX11_lays_19 : decode cX11_lays 19 = .ok (.ldiv, 1) := by decide +kernel
theorem dX11_lays_20 : decode cX11_lays 20 = .ok (.putfield 171, 3) := by decide +kernel
theorem dX11_lays_23 : decode cX11_lays 23 = .ok (.return_, 1) := by decide +kernel
def fX11_lays (x0_ : Int64) (x1_ : Int64) (s : Sg) : Option (Sg) :=
  (fX11_divisor x0_ x1_ s).bind fun w1 =>
  (dL x0_ w1.1).bind fun v2 =>
  bnd (sL w1.2 49 13 v2) fun s3 =>
  (dL x1_ w1.1).bind fun v4 =>
  bnd (sL s3 49 14 v4) fun s5 =>
  some s5
theorem ct_X11_lays {g : Gl} {x0_ : Int64} {x1_ : Int64} {s : Sg} {w : Sg}  (h : fX11_lays x0_ x1_ s = some w) : Ct SS g iX11_lays 1 29 [.ref (gad g 49), .long x0_, .long x1_] s (Dt none w) := by
  refine Ct.ofV (by decide +kernel) 2 (lv0 := [some (.ref (gad g 49)), some (.long x0_), none, some (.long x1_), none, none, none]) rfl rfl (fun M hC => ?_)
  have hP : (Dt none w) none w := ⟨rfl, rfl⟩
  generalize Dt none w = P at hP ⊢
  unfold fX11_lays at h
  refine v_lload_n (pc := 0) hC dX11_lays_0 rfl ?_
  refine v_lload_n (pc := 1) hC dX11_lays_1 rfl ?_
  obtain ⟨w1, hw1, h⟩ := obd_s h
  refine v_cS (pc := 2) [] [.long w1.1] gm_X11_divisor hC (ct_X11_divisor  hw1) ml_X11_86 rfl rfl rfl rfl rfl rfl dX11_lays_2 ?_
  refine v_lstore (pc := 5) (lv' := [some (.ref (gad g 49)), some (.long x0_), none, some (.long x1_), none, some (.long w1.1), none]) hC dX11_lays_5 rfl rfl rfl rfl ?_
  refine v_aload_n (pc := 7) hC dX11_lays_7 rfl ?_
  refine v_lload_n (pc := 8) hC dX11_lays_8 rfl ?_
  refine v_lload (pc := 9) hC dX11_lays_9 rfl ?_
  obtain ⟨v2, hv2, h⟩ := obd_s h
  refine v_dL (pc := 11) hC hv2 dX11_lays_11 ?_
  obtain ⟨s3, hs3, h⟩ := bnd_s h
  refine v_pL (pc := 12) 13 hC s_49 rfl rfl rfl rfl rfl rfl fl_X11_167 hs3 dX11_lays_12 ?_
  refine v_aload_n (pc := 15) hC dX11_lays_15 rfl ?_
  refine v_lload_n (pc := 16) hC dX11_lays_16 rfl ?_
  refine v_lload (pc := 17) hC dX11_lays_17 rfl ?_
  obtain ⟨v4, hv4, h⟩ := obd_s h
  refine v_dL (pc := 19) hC hv4 dX11_lays_19 ?_
  obtain ⟨s5, hs5, h⟩ := bnd_s h
  refine v_pL (pc := 20) 14 hC s_49 rfl rfl rfl rfl rfl rfl fl_X11_171 hs5 dX11_lays_20 ?_
  obtain rfl := Option.some.inj h
  exact v_vret (pc := 23) hC rfl dX11_lays_23 hP
theorem dX11_adds_0 : decode cX11_adds 0 = .ok (.aload_n 0, 1) := by decide +kernel
theorem dX11_adds_1 : decode cX11_adds 1 = .ok (.aload_n 0, 1) := by decide +kernel
theorem dX11_adds_2 : decode cX11_adds 2 = .ok (.getfield 167, 3) := by decide +kernel
theorem dX11_adds_5 : decode cX11_adds 5 = .ok (.lload_n 3, 1) := by decide +kernel
theorem dX11_adds_6 : decode cX11_adds 6 = .ok (.lmul, 1) := by decide +kernel
theorem dX11_adds_7 : decode cX11_adds 7 = .ok (.lload_n 1, 1) := by decide +kernel
theorem dX11_adds_8 : decode cX11_adds 8 = .ok (.aload_n 0, 1) := by decide +kernel
theorem dX11_adds_9 : decode cX11_adds 9 = .ok (.getfield 171, 3) := by decide +kernel
theorem dX11_adds_12 : decode cX11_adds 12 = .ok (.lmul, 1) := by decide +kernel
theorem dX11_adds_13 : decode cX11_adds 13 = .ok (.ladd, 1) := by decide +kernel
theorem dX11_adds_14 : decode cX11_adds 14 = .ok (.aload_n 0, 1) := by decide +kernel
theorem dX11_adds_15 : decode cX11_adds 15 = .ok (.getfield 171, 3) := by decide +kernel
theorem dX11_adds_18 : decode cX11_adds 18 = .ok (.lload_n 3, 1) := by decide +kernel
theorem dX11_adds_19 : decode cX11_adds 19 = .ok (.lmul, 1) := by decide +kernel
theorem dX11_adds_20 : decode cX11_adds 20 = .ok (.invokevirtual 174, 3) := by decide +kernel
theorem dX11_adds_23 : decode cX11_adds 23 = .ok (.return_, 1) := by decide +kernel
def fX11_adds (x0_ : Int64) (x1_ : Int64) (s : Sg) : Option (Sg) :=
  (fX11_lays (((gL s 49 13) * x1_) + (x0_ * (gL s 49 14))) ((gL s 49 14) * x1_) s).bind fun w1 =>
  some w1
theorem ct_X11_adds {g : Gl} {x0_ : Int64} {x1_ : Int64} {s : Sg} {w : Sg}  (h : fX11_adds x0_ x1_ s = some w) : Ct SS g iX11_adds 2 55 [.ref (gad g 49), .long x0_, .long x1_] s (Dt none w) := by
  refine Ct.ofV (by decide +kernel) 0 (lv0 := [some (.ref (gad g 49)), some (.long x0_), none, some (.long x1_), none]) rfl rfl (fun M hC => ?_)
  have hP : (Dt none w) none w := ⟨rfl, rfl⟩
  generalize Dt none w = P at hP ⊢
  unfold fX11_adds at h
  refine v_aload_n (pc := 0) hC dX11_adds_0 rfl ?_
  refine v_aload_n (pc := 1) hC dX11_adds_1 rfl ?_
  refine v_gt (pc := 2) 13 (.long (gL s 49 13)) hC s_49 rfl rfl rfl rfl fl_X11_167 dX11_adds_2 ?_
  refine v_lload_n (pc := 5) hC dX11_adds_5 rfl ?_
  refine v_lmul (pc := 6) hC dX11_adds_6 ?_
  refine v_lload_n (pc := 7) hC dX11_adds_7 rfl ?_
  refine v_aload_n (pc := 8) hC dX11_adds_8 rfl ?_
  refine v_gt (pc := 9) 14 (.long (gL s 49 14)) hC s_49 rfl rfl rfl rfl fl_X11_171 dX11_adds_9 ?_
  refine v_lmul (pc := 12) hC dX11_adds_12 ?_
  refine v_ladd (pc := 13) hC dX11_adds_13 ?_
  refine v_aload_n (pc := 14) hC dX11_adds_14 rfl ?_
  refine v_gt (pc := 15) 14 (.long (gL s 49 14)) hC s_49 rfl rfl rfl rfl fl_X11_171 dX11_adds_15 ?_
  refine v_lload_n (pc := 18) hC dX11_adds_18 rfl ?_
  refine v_lmul (pc := 19) hC dX11_adds_19 ?_
  obtain ⟨w1, hw1, h⟩ := obd_s h
  refine v_cV (pc := 20) [] [] gm_X11_lays hC s_49 rfl rfl (ct_X11_lays  hw1) ml_X11_174 rfl rfl rfl rfl rfl rfl dX11_adds_20 ?_
  obtain rfl := Option.some.inj h
  exact v_vret (pc := 23) hC rfl dX11_adds_23 hP
theorem dX11_lanesMany_0 : decode cX11_lanesMany 0 = .ok (.iconst 0, 1) := by decide +kernel
theorem dX11_lanesMany_1 : decode cX11_lanesMany 1 = .ok (.istore_n 1, 1) := by decide +kernel
theorem dX11_lanesMany_2 : decode cX11_lanesMany 2 = .ok (.iconst 0, 1) := by decide +kernel
theorem dX11_lanesMany_3 : decode cX11_lanesMany 3 = .ok (.istore_n 2, 1) := by decide +kernel
theorem dX11_lanesMany_4 : decode cX11_lanesMany 4 = .ok (.iload_n 2, 1) := by decide +kernel
theorem dX11_lanesMany_5 : decode cX11_lanesMany 5 = .ok (.bipush 8, 2) := by decide +kernel
theorem dX11_lanesMany_7 : decode cX11_lanesMany 7 = .ok (.if_icmp .ge 28, 3) := by decide +kernel
theorem dX11_lanesMany_10 : decode cX11_lanesMany 10 = .ok (.iload_n 1, 1) := by decide +kernel
theorem dX11_lanesMany_11 : decode cX11_lanesMany 11 = .ok (.aload_n 0, 1) := by decide +kernel
theorem dX11_lanesMany_12 : decode cX11_lanesMany 12 = .ok (.getfield 35, 3) := by decide +kernel
theorem dX11_lanesMany_15 : decode cX11_lanesMany 15 = .ok (.iload_n 2, 1) := by decide +kernel
theorem dX11_lanesMany_16 : decode cX11_lanesMany 16 = .ok (.laload, 1) := by decide +kernel
theorem dX11_lanesMany_17 : decode cX11_lanesMany 17 = .ok (.lconst 0, 1) := by decide +kernel
theorem dX11_lanesMany_18 : decode cX11_lanesMany 18 = .ok (.lcmp, 1) := by decide +kernel
theorem dX11_lanesMany_19 : decode cX11_lanesMany 19 = .ok (.ifCond .le 7, 3) := by decide +kernel
theorem dX11_lanesMany_22 : decode cX11_lanesMany 22 = .ok (.iconst 1, 1) := by decide +kernel
theorem dX11_lanesMany_23 : decode cX11_lanesMany 23 = .ok (.goto 4, 3) := by decide +kernel
theorem dX11_lanesMany_26 : decode cX11_lanesMany 26 = .ok (.iconst 0, 1) := by decide +kernel
theorem dX11_lanesMany_27 : decode cX11_lanesMany 27 = .ok (.iadd, 1) := by decide +kernel
theorem dX11_lanesMany_28 : decode cX11_lanesMany 28 = .ok (.istore_n 1, 1) := by decide +kernel
theorem dX11_lanesMany_29 : decode cX11_lanesMany 29 = .ok (.iinc 2 1, 3) := by decide +kernel
theorem dX11_lanesMany_32 : decode cX11_lanesMany 32 = .ok (.goto (-28), 3) := by decide +kernel
theorem dX11_lanesMany_35 : decode cX11_lanesMany 35 = .ok (.iload_n 1, 1) := by decide +kernel
theorem dX11_lanesMany_36 : decode cX11_lanesMany 36 = .ok (.ireturn, 1) := by decide +kernel
def fX11_lanesMany_L4  (a : Int32 × Int32) (s : Sg) : Option (((Int32 × Int32) ⊕ (Int32)) × Sg) :=
  if (8 : Int32) ≤ a.2 then
  some (.inr a.1, s)
  else
  (aL s 58 8 a.2).bind fun v2 =>
  ((if (lg_cmp v2 (0 : Int64)) ≤ 0 then
  some (0 : Int32)
  else
  some (1 : Int32)) : Option (Int32)).bind fun w3 =>
  bnd (a.1 + w3) fun x5 =>
  bnd (a.2 + (1 : Int32)) fun x6 =>
  some (.inl (x5, x6), s)
def fX11_lanesMany  (s : Sg) : Option (Int32 × Sg) :=
  (lpG (fX11_lanesMany_L4) FU ((0 : Int32), (0 : Int32)) s).bind fun w1 =>
  some (w1.1, w1.2)
theorem ct_X11_lanesMany {g : Gl}  {s : Sg} {w : Int32 × Sg}  (h : fX11_lanesMany s = some w) : Ct SS g iX11_lanesMany 0 0 [.ref (gad g 49)] s (Dt (some (.int w.1)) w.2) := by
  refine Ct.ofV (by decide +kernel) 2 (lv0 := [some (.ref (gad g 49)), none, none]) rfl rfl (fun M hC => ?_)
  have hP : (Dt (some (.int w.1)) w.2) (some (.int w.1)) w.2 := ⟨rfl, rfl⟩
  generalize Dt (some (.int w.1)) w.2 = P at hP ⊢
  unfold fX11_lanesMany at h
  refine v_iconst (pc := 0) (0 : Int32) rfl hC dX11_lanesMany_0 ?_
  refine v_istore_n (pc := 1) (lv' := [some (.ref (gad g 49)), some (.int (0 : Int32)), none]) hC dX11_lanesMany_1 rfl rfl rfl rfl ?_
  refine v_iconst (pc := 2) (0 : Int32) rfl hC dX11_lanesMany_2 ?_
  refine v_istore_n (pc := 3) (lv' := [some (.ref (gad g 49)), some (.int (0 : Int32)), some (.int (0 : Int32))]) hC dX11_lanesMany_3 rfl rfl rfl rfl ?_
  obtain ⟨w1, hw1, h⟩ := obd_s h
  have kx15 : V SS g M iX11_lanesMany (PQ SS g M P) 35 [none, some (.int w1.1), none] [] w1.2 := by
    refine v_iload_n (pc := 35) hC dX11_lanesMany_35 rfl ?_
    obtain rfl := Option.some.inj h
    exact v_iret (pc := 36) hC rfl dX11_lanesMany_36 hP
  refine V.ls (ls_some (ls_some (ls_some ls_nil))) (v_loop (pc := 4) (fun a4 => [some (.ref (gad g 49)), some (.int a4.1), some (.int a4.2)]) (fun z t => V SS g M iX11_lanesMany (PQ SS g M P) 35 [none, some (.int z), none] [] t) (fun a4 s2 u3 hu3 k5 k6 => ?_) _ _ _ _ hw1 kx15)
  unfold fX11_lanesMany_L4 at hu3
  refine v_iload_n (pc := 4) hC dX11_lanesMany_4 rfl ?_
  refine v_bipush (pc := 5) (8 : Int32) rfl hC dX11_lanesMany_5 ?_
  refine v_ic_ge (pc := 7) (tgt := 35) hC dX11_lanesMany_7 rfl (fun c8 => ?_) (fun c8 => ?_)
  · replace hu3 := (if_pos c8).symm.trans hu3
    obtain rfl := Option.some.inj hu3
    exact V.ls (ls_none (ls_some (ls_none ls_nil))) (k6 _ rfl)
  · replace hu3 := (if_neg c8).symm.trans hu3
    refine v_iload_n (pc := 10) hC dX11_lanesMany_10 rfl ?_
    refine v_aload_n (pc := 11) hC dX11_lanesMany_11 rfl ?_
    refine v_gt (pc := 12) 10 (.ref (gad g 58)) hC s_49 rfl rfl rfl rfl fl_X11_35 dX11_lanesMany_12 ?_
    refine v_iload_n (pc := 15) hC dX11_lanesMany_15 rfl ?_
    obtain ⟨v9, hv9, hu3⟩ := obd_s hu3
    refine v_aL (pc := 16) hC s_58 hv9 dX11_lanesMany_16 ?_
    refine v_lconst (pc := 17) (0 : Int64) rfl hC dX11_lanesMany_17 ?_
    refine v_lcmp (pc := 18) hC dX11_lanesMany_18 ?_
    obtain ⟨w10, hw10, hu3⟩ := obd_s hu3
    have kj11 : V SS g M iX11_lanesMany (PQ SS g M P) 27 [some (.ref (gad g 49)), none, some (.int a4.2)] [.int w10, .int a4.1] s2 := by
      refine v_iadd (pc := 27) hC dX11_lanesMany_27 ?_
      obtain ⟨x12, hx12, hu3⟩ := bnd_s hu3
      refine v_istore_n (pc := 28) (lv' := [some (.ref (gad g 49)), some (.int x12), some (.int a4.2)]) hC dX11_lanesMany_28 hx12 rfl rfl rfl ?_
      obtain ⟨x13, hx13, hu3⟩ := bnd_s hu3
      refine v_iinc (pc := 29) (lv' := [some (.ref (gad g 49)), some (.int x12), some (.int x13)]) (1 : Int32) rfl hx13 hC dX11_lanesMany_29 rfl rfl rfl rfl ?_
      refine v_goto (pc := 32) (tgt := 4) hC dX11_lanesMany_32 rfl ?_
      obtain rfl := Option.some.inj hu3
      exact V.ls (ls_some (ls_some (ls_some ls_nil))) (k5 _ rfl)
    refine v_if_le (pc := 19) (tgt := 26) hC dX11_lanesMany_19 rfl (fun c14 => ?_) (fun c14 => ?_)
    · replace hw10 := (if_pos c14).symm.trans hw10
      refine v_iconst (pc := 26) (0 : Int32) rfl hC dX11_lanesMany_26 ?_
      obtain rfl := Option.some.inj hw10
      exact V.ls (ls_some (ls_none (ls_some ls_nil))) kj11
    · replace hw10 := (if_neg c14).symm.trans hw10
      refine v_iconst (pc := 22) (1 : Int32) rfl hC dX11_lanesMany_22 ?_
      refine v_goto (pc := 23) (tgt := 27) hC dX11_lanesMany_23 rfl ?_
      obtain rfl := Option.some.inj hw10
      exact V.ls (ls_some (ls_none (ls_some ls_nil))) kj11
theorem dX11_laysLane_0 : decode cX11_laysLane 0 = .ok (.iload_n 2, 1) := by decide +kernel
theorem dX11_laysLane_1 : decode cX11_laysLane 1 = .ok (.iconst 1, 1) := by decide +kernel
theorem dX11_laysLane_2 : decode cX11_laysLane 2 = .ok (.if_icmp .ne 96, 3) := by decide +kernel
theorem dX11_laysLane_5 : decode cX11_laysLane 5 = .ok (.aload_n 0, 1) := by decide +kernel
theorem dX11_laysLane_6 : decode cX11_laysLane 6 = .ok (.lconst 0, 1) := by decide +kernel
theorem dX11_laysLane_7 : decode cX11_laysLane 7 = .ok (.lconst 1, 1) := by decide +kernel
theorem dX11_laysLane_8 : decode cX11_laysLane 8 = .ok (.invokevirtual 174, 3) := by decide +kernel
theorem dX11_laysLane_11 : decode cX11_laysLane 11 = .ok (.iconst 0, 1) := by decide +kernel
theorem dX11_laysLane_12 : decode cX11_laysLane 12 = .ok (.istore_n 3, 1) := by decide +kernel
theorem dX11_laysLane_13 : decode cX11_laysLane 13 = .ok (.iload_n 3, 1) := by decide +kernel
theorem dX11_laysLane_14 : decode cX11_laysLane 14 = .ok (.bipush 8, 2) := by decide +kernel
theorem dX11_laysLane_16 : decode cX11_laysLane 16 = .ok (.if_icmp .ge 40, 3) := by decide +kernel
theorem dX11_laysLane_19 : decode cX11_laysLane 19 = .ok (.aload_n 0, 1) := by decide +kernel
theorem dX11_laysLane_20 : decode cX11_laysLane 20 = .ok (.getfield 35, 3) := by decide +kernel
theorem dX11_laysLane_23 : decode cX11_laysLane 23 = .ok (.iload_n 3, 1) := by decide +kernel
theorem dX11_laysLane_24 : decode cX11_laysLane 24 = .ok (.laload, 1) := by decide +kernel
theorem dX11_laysLane_25 : decode cX11_laysLane 25 = .ok (.lconst 0, 1) := by decide +kernel
theorem dX11_laysLane_26 : decode cX11_laysLane 26 = .ok (.lcmp, 1) := by decide +kernel
theorem dX11_laysLane_27 : decode cX11_laysLane 27 = .ok (.ifCond .le 23, 3) := by decide +kernel
theorem dX11_laysLane_30 : decode cX11_laysLane 30 = .ok (.aload_n 0, 1) := by decide +kernel
theorem dX11_laysLane_31 : decode cX11_laysLane 31 = .ok (.aload_n 0, 1) := by decide +kernel
theorem dX11_laysLane_32 : decode cX11_laysLane 32 = .ok (.getfield 31, 3) := by decide +kernel
theorem dX11_laysLane_35 : decode cX11_laysLane 35 = .ok (.iload_n 3, 1) := by decide +kernel
theorem dX11_laysLane_36 : decode cX11_laysLane 36 = .ok (.laload, 1) := by decide +kernel
theorem dX11_laysLane_37 : decode cX11_laysLane 37 = .ok (.ldc2_w 154, 3) := by decide +kernel
theorem dX11_laysLane_40 : decode cX11_laysLane 40 = .ok (.aload_n 0, 1) := by decide +kernel
theorem dX11_laysLane_41 : decode cX11_laysLane 41 = .ok (.getfield 35, 3) := by decide +kernel
theorem dX11_laysLane_44 : decode cX11_laysLane 44 = .ok (.iload_n 3, 1) := by decide +kernel
theorem dX11_laysLane_45 : decode cX11_laysLane 45 = .ok (.laload, 1) := by decide +kernel
theorem dX11_laysLane_46 : decode cX11_laysLane 46 = .ok (.lmul, 1) := by decide +kernel
theorem dX11_laysLane_47 : decode cX11_laysLane 47 = .ok (.invokevirtual 178, 3) := by decide +kernel
theorem dX11_laysLane_50 : decode cX11_laysLane 50 = .ok (.iinc 3 1, 3) := by decide +kernel
theorem dX11_laysLane_53 : decode cX11_laysLane 53 = .ok (.goto (-40), 3) := by decide +kernel
theorem dX11_laysLane_56 : decode cX11_laysLane 56 = .ok (.aload_n 0, 1) := by decide +kernel
theorem dX11_laysLane_57 : decode cX11_laysLane 57 = .ok (.aload_n 0, 1) := by decide +kernel
theorem dX11_laysLane_58 : decode cX11_laysLane 58 = .ok (.getfield 167, 3) := by decide +kernel
theorem dX11_laysLane_61 : decode cX11_laysLane 61 = .ok (.lneg, 1) := by decide +kernel
theorem dX11_laysLane_62 : decode cX11_laysLane 62 = .ok (.aload_n 0, 1) := by decide +kernel
theorem dX11_laysLane_63 : decode cX11_laysLane 63 = .ok (.getfield 171, 3) := by decide +kernel
theorem dX11_laysLane_66 : decode cX11_laysLane 66 = .ok (.aload_n 0, 1) := by decide +kernel
theorem dX11_laysLane_67 : decode cX11_laysLane 67 = .ok (.invokevirtual 181, 3) := by decide +kernel
theorem dX11_laysLane_70 : decode cX11_laysLane 70 = .ok (.i2l, 1) := by decide +kernel
theorem dX11_laysLane_71 : decode cX11_laysLane 71 = .ok (.lmul, 1) := by decide +kernel
theorem dX11_laysLane_72 : decode cX11_laysLane 72 = .ok (.invokevirtual 174, 3) := by decide +kernel
theorem dX11_laysLane_75 : decode cX11_laysLane 75 = .ok (.aload_n 0, 1) := by decide +kernel
theorem dX11_laysLane_76 : decode cX11_laysLane 76 = .ok (.aload_n 0, 1) := by decide +kernel
theorem dX11_laysLane_77 : decode cX11_laysLane 77 = .ok (.getfield 31, 3) := by decide +kernel
theorem dX11_laysLane_80 : decode cX11_laysLane 80 = .ok (.iload_n 1, 1) := by decide +kernel
theorem dX11_laysLane_81 : decode cX11_laysLane 81 = .ok (.laload, 1) := by decide +kernel
theorem dX11_laysLane_82 : decode cX11_laysLane 82 = .ok (.ldc2_w 154, 3) := by decide +kernel
theorem dX11_laysLane_85 : decode cX11_laysLane 85 = .ok (.aload_n 0, 1) := by decide +kernel
theorem dX11_laysLane_86 : decode cX11_laysLane 86 = .ok (.getfield 35, 3) := by decide +kernel
theorem dX11_laysLane_89 : decode cX11_laysLane 89 = .ok (.iload_n 1, 1) := by decide +kernel
theorem dX11_laysLane_90 : decode cX11_laysLane 90 = .ok (.laload, 1) := by decide +kernel
theorem dX11_laysLane_91 : decode cX11_laysLane 91 = .ok (.lmul, 1) := by decide +kernel
theorem dX11_laysLane_92 : decode cX11_laysLane 92 = .ok (.invokevirtual 178, 3) := by decide +kernel
theorem dX11_laysLane_95 : decode cX11_laysLane 95 = .ok (.goto 50, 3) := by decide +kernel
theorem dX11_laysLane_98 : decode cX11_laysLane 98 = .ok (.iload_n 2, 1) := by decide +kernel
theorem dX11_laysLane_99 : decode cX11_laysLane 99 = .ok (.ifCond .ne 26, 3) := by decide +kernel
theorem dX11_laysLane_102 : decode cX11_laysLane 102 = .ok (.aload_n 0, 1) := by decide +kernel
theorem dX11_laysLane_103 : decode cX11_laysLane 103 = .ok (.aload_n 0, 1) := by decide +kernel
theorem dX11_laysLane_104 : decode cX11_laysLane 104 = .ok (.getfield 31, 3) := by decide +kernel
theorem dX11_laysLane_107 : decode cX11_laysLane 107 = .ok (.iload_n 1, 1) := by decide +kernel
theorem dX11_laysLane_108 : decode cX11_laysLane 108 = .ok (.laload, 1) := by decide +kernel
theorem dX11_laysLane_109 : decode cX11_laysLane 109 = .ok (.ldc2_w 154, 3) := by decide +kernel
theorem dX11_laysLane_112 : decode cX11_laysLane 112 = .ok (.aload_n 0, 1) := by decide +kernel
theorem dX11_laysLane_113 : decode cX11_laysLane 113 = .ok (.getfield 35, 3) := by decide +kernel
theorem dX11_laysLane_116 : decode cX11_laysLane 116 = .ok (.iload_n 1, 1) := by decide +kernel
theorem dX11_laysLane_117 : decode cX11_laysLane 117 = .ok (.laload, 1) := by decide +kernel
theorem dX11_laysLane_118 : decode cX11_laysLane 118 = .ok (.lmul, 1) := by decide +kernel
theorem dX11_laysLane_119 : decode cX11_laysLane 119 = .ok (.invokevirtual 174, 3) := by decide +kernel
theorem dX11_laysLane_122 : decode cX11_laysLane 122 = .ok (.goto 23, 3) := by decide +kernel
theorem dX11_laysLane_125 : decode cX11_laysLane 125 = .ok (.aload_n 0, 1) := by decide +kernel
theorem dX11_laysLane_126 : decode cX11_laysLane 126 = .ok (.aload_n 0, 1) := by decide +kernel
theorem dX11_laysLane_127 : decode cX11_laysLane 127 = .ok (.getfield 38, 3) := by decide +kernel
theorem dX11_laysLane_130 : decode cX11_laysLane 130 = .ok (.iload_n 1, 1) := by decide +kernel
theorem dX11_laysLane_131 : decode cX11_laysLane 131 = .ok (.laload, 1) := by decide +kernel
theorem dX11_laysLane_132 : decode cX11_laysLane 132 = .ok (.ldc2_w 154, 3) := by decide +kernel
theorem dX11_laysLane_135 : decode cX11_laysLane 135 = .ok (.aload_n 0, 1) := by decide +kernel
theorem dX11_laysLane_136 : decode cX11_laysLane 136 = .ok (.getfield 41, 3) := by decide +kernel
theorem dX11_laysLane_139 : decode cX11_laysLane 139 = .ok (.iload_n 1, 1) := by decide +kernel
theorem dX11_laysLane_140 : decode cX11_laysLane 140 = .ok (.laload, 1) := by decide +kernel
theorem dX11_laysLane_141 : decode cX11_laysLane 141 = .ok (.lmul, 1) := by decide +kernel
theorem dX11_laysLane_142 : decode cX11_laysLane 142 = .ok (.invokevirtual 174, 3) := by decide +kernel
theorem dX11_laysLane_145 : decode cX11_laysLane 145 = .ok (.return_, 1) := by decide +kernel
def fX11_laysLane_L13 (p1 : Int32) (a : Int32) (s : Sg) : Option (((Int32) ⊕ (Unit)) × Sg) :=
  if (8 : Int32) ≤ a then
  some (.inr (), s)
  else
  (aL s 58 8 a).bind fun v2 =>
  ((if (lg_cmp v2 (0 : Int64)) ≤ 0 then
  some s
  else
  (aL s 57 8 a).bind fun v7 =>
  (aL s 58 8 a).bind fun v8 =>
  (fX11_adds v7 ((2 : Int64) * v8) s).bind fun w9 =>
  some w9) : Option (Sg)).bind fun w3 =>
  bnd (a + (1 : Int32)) fun x5 =>
  some (.inl x5, w3)
def fX11_laysLane (x0_ : Int32) (x1_ : Int32) (s : Sg) : Option (Sg) :=
  if x1_ = (1 : Int32) then
  (fX11_lays (0 : Int64) (1 : Int64) s).bind fun w9 =>
  (lpG (fX11_laysLane_L13 x0_) FU (0 : Int32) w9).bind fun w10 =>
  (fX11_lanesMany w10.2).bind fun w11 =>
  (fX11_lays (-(gL w10.2 49 13)) ((gL w10.2 49 14) * ((w11.1).toInt64)) w11.2).bind fun w12 =>
  (aL w12 57 8 x0_).bind fun v13 =>
  (aL w12 58 8 x0_).bind fun v14 =>
  (fX11_adds v13 ((2 : Int64) * v14) w12).bind fun w15 =>
  some w15
  else
  if x1_ = 0 then
  (aL s 57 8 x0_).bind fun v5 =>
  (aL s 58 8 x0_).bind fun v6 =>
  (fX11_lays v5 ((2 : Int64) * v6) s).bind fun w7 =>
  some w7
  else
  (aL s 59 8 x0_).bind fun v1 =>
  (aL s 60 8 x0_).bind fun v2 =>
  (fX11_lays v1 ((2 : Int64) * v2) s).bind fun w3 =>
  some w3
theorem ct_X11_laysLane {g : Gl} {x0_ : Int32} {x1_ : Int32} {s : Sg} {w : Sg}  (h : fX11_laysLane x0_ x1_ s = some w) : Ct SS g iX11_laysLane 3 79 [.ref (gad g 49), .int x0_, .int x1_] s (Dt none w) := by
  refine Ct.ofV (by decide +kernel) 1 (lv0 := [some (.ref (gad g 49)), some (.int x0_), some (.int x1_), none]) rfl rfl (fun M hC => ?_)
  have hP : (Dt none w) none w := ⟨rfl, rfl⟩
  generalize Dt none w = P at hP ⊢
  unfold fX11_laysLane at h
  refine v_iload_n (pc := 0) hC dX11_laysLane_0 rfl ?_
  refine v_iconst (pc := 1) (1 : Int32) rfl hC dX11_laysLane_1 ?_
  refine v_ic_ne (pc := 2) (tgt := 98) hC dX11_laysLane_2 rfl (fun c8 => ?_) (fun c8 => ?_)
  · replace h := (if_neg c8).symm.trans h
    refine v_iload_n (pc := 98) hC dX11_laysLane_98 rfl ?_
    refine v_if_ne (pc := 99) (tgt := 125) hC dX11_laysLane_99 rfl (fun c4 => ?_) (fun c4 => ?_)
    · replace h := (if_neg c4).symm.trans h
      refine v_aload_n (pc := 125) hC dX11_laysLane_125 rfl ?_
      refine v_aload_n (pc := 126) hC dX11_laysLane_126 rfl ?_
      refine v_gt (pc := 127) 11 (.ref (gad g 59)) hC s_49 rfl rfl rfl rfl fl_X11_38 dX11_laysLane_127 ?_
      refine v_iload_n (pc := 130) hC dX11_laysLane_130 rfl ?_
      obtain ⟨v1, hv1, h⟩ := obd_s h
      refine v_aL (pc := 131) hC s_59 hv1 dX11_laysLane_131 ?_
      refine v_ldc2 (pc := 132) (2 : Int64) kc_X11_154 hC dX11_laysLane_132 ?_
      refine v_aload_n (pc := 135) hC dX11_laysLane_135 rfl ?_
      refine v_gt (pc := 136) 12 (.ref (gad g 60)) hC s_49 rfl rfl rfl rfl fl_X11_41 dX11_laysLane_136 ?_
      refine v_iload_n (pc := 139) hC dX11_laysLane_139 rfl ?_
      obtain ⟨v2, hv2, h⟩ := obd_s h
      refine v_aL (pc := 140) hC s_60 hv2 dX11_laysLane_140 ?_
      refine v_lmul (pc := 141) hC dX11_laysLane_141 ?_
      obtain ⟨w3, hw3, h⟩ := obd_s h
      refine v_cV (pc := 142) [] [] gm_X11_lays hC s_49 rfl rfl (ct_X11_lays  hw3) ml_X11_174 rfl rfl rfl rfl rfl rfl dX11_laysLane_142 ?_
      obtain rfl := Option.some.inj h
      exact v_vret (pc := 145) hC rfl dX11_laysLane_145 hP
    · replace h := (if_pos c4).symm.trans h
      refine v_aload_n (pc := 102) hC dX11_laysLane_102 rfl ?_
      refine v_aload_n (pc := 103) hC dX11_laysLane_103 rfl ?_
      refine v_gt (pc := 104) 9 (.ref (gad g 57)) hC s_49 rfl rfl rfl rfl fl_X11_31 dX11_laysLane_104 ?_
      refine v_iload_n (pc := 107) hC dX11_laysLane_107 rfl ?_
      obtain ⟨v5, hv5, h⟩ := obd_s h
      refine v_aL (pc := 108) hC s_57 hv5 dX11_laysLane_108 ?_
      refine v_ldc2 (pc := 109) (2 : Int64) kc_X11_154 hC dX11_laysLane_109 ?_
      refine v_aload_n (pc := 112) hC dX11_laysLane_112 rfl ?_
      refine v_gt (pc := 113) 10 (.ref (gad g 58)) hC s_49 rfl rfl rfl rfl fl_X11_35 dX11_laysLane_113 ?_
      refine v_iload_n (pc := 116) hC dX11_laysLane_116 rfl ?_
      obtain ⟨v6, hv6, h⟩ := obd_s h
      refine v_aL (pc := 117) hC s_58 hv6 dX11_laysLane_117 ?_
      refine v_lmul (pc := 118) hC dX11_laysLane_118 ?_
      obtain ⟨w7, hw7, h⟩ := obd_s h
      refine v_cV (pc := 119) [] [] gm_X11_lays hC s_49 rfl rfl (ct_X11_lays  hw7) ml_X11_174 rfl rfl rfl rfl rfl rfl dX11_laysLane_119 ?_
      refine v_goto (pc := 122) (tgt := 145) hC dX11_laysLane_122 rfl ?_
      obtain rfl := Option.some.inj h
      exact v_vret (pc := 145) hC rfl dX11_laysLane_145 hP
  · replace h := (if_pos c8).symm.trans h
    refine v_aload_n (pc := 5) hC dX11_laysLane_5 rfl ?_
    refine v_lconst (pc := 6) (0 : Int64) rfl hC dX11_laysLane_6 ?_
    refine v_lconst (pc := 7) (1 : Int64) rfl hC dX11_laysLane_7 ?_
    obtain ⟨w9, hw9, h⟩ := obd_s h
    refine v_cV (pc := 8) [] [] gm_X11_lays hC s_49 rfl rfl (ct_X11_lays  hw9) ml_X11_174 rfl rfl rfl rfl rfl rfl dX11_laysLane_8 ?_
    refine v_iconst (pc := 11) (0 : Int32) rfl hC dX11_laysLane_11 ?_
    refine v_istore_n (pc := 12) (lv' := [some (.ref (gad g 49)), some (.int x0_), some (.int x1_), some (.int (0 : Int32))]) hC dX11_laysLane_12 rfl rfl rfl rfl ?_
    obtain ⟨w10, hw10, h⟩ := obd_s h
    have kx31 : V SS g M iX11_laysLane (PQ SS g M P) 56 [some (.ref (gad g 49)), some (.int x0_), none, none] [] w10.2 := by
      refine v_aload_n (pc := 56) hC dX11_laysLane_56 rfl ?_
      refine v_aload_n (pc := 57) hC dX11_laysLane_57 rfl ?_
      refine v_gt (pc := 58) 13 (.long (gL w10.2 49 13)) hC s_49 rfl rfl rfl rfl fl_X11_167 dX11_laysLane_58 ?_
      refine v_lneg (pc := 61) hC dX11_laysLane_61 ?_
      refine v_aload_n (pc := 62) hC dX11_laysLane_62 rfl ?_
      refine v_gt (pc := 63) 14 (.long (gL w10.2 49 14)) hC s_49 rfl rfl rfl rfl fl_X11_171 dX11_laysLane_63 ?_
      refine v_aload_n (pc := 66) hC dX11_laysLane_66 rfl ?_
      obtain ⟨w11, hw11, h⟩ := obd_s h
      refine v_cV (pc := 67) [.long (gL w10.2 49 14), .long (-(gL w10.2 49 13)), .ref (gad g 49)] [.int w11.1, .long (gL w10.2 49 14), .long (-(gL w10.2 49 13)), .ref (gad g 49)] gm_X11_lanesMany hC s_49 rfl rfl (ct_X11_lanesMany  hw11) ml_X11_181 rfl rfl rfl rfl rfl rfl dX11_laysLane_67 ?_
      refine v_i2l (pc := 70) hC dX11_laysLane_70 ?_
      refine v_lmul (pc := 71) hC dX11_laysLane_71 ?_
      obtain ⟨w12, hw12, h⟩ := obd_s h
      refine v_cV (pc := 72) [] [] gm_X11_lays hC s_49 rfl rfl (ct_X11_lays  hw12) ml_X11_174 rfl rfl rfl rfl rfl rfl dX11_laysLane_72 ?_
      refine v_aload_n (pc := 75) hC dX11_laysLane_75 rfl ?_
      refine v_aload_n (pc := 76) hC dX11_laysLane_76 rfl ?_
      refine v_gt (pc := 77) 9 (.ref (gad g 57)) hC s_49 rfl rfl rfl rfl fl_X11_31 dX11_laysLane_77 ?_
      refine v_iload_n (pc := 80) hC dX11_laysLane_80 rfl ?_
      obtain ⟨v13, hv13, h⟩ := obd_s h
      refine v_aL (pc := 81) hC s_57 hv13 dX11_laysLane_81 ?_
      refine v_ldc2 (pc := 82) (2 : Int64) kc_X11_154 hC dX11_laysLane_82 ?_
      refine v_aload_n (pc := 85) hC dX11_laysLane_85 rfl ?_
      refine v_gt (pc := 86) 10 (.ref (gad g 58)) hC s_49 rfl rfl rfl rfl fl_X11_35 dX11_laysLane_86 ?_
      refine v_iload_n (pc := 89) hC dX11_laysLane_89 rfl ?_
      obtain ⟨v14, hv14, h⟩ := obd_s h
      refine v_aL (pc := 90) hC s_58 hv14 dX11_laysLane_90 ?_
      refine v_lmul (pc := 91) hC dX11_laysLane_91 ?_
      obtain ⟨w15, hw15, h⟩ := obd_s h
      refine v_cV (pc := 92) [] [] gm_X11_adds hC s_49 rfl rfl (ct_X11_adds  hw15) ml_X11_178 rfl rfl rfl rfl rfl rfl dX11_laysLane_92 ?_
      refine v_goto (pc := 95) (tgt := 145) hC dX11_laysLane_95 rfl ?_
      obtain rfl := Option.some.inj h
      exact v_vret (pc := 145) hC rfl dX11_laysLane_145 hP
    refine V.ls (ls_some (ls_some (ls_none (ls_some ls_nil)))) (v_loop (pc := 13) (fun a18 => [some (.ref (gad g 49)), some (.int x0_), none, some (.int a18)]) (fun z t => V SS g M iX11_laysLane (PQ SS g M P) 56 [some (.ref (gad g 49)), some (.int x0_), none, none] [] t) (fun a18 s16 u17 hu17 k19 k20 => ?_) _ _ _ _ hw10 kx31)
    unfold fX11_laysLane_L13 at hu17
    refine v_iload_n (pc := 13) hC dX11_laysLane_13 rfl ?_
    refine v_bipush (pc := 14) (8 : Int32) rfl hC dX11_laysLane_14 ?_
    refine v_ic_ge (pc := 16) (tgt := 56) hC dX11_laysLane_16 rfl (fun c22 => ?_) (fun c22 => ?_)
    · replace hu17 := (if_pos c22).symm.trans hu17
      obtain rfl := Option.some.inj hu17
      exact V.ls (ls_some (ls_some (ls_none (ls_none ls_nil)))) (k20 _ rfl)
    · replace hu17 := (if_neg c22).symm.trans hu17
      refine v_aload_n (pc := 19) hC dX11_laysLane_19 rfl ?_
      refine v_gt (pc := 20) 10 (.ref (gad g 58)) hC s_49 rfl rfl rfl rfl fl_X11_35 dX11_laysLane_20 ?_
      refine v_iload_n (pc := 23) hC dX11_laysLane_23 rfl ?_
      obtain ⟨v23, hv23, hu17⟩ := obd_s hu17
      refine v_aL (pc := 24) hC s_58 hv23 dX11_laysLane_24 ?_
      refine v_lconst (pc := 25) (0 : Int64) rfl hC dX11_laysLane_25 ?_
      refine v_lcmp (pc := 26) hC dX11_laysLane_26 ?_
      obtain ⟨w24, hw24, hu17⟩ := obd_s hu17
      have kj25 : V SS g M iX11_laysLane (PQ SS g M P) 50 [some (.ref (gad g 49)), some (.int x0_), none, some (.int a18)] [] w24 := by
        obtain ⟨x26, hx26, hu17⟩ := bnd_s hu17
        refine v_iinc (pc := 50) (lv' := [some (.ref (gad g 49)), some (.int x0_), none, some (.int x26)]) (1 : Int32) rfl hx26 hC dX11_laysLane_50 rfl rfl rfl rfl ?_
        refine v_goto (pc := 53) (tgt := 13) hC dX11_laysLane_53 rfl ?_
        obtain rfl := Option.some.inj hu17
        exact V.ls (ls_some (ls_some (ls_none (ls_some ls_nil)))) (k19 _ rfl)
      refine v_if_le (pc := 27) (tgt := 50) hC dX11_laysLane_27 rfl (fun c27 => ?_) (fun c27 => ?_)
      · replace hw24 := (if_pos c27).symm.trans hw24
        obtain rfl := Option.some.inj hw24
        exact V.ls (ls_some (ls_some (ls_none (ls_some ls_nil)))) kj25
      · replace hw24 := (if_neg c27).symm.trans hw24
        refine v_aload_n (pc := 30) hC dX11_laysLane_30 rfl ?_
        refine v_aload_n (pc := 31) hC dX11_laysLane_31 rfl ?_
        refine v_gt (pc := 32) 9 (.ref (gad g 57)) hC s_49 rfl rfl rfl rfl fl_X11_31 dX11_laysLane_32 ?_
        refine v_iload_n (pc := 35) hC dX11_laysLane_35 rfl ?_
        obtain ⟨v28, hv28, hw24⟩ := obd_s hw24
        refine v_aL (pc := 36) hC s_57 hv28 dX11_laysLane_36 ?_
        refine v_ldc2 (pc := 37) (2 : Int64) kc_X11_154 hC dX11_laysLane_37 ?_
        refine v_aload_n (pc := 40) hC dX11_laysLane_40 rfl ?_
        refine v_gt (pc := 41) 10 (.ref (gad g 58)) hC s_49 rfl rfl rfl rfl fl_X11_35 dX11_laysLane_41 ?_
        refine v_iload_n (pc := 44) hC dX11_laysLane_44 rfl ?_
        obtain ⟨v29, hv29, hw24⟩ := obd_s hw24
        refine v_aL (pc := 45) hC s_58 hv29 dX11_laysLane_45 ?_
        refine v_lmul (pc := 46) hC dX11_laysLane_46 ?_
        obtain ⟨w30, hw30, hw24⟩ := obd_s hw24
        refine v_cV (pc := 47) [] [] gm_X11_adds hC s_49 rfl rfl (ct_X11_adds  hw30) ml_X11_178 rfl rfl rfl rfl rfl rfl dX11_laysLane_47 ?_
        obtain rfl := Option.some.inj hw24
        exact V.ls (ls_some (ls_some (ls_none (ls_some ls_nil)))) kj25
theorem dX11_laneNow_0 : decode cX11_laneNow 0 = .ok (.aload_n 0, 1) := by decide +kernel
theorem dX11_laneNow_1 : decode cX11_laneNow 1 = .ok (.invokevirtual 185, 3) := by decide +kernel
theorem dX11_laneNow_4 : decode cX11_laneNow 4 = .ok (.aload_n 0, 1) := by decide +kernel
theorem dX11_laneNow_5 : decode cX11_laneNow 5 = .ok (.getfield 35, 3) := by decide +kernel
theorem dX11_laneNow_8 : decode cX11_laneNow 8 = .ok (.iload_n 1, 1) := by decide +kernel
theorem dX11_laneNow_9 : decode cX11_laneNow 9 = .ok (.laload, 1) := by decide +kernel
theorem dX11_laneNow_10 : decode cX11_laneNow 10 = .ok (.lconst 0, 1) := by decide +kernel
theorem dX11_laneNow_11 : decode cX11_laneNow 11 = .ok (.lcmp, 1) := by decide +kernel
theorem dX11_laneNow_12 : decode cX11_laneNow 12 = .ok (.ifCond .ne 9, 3) := by decide +kernel
theorem dX11_laneNow_15 : decode cX11_laneNow 15 = .ok (.bipush (-3), 2) := by decide +kernel
theorem dX11_laneNow_17 : decode cX11_laneNow 17 = .ok (.invokestatic 144, 3) := by decide +kernel
theorem dX11_laneNow_20 : decode cX11_laneNow 20 = .ok (.lreturn, 1) := by decide +kernel
theorem dX11_laneNow_21 : decode cX11_laneNow 21 = .ok (.aload_n 0, 1) := by decide +kernel
theorem dX11_laneNow_22 : decode cX11_laneNow 22 = .ok (.iload_n 1, 1) := by decide +kernel
theorem dX11_laneNow_23 : decode cX11_laneNow 23 = .ok (.iload_n 2, 1) := by decide +kernel
theorem dX11_laneNow_24 : decode cX11_laneNow 24 = .ok (.invokevirtual 188, 3) := by decide +kernel
theorem dX11_laneNow_27 : decode cX11_laneNow 27 = .ok (.iload_n 3, 1) := by decide +kernel
theorem dX11_laneNow_28 : decode cX11_laneNow 28 = .ok (.ifCond .ne 10, 3) := by decide +kernel
theorem dX11_laneNow_31 : decode cX11_laneNow 31 = .ok (.aload_n 0, 1) := by decide +kernel
theorem dX11_laneNow_32 : decode cX11_laneNow 32 = .ok (.getfield 167, 3) := by decide +kernel
theorem dX11_laneNow_35 : decode cX11_laneNow 35 = .ok (.goto 7, 3) := by decide +kernel
theorem dX11_laneNow_38 : decode cX11_laneNow 38 = .ok (.aload_n 0, 1) := by decide +kernel
theorem dX11_laneNow_39 : decode cX11_laneNow 39 = .ok (.getfield 171, 3) := by decide +kernel
theorem dX11_laneNow_42 : decode cX11_laneNow 42 = .ok (.lreturn, 1) := by decide +kernel
def fX11_laneNow (x0_ : Int32) (x1_ : Int32) (x2_ : Int32) (s : Sg) : Option (Int64 × Sg) :=
  (fX11_laysShape s).bind fun w1 =>
  (aL w1 58 8 x0_).bind fun v2 =>
  if (lg_cmp v2 (0 : Int64)) = 0 then
  (fX11_no (-3 : Int32) w1).bind fun w6 =>
  some (w6.1, w6.2)
  else
  (fX11_laysLane x0_ x1_ w1).bind fun w3 =>
  if x2_ = 0 then
  some ((gL w3 49 13), w3)
  else
  some ((gL w3 49 14), w3)
theorem ct_X11_laneNow {g : Gl} {x0_ : Int32} {x1_ : Int32} {x2_ : Int32} {s : Sg} {w : Int64 × Sg}  (h : fX11_laneNow x0_ x1_ x2_ s = some w) : Ct SS g iX11_laneNow 5 113 [.ref (gad g 49), .int x0_, .int x1_, .int x2_] s (Dt (some (.long w.1)) w.2) := by
  refine Ct.ofV (by decide +kernel) 0 (lv0 := [some (.ref (gad g 49)), some (.int x0_), some (.int x1_), some (.int x2_)]) rfl rfl (fun M hC => ?_)
  have hP : (Dt (some (.long w.1)) w.2) (some (.long w.1)) w.2 := ⟨rfl, rfl⟩
  generalize Dt (some (.long w.1)) w.2 = P at hP ⊢
  unfold fX11_laneNow at h
  refine v_aload_n (pc := 0) hC dX11_laneNow_0 rfl ?_
  obtain ⟨w1, hw1, h⟩ := obd_s h
  refine v_cV (pc := 1) [] [] gm_X11_laysShape hC s_49 rfl rfl (ct_X11_laysShape  hw1) ml_X11_185 rfl rfl rfl rfl rfl rfl dX11_laneNow_1 ?_
  refine v_aload_n (pc := 4) hC dX11_laneNow_4 rfl ?_
  refine v_gt (pc := 5) 10 (.ref (gad g 58)) hC s_49 rfl rfl rfl rfl fl_X11_35 dX11_laneNow_5 ?_
  refine v_iload_n (pc := 8) hC dX11_laneNow_8 rfl ?_
  obtain ⟨v2, hv2, h⟩ := obd_s h
  refine v_aL (pc := 9) hC s_58 hv2 dX11_laneNow_9 ?_
  refine v_lconst (pc := 10) (0 : Int64) rfl hC dX11_laneNow_10 ?_
  refine v_lcmp (pc := 11) hC dX11_laneNow_11 ?_
  refine v_if_ne (pc := 12) (tgt := 21) hC dX11_laneNow_12 rfl (fun c5 => ?_) (fun c5 => ?_)
  · replace h := (if_neg c5).symm.trans h
    refine v_aload_n (pc := 21) hC dX11_laneNow_21 rfl ?_
    refine v_iload_n (pc := 22) hC dX11_laneNow_22 rfl ?_
    refine v_iload_n (pc := 23) hC dX11_laneNow_23 rfl ?_
    obtain ⟨w3, hw3, h⟩ := obd_s h
    refine v_cV (pc := 24) [] [] gm_X11_laysLane hC s_49 rfl rfl (ct_X11_laysLane  hw3) ml_X11_188 rfl rfl rfl rfl rfl rfl dX11_laneNow_24 ?_
    refine v_iload_n (pc := 27) hC dX11_laneNow_27 rfl ?_
    refine v_if_ne (pc := 28) (tgt := 38) hC dX11_laneNow_28 rfl (fun c4 => ?_) (fun c4 => ?_)
    · replace h := (if_neg c4).symm.trans h
      refine v_aload_n (pc := 38) hC dX11_laneNow_38 rfl ?_
      refine v_gt (pc := 39) 14 (.long (gL w3 49 14)) hC s_49 rfl rfl rfl rfl fl_X11_171 dX11_laneNow_39 ?_
      obtain rfl := Option.some.inj h
      exact v_lret (pc := 42) hC rfl dX11_laneNow_42 hP
    · replace h := (if_pos c4).symm.trans h
      refine v_aload_n (pc := 31) hC dX11_laneNow_31 rfl ?_
      refine v_gt (pc := 32) 13 (.long (gL w3 49 13)) hC s_49 rfl rfl rfl rfl fl_X11_167 dX11_laneNow_32 ?_
      refine v_goto (pc := 35) (tgt := 42) hC dX11_laneNow_35 rfl ?_
      obtain rfl := Option.some.inj h
      exact v_lret (pc := 42) hC rfl dX11_laneNow_42 hP
  · replace h := (if_pos c5).symm.trans h
    refine v_bipush (pc := 15) (-3 : Int32) rfl hC dX11_laneNow_15 ?_
    obtain ⟨w6, hw6, h⟩ := obd_s h
    refine v_cS (pc := 17) [] [.long w6.1] gm_X11_no hC (ct_X11_no  hw6) ml_X11_144 rfl rfl rfl rfl rfl rfl dX11_laneNow_17 ?_
    obtain rfl := Option.some.inj h
    exact v_lret (pc := 20) hC rfl dX11_laneNow_20 hP
theorem dX11_lane_0 : decode cX11_lane 0 = .ok (.iload_n 1, 1) := by decide +kernel
theorem dX11_lane_1 : decode cX11_lane 1 = .ok (.invokestatic 112, 3) := by decide +kernel
theorem dX11_lane_4 : decode cX11_lane 4 = .ok (.ifCond .eq 31, 3) := by decide +kernel
theorem dX11_lane_7 : decode cX11_lane 7 = .ok (.iload_n 2, 1) := by decide +kernel
theorem dX11_lane_8 : decode cX11_lane 8 = .ok (.iconst 0, 1) := by decide +kernel
theorem dX11_lane_9 : decode cX11_lane 9 = .ok (.iconst 2, 1) := by decide +kernel
theorem dX11_lane_10 : decode cX11_lane 10 = .ok (.invokestatic 94, 3) := by decide +kernel
theorem dX11_lane_13 : decode cX11_lane 13 = .ok (.ifCond .eq 22, 3) := by decide +kernel
theorem dX11_lane_16 : decode cX11_lane 16 = .ok (.iload_n 3, 1) := by decide +kernel
theorem dX11_lane_17 : decode cX11_lane 17 = .ok (.iconst 0, 1) := by decide +kernel
theorem dX11_lane_18 : decode cX11_lane 18 = .ok (.iconst 1, 1) := by decide +kernel
theorem dX11_lane_19 : decode cX11_lane 19 = .ok (.invokestatic 94, 3) := by decide +kernel
theorem dX11_lane_22 : decode cX11_lane 22 = .ok (.ifCond .eq 13, 3) := by decide +kernel
theorem dX11_lane_25 : decode cX11_lane 25 = .ok (.aload_n 0, 1) := by decide +kernel
theorem dX11_lane_26 : decode cX11_lane 26 = .ok (.iload_n 1, 1) := by decide +kernel
theorem dX11_lane_27 : decode cX11_lane 27 = .ok (.iload_n 2, 1) := by decide +kernel
theorem dX11_lane_28 : decode cX11_lane 28 = .ok (.iload_n 3, 1) := by decide +kernel
theorem dX11_lane_29 : decode cX11_lane 29 = .ok (.invokevirtual 191, 3) := by decide +kernel
theorem dX11_lane_32 : decode cX11_lane 32 = .ok (.goto 8, 3) := by decide +kernel
theorem dX11_lane_35 : decode cX11_lane 35 = .ok (.bipush (-2), 2) := by decide +kernel
theorem dX11_lane_37 : decode cX11_lane 37 = .ok (.invokestatic 144, 3) := by decide +kernel
theorem dX11_lane_40 : decode cX11_lane 40 = .ok (.lreturn, 1) := by decide +kernel
def fX11_lane (x0_ : Int32) (x1_ : Int32) (x2_ : Int32) (s : Sg) : Option (Int64 × Sg) :=
  (fX11_isLane x0_ s).bind fun w1 =>
  if w1.1 = 0 then
  (fX11_no (-2 : Int32) w1.2).bind fun w2 =>
  some (w2.1, w2.2)
  else
  (fX11_in x1_ (0 : Int32) (2 : Int32) w1.2).bind fun w4 =>
  if w4.1 = 0 then
  (fX11_no (-2 : Int32) w4.2).bind fun w5 =>
  some (w5.1, w5.2)
  else
  (fX11_in x2_ (0 : Int32) (1 : Int32) w4.2).bind fun w7 =>
  if w7.1 = 0 then
  (fX11_no (-2 : Int32) w7.2).bind fun w8 =>
  some (w8.1, w8.2)
  else
  (fX11_laneNow x0_ x1_ x2_ w7.2).bind fun w10 =>
  some (w10.1, w10.2)
theorem ct_X11_lane {g : Gl} {x0_ : Int32} {x1_ : Int32} {x2_ : Int32} {s : Sg} {w : Int64 × Sg}  (h : fX11_lane x0_ x1_ x2_ s = some w) : Ct SS g iX11_lane 6 136 [.ref (gad g 49), .int x0_, .int x1_, .int x2_] s (Dt (some (.long w.1)) w.2) := by
  refine Ct.ofV (by decide +kernel) 0 (lv0 := [some (.ref (gad g 49)), some (.int x0_), some (.int x1_), some (.int x2_)]) rfl rfl (fun M hC => ?_)
  have hP : (Dt (some (.long w.1)) w.2) (some (.long w.1)) w.2 := ⟨rfl, rfl⟩
  generalize Dt (some (.long w.1)) w.2 = P at hP ⊢
  unfold fX11_lane at h
  refine v_iload_n (pc := 0) hC dX11_lane_0 rfl ?_
  obtain ⟨w1, hw1, h⟩ := obd_s h
  refine v_cS (pc := 1) [] [.int w1.1] gm_X11_isLane hC (ct_X11_isLane  hw1) ml_X11_112 rfl rfl rfl rfl rfl rfl dX11_lane_1 ?_
  refine v_if_eq (pc := 4) (tgt := 35) hC dX11_lane_4 rfl (fun c3 => ?_) (fun c3 => ?_)
  · replace h := (if_pos c3).symm.trans h
    refine v_bipush (pc := 35) (-2 : Int32) rfl hC dX11_lane_35 ?_
    obtain ⟨w2, hw2, h⟩ := obd_s h
    refine v_cS (pc := 37) [] [.long w2.1] gm_X11_no hC (ct_X11_no  hw2) ml_X11_144 rfl rfl rfl rfl rfl rfl dX11_lane_37 ?_
    obtain rfl := Option.some.inj h
    exact v_lret (pc := 40) hC rfl dX11_lane_40 hP
  · replace h := (if_neg c3).symm.trans h
    refine v_iload_n (pc := 7) hC dX11_lane_7 rfl ?_
    refine v_iconst (pc := 8) (0 : Int32) rfl hC dX11_lane_8 ?_
    refine v_iconst (pc := 9) (2 : Int32) rfl hC dX11_lane_9 ?_
    obtain ⟨w4, hw4, h⟩ := obd_s h
    refine v_cS (pc := 10) [] [.int w4.1] gm_X11_in hC (ct_X11_in  hw4) ml_X11_94 rfl rfl rfl rfl rfl rfl dX11_lane_10 ?_
    refine v_if_eq (pc := 13) (tgt := 35) hC dX11_lane_13 rfl (fun c6 => ?_) (fun c6 => ?_)
    · replace h := (if_pos c6).symm.trans h
      refine v_bipush (pc := 35) (-2 : Int32) rfl hC dX11_lane_35 ?_
      obtain ⟨w5, hw5, h⟩ := obd_s h
      refine v_cS (pc := 37) [] [.long w5.1] gm_X11_no hC (ct_X11_no  hw5) ml_X11_144 rfl rfl rfl rfl rfl rfl dX11_lane_37 ?_
      obtain rfl := Option.some.inj h
      exact v_lret (pc := 40) hC rfl dX11_lane_40 hP
    · replace h := (if_neg c6).symm.trans h
      refine v_iload_n (pc := 16) hC dX11_lane_16 rfl ?_
      refine v_iconst (pc := 17) (0 : Int32) rfl hC dX11_lane_17 ?_
      refine v_iconst (pc := 18) (1 : Int32) rfl hC dX11_lane_18 ?_
      obtain ⟨w7, hw7, h⟩ := obd_s h
      refine v_cS (pc := 19) [] [.int w7.1] gm_X11_in hC (ct_X11_in  hw7) ml_X11_94 rfl rfl rfl rfl rfl rfl dX11_lane_19 ?_
      refine v_if_eq (pc := 22) (tgt := 35) hC dX11_lane_22 rfl (fun c9 => ?_) (fun c9 => ?_)
      · replace h := (if_pos c9).symm.trans h
        refine v_bipush (pc := 35) (-2 : Int32) rfl hC dX11_lane_35 ?_
        obtain ⟨w8, hw8, h⟩ := obd_s h
        refine v_cS (pc := 37) [] [.long w8.1] gm_X11_no hC (ct_X11_no  hw8) ml_X11_144 rfl rfl rfl rfl rfl rfl dX11_lane_37 ?_
        obtain rfl := Option.some.inj h
        exact v_lret (pc := 40) hC rfl dX11_lane_40 hP
      · replace h := (if_neg c9).symm.trans h
        refine v_aload_n (pc := 25) hC dX11_lane_25 rfl ?_
        refine v_iload_n (pc := 26) hC dX11_lane_26 rfl ?_
        refine v_iload_n (pc := 27) hC dX11_lane_27 rfl ?_
        refine v_iload_n (pc := 28) hC dX11_lane_28 rfl ?_
        obtain ⟨w10, hw10, h⟩ := obd_s h
        refine v_cV (pc := 29) [] [.long w10.1] gm_X11_laneNow hC s_49 rfl rfl (ct_X11_laneNow  hw10) ml_X11_191 rfl rfl rfl rfl rfl rfl dX11_lane_29 ?_
        refine v_goto (pc := 32) (tgt := 40) hC dX11_lane_32 rfl ?_
        obtain rfl := Option.some.inj h
        exact v_lret (pc := 40) hC rfl dX11_lane_40 hP
theorem dX11_countsNow_0 : decode cX11_countsNow 0 = .ok (.aload_n 0, 1) := by decide +kernel
theorem dX11_countsNow_1 : decode cX11_countsNow 1 = .ok (.invokevirtual 160, 3) := by decide +kernel
theorem dX11_countsNow_4 : decode cX11_countsNow 4 = .ok (.aload_n 0, 1) := by decide +kernel
theorem dX11_countsNow_5 : decode cX11_countsNow 5 = .ok (.getfield 35, 3) := by decide +kernel
theorem dX11_countsNow_8 : decode cX11_countsNow 8 = .ok (.iload_n 1, 1) := by decide +kernel
theorem dX11_countsNow_9 : decode cX11_countsNow 9 = .ok (.laload, 1) := by decide +kernel
theorem dX11_countsNow_10 : decode cX11_countsNow 10 = .ok (.l2i, 1) := by decide +kernel
theorem dX11_countsNow_11 : decode cX11_countsNow 11 = .ok (.ireturn, 1) := by decide +kernel
def fX11_countsNow (x0_ : Int32) (s : Sg) : Option (Int32 × Sg) :=
  (fX11_laysLanes s).bind fun w1 =>
  (aL w1 58 8 x0_).bind fun v2 =>
  some (((v2).toInt32), w1)
theorem ct_X11_countsNow {g : Gl} {x0_ : Int32} {s : Sg} {w : Int32 × Sg}  (h : fX11_countsNow x0_ s = some w) : Ct SS g iX11_countsNow 4 90 [.ref (gad g 49), .int x0_] s (Dt (some (.int w.1)) w.2) := by
  refine Ct.ofV (by decide +kernel) 0 (lv0 := [some (.ref (gad g 49)), some (.int x0_)]) rfl rfl (fun M hC => ?_)
  have hP : (Dt (some (.int w.1)) w.2) (some (.int w.1)) w.2 := ⟨rfl, rfl⟩
  generalize Dt (some (.int w.1)) w.2 = P at hP ⊢
  unfold fX11_countsNow at h
  refine v_aload_n (pc := 0) hC dX11_countsNow_0 rfl ?_
  obtain ⟨w1, hw1, h⟩ := obd_s h
  refine v_cV (pc := 1) [] [] gm_X11_laysLanes hC s_49 rfl rfl (ct_X11_laysLanes  hw1) ml_X11_160 rfl rfl rfl rfl rfl rfl dX11_countsNow_1 ?_
  refine v_aload_n (pc := 4) hC dX11_countsNow_4 rfl ?_
  refine v_gt (pc := 5) 10 (.ref (gad g 58)) hC s_49 rfl rfl rfl rfl fl_X11_35 dX11_countsNow_5 ?_
  refine v_iload_n (pc := 8) hC dX11_countsNow_8 rfl ?_
  obtain ⟨v2, hv2, h⟩ := obd_s h
  refine v_aL (pc := 9) hC s_58 hv2 dX11_countsNow_9 ?_
  refine v_l2i (pc := 10) hC dX11_countsNow_10 ?_
  obtain rfl := Option.some.inj h
  exact v_iret (pc := 11) hC rfl dX11_countsNow_11 hP
theorem dX11_counts_0 : decode cX11_counts 0 = .ok (.iload_n 1, 1) := by decide +kernel
theorem dX11_counts_1 : decode cX11_counts 1 = .ok (.invokestatic 112, 3) := by decide +kernel
theorem dX11_counts_4 : decode cX11_counts 4 = .ok (.ifCond .eq 11, 3) := by decide +kernel
theorem dX11_counts_7 : decode cX11_counts 7 = .ok (.aload_n 0, 1) := by decide +kernel
theorem dX11_counts_8 : decode cX11_counts 8 = .ok (.iload_n 1, 1) := by decide +kernel
theorem dX11_counts_9 : decode cX11_counts 9 = .ok (.invokevirtual 195, 3) := by decide +kernel
theorem dX11_counts_12 : decode cX11_counts 12 = .ok (.goto 5, 3) := by decide +kernel
theorem dX11_counts_15 : decode cX11_counts 15 = .ok (.bipush (-2), 2) := by decide +kernel
theorem dX11_counts_17 : decode cX11_counts 17 = .ok (.ireturn, 1) := by decide +kernel
def fX11_counts (x0_ : Int32) (s : Sg) : Option (Int32 × Sg) :=
  (fX11_isLane x0_ s).bind fun w1 =>
  if w1.1 = 0 then
  some ((-2 : Int32), w1.2)
  else
  (fX11_countsNow x0_ w1.2).bind fun w3 =>
  some (w3.1, w3.2)
theorem ct_X11_counts {g : Gl} {x0_ : Int32} {s : Sg} {w : Int32 × Sg}  (h : fX11_counts x0_ s = some w) : Ct SS g iX11_counts 5 111 [.ref (gad g 49), .int x0_] s (Dt (some (.int w.1)) w.2) := by
  refine Ct.ofV (by decide +kernel) 0 (lv0 := [some (.ref (gad g 49)), some (.int x0_)]) rfl rfl (fun M hC => ?_)
  have hP : (Dt (some (.int w.1)) w.2) (some (.int w.1)) w.2 := ⟨rfl, rfl⟩
  generalize Dt (some (.int w.1)) w.2 = P at hP ⊢
  unfold fX11_counts at h
  refine v_iload_n (pc := 0) hC dX11_counts_0 rfl ?_
  obtain ⟨w1, hw1, h⟩ := obd_s h
  refine v_cS (pc := 1) [] [.int w1.1] gm_X11_isLane hC (ct_X11_isLane  hw1) ml_X11_112 rfl rfl rfl rfl rfl rfl dX11_counts_1 ?_
  refine v_if_eq (pc := 4) (tgt := 15) hC dX11_counts_4 rfl (fun c2 => ?_) (fun c2 => ?_)
  · replace h := (if_pos c2).symm.trans h
    refine v_bipush (pc := 15) (-2 : Int32) rfl hC dX11_counts_15 ?_
    obtain rfl := Option.some.inj h
    exact v_iret (pc := 17) hC rfl dX11_counts_17 hP
  · replace h := (if_neg c2).symm.trans h
    refine v_aload_n (pc := 7) hC dX11_counts_7 rfl ?_
    refine v_iload_n (pc := 8) hC dX11_counts_8 rfl ?_
    obtain ⟨w3, hw3, h⟩ := obd_s h
    refine v_cV (pc := 9) [] [.int w3.1] gm_X11_countsNow hC s_49 rfl rfl (ct_X11_countsNow  hw3) ml_X11_195 rfl rfl rfl rfl rfl rfl dX11_counts_9 ?_
    refine v_goto (pc := 12) (tgt := 17) hC dX11_counts_12 rfl ?_
    obtain rfl := Option.some.inj h
    exact v_iret (pc := 17) hC rfl dX11_counts_17 hP
