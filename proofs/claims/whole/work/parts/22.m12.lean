/-! methods, printed by wip/whole/gen/meth.py: X11_fault, X11_isBetter, X11_givenNow, X11_given, X11_tenthsNow, X11_tenths, X11_worldNow, X11_world, X11_lot, X11_made, X11_sheet -/
theorem dX11_fault_0 : decode cX11_fault 0 = .ok (.iload_n 1, 1) := by decide +kernel
theorem dX11_fault_1 : decode cX11_fault 1 = .ok (.ifCond .ne 10, 3) := by decide +kernel
theorem dX11_fault_4 : decode cX11_fault 4 = .ok (.aload_n 0, 1) := by decide +kernel
theorem dX11_fault_5 : decode cX11_fault 5 = .ok (.invokevirtual 279, 3) := by decide +kernel
theorem dX11_fault_8 : decode cX11_fault 8 = .ok (.goto 17, 3) := by decide +kernel
theorem dX11_fault_11 : decode cX11_fault 11 = .ok (.iload_n 1, 1) := by decide +kernel
theorem dX11_fault_12 : decode cX11_fault 12 = .ok (.iconst 1, 1) := by decide +kernel
theorem dX11_fault_13 : decode cX11_fault 13 = .ok (.if_icmp .ne 10, 3) := by decide +kernel
theorem dX11_fault_16 : decode cX11_fault 16 = .ok (.aload_n 0, 1) := by decide +kernel
theorem dX11_fault_17 : decode cX11_fault 17 = .ok (.invokevirtual 282, 3) := by decide +kernel
theorem dX11_fault_20 : decode cX11_fault 20 = .ok (.goto 5, 3) := by decide +kernel
theorem dX11_fault_23 : decode cX11_fault 23 = .ok (.bipush (-2), 2) := by decide +kernel
theorem dX11_fault_25 : decode cX11_fault 25 = .ok (.ireturn, 1) := by decide +kernel
def fX11_fault (x0_ : Int32) (s : Sg) : Option (Int32 × Sg) :=
  if x0_ = 0 then
  (fX11_ruleFault s).bind fun w4 =>
  some (w4.1, w4.2)
  else
  if x0_ = (1 : Int32) then
  (fX11_worldFault s).bind fun w2 =>
  some (w2.1, w2.2)
  else
  some ((-2 : Int32), s)
theorem ct_X11_fault {g : Gl} {x0_ : Int32} {s : Sg} {w : Int32 × Sg}  (h : fX11_fault x0_ s = some w) : Ct SS g iX11_fault 4 88 [.ref (gad g 49), .int x0_] s (Dt (some (.int w.1)) w.2) := by
  refine Ct.ofV (by decide +kernel) 0 (lv0 := [some (.ref (gad g 49)), some (.int x0_)]) rfl rfl (fun M hC => ?_)
  have hP : (Dt (some (.int w.1)) w.2) (some (.int w.1)) w.2 := ⟨rfl, rfl⟩
  generalize Dt (some (.int w.1)) w.2 = P at hP ⊢
  unfold fX11_fault at h
  refine v_iload_n (pc := 0) hC dX11_fault_0 rfl ?_
  refine v_if_ne (pc := 1) (tgt := 11) hC dX11_fault_1 rfl (fun c3 => ?_) (fun c3 => ?_)
  · replace h := (if_neg c3).symm.trans h
    refine v_iload_n (pc := 11) hC dX11_fault_11 rfl ?_
    refine v_iconst (pc := 12) (1 : Int32) rfl hC dX11_fault_12 ?_
    refine v_ic_ne (pc := 13) (tgt := 23) hC dX11_fault_13 rfl (fun c1 => ?_) (fun c1 => ?_)
    · replace h := (if_neg c1).symm.trans h
      refine v_bipush (pc := 23) (-2 : Int32) rfl hC dX11_fault_23 ?_
      obtain rfl := Option.some.inj h
      exact v_iret (pc := 25) hC rfl dX11_fault_25 hP
    · replace h := (if_pos c1).symm.trans h
      refine v_aload_n (pc := 16) hC dX11_fault_16 rfl ?_
      obtain ⟨w2, hw2, h⟩ := obd_s h
      refine v_cV (pc := 17) [] [.int w2.1] gm_X11_worldFault hC s_49 rfl rfl (ct_X11_worldFault  hw2) ml_X11_282 rfl rfl rfl rfl rfl rfl dX11_fault_17 ?_
      refine v_goto (pc := 20) (tgt := 25) hC dX11_fault_20 rfl ?_
      obtain rfl := Option.some.inj h
      exact v_iret (pc := 25) hC rfl dX11_fault_25 hP
  · replace h := (if_pos c3).symm.trans h
    refine v_aload_n (pc := 4) hC dX11_fault_4 rfl ?_
    obtain ⟨w4, hw4, h⟩ := obd_s h
    refine v_cV (pc := 5) [] [.int w4.1] gm_X11_ruleFault hC s_49 rfl rfl (ct_X11_ruleFault  hw4) ml_X11_279 rfl rfl rfl rfl rfl rfl dX11_fault_5 ?_
    refine v_goto (pc := 8) (tgt := 25) hC dX11_fault_8 rfl ?_
    obtain rfl := Option.some.inj h
    exact v_iret (pc := 25) hC rfl dX11_fault_25 hP
theorem dX11_isBetter_0 : decode cX11_isBetter 0 = .ok (.aload_n 0, 1) := by decide +kernel
theorem dX11_isBetter_1 : decode cX11_isBetter 1 = .ok (.getfield 28, 3) := by decide +kernel
theorem dX11_isBetter_4 : decode cX11_isBetter 4 = .ok (.iload_n 1, 1) := by decide +kernel
theorem dX11_isBetter_5 : decode cX11_isBetter 5 = .ok (.iaload, 1) := by decide +kernel
theorem dX11_isBetter_6 : decode cX11_isBetter 6 = .ok (.aload_n 0, 1) := by decide +kernel
theorem dX11_isBetter_7 : decode cX11_isBetter 7 = .ok (.getfield 28, 3) := by decide +kernel
theorem dX11_isBetter_10 : decode cX11_isBetter 10 = .ok (.iload_n 2, 1) := by decide +kernel
theorem dX11_isBetter_11 : decode cX11_isBetter 11 = .ok (.iaload, 1) := by decide +kernel
theorem dX11_isBetter_12 : decode cX11_isBetter 12 = .ok (.if_icmp .lt 23, 3) := by decide +kernel
theorem dX11_isBetter_15 : decode cX11_isBetter 15 = .ok (.aload_n 0, 1) := by decide +kernel
theorem dX11_isBetter_16 : decode cX11_isBetter 16 = .ok (.getfield 28, 3) := by decide +kernel
theorem dX11_isBetter_19 : decode cX11_isBetter 19 = .ok (.iload_n 1, 1) := by decide +kernel
theorem dX11_isBetter_20 : decode cX11_isBetter 20 = .ok (.iaload, 1) := by decide +kernel
theorem dX11_isBetter_21 : decode cX11_isBetter 21 = .ok (.aload_n 0, 1) := by decide +kernel
theorem dX11_isBetter_22 : decode cX11_isBetter 22 = .ok (.getfield 28, 3) := by decide +kernel
theorem dX11_isBetter_25 : decode cX11_isBetter 25 = .ok (.iload_n 2, 1) := by decide +kernel
theorem dX11_isBetter_26 : decode cX11_isBetter 26 = .ok (.iaload, 1) := by decide +kernel
theorem dX11_isBetter_27 : decode cX11_isBetter 27 = .ok (.if_icmp .ne 12, 3) := by decide +kernel
theorem dX11_isBetter_30 : decode cX11_isBetter 30 = .ok (.iload_n 1, 1) := by decide +kernel
theorem dX11_isBetter_31 : decode cX11_isBetter 31 = .ok (.iload_n 2, 1) := by decide +kernel
theorem dX11_isBetter_32 : decode cX11_isBetter 32 = .ok (.if_icmp .ge 7, 3) := by decide +kernel
theorem dX11_isBetter_35 : decode cX11_isBetter 35 = .ok (.iconst 1, 1) := by decide +kernel
theorem dX11_isBetter_36 : decode cX11_isBetter 36 = .ok (.goto 4, 3) := by decide +kernel
theorem dX11_isBetter_39 : decode cX11_isBetter 39 = .ok (.iconst 0, 1) := by decide +kernel
theorem dX11_isBetter_40 : decode cX11_isBetter 40 = .ok (.ireturn, 1) := by decide +kernel
def fX11_isBetter (x0_ : Int32) (x1_ : Int32) (s : Sg) : Option (Int32 × Sg) :=
  (aI s 56 24 x0_).bind fun v1 =>
  (aI s 56 24 x1_).bind fun v2 =>
  if v1 < v2 then
  some ((1 : Int32), s)
  else
  (aI s 56 24 x0_).bind fun v4 =>
  (aI s 56 24 x1_).bind fun v5 =>
  if v4 = v5 then
  if x1_ ≤ x0_ then
  some ((0 : Int32), s)
  else
  some ((1 : Int32), s)
  else
  some ((0 : Int32), s)
theorem ct_X11_isBetter {g : Gl} {x0_ : Int32} {x1_ : Int32} {s : Sg} {w : Int32 × Sg}  (h : fX11_isBetter x0_ x1_ s = some w) : Ct SS g iX11_isBetter 0 0 [.ref (gad g 49), .int x0_, .int x1_] s (Dt (some (.int w.1)) w.2) := by
  refine Ct.ofV (by decide +kernel) 0 (lv0 := [some (.ref (gad g 49)), some (.int x0_), some (.int x1_)]) rfl rfl (fun M hC => ?_)
  have hP : (Dt (some (.int w.1)) w.2) (some (.int w.1)) w.2 := ⟨rfl, rfl⟩
  generalize Dt (some (.int w.1)) w.2 = P at hP ⊢
  unfold fX11_isBetter at h
  refine v_aload_n (pc := 0) hC dX11_isBetter_0 rfl ?_
  refine v_gt (pc := 1) 8 (.ref (gad g 56)) hC s_49 rfl rfl rfl rfl fl_X11_28 dX11_isBetter_1 ?_
  refine v_iload_n (pc := 4) hC dX11_isBetter_4 rfl ?_
  obtain ⟨v1, hv1, h⟩ := obd_s h
  refine v_aI (pc := 5) hC s_56 hv1 dX11_isBetter_5 ?_
  refine v_aload_n (pc := 6) hC dX11_isBetter_6 rfl ?_
  refine v_gt (pc := 7) 8 (.ref (gad g 56)) hC s_49 rfl rfl rfl rfl fl_X11_28 dX11_isBetter_7 ?_
  refine v_iload_n (pc := 10) hC dX11_isBetter_10 rfl ?_
  obtain ⟨v2, hv2, h⟩ := obd_s h
  refine v_aI (pc := 11) hC s_56 hv2 dX11_isBetter_11 ?_
  refine v_ic_lt (pc := 12) (tgt := 35) hC dX11_isBetter_12 rfl (fun c3 => ?_) (fun c3 => ?_)
  · replace h := (if_pos c3).symm.trans h
    refine v_iconst (pc := 35) (1 : Int32) rfl hC dX11_isBetter_35 ?_
    refine v_goto (pc := 36) (tgt := 40) hC dX11_isBetter_36 rfl ?_
    obtain rfl := Option.some.inj h
    exact v_zret (pc := 40) hC rfl rfl dX11_isBetter_40 hP
  · replace h := (if_neg c3).symm.trans h
    refine v_aload_n (pc := 15) hC dX11_isBetter_15 rfl ?_
    refine v_gt (pc := 16) 8 (.ref (gad g 56)) hC s_49 rfl rfl rfl rfl fl_X11_28 dX11_isBetter_16 ?_
    refine v_iload_n (pc := 19) hC dX11_isBetter_19 rfl ?_
    obtain ⟨v4, hv4, h⟩ := obd_s h
    refine v_aI (pc := 20) hC s_56 hv4 dX11_isBetter_20 ?_
    refine v_aload_n (pc := 21) hC dX11_isBetter_21 rfl ?_
    refine v_gt (pc := 22) 8 (.ref (gad g 56)) hC s_49 rfl rfl rfl rfl fl_X11_28 dX11_isBetter_22 ?_
    refine v_iload_n (pc := 25) hC dX11_isBetter_25 rfl ?_
    obtain ⟨v5, hv5, h⟩ := obd_s h
    refine v_aI (pc := 26) hC s_56 hv5 dX11_isBetter_26 ?_
    refine v_ic_ne (pc := 27) (tgt := 39) hC dX11_isBetter_27 rfl (fun c6 => ?_) (fun c6 => ?_)
    · replace h := (if_neg c6).symm.trans h
      refine v_iconst (pc := 39) (0 : Int32) rfl hC dX11_isBetter_39 ?_
      obtain rfl := Option.some.inj h
      exact v_zret (pc := 40) hC rfl rfl dX11_isBetter_40 hP
    · replace h := (if_pos c6).symm.trans h
      refine v_iload_n (pc := 30) hC dX11_isBetter_30 rfl ?_
      refine v_iload_n (pc := 31) hC dX11_isBetter_31 rfl ?_
      refine v_ic_ge (pc := 32) (tgt := 39) hC dX11_isBetter_32 rfl (fun c7 => ?_) (fun c7 => ?_)
      · replace h := (if_pos c7).symm.trans h
        refine v_iconst (pc := 39) (0 : Int32) rfl hC dX11_isBetter_39 ?_
        obtain rfl := Option.some.inj h
        exact v_zret (pc := 40) hC rfl rfl dX11_isBetter_40 hP
      · replace h := (if_neg c7).symm.trans h
        refine v_iconst (pc := 35) (1 : Int32) rfl hC dX11_isBetter_35 ?_
        refine v_goto (pc := 36) (tgt := 40) hC dX11_isBetter_36 rfl ?_
        obtain rfl := Option.some.inj h
        exact v_zret (pc := 40) hC rfl rfl dX11_isBetter_40 hP
theorem dX11_givenNow_0 : decode cX11_givenNow 0 = .ok (.aload_n 0, 1) := by decide +kernel
theorem dX11_givenNow_1 : decode cX11_givenNow 1 = .ok (.invokevirtual 279, 3) := by decide +kernel
theorem dX11_givenNow_4 : decode cX11_givenNow 4 = .ok (.iconst (-1), 1) := by decide +kernel
theorem dX11_givenNow_5 : decode cX11_givenNow 5 = .ok (.if_icmp .eq 6, 3) := by decide +kernel
theorem dX11_givenNow_8 : decode cX11_givenNow 8 = .ok (.bipush (-3), 2) := by decide +kernel
theorem dX11_givenNow_10 : decode cX11_givenNow 10 = .ok (.ireturn, 1) := by decide +kernel
theorem dX11_givenNow_11 : decode cX11_givenNow 11 = .ok (.iconst 0, 1) := by decide +kernel
theorem dX11_givenNow_12 : decode cX11_givenNow 12 = .ok (.istore_n 2, 1) := by decide +kernel
theorem dX11_givenNow_13 : decode cX11_givenNow 13 = .ok (.iload_n 2, 1) := by decide +kernel
theorem dX11_givenNow_14 : decode cX11_givenNow 14 = .ok (.aload_n 0, 1) := by decide +kernel
theorem dX11_givenNow_15 : decode cX11_givenNow 15 = .ok (.getfield 98, 3) := by decide +kernel
theorem dX11_givenNow_18 : decode cX11_givenNow 18 = .ok (.if_icmp .ge 105, 3) := by decide +kernel
theorem dX11_givenNow_21 : decode cX11_givenNow 21 = .ok (.iconst 0, 1) := by decide +kernel
theorem dX11_givenNow_22 : decode cX11_givenNow 22 = .ok (.istore_n 3, 1) := by decide +kernel
theorem dX11_givenNow_23 : decode cX11_givenNow 23 = .ok (.iconst 0, 1) := by decide +kernel
theorem dX11_givenNow_24 : decode cX11_givenNow 24 = .ok (.istore 4, 2) := by decide +kernel
theorem dX11_givenNow_26 : decode cX11_givenNow 26 = .ok (.iload 4, 2) := by decide +kernel
theorem dX11_givenNow_28 : decode cX11_givenNow 28 = .ok (.aload_n 0, 1) := by decide +kernel
theorem dX11_givenNow_29 : decode cX11_givenNow 29 = .ok (.getfield 98, 3) := by decide +kernel
theorem dX11_givenNow_32 : decode cX11_givenNow 32 = .ok (.if_icmp .ge 58, 3) := by decide +kernel
theorem dX11_givenNow_35 : decode cX11_givenNow 35 = .ok (.iload_n 3, 1) := by decide +kernel
theorem dX11_givenNow_36 : decode cX11_givenNow 36 = .ok (.aload_n 0, 1) := by decide +kernel
theorem dX11_givenNow_37 : decode cX11_givenNow 37 = .ok (.getfield 16, 3) := by decide +kernel
theorem dX11_givenNow_40 : decode cX11_givenNow 40 = .ok (.iload_n 2, 1) := by decide +kernel
theorem dX11_givenNow_41 : decode cX11_givenNow 41 = .ok (.iaload, 1) := by decide +kernel
theorem dX11_givenNow_42 : decode cX11_givenNow 42 = .ok (.iload_n 1, 1) := by decide +kernel
theorem dX11_givenNow_43 : decode cX11_givenNow 43 = .ok (.if_icmp .ne 38, 3) := by decide +kernel
theorem dX11_givenNow_46 : decode cX11_givenNow 46 = .ok (.aload_n 0, 1) := by decide +kernel
theorem dX11_givenNow_47 : decode cX11_givenNow 47 = .ok (.getfield 16, 3) := by decide +kernel
theorem dX11_givenNow_50 : decode cX11_givenNow 50 = .ok (.iload 4, 2) := by decide +kernel
theorem dX11_givenNow_52 : decode cX11_givenNow 52 = .ok (.iaload, 1) := by decide +kernel
theorem dX11_givenNow_53 : decode cX11_givenNow 53 = .ok (.iload_n 1, 1) := by decide +kernel
theorem dX11_givenNow_54 : decode cX11_givenNow 54 = .ok (.if_icmp .ne 27, 3) := by decide +kernel
theorem dX11_givenNow_57 : decode cX11_givenNow 57 = .ok (.aload_n 0, 1) := by decide +kernel
theorem dX11_givenNow_58 : decode cX11_givenNow 58 = .ok (.aload_n 0, 1) := by decide +kernel
theorem dX11_givenNow_59 : decode cX11_givenNow 59 = .ok (.getfield 19, 3) := by decide +kernel
theorem dX11_givenNow_62 : decode cX11_givenNow 62 = .ok (.iload 4, 2) := by decide +kernel
theorem dX11_givenNow_64 : decode cX11_givenNow 64 = .ok (.iaload, 1) := by decide +kernel
theorem dX11_givenNow_65 : decode cX11_givenNow 65 = .ok (.aload_n 0, 1) := by decide +kernel
theorem dX11_givenNow_66 : decode cX11_givenNow 66 = .ok (.getfield 19, 3) := by decide +kernel
theorem dX11_givenNow_69 : decode cX11_givenNow 69 = .ok (.iload_n 2, 1) := by decide +kernel
theorem dX11_givenNow_70 : decode cX11_givenNow 70 = .ok (.iaload, 1) := by decide +kernel
theorem dX11_givenNow_71 : decode cX11_givenNow 71 = .ok (.invokevirtual 285, 3) := by decide +kernel
theorem dX11_givenNow_74 : decode cX11_givenNow 74 = .ok (.ifCond .eq 7, 3) := by decide +kernel
theorem dX11_givenNow_77 : decode cX11_givenNow 77 = .ok (.iconst 1, 1) := by decide +kernel
theorem dX11_givenNow_78 : decode cX11_givenNow 78 = .ok (.goto 4, 3) := by decide +kernel
theorem dX11_givenNow_81 : decode cX11_givenNow 81 = .ok (.iconst 0, 1) := by decide +kernel
theorem dX11_givenNow_82 : decode cX11_givenNow 82 = .ok (.iadd, 1) := by decide +kernel
theorem dX11_givenNow_83 : decode cX11_givenNow 83 = .ok (.istore_n 3, 1) := by decide +kernel
theorem dX11_givenNow_84 : decode cX11_givenNow 84 = .ok (.iinc 4 1, 3) := by decide +kernel
theorem dX11_givenNow_87 : decode cX11_givenNow 87 = .ok (.goto (-61), 3) := by decide +kernel
theorem dX11_givenNow_90 : decode cX11_givenNow 90 = .ok (.aload_n 0, 1) := by decide +kernel
theorem dX11_givenNow_91 : decode cX11_givenNow 91 = .ok (.getfield 16, 3) := by decide +kernel
theorem dX11_givenNow_94 : decode cX11_givenNow 94 = .ok (.iload_n 2, 1) := by decide +kernel
theorem dX11_givenNow_95 : decode cX11_givenNow 95 = .ok (.iaload, 1) := by decide +kernel
theorem dX11_givenNow_96 : decode cX11_givenNow 96 = .ok (.iload_n 1, 1) := by decide +kernel
theorem dX11_givenNow_97 : decode cX11_givenNow 97 = .ok (.if_icmp .ne 20, 3) := by decide +kernel
theorem dX11_givenNow_100 : decode cX11_givenNow 100 = .ok (.aload_n 0, 1) := by decide +kernel
theorem dX11_givenNow_101 : decode cX11_givenNow 101 = .ok (.getfield 22, 3) := by decide +kernel
theorem dX11_givenNow_104 : decode cX11_givenNow 104 = .ok (.iload_n 2, 1) := by decide +kernel
theorem dX11_givenNow_105 : decode cX11_givenNow 105 = .ok (.iaload, 1) := by decide +kernel
theorem dX11_givenNow_106 : decode cX11_givenNow 106 = .ok (.aload_n 0, 1) := by decide +kernel
theorem dX11_givenNow_107 : decode cX11_givenNow 107 = .ok (.getfield 62, 3) := by decide +kernel
theorem dX11_givenNow_110 : decode cX11_givenNow 110 = .ok (.iload_n 3, 1) := by decide +kernel
theorem dX11_givenNow_111 : decode cX11_givenNow 111 = .ok (.iaload, 1) := by decide +kernel
theorem dX11_givenNow_112 : decode cX11_givenNow 112 = .ok (.if_icmp .eq 5, 3) := by decide +kernel
theorem dX11_givenNow_115 : decode cX11_givenNow 115 = .ok (.iconst 0, 1) := by decide +kernel
theorem dX11_givenNow_116 : decode cX11_givenNow 116 = .ok (.ireturn, 1) := by decide +kernel
theorem dX11_givenNow_117 : decode cX11_givenNow 117 = .ok (.iinc 2 1, 3) := by decide +kernel
theorem dX11_givenNow_120 : decode cX11_givenNow 120 = .ok (.goto (-107), 3) := by decide +kernel
theorem dX11_givenNow_123 : decode cX11_givenNow 123 = .ok (.iconst 1, 1) := by decide +kernel
theorem dX11_givenNow_124 : decode cX11_givenNow 124 = .ok (.ireturn, 1) := by decide +kernel
def fX11_givenNow_L26 (p1 : Int32) (p2 : Int32) (a : Int32 × Int32) (s : Sg) : Option (((Int32 × Int32) ⊕ (Int32)) × Sg) :=
  if (gI s 49 3) ≤ a.2 then
  some (.inr a.1, s)
  else
  (aI s 52 64 p2).bind fun v2 =>
  ((if v2 = p1 then
  (aI s 52 64 a.2).bind fun v8 =>
  if v8 = p1 then
  (aI s 53 64 a.2).bind fun v10 =>
  (aI s 53 64 p2).bind fun v11 =>
  (fX11_isBetter v10 v11 s).bind fun w12 =>
  if w12.1 = 0 then
  some ((0 : Int32), w12.2)
  else
  some ((1 : Int32), w12.2)
  else
  some ((0 : Int32), s)
  else
  some ((0 : Int32), s)) : Option (Int32 × Sg)).bind fun w3 =>
  bnd (a.1 + w3.1) fun x5 =>
  bnd (a.2 + (1 : Int32)) fun x6 =>
  some (.inl (x5, x6), w3.2)
def fX11_givenNow_L13 (p1 : Int32) (a : Int32) (s : Sg) : Option (((Int32) ⊕ (Int32 ⊕ (Unit))) × Sg) :=
  if (gI s 49 3) ≤ a then
  some (.inr (.inr ()), s)
  else
  (lpG (fX11_givenNow_L26 p1 a) FU ((0 : Int32), (0 : Int32)) s).bind fun w2 =>
  (aI w2.2 52 64 a).bind fun v3 =>
  if v3 = p1 then
  (aI w2.2 54 64 a).bind fun v6 =>
  (aI w2.2 67 8 w2.1).bind fun v7 =>
  if v6 = v7 then
  bnd (a + (1 : Int32)) fun x8 =>
  some (.inl x8, w2.2)
  else
  some (.inr (.inl (0 : Int32)), w2.2)
  else
  bnd (a + (1 : Int32)) fun x4 =>
  some (.inl x4, w2.2)
def fX11_givenNow (x0_ : Int32) (s : Sg) : Option (Int32 × Sg) :=
  (fX11_ruleFault s).bind fun w1 =>
  if w1.1 = (-1 : Int32) then
  (lpG (fX11_givenNow_L13 x0_) FU (0 : Int32) w1.2).bind fun w2 =>
  Sum.elim (fun r41 => some (r41, w2.2)) (fun e3 => some ((1 : Int32), w2.2)) w2.1
  else
  some ((-3 : Int32), w1.2)
theorem ct_X11_givenNow {g : Gl} {x0_ : Int32} {s : Sg} {w : Int32 × Sg}  (h : fX11_givenNow x0_ s = some w) : Ct SS g iX11_givenNow 3 65 [.ref (gad g 49), .int x0_] s (Dt (some (.int w.1)) w.2) := by
  refine Ct.ofV (by decide +kernel) 3 (lv0 := [some (.ref (gad g 49)), some (.int x0_), none, none, none]) rfl rfl (fun M hC => ?_)
  have hP : (Dt (some (.int w.1)) w.2) (some (.int w.1)) w.2 := ⟨rfl, rfl⟩
  generalize Dt (some (.int w.1)) w.2 = P at hP ⊢
  unfold fX11_givenNow at h
  refine v_aload_n (pc := 0) hC dX11_givenNow_0 rfl ?_
  obtain ⟨w1, hw1, h⟩ := obd_s h
  refine v_cV (pc := 1) [] [.int w1.1] gm_X11_ruleFault hC s_49 rfl rfl (ct_X11_ruleFault  hw1) ml_X11_279 rfl rfl rfl rfl rfl rfl dX11_givenNow_1 ?_
  refine v_iconst (pc := 4) (-1 : Int32) rfl hC dX11_givenNow_4 ?_
  refine v_ic_eq (pc := 5) (tgt := 11) hC dX11_givenNow_5 rfl (fun c42 => ?_) (fun c42 => ?_)
  · replace h := (if_pos c42).symm.trans h
    refine v_iconst (pc := 11) (0 : Int32) rfl hC dX11_givenNow_11 ?_
    refine v_istore_n (pc := 12) (lv' := [some (.ref (gad g 49)), some (.int x0_), some (.int (0 : Int32)), none, none]) hC dX11_givenNow_12 rfl rfl rfl rfl ?_
    obtain ⟨w2, hw2, h⟩ := obd_s h
    have kr39 : ∀ r41, w2.1 = .inl r41 → P (some (.int r41)) w2.2 := by
      intro r41 hr41
      rw [hr41] at h
      replace h := (Sum.elim_inl _ _ _).symm.trans h
      obtain rfl := Option.some.inj h
      exact hP
    have ke40 : ∀ e3, w2.1 = .inr e3 → V SS g M iX11_givenNow (PQ SS g M P) 123 [none, none, none, none, none] [] w2.2 := by
      intro e3 he3
      rw [he3] at h
      replace h := (Sum.elim_inr _ _ _).symm.trans h
      refine v_iconst (pc := 123) (1 : Int32) rfl hC dX11_givenNow_123 ?_
      obtain rfl := Option.some.inj h
      exact v_iret (pc := 124) hC rfl dX11_givenNow_124 hP
    refine V.ls (ls_some (ls_some (ls_some (ls_none (ls_none ls_nil))))) (v_loopR (pc := 13) (fun a6 => [some (.ref (gad g 49)), some (.int x0_), some (.int a6), none, none]) (fun (r41 : Int32) t => P (some (.int r41)) t) (fun z t => V SS g M iX11_givenNow (PQ SS g M P) 123 [none, none, none, none, none] [] t) (fun a6 s4 u5 hu5 k7 k9 k8 => ?_) _ _ _ _ hw2 kr39 ke40)
    unfold fX11_givenNow_L13 at hu5
    refine v_iload_n (pc := 13) hC dX11_givenNow_13 rfl ?_
    refine v_aload_n (pc := 14) hC dX11_givenNow_14 rfl ?_
    refine v_gt (pc := 15) 3 (.int (gI s4 49 3)) hC s_49 rfl rfl rfl rfl fl_X11_98 dX11_givenNow_15 ?_
    refine v_ic_ge (pc := 18) (tgt := 123) hC dX11_givenNow_18 rfl (fun c10 => ?_) (fun c10 => ?_)
    · replace hu5 := (if_pos c10).symm.trans hu5
      obtain rfl := Option.some.inj hu5
      exact V.ls (ls_none (ls_none (ls_none (ls_none (ls_none ls_nil))))) (k8 _ rfl)
    · replace hu5 := (if_neg c10).symm.trans hu5
      refine v_iconst (pc := 21) (0 : Int32) rfl hC dX11_givenNow_21 ?_
      refine v_istore_n (pc := 22) (lv' := [some (.ref (gad g 49)), some (.int x0_), some (.int a6), some (.int (0 : Int32)), none]) hC dX11_givenNow_22 rfl rfl rfl rfl ?_
      refine v_iconst (pc := 23) (0 : Int32) rfl hC dX11_givenNow_23 ?_
      refine v_istore (pc := 24) (lv' := [some (.ref (gad g 49)), some (.int x0_), some (.int a6), some (.int (0 : Int32)), some (.int (0 : Int32))]) hC dX11_givenNow_24 rfl rfl rfl rfl ?_
      obtain ⟨w11, hw11, hu5⟩ := obd_s hu5
      have kx38 : V SS g M iX11_givenNow (PQ SS g M P) 90 [some (.ref (gad g 49)), some (.int x0_), some (.int a6), some (.int w11.1), none] [] w11.2 := by
        refine v_aload_n (pc := 90) hC dX11_givenNow_90 rfl ?_
        refine v_gt (pc := 91) 4 (.ref (gad g 52)) hC s_49 rfl rfl rfl rfl fl_X11_16 dX11_givenNow_91 ?_
        refine v_iload_n (pc := 94) hC dX11_givenNow_94 rfl ?_
        obtain ⟨v12, hv12, hu5⟩ := obd_s hu5
        refine v_aI (pc := 95) hC s_52 hv12 dX11_givenNow_95 ?_
        refine v_iload_n (pc := 96) hC dX11_givenNow_96 rfl ?_
        refine v_ic_ne (pc := 97) (tgt := 117) hC dX11_givenNow_97 rfl (fun c14 => ?_) (fun c14 => ?_)
        · replace hu5 := (if_neg c14).symm.trans hu5
          obtain ⟨x13, hx13, hu5⟩ := bnd_s hu5
          refine v_iinc (pc := 117) (lv' := [some (.ref (gad g 49)), some (.int x0_), some (.int x13), some (.int w11.1), none]) (1 : Int32) rfl hx13 hC dX11_givenNow_117 rfl rfl rfl rfl ?_
          refine v_goto (pc := 120) (tgt := 13) hC dX11_givenNow_120 rfl ?_
          obtain rfl := Option.some.inj hu5
          exact V.ls (ls_some (ls_some (ls_some (ls_none (ls_none ls_nil))))) (k7 _ rfl)
        · replace hu5 := (if_pos c14).symm.trans hu5
          refine v_aload_n (pc := 100) hC dX11_givenNow_100 rfl ?_
          refine v_gt (pc := 101) 6 (.ref (gad g 54)) hC s_49 rfl rfl rfl rfl fl_X11_22 dX11_givenNow_101 ?_
          refine v_iload_n (pc := 104) hC dX11_givenNow_104 rfl ?_
          obtain ⟨v15, hv15, hu5⟩ := obd_s hu5
          refine v_aI (pc := 105) hC s_54 hv15 dX11_givenNow_105 ?_
          refine v_aload_n (pc := 106) hC dX11_givenNow_106 rfl ?_
          refine v_gt (pc := 107) 21 (.ref (gad g 67)) hC s_49 rfl rfl rfl rfl fl_X11_62 dX11_givenNow_107 ?_
          refine v_iload_n (pc := 110) hC dX11_givenNow_110 rfl ?_
          obtain ⟨v16, hv16, hu5⟩ := obd_s hu5
          refine v_aI (pc := 111) hC s_67 hv16 dX11_givenNow_111 ?_
          refine v_ic_eq (pc := 112) (tgt := 117) hC dX11_givenNow_112 rfl (fun c18 => ?_) (fun c18 => ?_)
          · replace hu5 := (if_pos c18).symm.trans hu5
            obtain ⟨x17, hx17, hu5⟩ := bnd_s hu5
            refine v_iinc (pc := 117) (lv' := [some (.ref (gad g 49)), some (.int x0_), some (.int x17), some (.int w11.1), none]) (1 : Int32) rfl hx17 hC dX11_givenNow_117 rfl rfl rfl rfl ?_
            refine v_goto (pc := 120) (tgt := 13) hC dX11_givenNow_120 rfl ?_
            obtain rfl := Option.some.inj hu5
            exact V.ls (ls_some (ls_some (ls_some (ls_none (ls_none ls_nil))))) (k7 _ rfl)
          · replace hu5 := (if_neg c18).symm.trans hu5
            refine v_iconst (pc := 115) (0 : Int32) rfl hC dX11_givenNow_115 ?_
            obtain rfl := Option.some.inj hu5
            exact v_iret (pc := 116) hC rfl dX11_givenNow_116 (k9 _ rfl)
      refine V.ls (ls_some (ls_some (ls_some (ls_some (ls_some ls_nil))))) (v_loop (pc := 26) (fun a21 => [some (.ref (gad g 49)), some (.int x0_), some (.int a6), some (.int a21.1), some (.int a21.2)]) (fun z t => V SS g M iX11_givenNow (PQ SS g M P) 90 [some (.ref (gad g 49)), some (.int x0_), some (.int a6), some (.int z), none] [] t) (fun a21 s19 u20 hu20 k22 k23 => ?_) _ _ _ _ hw11 kx38)
      unfold fX11_givenNow_L26 at hu20
      refine v_iload (pc := 26) hC dX11_givenNow_26 rfl ?_
      refine v_aload_n (pc := 28) hC dX11_givenNow_28 rfl ?_
      refine v_gt (pc := 29) 3 (.int (gI s19 49 3)) hC s_49 rfl rfl rfl rfl fl_X11_98 dX11_givenNow_29 ?_
      refine v_ic_ge (pc := 32) (tgt := 90) hC dX11_givenNow_32 rfl (fun c25 => ?_) (fun c25 => ?_)
      · replace hu20 := (if_pos c25).symm.trans hu20
        obtain rfl := Option.some.inj hu20
        exact V.ls (ls_some (ls_some (ls_some (ls_some (ls_none ls_nil))))) (k23 _ rfl)
      · replace hu20 := (if_neg c25).symm.trans hu20
        refine v_iload_n (pc := 35) hC dX11_givenNow_35 rfl ?_
        refine v_aload_n (pc := 36) hC dX11_givenNow_36 rfl ?_
        refine v_gt (pc := 37) 4 (.ref (gad g 52)) hC s_49 rfl rfl rfl rfl fl_X11_16 dX11_givenNow_37 ?_
        refine v_iload_n (pc := 40) hC dX11_givenNow_40 rfl ?_
        obtain ⟨v26, hv26, hu20⟩ := obd_s hu20
        refine v_aI (pc := 41) hC s_52 hv26 dX11_givenNow_41 ?_
        refine v_iload_n (pc := 42) hC dX11_givenNow_42 rfl ?_
        obtain ⟨w27, hw27, hu20⟩ := obd_s hu20
        have kj28 : V SS g M iX11_givenNow (PQ SS g M P) 82 [some (.ref (gad g 49)), some (.int x0_), some (.int a6), none, some (.int a21.2)] [.int w27.1, .int a21.1] w27.2 := by
          refine v_iadd (pc := 82) hC dX11_givenNow_82 ?_
          obtain ⟨x29, hx29, hu20⟩ := bnd_s hu20
          refine v_istore_n (pc := 83) (lv' := [some (.ref (gad g 49)), some (.int x0_), some (.int a6), some (.int x29), some (.int a21.2)]) hC dX11_givenNow_83 hx29 rfl rfl rfl ?_
          obtain ⟨x30, hx30, hu20⟩ := bnd_s hu20
          refine v_iinc (pc := 84) (lv' := [some (.ref (gad g 49)), some (.int x0_), some (.int a6), some (.int x29), some (.int x30)]) (1 : Int32) rfl hx30 hC dX11_givenNow_84 rfl rfl rfl rfl ?_
          refine v_goto (pc := 87) (tgt := 26) hC dX11_givenNow_87 rfl ?_
          obtain rfl := Option.some.inj hu20
          exact V.ls (ls_some (ls_some (ls_some (ls_some (ls_some ls_nil))))) (k22 _ rfl)
        refine v_ic_ne (pc := 43) (tgt := 81) hC dX11_givenNow_43 rfl (fun c31 => ?_) (fun c31 => ?_)
        · replace hw27 := (if_neg c31).symm.trans hw27
          refine v_iconst (pc := 81) (0 : Int32) rfl hC dX11_givenNow_81 ?_
          obtain rfl := Option.some.inj hw27
          exact V.ls (ls_some (ls_some (ls_some (ls_none (ls_some ls_nil))))) kj28
        · replace hw27 := (if_pos c31).symm.trans hw27
          refine v_aload_n (pc := 46) hC dX11_givenNow_46 rfl ?_
          refine v_gt (pc := 47) 4 (.ref (gad g 52)) hC s_49 rfl rfl rfl rfl fl_X11_16 dX11_givenNow_47 ?_
          refine v_iload (pc := 50) hC dX11_givenNow_50 rfl ?_
          obtain ⟨v32, hv32, hw27⟩ := obd_s hw27
          refine v_aI (pc := 52) hC s_52 hv32 dX11_givenNow_52 ?_
          refine v_iload_n (pc := 53) hC dX11_givenNow_53 rfl ?_
          refine v_ic_ne (pc := 54) (tgt := 81) hC dX11_givenNow_54 rfl (fun c33 => ?_) (fun c33 => ?_)
          · replace hw27 := (if_neg c33).symm.trans hw27
            refine v_iconst (pc := 81) (0 : Int32) rfl hC dX11_givenNow_81 ?_
            obtain rfl := Option.some.inj hw27
            exact V.ls (ls_some (ls_some (ls_some (ls_none (ls_some ls_nil))))) kj28
          · replace hw27 := (if_pos c33).symm.trans hw27
            refine v_aload_n (pc := 57) hC dX11_givenNow_57 rfl ?_
            refine v_aload_n (pc := 58) hC dX11_givenNow_58 rfl ?_
            refine v_gt (pc := 59) 5 (.ref (gad g 53)) hC s_49 rfl rfl rfl rfl fl_X11_19 dX11_givenNow_59 ?_
            refine v_iload (pc := 62) hC dX11_givenNow_62 rfl ?_
            obtain ⟨v34, hv34, hw27⟩ := obd_s hw27
            refine v_aI (pc := 64) hC s_53 hv34 dX11_givenNow_64 ?_
            refine v_aload_n (pc := 65) hC dX11_givenNow_65 rfl ?_
            refine v_gt (pc := 66) 5 (.ref (gad g 53)) hC s_49 rfl rfl rfl rfl fl_X11_19 dX11_givenNow_66 ?_
            refine v_iload_n (pc := 69) hC dX11_givenNow_69 rfl ?_
            obtain ⟨v35, hv35, hw27⟩ := obd_s hw27
            refine v_aI (pc := 70) hC s_53 hv35 dX11_givenNow_70 ?_
            obtain ⟨w36, hw36, hw27⟩ := obd_s hw27
            refine v_cV (pc := 71) [.int a21.1] [.int w36.1, .int a21.1] gm_X11_isBetter hC s_49 rfl rfl (ct_X11_isBetter  hw36) ml_X11_285 rfl rfl rfl rfl rfl rfl dX11_givenNow_71 ?_
            refine v_if_eq (pc := 74) (tgt := 81) hC dX11_givenNow_74 rfl (fun c37 => ?_) (fun c37 => ?_)
            · replace hw27 := (if_pos c37).symm.trans hw27
              refine v_iconst (pc := 81) (0 : Int32) rfl hC dX11_givenNow_81 ?_
              obtain rfl := Option.some.inj hw27
              exact V.ls (ls_some (ls_some (ls_some (ls_none (ls_some ls_nil))))) kj28
            · replace hw27 := (if_neg c37).symm.trans hw27
              refine v_iconst (pc := 77) (1 : Int32) rfl hC dX11_givenNow_77 ?_
              refine v_goto (pc := 78) (tgt := 82) hC dX11_givenNow_78 rfl ?_
              obtain rfl := Option.some.inj hw27
              exact V.ls (ls_some (ls_some (ls_some (ls_none (ls_some ls_nil))))) kj28
  · replace h := (if_neg c42).symm.trans h
    refine v_bipush (pc := 8) (-3 : Int32) rfl hC dX11_givenNow_8 ?_
    obtain rfl := Option.some.inj h
    exact v_iret (pc := 10) hC rfl dX11_givenNow_10 hP
theorem dX11_given_0 : decode cX11_given 0 = .ok (.aload_n 0, 1) := by decide +kernel
theorem dX11_given_1 : decode cX11_given 1 = .ok (.iload_n 1, 1) := by decide +kernel
theorem dX11_given_2 : decode cX11_given 2 = .ok (.invokevirtual 105, 3) := by decide +kernel
theorem dX11_given_5 : decode cX11_given 5 = .ok (.ifCond .eq 11, 3) := by decide +kernel
theorem dX11_given_8 : decode cX11_given 8 = .ok (.aload_n 0, 1) := by decide +kernel
theorem dX11_given_9 : decode cX11_given 9 = .ok (.iload_n 1, 1) := by decide +kernel
theorem dX11_given_10 : decode cX11_given 10 = .ok (.invokevirtual 288, 3) := by decide +kernel
theorem dX11_given_13 : decode cX11_given 13 = .ok (.goto 5, 3) := by decide +kernel
theorem dX11_given_16 : decode cX11_given 16 = .ok (.bipush (-2), 2) := by decide +kernel
theorem dX11_given_18 : decode cX11_given 18 = .ok (.ireturn, 1) := by decide +kernel
def fX11_given (x0_ : Int32) (s : Sg) : Option (Int32 × Sg) :=
  (fX11_isRace x0_ s).bind fun w1 =>
  if w1.1 = 0 then
  some ((-2 : Int32), w1.2)
  else
  (fX11_givenNow x0_ w1.2).bind fun w3 =>
  some (w3.1, w3.2)
theorem ct_X11_given {g : Gl} {x0_ : Int32} {s : Sg} {w : Int32 × Sg}  (h : fX11_given x0_ s = some w) : Ct SS g iX11_given 4 89 [.ref (gad g 49), .int x0_] s (Dt (some (.int w.1)) w.2) := by
  refine Ct.ofV (by decide +kernel) 0 (lv0 := [some (.ref (gad g 49)), some (.int x0_)]) rfl rfl (fun M hC => ?_)
  have hP : (Dt (some (.int w.1)) w.2) (some (.int w.1)) w.2 := ⟨rfl, rfl⟩
  generalize Dt (some (.int w.1)) w.2 = P at hP ⊢
  unfold fX11_given at h
  refine v_aload_n (pc := 0) hC dX11_given_0 rfl ?_
  refine v_iload_n (pc := 1) hC dX11_given_1 rfl ?_
  obtain ⟨w1, hw1, h⟩ := obd_s h
  refine v_cV (pc := 2) [] [.int w1.1] gm_X11_isRace hC s_49 rfl rfl (ct_X11_isRace  hw1) ml_X11_105 rfl rfl rfl rfl rfl rfl dX11_given_2 ?_
  refine v_if_eq (pc := 5) (tgt := 16) hC dX11_given_5 rfl (fun c2 => ?_) (fun c2 => ?_)
  · replace h := (if_pos c2).symm.trans h
    refine v_bipush (pc := 16) (-2 : Int32) rfl hC dX11_given_16 ?_
    obtain rfl := Option.some.inj h
    exact v_iret (pc := 18) hC rfl dX11_given_18 hP
  · replace h := (if_neg c2).symm.trans h
    refine v_aload_n (pc := 8) hC dX11_given_8 rfl ?_
    refine v_iload_n (pc := 9) hC dX11_given_9 rfl ?_
    obtain ⟨w3, hw3, h⟩ := obd_s h
    refine v_cV (pc := 10) [] [.int w3.1] gm_X11_givenNow hC s_49 rfl rfl (ct_X11_givenNow  hw3) ml_X11_288 rfl rfl rfl rfl rfl rfl dX11_given_10 ?_
    refine v_goto (pc := 13) (tgt := 18) hC dX11_given_13 rfl ?_
    obtain rfl := Option.some.inj h
    exact v_iret (pc := 18) hC rfl dX11_given_18 hP
theorem dX11_tenthsNow_0 : decode cX11_tenthsNow 0 = .ok (.iconst 0, 1) := by decide +kernel
theorem dX11_tenthsNow_1 : decode cX11_tenthsNow 1 = .ok (.istore_n 3, 1) := by decide +kernel
theorem dX11_tenthsNow_2 : decode cX11_tenthsNow 2 = .ok (.iconst 0, 1) := by decide +kernel
theorem dX11_tenthsNow_3 : decode cX11_tenthsNow 3 = .ok (.istore 4, 2) := by decide +kernel
theorem dX11_tenthsNow_5 : decode cX11_tenthsNow 5 = .ok (.iconst 0, 1) := by decide +kernel
theorem dX11_tenthsNow_6 : decode cX11_tenthsNow 6 = .ok (.istore 5, 2) := by decide +kernel
theorem dX11_tenthsNow_8 : decode cX11_tenthsNow 8 = .ok (.iload 5, 2) := by decide +kernel
theorem dX11_tenthsNow_10 : decode cX11_tenthsNow 10 = .ok (.iconst 4, 1) := by decide +kernel
theorem dX11_tenthsNow_11 : decode cX11_tenthsNow 11 = .ok (.aload_n 0, 1) := by decide +kernel
theorem dX11_tenthsNow_12 : decode cX11_tenthsNow 12 = .ok (.getfield 98, 3) := by decide +kernel
theorem dX11_tenthsNow_15 : decode cX11_tenthsNow 15 = .ok (.imul, 1) := by decide +kernel
theorem dX11_tenthsNow_16 : decode cX11_tenthsNow 16 = .ok (.if_icmp .ge 86, 3) := by decide +kernel
theorem dX11_tenthsNow_19 : decode cX11_tenthsNow 19 = .ok (.aload_n 0, 1) := by decide +kernel
theorem dX11_tenthsNow_20 : decode cX11_tenthsNow 20 = .ok (.getfield 25, 3) := by decide +kernel
theorem dX11_tenthsNow_23 : decode cX11_tenthsNow 23 = .ok (.iload 5, 2) := by decide +kernel
theorem dX11_tenthsNow_25 : decode cX11_tenthsNow 25 = .ok (.iaload, 1) := by decide +kernel
theorem dX11_tenthsNow_26 : decode cX11_tenthsNow 26 = .ok (.iconst (-1), 1) := by decide +kernel
theorem dX11_tenthsNow_27 : decode cX11_tenthsNow 27 = .ok (.if_icmp .eq 25, 3) := by decide +kernel
theorem dX11_tenthsNow_30 : decode cX11_tenthsNow 30 = .ok (.iload_n 1, 1) := by decide +kernel
theorem dX11_tenthsNow_31 : decode cX11_tenthsNow 31 = .ok (.iconst (-1), 1) := by decide +kernel
theorem dX11_tenthsNow_32 : decode cX11_tenthsNow 32 = .ok (.if_icmp .eq 16, 3) := by decide +kernel
theorem dX11_tenthsNow_35 : decode cX11_tenthsNow 35 = .ok (.aload_n 0, 1) := by decide +kernel
theorem dX11_tenthsNow_36 : decode cX11_tenthsNow 36 = .ok (.getfield 16, 3) := by decide +kernel
theorem dX11_tenthsNow_39 : decode cX11_tenthsNow 39 = .ok (.iload 5, 2) := by decide +kernel
theorem dX11_tenthsNow_41 : decode cX11_tenthsNow 41 = .ok (.iconst 4, 1) := by decide +kernel
theorem dX11_tenthsNow_42 : decode cX11_tenthsNow 42 = .ok (.idiv, 1) := by decide +kernel
theorem dX11_tenthsNow_43 : decode cX11_tenthsNow 43 = .ok (.iaload, 1) := by decide +kernel
theorem dX11_tenthsNow_44 : decode cX11_tenthsNow 44 = .ok (.iload_n 1, 1) := by decide +kernel
theorem dX11_tenthsNow_45 : decode cX11_tenthsNow 45 = .ok (.if_icmp .ne 7, 3) := by decide +kernel
theorem dX11_tenthsNow_48 : decode cX11_tenthsNow 48 = .ok (.iconst 1, 1) := by decide +kernel
theorem dX11_tenthsNow_49 : decode cX11_tenthsNow 49 = .ok (.goto 4, 3) := by decide +kernel
theorem dX11_tenthsNow_52 : decode cX11_tenthsNow 52 = .ok (.iconst 0, 1) := by decide +kernel
theorem dX11_tenthsNow_53 : decode cX11_tenthsNow 53 = .ok (.istore 6, 2) := by decide +kernel
theorem dX11_tenthsNow_55 : decode cX11_tenthsNow 55 = .ok (.iload_n 3, 1) := by decide +kernel
theorem dX11_tenthsNow_56 : decode cX11_tenthsNow 56 = .ok (.iload 6, 2) := by decide +kernel
theorem dX11_tenthsNow_58 : decode cX11_tenthsNow 58 = .ok (.ifCond .eq 7, 3) := by decide +kernel
theorem dX11_tenthsNow_61 : decode cX11_tenthsNow 61 = .ok (.iconst 1, 1) := by decide +kernel
theorem dX11_tenthsNow_62 : decode cX11_tenthsNow 62 = .ok (.goto 4, 3) := by decide +kernel
theorem dX11_tenthsNow_65 : decode cX11_tenthsNow 65 = .ok (.iconst 0, 1) := by decide +kernel
theorem dX11_tenthsNow_66 : decode cX11_tenthsNow 66 = .ok (.iadd, 1) := by decide +kernel
theorem dX11_tenthsNow_67 : decode cX11_tenthsNow 67 = .ok (.istore_n 3, 1) := by decide +kernel
theorem dX11_tenthsNow_68 : decode cX11_tenthsNow 68 = .ok (.iload 4, 2) := by decide +kernel
theorem dX11_tenthsNow_70 : decode cX11_tenthsNow 70 = .ok (.iload 6, 2) := by decide +kernel
theorem dX11_tenthsNow_72 : decode cX11_tenthsNow 72 = .ok (.ifCond .eq 20, 3) := by decide +kernel
theorem dX11_tenthsNow_75 : decode cX11_tenthsNow 75 = .ok (.aload_n 0, 1) := by decide +kernel
theorem dX11_tenthsNow_76 : decode cX11_tenthsNow 76 = .ok (.getfield 25, 3) := by decide +kernel
theorem dX11_tenthsNow_79 : decode cX11_tenthsNow 79 = .ok (.iload 5, 2) := by decide +kernel
theorem dX11_tenthsNow_81 : decode cX11_tenthsNow 81 = .ok (.iaload, 1) := by decide +kernel
theorem dX11_tenthsNow_82 : decode cX11_tenthsNow 82 = .ok (.bipush 10, 2) := by decide +kernel
theorem dX11_tenthsNow_84 : decode cX11_tenthsNow 84 = .ok (.irem, 1) := by decide +kernel
theorem dX11_tenthsNow_85 : decode cX11_tenthsNow 85 = .ok (.ifCond .ne 7, 3) := by decide +kernel
theorem dX11_tenthsNow_88 : decode cX11_tenthsNow 88 = .ok (.iconst 1, 1) := by decide +kernel
theorem dX11_tenthsNow_89 : decode cX11_tenthsNow 89 = .ok (.goto 4, 3) := by decide +kernel
theorem dX11_tenthsNow_92 : decode cX11_tenthsNow 92 = .ok (.iconst 0, 1) := by decide +kernel
theorem dX11_tenthsNow_93 : decode cX11_tenthsNow 93 = .ok (.iadd, 1) := by decide +kernel
theorem dX11_tenthsNow_94 : decode cX11_tenthsNow 94 = .ok (.istore 4, 2) := by decide +kernel
theorem dX11_tenthsNow_96 : decode cX11_tenthsNow 96 = .ok (.iinc 5 1, 3) := by decide +kernel
theorem dX11_tenthsNow_99 : decode cX11_tenthsNow 99 = .ok (.goto (-91), 3) := by decide +kernel
theorem dX11_tenthsNow_102 : decode cX11_tenthsNow 102 = .ok (.iload_n 2, 1) := by decide +kernel
theorem dX11_tenthsNow_103 : decode cX11_tenthsNow 103 = .ok (.iconst 2, 1) := by decide +kernel
theorem dX11_tenthsNow_104 : decode cX11_tenthsNow 104 = .ok (.if_icmp .ge 14, 3) := by decide +kernel
theorem dX11_tenthsNow_107 : decode cX11_tenthsNow 107 = .ok (.iload_n 2, 1) := by decide +kernel
theorem dX11_tenthsNow_108 : decode cX11_tenthsNow 108 = .ok (.ifCond .ne 7, 3) := by decide +kernel
theorem dX11_tenthsNow_111 : decode cX11_tenthsNow 111 = .ok (.iload_n 3, 1) := by decide +kernel
theorem dX11_tenthsNow_112 : decode cX11_tenthsNow 112 = .ok (.goto 5, 3) := by decide +kernel
theorem dX11_tenthsNow_115 : decode cX11_tenthsNow 115 = .ok (.iload 4, 2) := by decide +kernel
theorem dX11_tenthsNow_117 : decode cX11_tenthsNow 117 = .ok (.ireturn, 1) := by decide +kernel
theorem dX11_tenthsNow_118 : decode cX11_tenthsNow 118 = .ok (.iload_n 3, 1) := by decide +kernel
theorem dX11_tenthsNow_119 : decode cX11_tenthsNow 119 = .ok (.bipush 18, 2) := by decide +kernel
theorem dX11_tenthsNow_121 : decode cX11_tenthsNow 121 = .ok (.if_icmp .le 6, 3) := by decide +kernel
theorem dX11_tenthsNow_124 : decode cX11_tenthsNow 124 = .ok (.bipush (-4), 2) := by decide +kernel
theorem dX11_tenthsNow_126 : decode cX11_tenthsNow 126 = .ok (.ireturn, 1) := by decide +kernel
theorem dX11_tenthsNow_127 : decode cX11_tenthsNow 127 = .ok (.lconst 0, 1) := by decide +kernel
theorem dX11_tenthsNow_128 : decode cX11_tenthsNow 128 = .ok (.lstore 5, 2) := by decide +kernel
theorem dX11_tenthsNow_130 : decode cX11_tenthsNow 130 = .ok (.lconst 1, 1) := by decide +kernel
theorem dX11_tenthsNow_131 : decode cX11_tenthsNow 131 = .ok (.lstore 7, 2) := by decide +kernel
theorem dX11_tenthsNow_133 : decode cX11_tenthsNow 133 = .ok (.lconst 1, 1) := by decide +kernel
theorem dX11_tenthsNow_134 : decode cX11_tenthsNow 134 = .ok (.lstore 9, 2) := by decide +kernel
theorem dX11_tenthsNow_136 : decode cX11_tenthsNow 136 = .ok (.iconst 0, 1) := by decide +kernel
theorem dX11_tenthsNow_137 : decode cX11_tenthsNow 137 = .ok (.istore 11, 2) := by decide +kernel
theorem dX11_tenthsNow_139 : decode cX11_tenthsNow 139 = .ok (.iload 11, 2) := by decide +kernel
theorem dX11_tenthsNow_141 : decode cX11_tenthsNow 141 = .ok (.iload_n 3, 1) := by decide +kernel
theorem dX11_tenthsNow_142 : decode cX11_tenthsNow 142 = .ok (.if_icmp .gt 89, 3) := by decide +kernel
theorem dX11_tenthsNow_145 : decode cX11_tenthsNow 145 = .ok (.lload 7, 2) := by decide +kernel
theorem dX11_tenthsNow_147 : decode cX11_tenthsNow 147 = .ok (.lstore 12, 2) := by decide +kernel
theorem dX11_tenthsNow_149 : decode cX11_tenthsNow 149 = .ok (.iload 11, 2) := by decide +kernel
theorem dX11_tenthsNow_151 : decode cX11_tenthsNow 151 = .ok (.istore 14, 2) := by decide +kernel
theorem dX11_tenthsNow_153 : decode cX11_tenthsNow 153 = .ok (.iload 14, 2) := by decide +kernel
theorem dX11_tenthsNow_155 : decode cX11_tenthsNow 155 = .ok (.iload_n 3, 1) := by decide +kernel
theorem dX11_tenthsNow_156 : decode cX11_tenthsNow 156 = .ok (.if_icmp .ge 17, 3) := by decide +kernel
theorem dX11_tenthsNow_159 : decode cX11_tenthsNow 159 = .ok (.lload 12, 2) := by decide +kernel
theorem dX11_tenthsNow_161 : decode cX11_tenthsNow 161 = .ok (.ldc2_w 291, 3) := by decide +kernel
theorem dX11_tenthsNow_164 : decode cX11_tenthsNow 164 = .ok (.lmul, 1) := by decide +kernel
theorem dX11_tenthsNow_165 : decode cX11_tenthsNow 165 = .ok (.lstore 12, 2) := by decide +kernel
theorem dX11_tenthsNow_167 : decode cX11_tenthsNow 167 = .ok (.iinc 14 1, 3) := by decide +kernel
theorem dX11_tenthsNow_170 : decode cX11_tenthsNow 170 = .ok (.goto (-17), 3) := by decide +kernel
theorem dX11_tenthsNow_173 : decode cX11_tenthsNow 173 = .ok (.lload 5, 2) := by decide +kernel
theorem dX11_tenthsNow_175 : decode cX11_tenthsNow 175 = .ok (.iload 11, 2) := by decide +kernel
theorem dX11_tenthsNow_177 : decode cX11_tenthsNow 177 = .ok (.iload 4, 2) := by decide +kernel
theorem dX11_tenthsNow_179 : decode cX11_tenthsNow 179 = .ok (.if_icmp .lt 8, 3) := by decide +kernel
theorem dX11_tenthsNow_182 : decode cX11_tenthsNow 182 = .ok (.lload 12, 2) := by decide +kernel
theorem dX11_tenthsNow_184 : decode cX11_tenthsNow 184 = .ok (.goto 4, 3) := by decide +kernel
theorem dX11_tenthsNow_187 : decode cX11_tenthsNow 187 = .ok (.lconst 0, 1) := by decide +kernel
theorem dX11_tenthsNow_188 : decode cX11_tenthsNow 188 = .ok (.ladd, 1) := by decide +kernel
theorem dX11_tenthsNow_189 : decode cX11_tenthsNow 189 = .ok (.lstore 5, 2) := by decide +kernel
theorem dX11_tenthsNow_191 : decode cX11_tenthsNow 191 = .ok (.lload 7, 2) := by decide +kernel
theorem dX11_tenthsNow_193 : decode cX11_tenthsNow 193 = .ok (.iload_n 3, 1) := by decide +kernel
theorem dX11_tenthsNow_194 : decode cX11_tenthsNow 194 = .ok (.iload 11, 2) := by decide +kernel
theorem dX11_tenthsNow_196 : decode cX11_tenthsNow 196 = .ok (.isub, 1) := by decide +kernel
theorem dX11_tenthsNow_197 : decode cX11_tenthsNow 197 = .ok (.i2l, 1) := by decide +kernel
theorem dX11_tenthsNow_198 : decode cX11_tenthsNow 198 = .ok (.lmul, 1) := by decide +kernel
theorem dX11_tenthsNow_199 : decode cX11_tenthsNow 199 = .ok (.iload 11, 2) := by decide +kernel
theorem dX11_tenthsNow_201 : decode cX11_tenthsNow 201 = .ok (.i2l, 1) := by decide +kernel
theorem dX11_tenthsNow_202 : decode cX11_tenthsNow 202 = .ok (.lconst 1, 1) := by decide +kernel
theorem dX11_tenthsNow_203 : decode cX11_tenthsNow 203 = .ok (.ladd, 1) := by decide +kernel
theorem dX11_tenthsNow_204 : decode cX11_tenthsNow 204 = .ok (.ldiv, 1) := by decide +kernel
theorem dX11_tenthsNow_205 : decode cX11_tenthsNow 205 = .ok (.lstore 7, 2) := by decide +kernel
theorem dX11_tenthsNow_207 : decode cX11_tenthsNow 207 = .ok (.lload 9, 2) := by decide +kernel
theorem dX11_tenthsNow_209 : decode cX11_tenthsNow 209 = .ok (.iload 11, 2) := by decide +kernel
theorem dX11_tenthsNow_211 : decode cX11_tenthsNow 211 = .ok (.iload_n 3, 1) := by decide +kernel
theorem dX11_tenthsNow_212 : decode cX11_tenthsNow 212 = .ok (.if_icmp .ge 9, 3) := by decide +kernel
theorem dX11_tenthsNow_215 : decode cX11_tenthsNow 215 = .ok (.ldc2_w 293, 3) := by decide +kernel
theorem dX11_tenthsNow_218 : decode cX11_tenthsNow 218 = .ok (.goto 4, 3) := by decide +kernel
theorem dX11_tenthsNow_221 : decode cX11_tenthsNow 221 = .ok (.lconst 1, 1) := by decide +kernel
theorem dX11_tenthsNow_222 : decode cX11_tenthsNow 222 = .ok (.lmul, 1) := by decide +kernel
theorem dX11_tenthsNow_223 : decode cX11_tenthsNow 223 = .ok (.lstore 9, 2) := by decide +kernel
theorem dX11_tenthsNow_225 : decode cX11_tenthsNow 225 = .ok (.iinc 11 1, 3) := by decide +kernel
theorem dX11_tenthsNow_228 : decode cX11_tenthsNow 228 = .ok (.goto (-89), 3) := by decide +kernel
theorem dX11_tenthsNow_231 : decode cX11_tenthsNow 231 = .ok (.lload 9, 2) := by decide +kernel
theorem dX11_tenthsNow_233 : decode cX11_tenthsNow 233 = .ok (.ldc2_w 204, 3) := by decide +kernel
theorem dX11_tenthsNow_236 : decode cX11_tenthsNow 236 = .ok (.lcmp, 1) := by decide +kernel
theorem dX11_tenthsNow_237 : decode cX11_tenthsNow 237 = .ok (.ifCond .lt 15, 3) := by decide +kernel
theorem dX11_tenthsNow_240 : decode cX11_tenthsNow 240 = .ok (.lload 5, 2) := by decide +kernel
theorem dX11_tenthsNow_242 : decode cX11_tenthsNow 242 = .ok (.lload 9, 2) := by decide +kernel
theorem dX11_tenthsNow_244 : decode cX11_tenthsNow 244 = .ok (.ldc2_w 204, 3) := by decide +kernel
theorem dX11_tenthsNow_247 : decode cX11_tenthsNow 247 = .ok (.ldiv, 1) := by decide +kernel
theorem dX11_tenthsNow_248 : decode cX11_tenthsNow 248 = .ok (.ldiv, 1) := by decide +kernel
theorem dX11_tenthsNow_249 : decode cX11_tenthsNow 249 = .ok (.goto 12, 3) := by decide +kernel
theorem dX11_tenthsNow_252 : decode cX11_tenthsNow 252 = .ok (.lload 5, 2) := by decide +kernel
theorem dX11_tenthsNow_254 : decode cX11_tenthsNow 254 = .ok (.ldc2_w 204, 3) := by decide +kernel
theorem dX11_tenthsNow_257 : decode cX11_tenthsNow 257 = .ok (.lload 9, 2) := by decide +kernel
theorem dX11_tenthsNow_259 : decode cX11_tenthsNow 259 = .ok (.ldiv, 1) := by decide +kernel
theorem dX11_tenthsNow_260 : decode cX11_tenthsNow 260 = .ok (.lmul, 1) := by decide +kernel
theorem dX11_tenthsNow_261 : decode cX11_tenthsNow 261 = .ok (.l2i, 1) := by decide +kernel
theorem dX11_tenthsNow_262 : decode cX11_tenthsNow 262 = .ok (.ireturn, 1) := by decide +kernel
def fX11_tenthsNow_L8 (p1 : Int32) (p2 : Int32) (a : Int32 × Int32 × Int32) (s : Sg) : Option (((Int32 × Int32 × Int32) ⊕ (Int32 × Int32)) × Sg) :=
  if ((4 : Int32) * (gI s 49 3)) ≤ a.2.2 then
  some (.inr (a.1, a.2.1), s)
  else
  (aI s 55 256 a.2.2).bind fun v2 =>
  ((if v2 = (-1 : Int32) then
  some (0 : Int32)
  else
  if p1 = (-1 : Int32) then
  some (1 : Int32)
  else
  (dI a.2.2 (4 : Int32)).bind fun v19 =>
  (aI s 52 64 v19).bind fun v20 =>
  if v20 = p1 then
  some (1 : Int32)
  else
  some (0 : Int32)) : Option (Int32)).bind fun w3 =>
  ((if w3 = 0 then
  some (0 : Int32)
  else
  some (1 : Int32)) : Option (Int32)).bind fun w5 =>
  bnd (a.1 + w5) fun x7 =>
  ((if w3 = 0 then
  some (0 : Int32)
  else
  (aI s 55 256 a.2.2).bind fun v13 =>
  (mI v13 (10 : Int32)).bind fun v14 =>
  if v14 = 0 then
  some (1 : Int32)
  else
  some (0 : Int32)) : Option (Int32)).bind fun w8 =>
  bnd (a.2.1 + w8) fun x10 =>
  bnd (a.2.2 + (1 : Int32)) fun x11 =>
  some (.inl (x7, x10, x11), s)
def fX11_tenthsNow_L153 (p3 : Int32) (p4 : Int32) (p5 : Int64) (p7 : Int64) (p9 : Int64) (p11 : Int32) (a : Int64 × Int32) (s : Sg) : Option (((Int64 × Int32) ⊕ (Int64)) × Sg) :=
  if p3 ≤ a.2 then
  some (.inr a.1, s)
  else
  bnd (a.1 * (9 : Int64)) fun x2 =>
  bnd (a.2 + (1 : Int32)) fun x3 =>
  some (.inl (x2, x3), s)
def fX11_tenthsNow_L139 (p3 : Int32) (p4 : Int32) (a : Int64 × Int64 × Int64 × Int32) (s : Sg) : Option (((Int64 × Int64 × Int64 × Int32) ⊕ (Int64 × Int64)) × Sg) :=
  if p3 < a.2.2.2 then
  some (.inr (a.1, a.2.2.1), s)
  else
  (lpG (fX11_tenthsNow_L153 p3 p4 a.1 a.2.1 a.2.2.1 a.2.2.2) FU (a.2.1, a.2.2.2) s).bind fun w2 =>
  ((if a.2.2.2 < p4 then
  some (0 : Int64)
  else
  some w2.1) : Option (Int64)).bind fun w3 =>
  bnd (a.1 + w3) fun x5 =>
  (dL (a.2.1 * (((p3 - a.2.2.2)).toInt64)) (((a.2.2.2).toInt64) + (1 : Int64))).bind fun v6 =>
  ((if p3 ≤ a.2.2.2 then
  some (1 : Int64)
  else
  some (10 : Int64)) : Option (Int64)).bind fun w7 =>
  bnd (a.2.2.1 * w7) fun x9 =>
  bnd (a.2.2.2 + (1 : Int32)) fun x10 =>
  some (.inl (x5, v6, x9, x10), w2.2)
def fX11_tenthsNow (x0_ : Int32) (x1_ : Int32) (s : Sg) : Option (Int32 × Sg) :=
  (lpG (fX11_tenthsNow_L8 x0_ x1_) FU ((0 : Int32), (0 : Int32), (0 : Int32)) s).bind fun w1 =>
  if (2 : Int32) ≤ x1_ then
  if w1.1.1 ≤ (18 : Int32) then
  (lpG (fX11_tenthsNow_L139 w1.1.1 w1.1.2) FU ((0 : Int64), (1 : Int64), (1 : Int64), (0 : Int32)) w1.2).bind fun w2 =>
  if (lg_cmp w2.1.2 (1000000 : Int64)) < 0 then
  (dL (1000000 : Int64) w2.1.2).bind fun v3 =>
  some ((((w2.1.1 * v3)).toInt32), w2.2)
  else
  (dL w2.1.2 (1000000 : Int64)).bind fun v5 =>
  (dL w2.1.1 v5).bind fun v6 =>
  some (((v6).toInt32), w2.2)
  else
  some ((-4 : Int32), w1.2)
  else
  if x1_ = 0 then
  some (w1.1.1, w1.2)
  else
  some (w1.1.2, w1.2)
theorem ct_X11_tenthsNow {g : Gl} {x0_ : Int32} {x1_ : Int32} {s : Sg} {w : Int32 × Sg}  (h : fX11_tenthsNow x0_ x1_ s = some w) : Ct SS g iX11_tenthsNow 0 0 [.ref (gad g 49), .int x0_, .int x1_] s (Dt (some (.int w.1)) w.2) := by
  refine Ct.ofV (by decide +kernel) 12 (lv0 := [some (.ref (gad g 49)), some (.int x0_), some (.int x1_), none, none, none, none, none, none, none, none, none, none, none, none]) rfl rfl (fun M hC => ?_)
  have hP : (Dt (some (.int w.1)) w.2) (some (.int w.1)) w.2 := ⟨rfl, rfl⟩
  generalize Dt (some (.int w.1)) w.2 = P at hP ⊢
  unfold fX11_tenthsNow at h
  refine v_iconst (pc := 0) (0 : Int32) rfl hC dX11_tenthsNow_0 ?_
  refine v_istore_n (pc := 1) (lv' := [some (.ref (gad g 49)), some (.int x0_), some (.int x1_), some (.int (0 : Int32)), none, none, none, none, none, none, none, none, none, none, none]) hC dX11_tenthsNow_1 rfl rfl rfl rfl ?_
  refine v_iconst (pc := 2) (0 : Int32) rfl hC dX11_tenthsNow_2 ?_
  refine v_istore (pc := 3) (lv' := [some (.ref (gad g 49)), some (.int x0_), some (.int x1_), some (.int (0 : Int32)), some (.int (0 : Int32)), none, none, none, none, none, none, none, none, none, none]) hC dX11_tenthsNow_3 rfl rfl rfl rfl ?_
  refine v_iconst (pc := 5) (0 : Int32) rfl hC dX11_tenthsNow_5 ?_
  refine v_istore (pc := 6) (lv' := [some (.ref (gad g 49)), some (.int x0_), some (.int x1_), some (.int (0 : Int32)), some (.int (0 : Int32)), some (.int (0 : Int32)), none, none, none, none, none, none, none, none, none]) hC dX11_tenthsNow_6 rfl rfl rfl rfl ?_
  obtain ⟨w1, hw1, h⟩ := obd_s h
  have kx66 : V SS g M iX11_tenthsNow (PQ SS g M P) 102 [none, none, some (.int x1_), some (.int w1.1.1), some (.int w1.1.2), none, none, none, none, none, none, none, none, none, none] [] w1.2 := by
    refine v_iload_n (pc := 102) hC dX11_tenthsNow_102 rfl ?_
    refine v_iconst (pc := 103) (2 : Int32) rfl hC dX11_tenthsNow_103 ?_
    refine v_ic_ge (pc := 104) (tgt := 118) hC dX11_tenthsNow_104 rfl (fun c37 => ?_) (fun c37 => ?_)
    · replace h := (if_pos c37).symm.trans h
      refine v_iload_n (pc := 118) hC dX11_tenthsNow_118 rfl ?_
      refine v_bipush (pc := 119) (18 : Int32) rfl hC dX11_tenthsNow_119 ?_
      refine v_ic_le (pc := 121) (tgt := 127) hC dX11_tenthsNow_121 rfl (fun c36 => ?_) (fun c36 => ?_)
      · replace h := (if_pos c36).symm.trans h
        refine v_lconst (pc := 127) (0 : Int64) rfl hC dX11_tenthsNow_127 ?_
        refine v_lstore (pc := 128) (lv' := [none, none, some (.int x1_), some (.int w1.1.1), some (.int w1.1.2), some (.long (0 : Int64)), none, none, none, none, none, none, none, none, none]) hC dX11_tenthsNow_128 rfl rfl rfl rfl ?_
        refine v_lconst (pc := 130) (1 : Int64) rfl hC dX11_tenthsNow_130 ?_
        refine v_lstore (pc := 131) (lv' := [none, none, some (.int x1_), some (.int w1.1.1), some (.int w1.1.2), some (.long (0 : Int64)), none, some (.long (1 : Int64)), none, none, none, none, none, none, none]) hC dX11_tenthsNow_131 rfl rfl rfl rfl ?_
        refine v_lconst (pc := 133) (1 : Int64) rfl hC dX11_tenthsNow_133 ?_
        refine v_lstore (pc := 134) (lv' := [none, none, some (.int x1_), some (.int w1.1.1), some (.int w1.1.2), some (.long (0 : Int64)), none, some (.long (1 : Int64)), none, some (.long (1 : Int64)), none, none, none, none, none]) hC dX11_tenthsNow_134 rfl rfl rfl rfl ?_
        refine v_iconst (pc := 136) (0 : Int32) rfl hC dX11_tenthsNow_136 ?_
        refine v_istore (pc := 137) (lv' := [none, none, some (.int x1_), some (.int w1.1.1), some (.int w1.1.2), some (.long (0 : Int64)), none, some (.long (1 : Int64)), none, some (.long (1 : Int64)), none, some (.int (0 : Int32)), none, none, none]) hC dX11_tenthsNow_137 rfl rfl rfl rfl ?_
        obtain ⟨w2, hw2, h⟩ := obd_s h
        have kx35 : V SS g M iX11_tenthsNow (PQ SS g M P) 231 [none, none, none, none, none, some (.long w2.1.1), none, none, none, some (.long w2.1.2), none, none, none, none, none] [] w2.2 := by
          refine v_lload (pc := 231) hC dX11_tenthsNow_231 rfl ?_
          refine v_ldc2 (pc := 233) (1000000 : Int64) kc_X11_204 hC dX11_tenthsNow_233 ?_
          refine v_lcmp (pc := 236) hC dX11_tenthsNow_236 ?_
          refine v_if_lt (pc := 237) (tgt := 252) hC dX11_tenthsNow_237 rfl (fun c4 => ?_) (fun c4 => ?_)
          · replace h := (if_pos c4).symm.trans h
            refine v_lload (pc := 252) hC dX11_tenthsNow_252 rfl ?_
            refine v_ldc2 (pc := 254) (1000000 : Int64) kc_X11_204 hC dX11_tenthsNow_254 ?_
            refine v_lload (pc := 257) hC dX11_tenthsNow_257 rfl ?_
            obtain ⟨v3, hv3, h⟩ := obd_s h
            refine v_dL (pc := 259) hC hv3 dX11_tenthsNow_259 ?_
            refine v_lmul (pc := 260) hC dX11_tenthsNow_260 ?_
            refine v_l2i (pc := 261) hC dX11_tenthsNow_261 ?_
            obtain rfl := Option.some.inj h
            exact v_iret (pc := 262) hC rfl dX11_tenthsNow_262 hP
          · replace h := (if_neg c4).symm.trans h
            refine v_lload (pc := 240) hC dX11_tenthsNow_240 rfl ?_
            refine v_lload (pc := 242) hC dX11_tenthsNow_242 rfl ?_
            refine v_ldc2 (pc := 244) (1000000 : Int64) kc_X11_204 hC dX11_tenthsNow_244 ?_
            obtain ⟨v5, hv5, h⟩ := obd_s h
            refine v_dL (pc := 247) hC hv5 dX11_tenthsNow_247 ?_
            obtain ⟨v6, hv6, h⟩ := obd_s h
            refine v_dL (pc := 248) hC hv6 dX11_tenthsNow_248 ?_
            refine v_goto (pc := 249) (tgt := 261) hC dX11_tenthsNow_249 rfl ?_
            refine v_l2i (pc := 261) hC dX11_tenthsNow_261 ?_
            obtain rfl := Option.some.inj h
            exact v_iret (pc := 262) hC rfl dX11_tenthsNow_262 hP
        refine V.ls (ls_none (ls_none (ls_none (ls_some (ls_some (ls_some (ls_none (ls_some (ls_none (ls_some (ls_none (ls_some (ls_none (ls_none (ls_none ls_nil))))))))))))))) (v_loop (pc := 139) (fun a9 => [none, none, none, some (.int w1.1.1), some (.int w1.1.2), some (.long a9.1), none, some (.long a9.2.1), none, some (.long a9.2.2.1), none, some (.int a9.2.2.2), none, none, none]) (fun z t => V SS g M iX11_tenthsNow (PQ SS g M P) 231 [none, none, none, none, none, some (.long z.1), none, none, none, some (.long z.2), none, none, none, none, none] [] t) (fun a9 s7 u8 hu8 k10 k11 => ?_) _ _ _ _ hw2 kx35)
        unfold fX11_tenthsNow_L139 at hu8
        refine v_iload (pc := 139) hC dX11_tenthsNow_139 rfl ?_
        refine v_iload_n (pc := 141) hC dX11_tenthsNow_141 rfl ?_
        refine v_ic_gt (pc := 142) (tgt := 231) hC dX11_tenthsNow_142 rfl (fun c13 => ?_) (fun c13 => ?_)
        · replace hu8 := (if_pos c13).symm.trans hu8
          obtain rfl := Option.some.inj hu8
          exact V.ls (ls_none (ls_none (ls_none (ls_none (ls_none (ls_some (ls_none (ls_none (ls_none (ls_some (ls_none (ls_none (ls_none (ls_none (ls_none ls_nil))))))))))))))) (k11 _ rfl)
        · replace hu8 := (if_neg c13).symm.trans hu8
          refine v_lload (pc := 145) hC dX11_tenthsNow_145 rfl ?_
          refine v_lstore (pc := 147) (lv' := [none, none, none, some (.int w1.1.1), some (.int w1.1.2), some (.long a9.1), none, some (.long a9.2.1), none, some (.long a9.2.2.1), none, some (.int a9.2.2.2), some (.long a9.2.1), none, none]) hC dX11_tenthsNow_147 rfl rfl rfl rfl ?_
          refine v_iload (pc := 149) hC dX11_tenthsNow_149 rfl ?_
          refine v_istore (pc := 151) (lv' := [none, none, none, some (.int w1.1.1), some (.int w1.1.2), some (.long a9.1), none, some (.long a9.2.1), none, some (.long a9.2.2.1), none, some (.int a9.2.2.2), some (.long a9.2.1), none, some (.int a9.2.2.2)]) hC dX11_tenthsNow_151 rfl rfl rfl rfl ?_
          obtain ⟨w14, hw14, hu8⟩ := obd_s hu8
          have kx34 : V SS g M iX11_tenthsNow (PQ SS g M P) 173 [none, none, none, some (.int w1.1.1), some (.int w1.1.2), some (.long a9.1), none, some (.long a9.2.1), none, some (.long a9.2.2.1), none, some (.int a9.2.2.2), some (.long w14.1), none, none] [] w14.2 := by
            refine v_lload (pc := 173) hC dX11_tenthsNow_173 rfl ?_
            refine v_iload (pc := 175) hC dX11_tenthsNow_175 rfl ?_
            refine v_iload (pc := 177) hC dX11_tenthsNow_177 rfl ?_
            obtain ⟨w15, hw15, hu8⟩ := obd_s hu8
            have kj16 : V SS g M iX11_tenthsNow (PQ SS g M P) 188 [none, none, none, some (.int w1.1.1), some (.int w1.1.2), none, none, some (.long a9.2.1), none, some (.long a9.2.2.1), none, some (.int a9.2.2.2), none, none, none] [.long w15, .long a9.1] w14.2 := by
              refine v_ladd (pc := 188) hC dX11_tenthsNow_188 ?_
              obtain ⟨x17, hx17, hu8⟩ := bnd_s hu8
              refine v_lstore (pc := 189) (lv' := [none, none, none, some (.int w1.1.1), some (.int w1.1.2), some (.long x17), none, some (.long a9.2.1), none, some (.long a9.2.2.1), none, some (.int a9.2.2.2), none, none, none]) hC dX11_tenthsNow_189 hx17 rfl rfl rfl ?_
              refine v_lload (pc := 191) hC dX11_tenthsNow_191 rfl ?_
              refine v_iload_n (pc := 193) hC dX11_tenthsNow_193 rfl ?_
              refine v_iload (pc := 194) hC dX11_tenthsNow_194 rfl ?_
              refine v_isub (pc := 196) hC dX11_tenthsNow_196 ?_
              refine v_i2l (pc := 197) hC dX11_tenthsNow_197 ?_
              refine v_lmul (pc := 198) hC dX11_tenthsNow_198 ?_
              refine v_iload (pc := 199) hC dX11_tenthsNow_199 rfl ?_
              refine v_i2l (pc := 201) hC dX11_tenthsNow_201 ?_
              refine v_lconst (pc := 202) (1 : Int64) rfl hC dX11_tenthsNow_202 ?_
              refine v_ladd (pc := 203) hC dX11_tenthsNow_203 ?_
              obtain ⟨v18, hv18, hu8⟩ := obd_s hu8
              refine v_dL (pc := 204) hC hv18 dX11_tenthsNow_204 ?_
              refine v_lstore (pc := 205) (lv' := [none, none, none, some (.int w1.1.1), some (.int w1.1.2), some (.long x17), none, some (.long v18), none, some (.long a9.2.2.1), none, some (.int a9.2.2.2), none, none, none]) hC dX11_tenthsNow_205 rfl rfl rfl rfl ?_
              refine v_lload (pc := 207) hC dX11_tenthsNow_207 rfl ?_
              refine v_iload (pc := 209) hC dX11_tenthsNow_209 rfl ?_
              refine v_iload_n (pc := 211) hC dX11_tenthsNow_211 rfl ?_
              obtain ⟨w19, hw19, hu8⟩ := obd_s hu8
              have kj20 : V SS g M iX11_tenthsNow (PQ SS g M P) 222 [none, none, none, some (.int w1.1.1), some (.int w1.1.2), some (.long x17), none, some (.long v18), none, none, none, some (.int a9.2.2.2), none, none, none] [.long w19, .long a9.2.2.1] w14.2 := by
                refine v_lmul (pc := 222) hC dX11_tenthsNow_222 ?_
                obtain ⟨x21, hx21, hu8⟩ := bnd_s hu8
                refine v_lstore (pc := 223) (lv' := [none, none, none, some (.int w1.1.1), some (.int w1.1.2), some (.long x17), none, some (.long v18), none, some (.long x21), none, some (.int a9.2.2.2), none, none, none]) hC dX11_tenthsNow_223 hx21 rfl rfl rfl ?_
                obtain ⟨x22, hx22, hu8⟩ := bnd_s hu8
                refine v_iinc (pc := 225) (lv' := [none, none, none, some (.int w1.1.1), some (.int w1.1.2), some (.long x17), none, some (.long v18), none, some (.long x21), none, some (.int x22), none, none, none]) (1 : Int32) rfl hx22 hC dX11_tenthsNow_225 rfl rfl rfl rfl ?_
                refine v_goto (pc := 228) (tgt := 139) hC dX11_tenthsNow_228 rfl ?_
                obtain rfl := Option.some.inj hu8
                exact V.ls (ls_none (ls_none (ls_none (ls_some (ls_some (ls_some (ls_none (ls_some (ls_none (ls_some (ls_none (ls_some (ls_none (ls_none (ls_none ls_nil))))))))))))))) (k10 _ rfl)
              refine v_ic_ge (pc := 212) (tgt := 221) hC dX11_tenthsNow_212 rfl (fun c23 => ?_) (fun c23 => ?_)
              · replace hw19 := (if_pos c23).symm.trans hw19
                refine v_lconst (pc := 221) (1 : Int64) rfl hC dX11_tenthsNow_221 ?_
                obtain rfl := Option.some.inj hw19
                exact V.ls (ls_none (ls_none (ls_none (ls_some (ls_some (ls_some (ls_none (ls_some (ls_none (ls_none (ls_none (ls_some (ls_none (ls_none (ls_none ls_nil))))))))))))))) kj20
              · replace hw19 := (if_neg c23).symm.trans hw19
                refine v_ldc2 (pc := 215) (10 : Int64) kc_X11_293 hC dX11_tenthsNow_215 ?_
                refine v_goto (pc := 218) (tgt := 222) hC dX11_tenthsNow_218 rfl ?_
                obtain rfl := Option.some.inj hw19
                exact V.ls (ls_none (ls_none (ls_none (ls_some (ls_some (ls_some (ls_none (ls_some (ls_none (ls_none (ls_none (ls_some (ls_none (ls_none (ls_none ls_nil))))))))))))))) kj20
            refine v_ic_lt (pc := 179) (tgt := 187) hC dX11_tenthsNow_179 rfl (fun c24 => ?_) (fun c24 => ?_)
            · replace hw15 := (if_pos c24).symm.trans hw15
              refine v_lconst (pc := 187) (0 : Int64) rfl hC dX11_tenthsNow_187 ?_
              obtain rfl := Option.some.inj hw15
              exact V.ls (ls_none (ls_none (ls_none (ls_some (ls_some (ls_none (ls_none (ls_some (ls_none (ls_some (ls_none (ls_some (ls_none (ls_none (ls_none ls_nil))))))))))))))) kj16
            · replace hw15 := (if_neg c24).symm.trans hw15
              refine v_lload (pc := 182) hC dX11_tenthsNow_182 rfl ?_
              refine v_goto (pc := 184) (tgt := 188) hC dX11_tenthsNow_184 rfl ?_
              obtain rfl := Option.some.inj hw15
              exact V.ls (ls_none (ls_none (ls_none (ls_some (ls_some (ls_none (ls_none (ls_some (ls_none (ls_some (ls_none (ls_some (ls_none (ls_none (ls_none ls_nil))))))))))))))) kj16
          refine V.ls (ls_none (ls_none (ls_none (ls_some (ls_some (ls_some (ls_none (ls_some (ls_none (ls_some (ls_none (ls_some (ls_some (ls_none (ls_some ls_nil))))))))))))))) (v_loop (pc := 153) (fun a27 => [none, none, none, some (.int w1.1.1), some (.int w1.1.2), some (.long a9.1), none, some (.long a9.2.1), none, some (.long a9.2.2.1), none, some (.int a9.2.2.2), some (.long a27.1), none, some (.int a27.2)]) (fun z t => V SS g M iX11_tenthsNow (PQ SS g M P) 173 [none, none, none, some (.int w1.1.1), some (.int w1.1.2), some (.long a9.1), none, some (.long a9.2.1), none, some (.long a9.2.2.1), none, some (.int a9.2.2.2), some (.long z), none, none] [] t) (fun a27 s25 u26 hu26 k28 k29 => ?_) _ _ _ _ hw14 kx34)
          unfold fX11_tenthsNow_L153 at hu26
          refine v_iload (pc := 153) hC dX11_tenthsNow_153 rfl ?_
          refine v_iload_n (pc := 155) hC dX11_tenthsNow_155 rfl ?_
          refine v_ic_ge (pc := 156) (tgt := 173) hC dX11_tenthsNow_156 rfl (fun c31 => ?_) (fun c31 => ?_)
          · replace hu26 := (if_pos c31).symm.trans hu26
            obtain rfl := Option.some.inj hu26
            exact V.ls (ls_none (ls_none (ls_none (ls_some (ls_some (ls_some (ls_none (ls_some (ls_none (ls_some (ls_none (ls_some (ls_some (ls_none (ls_none ls_nil))))))))))))))) (k29 _ rfl)
          · replace hu26 := (if_neg c31).symm.trans hu26
            refine v_lload (pc := 159) hC dX11_tenthsNow_159 rfl ?_
            refine v_ldc2 (pc := 161) (9 : Int64) kc_X11_291 hC dX11_tenthsNow_161 ?_
            refine v_lmul (pc := 164) hC dX11_tenthsNow_164 ?_
            obtain ⟨x32, hx32, hu26⟩ := bnd_s hu26
            refine v_lstore (pc := 165) (lv' := [none, none, none, some (.int w1.1.1), some (.int w1.1.2), some (.long a9.1), none, some (.long a9.2.1), none, some (.long a9.2.2.1), none, some (.int a9.2.2.2), some (.long x32), none, some (.int a27.2)]) hC dX11_tenthsNow_165 hx32 rfl rfl rfl ?_
            obtain ⟨x33, hx33, hu26⟩ := bnd_s hu26
            refine v_iinc (pc := 167) (lv' := [none, none, none, some (.int w1.1.1), some (.int w1.1.2), some (.long a9.1), none, some (.long a9.2.1), none, some (.long a9.2.2.1), none, some (.int a9.2.2.2), some (.long x32), none, some (.int x33)]) (1 : Int32) rfl hx33 hC dX11_tenthsNow_167 rfl rfl rfl rfl ?_
            refine v_goto (pc := 170) (tgt := 153) hC dX11_tenthsNow_170 rfl ?_
            obtain rfl := Option.some.inj hu26
            exact V.ls (ls_none (ls_none (ls_none (ls_some (ls_some (ls_some (ls_none (ls_some (ls_none (ls_some (ls_none (ls_some (ls_some (ls_none (ls_some ls_nil))))))))))))))) (k28 _ rfl)
      · replace h := (if_neg c36).symm.trans h
        refine v_bipush (pc := 124) (-4 : Int32) rfl hC dX11_tenthsNow_124 ?_
        obtain rfl := Option.some.inj h
        exact v_iret (pc := 126) hC rfl dX11_tenthsNow_126 hP
    · replace h := (if_neg c37).symm.trans h
      refine v_iload_n (pc := 107) hC dX11_tenthsNow_107 rfl ?_
      refine v_if_ne (pc := 108) (tgt := 115) hC dX11_tenthsNow_108 rfl (fun c38 => ?_) (fun c38 => ?_)
      · replace h := (if_neg c38).symm.trans h
        refine v_iload (pc := 115) hC dX11_tenthsNow_115 rfl ?_
        obtain rfl := Option.some.inj h
        exact v_iret (pc := 117) hC rfl dX11_tenthsNow_117 hP
      · replace h := (if_pos c38).symm.trans h
        refine v_iload_n (pc := 111) hC dX11_tenthsNow_111 rfl ?_
        refine v_goto (pc := 112) (tgt := 117) hC dX11_tenthsNow_112 rfl ?_
        obtain rfl := Option.some.inj h
        exact v_iret (pc := 117) hC rfl dX11_tenthsNow_117 hP
  refine V.ls (ls_some (ls_some (ls_some (ls_some (ls_some (ls_some (ls_none (ls_none (ls_none (ls_none (ls_none (ls_none (ls_none (ls_none (ls_none ls_nil))))))))))))))) (v_loop (pc := 8) (fun a41 => [some (.ref (gad g 49)), some (.int x0_), some (.int x1_), some (.int a41.1), some (.int a41.2.1), some (.int a41.2.2), none, none, none, none, none, none, none, none, none]) (fun z t => V SS g M iX11_tenthsNow (PQ SS g M P) 102 [none, none, some (.int x1_), some (.int z.1), some (.int z.2), none, none, none, none, none, none, none, none, none, none] [] t) (fun a41 s39 u40 hu40 k42 k43 => ?_) _ _ _ _ hw1 kx66)
  unfold fX11_tenthsNow_L8 at hu40
  refine v_iload (pc := 8) hC dX11_tenthsNow_8 rfl ?_
  refine v_iconst (pc := 10) (4 : Int32) rfl hC dX11_tenthsNow_10 ?_
  refine v_aload_n (pc := 11) hC dX11_tenthsNow_11 rfl ?_
  refine v_gt (pc := 12) 3 (.int (gI s39 49 3)) hC s_49 rfl rfl rfl rfl fl_X11_98 dX11_tenthsNow_12 ?_
  refine v_imul (pc := 15) hC dX11_tenthsNow_15 ?_
  refine v_ic_ge (pc := 16) (tgt := 102) hC dX11_tenthsNow_16 rfl (fun c45 => ?_) (fun c45 => ?_)
  · replace hu40 := (if_pos c45).symm.trans hu40
    obtain rfl := Option.some.inj hu40
    exact V.ls (ls_none (ls_none (ls_some (ls_some (ls_some (ls_none (ls_none (ls_none (ls_none (ls_none (ls_none (ls_none (ls_none (ls_none (ls_none ls_nil))))))))))))))) (k43 _ rfl)
  · replace hu40 := (if_neg c45).symm.trans hu40
    refine v_aload_n (pc := 19) hC dX11_tenthsNow_19 rfl ?_
    refine v_gt (pc := 20) 7 (.ref (gad g 55)) hC s_49 rfl rfl rfl rfl fl_X11_25 dX11_tenthsNow_20 ?_
    refine v_iload (pc := 23) hC dX11_tenthsNow_23 rfl ?_
    obtain ⟨v46, hv46, hu40⟩ := obd_s hu40
    refine v_aI (pc := 25) hC s_55 hv46 dX11_tenthsNow_25 ?_
    refine v_iconst (pc := 26) (-1 : Int32) rfl hC dX11_tenthsNow_26 ?_
    obtain ⟨w47, hw47, hu40⟩ := obd_s hu40
    have kj48 : V SS g M iX11_tenthsNow (PQ SS g M P) 53 [some (.ref (gad g 49)), some (.int x0_), some (.int x1_), some (.int a41.1), some (.int a41.2.1), some (.int a41.2.2), none, none, none, none, none, none, none, none, none] [.int w47] s39 := by
      refine v_istore (pc := 53) (lv' := [some (.ref (gad g 49)), some (.int x0_), some (.int x1_), some (.int a41.1), some (.int a41.2.1), some (.int a41.2.2), some (.int w47), none, none, none, none, none, none, none, none]) hC dX11_tenthsNow_53 rfl rfl rfl rfl ?_
      refine v_iload_n (pc := 55) hC dX11_tenthsNow_55 rfl ?_
      refine v_iload (pc := 56) hC dX11_tenthsNow_56 rfl ?_
      obtain ⟨w49, hw49, hu40⟩ := obd_s hu40
      have kj50 : V SS g M iX11_tenthsNow (PQ SS g M P) 66 [some (.ref (gad g 49)), some (.int x0_), some (.int x1_), none, some (.int a41.2.1), some (.int a41.2.2), some (.int w47), none, none, none, none, none, none, none, none] [.int w49, .int a41.1] s39 := by
        refine v_iadd (pc := 66) hC dX11_tenthsNow_66 ?_
        obtain ⟨x51, hx51, hu40⟩ := bnd_s hu40
        refine v_istore_n (pc := 67) (lv' := [some (.ref (gad g 49)), some (.int x0_), some (.int x1_), some (.int x51), some (.int a41.2.1), some (.int a41.2.2), some (.int w47), none, none, none, none, none, none, none, none]) hC dX11_tenthsNow_67 hx51 rfl rfl rfl ?_
        refine v_iload (pc := 68) hC dX11_tenthsNow_68 rfl ?_
        refine v_iload (pc := 70) hC dX11_tenthsNow_70 rfl ?_
        obtain ⟨w52, hw52, hu40⟩ := obd_s hu40
        have kj53 : V SS g M iX11_tenthsNow (PQ SS g M P) 93 [some (.ref (gad g 49)), some (.int x0_), some (.int x1_), some (.int x51), none, some (.int a41.2.2), none, none, none, none, none, none, none, none, none] [.int w52, .int a41.2.1] s39 := by
          refine v_iadd (pc := 93) hC dX11_tenthsNow_93 ?_
          obtain ⟨x54, hx54, hu40⟩ := bnd_s hu40
          refine v_istore (pc := 94) (lv' := [some (.ref (gad g 49)), some (.int x0_), some (.int x1_), some (.int x51), some (.int x54), some (.int a41.2.2), none, none, none, none, none, none, none, none, none]) hC dX11_tenthsNow_94 hx54 rfl rfl rfl ?_
          obtain ⟨x55, hx55, hu40⟩ := bnd_s hu40
          refine v_iinc (pc := 96) (lv' := [some (.ref (gad g 49)), some (.int x0_), some (.int x1_), some (.int x51), some (.int x54), some (.int x55), none, none, none, none, none, none, none, none, none]) (1 : Int32) rfl hx55 hC dX11_tenthsNow_96 rfl rfl rfl rfl ?_
          refine v_goto (pc := 99) (tgt := 8) hC dX11_tenthsNow_99 rfl ?_
          obtain rfl := Option.some.inj hu40
          exact V.ls (ls_some (ls_some (ls_some (ls_some (ls_some (ls_some (ls_none (ls_none (ls_none (ls_none (ls_none (ls_none (ls_none (ls_none (ls_none ls_nil))))))))))))))) (k42 _ rfl)
        refine v_if_eq (pc := 72) (tgt := 92) hC dX11_tenthsNow_72 rfl (fun c56 => ?_) (fun c56 => ?_)
        · replace hw52 := (if_pos c56).symm.trans hw52
          refine v_iconst (pc := 92) (0 : Int32) rfl hC dX11_tenthsNow_92 ?_
          obtain rfl := Option.some.inj hw52
          exact V.ls (ls_some (ls_some (ls_some (ls_some (ls_none (ls_some (ls_none (ls_none (ls_none (ls_none (ls_none (ls_none (ls_none (ls_none (ls_none ls_nil))))))))))))))) kj53
        · replace hw52 := (if_neg c56).symm.trans hw52
          refine v_aload_n (pc := 75) hC dX11_tenthsNow_75 rfl ?_
          refine v_gt (pc := 76) 7 (.ref (gad g 55)) hC s_49 rfl rfl rfl rfl fl_X11_25 dX11_tenthsNow_76 ?_
          refine v_iload (pc := 79) hC dX11_tenthsNow_79 rfl ?_
          obtain ⟨v57, hv57, hw52⟩ := obd_s hw52
          refine v_aI (pc := 81) hC s_55 hv57 dX11_tenthsNow_81 ?_
          refine v_bipush (pc := 82) (10 : Int32) rfl hC dX11_tenthsNow_82 ?_
          obtain ⟨v58, hv58, hw52⟩ := obd_s hw52
          refine v_mI (pc := 84) hC hv58 dX11_tenthsNow_84 ?_
          refine v_if_ne (pc := 85) (tgt := 92) hC dX11_tenthsNow_85 rfl (fun c59 => ?_) (fun c59 => ?_)
          · replace hw52 := (if_neg c59).symm.trans hw52
            refine v_iconst (pc := 92) (0 : Int32) rfl hC dX11_tenthsNow_92 ?_
            obtain rfl := Option.some.inj hw52
            exact V.ls (ls_some (ls_some (ls_some (ls_some (ls_none (ls_some (ls_none (ls_none (ls_none (ls_none (ls_none (ls_none (ls_none (ls_none (ls_none ls_nil))))))))))))))) kj53
          · replace hw52 := (if_pos c59).symm.trans hw52
            refine v_iconst (pc := 88) (1 : Int32) rfl hC dX11_tenthsNow_88 ?_
            refine v_goto (pc := 89) (tgt := 93) hC dX11_tenthsNow_89 rfl ?_
            obtain rfl := Option.some.inj hw52
            exact V.ls (ls_some (ls_some (ls_some (ls_some (ls_none (ls_some (ls_none (ls_none (ls_none (ls_none (ls_none (ls_none (ls_none (ls_none (ls_none ls_nil))))))))))))))) kj53
      refine v_if_eq (pc := 58) (tgt := 65) hC dX11_tenthsNow_58 rfl (fun c60 => ?_) (fun c60 => ?_)
      · replace hw49 := (if_pos c60).symm.trans hw49
        refine v_iconst (pc := 65) (0 : Int32) rfl hC dX11_tenthsNow_65 ?_
        obtain rfl := Option.some.inj hw49
        exact V.ls (ls_some (ls_some (ls_some (ls_none (ls_some (ls_some (ls_some (ls_none (ls_none (ls_none (ls_none (ls_none (ls_none (ls_none (ls_none ls_nil))))))))))))))) kj50
      · replace hw49 := (if_neg c60).symm.trans hw49
        refine v_iconst (pc := 61) (1 : Int32) rfl hC dX11_tenthsNow_61 ?_
        refine v_goto (pc := 62) (tgt := 66) hC dX11_tenthsNow_62 rfl ?_
        obtain rfl := Option.some.inj hw49
        exact V.ls (ls_some (ls_some (ls_some (ls_none (ls_some (ls_some (ls_some (ls_none (ls_none (ls_none (ls_none (ls_none (ls_none (ls_none (ls_none ls_nil))))))))))))))) kj50
    refine v_ic_eq (pc := 27) (tgt := 52) hC dX11_tenthsNow_27 rfl (fun c61 => ?_) (fun c61 => ?_)
    · replace hw47 := (if_pos c61).symm.trans hw47
      refine v_iconst (pc := 52) (0 : Int32) rfl hC dX11_tenthsNow_52 ?_
      obtain rfl := Option.some.inj hw47
      exact V.ls (ls_some (ls_some (ls_some (ls_some (ls_some (ls_some (ls_none (ls_none (ls_none (ls_none (ls_none (ls_none (ls_none (ls_none (ls_none ls_nil))))))))))))))) kj48
    · replace hw47 := (if_neg c61).symm.trans hw47
      refine v_iload_n (pc := 30) hC dX11_tenthsNow_30 rfl ?_
      refine v_iconst (pc := 31) (-1 : Int32) rfl hC dX11_tenthsNow_31 ?_
      refine v_ic_eq (pc := 32) (tgt := 48) hC dX11_tenthsNow_32 rfl (fun c62 => ?_) (fun c62 => ?_)
      · replace hw47 := (if_pos c62).symm.trans hw47
        refine v_iconst (pc := 48) (1 : Int32) rfl hC dX11_tenthsNow_48 ?_
        refine v_goto (pc := 49) (tgt := 53) hC dX11_tenthsNow_49 rfl ?_
        obtain rfl := Option.some.inj hw47
        exact V.ls (ls_some (ls_some (ls_some (ls_some (ls_some (ls_some (ls_none (ls_none (ls_none (ls_none (ls_none (ls_none (ls_none (ls_none (ls_none ls_nil))))))))))))))) kj48
      · replace hw47 := (if_neg c62).symm.trans hw47
        refine v_aload_n (pc := 35) hC dX11_tenthsNow_35 rfl ?_
        refine v_gt (pc := 36) 4 (.ref (gad g 52)) hC s_49 rfl rfl rfl rfl fl_X11_16 dX11_tenthsNow_36 ?_
        refine v_iload (pc := 39) hC dX11_tenthsNow_39 rfl ?_
        refine v_iconst (pc := 41) (4 : Int32) rfl hC dX11_tenthsNow_41 ?_
        obtain ⟨v63, hv63, hw47⟩ := obd_s hw47
        refine v_dI (pc := 42) hC hv63 dX11_tenthsNow_42 ?_
        obtain ⟨v64, hv64, hw47⟩ := obd_s hw47
        refine v_aI (pc := 43) hC s_52 hv64 dX11_tenthsNow_43 ?_
        refine v_iload_n (pc := 44) hC dX11_tenthsNow_44 rfl ?_
        refine v_ic_ne (pc := 45) (tgt := 52) hC dX11_tenthsNow_45 rfl (fun c65 => ?_) (fun c65 => ?_)
        · replace hw47 := (if_neg c65).symm.trans hw47
          refine v_iconst (pc := 52) (0 : Int32) rfl hC dX11_tenthsNow_52 ?_
          obtain rfl := Option.some.inj hw47
          exact V.ls (ls_some (ls_some (ls_some (ls_some (ls_some (ls_some (ls_none (ls_none (ls_none (ls_none (ls_none (ls_none (ls_none (ls_none (ls_none ls_nil))))))))))))))) kj48
        · replace hw47 := (if_pos c65).symm.trans hw47
          refine v_iconst (pc := 48) (1 : Int32) rfl hC dX11_tenthsNow_48 ?_
          refine v_goto (pc := 49) (tgt := 53) hC dX11_tenthsNow_49 rfl ?_
          obtain rfl := Option.some.inj hw47
          exact V.ls (ls_some (ls_some (ls_some (ls_some (ls_some (ls_some (ls_none (ls_none (ls_none (ls_none (ls_none (ls_none (ls_none (ls_none (ls_none ls_nil))))))))))))))) kj48
theorem dX11_tenths_0 : decode cX11_tenths 0 = .ok (.iload_n 1, 1) := by decide +kernel
theorem dX11_tenths_1 : decode cX11_tenths 1 = .ok (.iconst (-1), 1) := by decide +kernel
theorem dX11_tenths_2 : decode cX11_tenths 2 = .ok (.if_icmp .eq 11, 3) := by decide +kernel
theorem dX11_tenths_5 : decode cX11_tenths 5 = .ok (.aload_n 0, 1) := by decide +kernel
theorem dX11_tenths_6 : decode cX11_tenths 6 = .ok (.iload_n 1, 1) := by decide +kernel
theorem dX11_tenths_7 : decode cX11_tenths 7 = .ok (.invokevirtual 105, 3) := by decide +kernel
theorem dX11_tenths_10 : decode cX11_tenths 10 = .ok (.ifCond .eq 21, 3) := by decide +kernel
theorem dX11_tenths_13 : decode cX11_tenths 13 = .ok (.iload_n 2, 1) := by decide +kernel
theorem dX11_tenths_14 : decode cX11_tenths 14 = .ok (.iconst 0, 1) := by decide +kernel
theorem dX11_tenths_15 : decode cX11_tenths 15 = .ok (.iconst 2, 1) := by decide +kernel
theorem dX11_tenths_16 : decode cX11_tenths 16 = .ok (.invokestatic 94, 3) := by decide +kernel
theorem dX11_tenths_19 : decode cX11_tenths 19 = .ok (.ifCond .eq 12, 3) := by decide +kernel
theorem dX11_tenths_22 : decode cX11_tenths 22 = .ok (.aload_n 0, 1) := by decide +kernel
theorem dX11_tenths_23 : decode cX11_tenths 23 = .ok (.iload_n 1, 1) := by decide +kernel
theorem dX11_tenths_24 : decode cX11_tenths 24 = .ok (.iload_n 2, 1) := by decide +kernel
theorem dX11_tenths_25 : decode cX11_tenths 25 = .ok (.invokevirtual 295, 3) := by decide +kernel
theorem dX11_tenths_28 : decode cX11_tenths 28 = .ok (.goto 5, 3) := by decide +kernel
theorem dX11_tenths_31 : decode cX11_tenths 31 = .ok (.bipush (-2), 2) := by decide +kernel
theorem dX11_tenths_33 : decode cX11_tenths 33 = .ok (.ireturn, 1) := by decide +kernel
def fX11_tenths (x0_ : Int32) (x1_ : Int32) (s : Sg) : Option (Int32 × Sg) :=
  if x0_ = (-1 : Int32) then
  (fX11_in x1_ (0 : Int32) (2 : Int32) s).bind fun w1 =>
  if w1.1 = 0 then
  some ((-2 : Int32), w1.2)
  else
  (fX11_tenthsNow x0_ x1_ w1.2).bind fun w3 =>
  some (w3.1, w3.2)
  else
  (fX11_isRace x0_ s).bind fun w5 =>
  if w5.1 = 0 then
  some ((-2 : Int32), w5.2)
  else
  (fX11_in x1_ (0 : Int32) (2 : Int32) w5.2).bind fun w7 =>
  if w7.1 = 0 then
  some ((-2 : Int32), w7.2)
  else
  (fX11_tenthsNow x0_ x1_ w7.2).bind fun w9 =>
  some (w9.1, w9.2)
theorem ct_X11_tenths {g : Gl} {x0_ : Int32} {x1_ : Int32} {s : Sg} {w : Int32 × Sg}  (h : fX11_tenths x0_ x1_ s = some w) : Ct SS g iX11_tenths 2 43 [.ref (gad g 49), .int x0_, .int x1_] s (Dt (some (.int w.1)) w.2) := by
  refine Ct.ofV (by decide +kernel) 0 (lv0 := [some (.ref (gad g 49)), some (.int x0_), some (.int x1_)]) rfl rfl (fun M hC => ?_)
  have hP : (Dt (some (.int w.1)) w.2) (some (.int w.1)) w.2 := ⟨rfl, rfl⟩
  generalize Dt (some (.int w.1)) w.2 = P at hP ⊢
  unfold fX11_tenths at h
  refine v_iload_n (pc := 0) hC dX11_tenths_0 rfl ?_
  refine v_iconst (pc := 1) (-1 : Int32) rfl hC dX11_tenths_1 ?_
  refine v_ic_eq (pc := 2) (tgt := 13) hC dX11_tenths_2 rfl (fun c4 => ?_) (fun c4 => ?_)
  · replace h := (if_pos c4).symm.trans h
    refine v_iload_n (pc := 13) hC dX11_tenths_13 rfl ?_
    refine v_iconst (pc := 14) (0 : Int32) rfl hC dX11_tenths_14 ?_
    refine v_iconst (pc := 15) (2 : Int32) rfl hC dX11_tenths_15 ?_
    obtain ⟨w1, hw1, h⟩ := obd_s h
    refine v_cS (pc := 16) [] [.int w1.1] gm_X11_in hC (ct_X11_in  hw1) ml_X11_94 rfl rfl rfl rfl rfl rfl dX11_tenths_16 ?_
    refine v_if_eq (pc := 19) (tgt := 31) hC dX11_tenths_19 rfl (fun c2 => ?_) (fun c2 => ?_)
    · replace h := (if_pos c2).symm.trans h
      refine v_bipush (pc := 31) (-2 : Int32) rfl hC dX11_tenths_31 ?_
      obtain rfl := Option.some.inj h
      exact v_iret (pc := 33) hC rfl dX11_tenths_33 hP
    · replace h := (if_neg c2).symm.trans h
      refine v_aload_n (pc := 22) hC dX11_tenths_22 rfl ?_
      refine v_iload_n (pc := 23) hC dX11_tenths_23 rfl ?_
      refine v_iload_n (pc := 24) hC dX11_tenths_24 rfl ?_
      obtain ⟨w3, hw3, h⟩ := obd_s h
      refine v_cV (pc := 25) [] [.int w3.1] gm_X11_tenthsNow hC s_49 rfl rfl (ct_X11_tenthsNow  hw3) ml_X11_295 rfl rfl rfl rfl rfl rfl dX11_tenths_25 ?_
      refine v_goto (pc := 28) (tgt := 33) hC dX11_tenths_28 rfl ?_
      obtain rfl := Option.some.inj h
      exact v_iret (pc := 33) hC rfl dX11_tenths_33 hP
  · replace h := (if_neg c4).symm.trans h
    refine v_aload_n (pc := 5) hC dX11_tenths_5 rfl ?_
    refine v_iload_n (pc := 6) hC dX11_tenths_6 rfl ?_
    obtain ⟨w5, hw5, h⟩ := obd_s h
    refine v_cV (pc := 7) [] [.int w5.1] gm_X11_isRace hC s_49 rfl rfl (ct_X11_isRace  hw5) ml_X11_105 rfl rfl rfl rfl rfl rfl dX11_tenths_7 ?_
    refine v_if_eq (pc := 10) (tgt := 31) hC dX11_tenths_10 rfl (fun c6 => ?_) (fun c6 => ?_)
    · replace h := (if_pos c6).symm.trans h
      refine v_bipush (pc := 31) (-2 : Int32) rfl hC dX11_tenths_31 ?_
      obtain rfl := Option.some.inj h
      exact v_iret (pc := 33) hC rfl dX11_tenths_33 hP
    · replace h := (if_neg c6).symm.trans h
      refine v_iload_n (pc := 13) hC dX11_tenths_13 rfl ?_
      refine v_iconst (pc := 14) (0 : Int32) rfl hC dX11_tenths_14 ?_
      refine v_iconst (pc := 15) (2 : Int32) rfl hC dX11_tenths_15 ?_
      obtain ⟨w7, hw7, h⟩ := obd_s h
      refine v_cS (pc := 16) [] [.int w7.1] gm_X11_in hC (ct_X11_in  hw7) ml_X11_94 rfl rfl rfl rfl rfl rfl dX11_tenths_16 ?_
      refine v_if_eq (pc := 19) (tgt := 31) hC dX11_tenths_19 rfl (fun c8 => ?_) (fun c8 => ?_)
      · replace h := (if_pos c8).symm.trans h
        refine v_bipush (pc := 31) (-2 : Int32) rfl hC dX11_tenths_31 ?_
        obtain rfl := Option.some.inj h
        exact v_iret (pc := 33) hC rfl dX11_tenths_33 hP
      · replace h := (if_neg c8).symm.trans h
        refine v_aload_n (pc := 22) hC dX11_tenths_22 rfl ?_
        refine v_iload_n (pc := 23) hC dX11_tenths_23 rfl ?_
        refine v_iload_n (pc := 24) hC dX11_tenths_24 rfl ?_
        obtain ⟨w9, hw9, h⟩ := obd_s h
        refine v_cV (pc := 25) [] [.int w9.1] gm_X11_tenthsNow hC s_49 rfl rfl (ct_X11_tenthsNow  hw9) ml_X11_295 rfl rfl rfl rfl rfl rfl dX11_tenths_25 ?_
        refine v_goto (pc := 28) (tgt := 33) hC dX11_tenths_28 rfl ?_
        obtain rfl := Option.some.inj h
        exact v_iret (pc := 33) hC rfl dX11_tenths_33 hP
theorem dX11_worldNow_0 : decode cX11_worldNow 0 = .ok (.aload_n 0, 1) := by decide +kernel
theorem dX11_worldNow_1 : decode cX11_worldNow 1 = .ok (.invokevirtual 282, 3) := by decide +kernel
theorem dX11_worldNow_4 : decode cX11_worldNow 4 = .ok (.istore_n 2, 1) := by decide +kernel
theorem dX11_worldNow_5 : decode cX11_worldNow 5 = .ok (.iload_n 1, 1) := by decide +kernel
theorem dX11_worldNow_6 : decode cX11_worldNow 6 = .ok (.bipush 8, 2) := by decide +kernel
theorem dX11_worldNow_8 : decode cX11_worldNow 8 = .ok (.if_icmp .ge 12, 3) := by decide +kernel
theorem dX11_worldNow_11 : decode cX11_worldNow 11 = .ok (.aload_n 0, 1) := by decide +kernel
theorem dX11_worldNow_12 : decode cX11_worldNow 12 = .ok (.getfield 65, 3) := by decide +kernel
theorem dX11_worldNow_15 : decode cX11_worldNow 15 = .ok (.iload_n 1, 1) := by decide +kernel
theorem dX11_worldNow_16 : decode cX11_worldNow 16 = .ok (.iaload, 1) := by decide +kernel
theorem dX11_worldNow_17 : decode cX11_worldNow 17 = .ok (.goto 20, 3) := by decide +kernel
theorem dX11_worldNow_20 : decode cX11_worldNow 20 = .ok (.iload_n 1, 1) := by decide +kernel
theorem dX11_worldNow_21 : decode cX11_worldNow 21 = .ok (.bipush 8, 2) := by decide +kernel
theorem dX11_worldNow_23 : decode cX11_worldNow 23 = .ok (.if_icmp .ne 10, 3) := by decide +kernel
theorem dX11_worldNow_26 : decode cX11_worldNow 26 = .ok (.aload_n 0, 1) := by decide +kernel
theorem dX11_worldNow_27 : decode cX11_worldNow 27 = .ok (.getfield 267, 3) := by decide +kernel
theorem dX11_worldNow_30 : decode cX11_worldNow 30 = .ok (.goto 7, 3) := by decide +kernel
theorem dX11_worldNow_33 : decode cX11_worldNow 33 = .ok (.aload_n 0, 1) := by decide +kernel
theorem dX11_worldNow_34 : decode cX11_worldNow 34 = .ok (.getfield 270, 3) := by decide +kernel
theorem dX11_worldNow_37 : decode cX11_worldNow 37 = .ok (.ireturn, 1) := by decide +kernel
def fX11_worldNow (x0_ : Int32) (s : Sg) : Option (Int32 × Sg) :=
  (fX11_worldFault s).bind fun w1 =>
  if (8 : Int32) ≤ x0_ then
  if x0_ = (8 : Int32) then
  some ((gI w1.2 49 23), w1.2)
  else
  some ((gI w1.2 49 24), w1.2)
  else
  (aI w1.2 68 8 x0_).bind fun v4 =>
  some (v4, w1.2)
theorem ct_X11_worldNow {g : Gl} {x0_ : Int32} {s : Sg} {w : Int32 × Sg}  (h : fX11_worldNow x0_ s = some w) : Ct SS g iX11_worldNow 4 88 [.ref (gad g 49), .int x0_] s (Dt (some (.int w.1)) w.2) := by
  refine Ct.ofV (by decide +kernel) 1 (lv0 := [some (.ref (gad g 49)), some (.int x0_), none]) rfl rfl (fun M hC => ?_)
  have hP : (Dt (some (.int w.1)) w.2) (some (.int w.1)) w.2 := ⟨rfl, rfl⟩
  generalize Dt (some (.int w.1)) w.2 = P at hP ⊢
  unfold fX11_worldNow at h
  refine v_aload_n (pc := 0) hC dX11_worldNow_0 rfl ?_
  obtain ⟨w1, hw1, h⟩ := obd_s h
  refine v_cV (pc := 1) [] [.int w1.1] gm_X11_worldFault hC s_49 rfl rfl (ct_X11_worldFault  hw1) ml_X11_282 rfl rfl rfl rfl rfl rfl dX11_worldNow_1 ?_
  refine v_istore_n (pc := 4) (lv' := [some (.ref (gad g 49)), some (.int x0_), some (.int w1.1)]) hC dX11_worldNow_4 rfl rfl rfl rfl ?_
  refine v_iload_n (pc := 5) hC dX11_worldNow_5 rfl ?_
  refine v_bipush (pc := 6) (8 : Int32) rfl hC dX11_worldNow_6 ?_
  refine v_ic_ge (pc := 8) (tgt := 20) hC dX11_worldNow_8 rfl (fun c3 => ?_) (fun c3 => ?_)
  · replace h := (if_pos c3).symm.trans h
    refine v_iload_n (pc := 20) hC dX11_worldNow_20 rfl ?_
    refine v_bipush (pc := 21) (8 : Int32) rfl hC dX11_worldNow_21 ?_
    refine v_ic_ne (pc := 23) (tgt := 33) hC dX11_worldNow_23 rfl (fun c2 => ?_) (fun c2 => ?_)
    · replace h := (if_neg c2).symm.trans h
      refine v_aload_n (pc := 33) hC dX11_worldNow_33 rfl ?_
      refine v_gt (pc := 34) 24 (.int (gI w1.2 49 24)) hC s_49 rfl rfl rfl rfl fl_X11_270 dX11_worldNow_34 ?_
      obtain rfl := Option.some.inj h
      exact v_iret (pc := 37) hC rfl dX11_worldNow_37 hP
    · replace h := (if_pos c2).symm.trans h
      refine v_aload_n (pc := 26) hC dX11_worldNow_26 rfl ?_
      refine v_gt (pc := 27) 23 (.int (gI w1.2 49 23)) hC s_49 rfl rfl rfl rfl fl_X11_267 dX11_worldNow_27 ?_
      refine v_goto (pc := 30) (tgt := 37) hC dX11_worldNow_30 rfl ?_
      obtain rfl := Option.some.inj h
      exact v_iret (pc := 37) hC rfl dX11_worldNow_37 hP
  · replace h := (if_neg c3).symm.trans h
    refine v_aload_n (pc := 11) hC dX11_worldNow_11 rfl ?_
    refine v_gt (pc := 12) 22 (.ref (gad g 68)) hC s_49 rfl rfl rfl rfl fl_X11_65 dX11_worldNow_12 ?_
    refine v_iload_n (pc := 15) hC dX11_worldNow_15 rfl ?_
    obtain ⟨v4, hv4, h⟩ := obd_s h
    refine v_aI (pc := 16) hC s_68 hv4 dX11_worldNow_16 ?_
    refine v_goto (pc := 17) (tgt := 37) hC dX11_worldNow_17 rfl ?_
    obtain rfl := Option.some.inj h
    exact v_iret (pc := 37) hC rfl dX11_worldNow_37 hP
theorem dX11_world_0 : decode cX11_world 0 = .ok (.iload_n 1, 1) := by decide +kernel
theorem dX11_world_1 : decode cX11_world 1 = .ok (.iconst 0, 1) := by decide +kernel
theorem dX11_world_2 : decode cX11_world 2 = .ok (.bipush 9, 2) := by decide +kernel
theorem dX11_world_4 : decode cX11_world 4 = .ok (.invokestatic 94, 3) := by decide +kernel
theorem dX11_world_7 : decode cX11_world 7 = .ok (.ifCond .eq 11, 3) := by decide +kernel
theorem dX11_world_10 : decode cX11_world 10 = .ok (.aload_n 0, 1) := by decide +kernel
theorem dX11_world_11 : decode cX11_world 11 = .ok (.iload_n 1, 1) := by decide +kernel
theorem dX11_world_12 : decode cX11_world 12 = .ok (.invokevirtual 298, 3) := by decide +kernel
theorem dX11_world_15 : decode cX11_world 15 = .ok (.goto 6, 3) := by decide +kernel
theorem dX11_world_18 : decode cX11_world 18 = .ok (.sipush (-5000), 3) := by decide +kernel
theorem dX11_world_21 : decode cX11_world 21 = .ok (.ireturn, 1) := by decide +kernel
def fX11_world (x0_ : Int32) (s : Sg) : Option (Int32 × Sg) :=
  (fX11_in x0_ (0 : Int32) (9 : Int32) s).bind fun w1 =>
  if w1.1 = 0 then
  some ((-5000 : Int32), w1.2)
  else
  (fX11_worldNow x0_ w1.2).bind fun w3 =>
  some (w3.1, w3.2)
theorem ct_X11_world {g : Gl} {x0_ : Int32} {s : Sg} {w : Int32 × Sg}  (h : fX11_world x0_ s = some w) : Ct SS g iX11_world 5 110 [.ref (gad g 49), .int x0_] s (Dt (some (.int w.1)) w.2) := by
  refine Ct.ofV (by decide +kernel) 0 (lv0 := [some (.ref (gad g 49)), some (.int x0_)]) rfl rfl (fun M hC => ?_)
  have hP : (Dt (some (.int w.1)) w.2) (some (.int w.1)) w.2 := ⟨rfl, rfl⟩
  generalize Dt (some (.int w.1)) w.2 = P at hP ⊢
  unfold fX11_world at h
  refine v_iload_n (pc := 0) hC dX11_world_0 rfl ?_
  refine v_iconst (pc := 1) (0 : Int32) rfl hC dX11_world_1 ?_
  refine v_bipush (pc := 2) (9 : Int32) rfl hC dX11_world_2 ?_
  obtain ⟨w1, hw1, h⟩ := obd_s h
  refine v_cS (pc := 4) [] [.int w1.1] gm_X11_in hC (ct_X11_in  hw1) ml_X11_94 rfl rfl rfl rfl rfl rfl dX11_world_4 ?_
  refine v_if_eq (pc := 7) (tgt := 18) hC dX11_world_7 rfl (fun c2 => ?_) (fun c2 => ?_)
  · replace h := (if_pos c2).symm.trans h
    refine v_sipush (pc := 18) (-5000 : Int32) rfl hC dX11_world_18 ?_
    obtain rfl := Option.some.inj h
    exact v_iret (pc := 21) hC rfl dX11_world_21 hP
  · replace h := (if_neg c2).symm.trans h
    refine v_aload_n (pc := 10) hC dX11_world_10 rfl ?_
    refine v_iload_n (pc := 11) hC dX11_world_11 rfl ?_
    obtain ⟨w3, hw3, h⟩ := obd_s h
    refine v_cV (pc := 12) [] [.int w3.1] gm_X11_worldNow hC s_49 rfl rfl (ct_X11_worldNow  hw3) ml_X11_298 rfl rfl rfl rfl rfl rfl dX11_world_12 ?_
    refine v_goto (pc := 15) (tgt := 21) hC dX11_world_15 rfl ?_
    obtain rfl := Option.some.inj h
    exact v_iret (pc := 21) hC rfl dX11_world_21 hP
theorem dX11_lot_0 : decode cX11_lot 0 = .ok (.aload_n 0, 1) := by decide +kernel
theorem dX11_lot_1 : decode cX11_lot 1 = .ok (.ldc_w 301, 3) := by decide +kernel
theorem dX11_lot_4 : decode cX11_lot 4 = .ok (.aload_n 0, 1) := by decide +kernel
theorem dX11_lot_5 : decode cX11_lot 5 = .ok (.getfield 302, 3) := by decide +kernel
theorem dX11_lot_8 : decode cX11_lot 8 = .ok (.imul, 1) := by decide +kernel
theorem dX11_lot_9 : decode cX11_lot 9 = .ok (.sipush 12345, 3) := by decide +kernel
theorem dX11_lot_12 : decode cX11_lot 12 = .ok (.iadd, 1) := by decide +kernel
theorem dX11_lot_13 : decode cX11_lot 13 = .ok (.putfield 302, 3) := by decide +kernel
theorem dX11_lot_16 : decode cX11_lot 16 = .ok (.aload_n 0, 1) := by decide +kernel
theorem dX11_lot_17 : decode cX11_lot 17 = .ok (.getfield 302, 3) := by decide +kernel
theorem dX11_lot_20 : decode cX11_lot 20 = .ok (.bipush 16, 2) := by decide +kernel
theorem dX11_lot_22 : decode cX11_lot 22 = .ok (.iushr, 1) := by decide +kernel
theorem dX11_lot_23 : decode cX11_lot 23 = .ok (.iload_n 1, 1) := by decide +kernel
theorem dX11_lot_24 : decode cX11_lot 24 = .ok (.irem, 1) := by decide +kernel
theorem dX11_lot_25 : decode cX11_lot 25 = .ok (.ireturn, 1) := by decide +kernel
def fX11_lot (x0_ : Int32) (s : Sg) : Option (Int32 × Sg) :=
  bnd (sI s 49 27 (((1103515245 : Int32) * (gI s 49 27)) + (12345 : Int32))) fun s1 =>
  (mI (((gI s1 49 27)).toUInt32 >>> (((16 : Int32)).toUInt32 &&& Int32.toUInt32 31)).toInt32 x0_).bind fun v2 =>
  some (v2, s1)
theorem ct_X11_lot {g : Gl} {x0_ : Int32} {s : Sg} {w : Int32 × Sg}  (h : fX11_lot x0_ s = some w) : Ct SS g iX11_lot 0 0 [.ref (gad g 49), .int x0_] s (Dt (some (.int w.1)) w.2) := by
  refine Ct.ofV (by decide +kernel) 0 (lv0 := [some (.ref (gad g 49)), some (.int x0_)]) rfl rfl (fun M hC => ?_)
  have hP : (Dt (some (.int w.1)) w.2) (some (.int w.1)) w.2 := ⟨rfl, rfl⟩
  generalize Dt (some (.int w.1)) w.2 = P at hP ⊢
  unfold fX11_lot at h
  refine v_aload_n (pc := 0) hC dX11_lot_0 rfl ?_
  refine v_ldcw (pc := 1) (1103515245 : Int32) kc_X11_301 hC dX11_lot_1 ?_
  refine v_aload_n (pc := 4) hC dX11_lot_4 rfl ?_
  refine v_gt (pc := 5) 27 (.int (gI s 49 27)) hC s_49 rfl rfl rfl rfl fl_X11_302 dX11_lot_5 ?_
  refine v_imul (pc := 8) hC dX11_lot_8 ?_
  refine v_sipush (pc := 9) (12345 : Int32) rfl hC dX11_lot_9 ?_
  refine v_iadd (pc := 12) hC dX11_lot_12 ?_
  obtain ⟨s1, hs1, h⟩ := bnd_s h
  refine v_pI (pc := 13) 27 hC s_49 rfl rfl rfl rfl rfl rfl fl_X11_302 hs1 dX11_lot_13 ?_
  refine v_aload_n (pc := 16) hC dX11_lot_16 rfl ?_
  refine v_gt (pc := 17) 27 (.int (gI s1 49 27)) hC s_49 rfl rfl rfl rfl fl_X11_302 dX11_lot_17 ?_
  refine v_bipush (pc := 20) (16 : Int32) rfl hC dX11_lot_20 ?_
  refine v_iushr (pc := 22) hC dX11_lot_22 ?_
  refine v_iload_n (pc := 23) hC dX11_lot_23 rfl ?_
  obtain ⟨v2, hv2, h⟩ := obd_s h
  refine v_mI (pc := 24) hC hv2 dX11_lot_24 ?_
  obtain rfl := Option.some.inj h
  exact v_iret (pc := 25) hC rfl dX11_lot_25 hP
theorem dX11_made_0 : decode cX11_made 0 = .ok (.iload_n 1, 1) := by decide +kernel
theorem dX11_made_1 : decode cX11_made 1 = .ok (.iconst 1, 1) := by decide +kernel
theorem dX11_made_2 : decode cX11_made 2 = .ok (.iconst 4, 1) := by decide +kernel
theorem dX11_made_3 : decode cX11_made 3 = .ok (.invokestatic 94, 3) := by decide +kernel
theorem dX11_made_6 : decode cX11_made 6 = .ok (.ifCond .eq 40, 3) := by decide +kernel
theorem dX11_made_9 : decode cX11_made 9 = .ok (.iload_n 2, 1) := by decide +kernel
theorem dX11_made_10 : decode cX11_made 10 = .ok (.iconst 0, 1) := by decide +kernel
theorem dX11_made_11 : decode cX11_made 11 = .ok (.bipush 9, 2) := by decide +kernel
theorem dX11_made_13 : decode cX11_made 13 = .ok (.invokestatic 94, 3) := by decide +kernel
theorem dX11_made_16 : decode cX11_made 16 = .ok (.ifCond .eq 30, 3) := by decide +kernel
theorem dX11_made_19 : decode cX11_made 19 = .ok (.iload_n 3, 1) := by decide +kernel
theorem dX11_made_20 : decode cX11_made 20 = .ok (.invokestatic 109, 3) := by decide +kernel
theorem dX11_made_23 : decode cX11_made 23 = .ok (.ifCond .eq 23, 3) := by decide +kernel
theorem dX11_made_26 : decode cX11_made 26 = .ok (.iload 4, 2) := by decide +kernel
theorem dX11_made_28 : decode cX11_made 28 = .ok (.iconst 1, 1) := by decide +kernel
theorem dX11_made_29 : decode cX11_made 29 = .ok (.bipush 8, 2) := by decide +kernel
theorem dX11_made_31 : decode cX11_made 31 = .ok (.invokestatic 94, 3) := by decide +kernel
theorem dX11_made_34 : decode cX11_made 34 = .ok (.ifCond .eq 12, 3) := by decide +kernel
theorem dX11_made_37 : decode cX11_made 37 = .ok (.iload_n 3, 1) := by decide +kernel
theorem dX11_made_38 : decode cX11_made 38 = .ok (.iload 4, 2) := by decide +kernel
theorem dX11_made_40 : decode cX11_made 40 = .ok (.iadd, 1) := by decide +kernel
theorem dX11_made_41 : decode cX11_made 41 = .ok (.bipush 24, 2) := by decide +kernel
theorem dX11_made_43 : decode cX11_made 43 = .ok (.if_icmp .le 6, 3) := by decide +kernel
theorem dX11_made_46 : decode cX11_made 46 = .ok (.bipush (-2), 2) := by decide +kernel
theorem dX11_made_48 : decode cX11_made 48 = .ok (.ireturn, 1) := by decide +kernel
theorem dX11_made_49 : decode cX11_made 49 = .ok (.aload_n 0, 1) := by decide +kernel
theorem dX11_made_50 : decode cX11_made 50 = .ok (.getfield 90, 3) := by decide +kernel
theorem dX11_made_53 : decode cX11_made 53 = .ok (.bipush 16, 2) := by decide +kernel
theorem dX11_made_55 : decode cX11_made 55 = .ok (.if_icmp .eq 15, 3) := by decide +kernel
theorem dX11_made_58 : decode cX11_made 58 = .ok (.aload_n 0, 1) := by decide +kernel
theorem dX11_made_59 : decode cX11_made 59 = .ok (.getfield 98, 3) := by decide +kernel
theorem dX11_made_62 : decode cX11_made 62 = .ok (.iload 4, 2) := by decide +kernel
theorem dX11_made_64 : decode cX11_made 64 = .ok (.iadd, 1) := by decide +kernel
theorem dX11_made_65 : decode cX11_made 65 = .ok (.bipush 64, 2) := by decide +kernel
theorem dX11_made_67 : decode cX11_made 67 = .ok (.if_icmp .le 6, 3) := by decide +kernel
theorem dX11_made_70 : decode cX11_made 70 = .ok (.bipush (-4), 2) := by decide +kernel
theorem dX11_made_72 : decode cX11_made 72 = .ok (.ireturn, 1) := by decide +kernel
theorem dX11_made_73 : decode cX11_made 73 = .ok (.aload_n 0, 1) := by decide +kernel
theorem dX11_made_74 : decode cX11_made 74 = .ok (.invokevirtual 279, 3) := by decide +kernel
theorem dX11_made_77 : decode cX11_made 77 = .ok (.iconst (-1), 1) := by decide +kernel
theorem dX11_made_78 : decode cX11_made 78 = .ok (.if_icmp .ne 7, 3) := by decide +kernel
theorem dX11_made_81 : decode cX11_made 81 = .ok (.iconst 1, 1) := by decide +kernel
theorem dX11_made_82 : decode cX11_made 82 = .ok (.goto 4, 3) := by decide +kernel
theorem dX11_made_85 : decode cX11_made 85 = .ok (.iconst 0, 1) := by decide +kernel
theorem dX11_made_86 : decode cX11_made 86 = .ok (.istore 6, 2) := by decide +kernel
theorem dX11_made_88 : decode cX11_made 88 = .ok (.aload_n 0, 1) := by decide +kernel
theorem dX11_made_89 : decode cX11_made 89 = .ok (.invokevirtual 282, 3) := by decide +kernel
theorem dX11_made_92 : decode cX11_made 92 = .ok (.istore 7, 2) := by decide +kernel
theorem dX11_made_94 : decode cX11_made 94 = .ok (.aload_n 0, 1) := by decide +kernel
theorem dX11_made_95 : decode cX11_made 95 = .ok (.iload 5, 2) := by decide +kernel
theorem dX11_made_97 : decode cX11_made 97 = .ok (.putfield 302, 3) := by decide +kernel
theorem dX11_made_100 : decode cX11_made 100 = .ok (.aload_n 0, 1) := by decide +kernel
theorem dX11_made_101 : decode cX11_made 101 = .ok (.iload_n 1, 1) := by decide +kernel
theorem dX11_made_102 : decode cX11_made 102 = .ok (.iload_n 2, 1) := by decide +kernel
theorem dX11_made_103 : decode cX11_made 103 = .ok (.invokevirtual 101, 3) := by decide +kernel
theorem dX11_made_106 : decode cX11_made 106 = .ok (.istore 8, 2) := by decide +kernel
theorem dX11_made_108 : decode cX11_made 108 = .ok (.iload_n 3, 1) := by decide +kernel
theorem dX11_made_109 : decode cX11_made 109 = .ok (.istore 9, 2) := by decide +kernel
theorem dX11_made_111 : decode cX11_made 111 = .ok (.iload 9, 2) := by decide +kernel
theorem dX11_made_113 : decode cX11_made 113 = .ok (.iload_n 3, 1) := by decide +kernel
theorem dX11_made_114 : decode cX11_made 114 = .ok (.iload 4, 2) := by decide +kernel
theorem dX11_made_116 : decode cX11_made 116 = .ok (.iadd, 1) := by decide +kernel
theorem dX11_made_117 : decode cX11_made 117 = .ok (.if_icmp .ge 198, 3) := by decide +kernel
theorem dX11_made_120 : decode cX11_made 120 = .ok (.iconst 0, 1) := by decide +kernel
theorem dX11_made_121 : decode cX11_made 121 = .ok (.istore 10, 2) := by decide +kernel
theorem dX11_made_123 : decode cX11_made 123 = .ok (.iload_n 3, 1) := by decide +kernel
theorem dX11_made_124 : decode cX11_made 124 = .ok (.istore 11, 2) := by decide +kernel
theorem dX11_made_126 : decode cX11_made 126 = .ok (.iload 11, 2) := by decide +kernel
theorem dX11_made_128 : decode cX11_made 128 = .ok (.iload_n 3, 1) := by decide +kernel
theorem dX11_made_129 : decode cX11_made 129 = .ok (.iload 4, 2) := by decide +kernel
theorem dX11_made_131 : decode cX11_made 131 = .ok (.iadd, 1) := by decide +kernel
theorem dX11_made_132 : decode cX11_made 132 = .ok (.if_icmp .ge 30, 3) := by decide +kernel
theorem dX11_made_135 : decode cX11_made 135 = .ok (.iload 10, 2) := by decide +kernel
theorem dX11_made_137 : decode cX11_made 137 = .ok (.aload_n 0, 1) := by decide +kernel
theorem dX11_made_138 : decode cX11_made 138 = .ok (.iload 11, 2) := by decide +kernel
theorem dX11_made_140 : decode cX11_made 140 = .ok (.iload 9, 2) := by decide +kernel
theorem dX11_made_142 : decode cX11_made 142 = .ok (.invokevirtual 285, 3) := by decide +kernel
theorem dX11_made_145 : decode cX11_made 145 = .ok (.ifCond .eq 7, 3) := by decide +kernel
theorem dX11_made_148 : decode cX11_made 148 = .ok (.iconst 1, 1) := by decide +kernel
theorem dX11_made_149 : decode cX11_made 149 = .ok (.goto 4, 3) := by decide +kernel
theorem dX11_made_152 : decode cX11_made 152 = .ok (.iconst 0, 1) := by decide +kernel
theorem dX11_made_153 : decode cX11_made 153 = .ok (.iadd, 1) := by decide +kernel
theorem dX11_made_154 : decode cX11_made 154 = .ok (.istore 10, 2) := by decide +kernel
theorem dX11_made_156 : decode cX11_made 156 = .ok (.iinc 11 1, 3) := by decide +kernel
theorem dX11_made_159 : decode cX11_made 159 = .ok (.goto (-33), 3) := by decide +kernel
theorem dX11_made_162 : decode cX11_made 162 = .ok (.iload 6, 2) := by decide +kernel
theorem dX11_made_164 : decode cX11_made 164 = .ok (.ifCond .eq 13, 3) := by decide +kernel
theorem dX11_made_167 : decode cX11_made 167 = .ok (.aload_n 0, 1) := by decide +kernel
theorem dX11_made_168 : decode cX11_made 168 = .ok (.getfield 62, 3) := by decide +kernel
theorem dX11_made_171 : decode cX11_made 171 = .ok (.iload 10, 2) := by decide +kernel
theorem dX11_made_173 : decode cX11_made 173 = .ok (.iaload, 1) := by decide +kernel
theorem dX11_made_174 : decode cX11_made 174 = .ok (.goto 7, 3) := by decide +kernel
theorem dX11_made_177 : decode cX11_made 177 = .ok (.iload 9, 2) := by decide +kernel
theorem dX11_made_179 : decode cX11_made 179 = .ok (.iload_n 3, 1) := by decide +kernel
theorem dX11_made_180 : decode cX11_made 180 = .ok (.isub, 1) := by decide +kernel
theorem dX11_made_181 : decode cX11_made 181 = .ok (.istore 11, 2) := by decide +kernel
theorem dX11_made_183 : decode cX11_made 183 = .ok (.aload_n 0, 1) := by decide +kernel
theorem dX11_made_184 : decode cX11_made 184 = .ok (.iload 8, 2) := by decide +kernel
theorem dX11_made_186 : decode cX11_made 186 = .ok (.iload 9, 2) := by decide +kernel
theorem dX11_made_188 : decode cX11_made 188 = .ok (.iload 11, 2) := by decide +kernel
theorem dX11_made_190 : decode cX11_made 190 = .ok (.invokevirtual 115, 3) := by decide +kernel
theorem dX11_made_193 : decode cX11_made 193 = .ok (.istore 12, 2) := by decide +kernel
theorem dX11_made_195 : decode cX11_made 195 = .ok (.iconst 0, 1) := by decide +kernel
theorem dX11_made_196 : decode cX11_made 196 = .ok (.istore 13, 2) := by decide +kernel
theorem dX11_made_198 : decode cX11_made 198 = .ok (.iload 13, 2) := by decide +kernel
theorem dX11_made_200 : decode cX11_made 200 = .ok (.iload_n 1, 1) := by decide +kernel
theorem dX11_made_201 : decode cX11_made 201 = .ok (.if_icmp .ge 108, 3) := by decide +kernel
theorem dX11_made_204 : decode cX11_made 204 = .ok (.aload_n 0, 1) := by decide +kernel
theorem dX11_made_205 : decode cX11_made 205 = .ok (.getfield 28, 3) := by decide +kernel
theorem dX11_made_208 : decode cX11_made 208 = .ok (.iload 9, 2) := by decide +kernel
theorem dX11_made_210 : decode cX11_made 210 = .ok (.iaload, 1) := by decide +kernel
theorem dX11_made_211 : decode cX11_made 211 = .ok (.iload 13, 2) := by decide +kernel
theorem dX11_made_213 : decode cX11_made 213 = .ok (.aload_n 0, 1) := by decide +kernel
theorem dX11_made_214 : decode cX11_made 214 = .ok (.getfield 267, 3) := by decide +kernel
theorem dX11_made_217 : decode cX11_made 217 = .ok (.imul, 1) := by decide +kernel
theorem dX11_made_218 : decode cX11_made 218 = .ok (.iadd, 1) := by decide +kernel
theorem dX11_made_219 : decode cX11_made 219 = .ok (.iload 13, 2) := by decide +kernel
theorem dX11_made_221 : decode cX11_made 221 = .ok (.iconst 2, 1) := by decide +kernel
theorem dX11_made_222 : decode cX11_made 222 = .ok (.irem, 1) := by decide +kernel
theorem dX11_made_223 : decode cX11_made 223 = .ok (.ifCond .ne 13, 3) := by decide +kernel
theorem dX11_made_226 : decode cX11_made 226 = .ok (.aload_n 0, 1) := by decide +kernel
theorem dX11_made_227 : decode cX11_made 227 = .ok (.getfield 65, 3) := by decide +kernel
theorem dX11_made_230 : decode cX11_made 230 = .ok (.iload 11, 2) := by decide +kernel
theorem dX11_made_232 : decode cX11_made 232 = .ok (.iaload, 1) := by decide +kernel
theorem dX11_made_233 : decode cX11_made 233 = .ok (.goto 11, 3) := by decide +kernel
theorem dX11_made_236 : decode cX11_made 236 = .ok (.aload_n 0, 1) := by decide +kernel
theorem dX11_made_237 : decode cX11_made 237 = .ok (.getfield 65, 3) := by decide +kernel
theorem dX11_made_240 : decode cX11_made 240 = .ok (.iload 11, 2) := by decide +kernel
theorem dX11_made_242 : decode cX11_made 242 = .ok (.iaload, 1) := by decide +kernel
theorem dX11_made_243 : decode cX11_made 243 = .ok (.ineg, 1) := by decide +kernel
theorem dX11_made_244 : decode cX11_made 244 = .ok (.iadd, 1) := by decide +kernel
theorem dX11_made_245 : decode cX11_made 245 = .ok (.aload_n 0, 1) := by decide +kernel
theorem dX11_made_246 : decode cX11_made 246 = .ok (.iconst 2, 1) := by decide +kernel
theorem dX11_made_247 : decode cX11_made 247 = .ok (.aload_n 0, 1) := by decide +kernel
theorem dX11_made_248 : decode cX11_made 248 = .ok (.getfield 270, 3) := by decide +kernel
theorem dX11_made_251 : decode cX11_made 251 = .ok (.imul, 1) := by decide +kernel
theorem dX11_made_252 : decode cX11_made 252 = .ok (.iconst 1, 1) := by decide +kernel
theorem dX11_made_253 : decode cX11_made 253 = .ok (.iadd, 1) := by decide +kernel
theorem dX11_made_254 : decode cX11_made 254 = .ok (.invokevirtual 305, 3) := by decide +kernel
theorem dX11_made_257 : decode cX11_made 257 = .ok (.iadd, 1) := by decide +kernel
theorem dX11_made_258 : decode cX11_made 258 = .ok (.aload_n 0, 1) := by decide +kernel
theorem dX11_made_259 : decode cX11_made 259 = .ok (.getfield 270, 3) := by decide +kernel
theorem dX11_made_262 : decode cX11_made 262 = .ok (.isub, 1) := by decide +kernel
theorem dX11_made_263 : decode cX11_made 263 = .ok (.istore 14, 2) := by decide +kernel
theorem dX11_made_265 : decode cX11_made 265 = .ok (.aload_n 0, 1) := by decide +kernel
theorem dX11_made_266 : decode cX11_made 266 = .ok (.getfield 25, 3) := by decide +kernel
theorem dX11_made_269 : decode cX11_made 269 = .ok (.iconst 4, 1) := by decide +kernel
theorem dX11_made_270 : decode cX11_made 270 = .ok (.iload 12, 2) := by decide +kernel
theorem dX11_made_272 : decode cX11_made 272 = .ok (.imul, 1) := by decide +kernel
theorem dX11_made_273 : decode cX11_made 273 = .ok (.iload 13, 2) := by decide +kernel
theorem dX11_made_275 : decode cX11_made 275 = .ok (.iadd, 1) := by decide +kernel
theorem dX11_made_276 : decode cX11_made 276 = .ok (.iload 14, 2) := by decide +kernel
theorem dX11_made_278 : decode cX11_made 278 = .ok (.iconst 1, 1) := by decide +kernel
theorem dX11_made_279 : decode cX11_made 279 = .ok (.if_icmp .ge 7, 3) := by decide +kernel
theorem dX11_made_282 : decode cX11_made 282 = .ok (.iconst 1, 1) := by decide +kernel
theorem dX11_made_283 : decode cX11_made 283 = .ok (.goto 19, 3) := by decide +kernel
theorem dX11_made_286 : decode cX11_made 286 = .ok (.iload 14, 2) := by decide +kernel
theorem dX11_made_288 : decode cX11_made 288 = .ok (.sipush 9999, 3) := by decide +kernel
theorem dX11_made_291 : decode cX11_made 291 = .ok (.if_icmp .le 9, 3) := by decide +kernel
theorem dX11_made_294 : decode cX11_made 294 = .ok (.sipush 9999, 3) := by decide +kernel
theorem dX11_made_297 : decode cX11_made 297 = .ok (.goto 5, 3) := by decide +kernel
theorem dX11_made_300 : decode cX11_made 300 = .ok (.iload 14, 2) := by decide +kernel
theorem dX11_made_302 : decode cX11_made 302 = .ok (.iastore, 1) := by decide +kernel
theorem dX11_made_303 : decode cX11_made 303 = .ok (.iinc 13 1, 3) := by decide +kernel
theorem dX11_made_306 : decode cX11_made 306 = .ok (.goto (-108), 3) := by decide +kernel
theorem dX11_made_309 : decode cX11_made 309 = .ok (.iinc 9 1, 3) := by decide +kernel
theorem dX11_made_312 : decode cX11_made 312 = .ok (.goto (-201), 3) := by decide +kernel
theorem dX11_made_315 : decode cX11_made 315 = .ok (.iload 8, 2) := by decide +kernel
theorem dX11_made_317 : decode cX11_made 317 = .ok (.ireturn, 1) := by decide +kernel
def fX11_made_L126 (p1 : Int32) (p3 : Int32) (p4 : Int32) (p6 : Int32) (p8 : Int32) (p9 : Int32) (a : Int32 × Int32) (s : Sg) : Option (((Int32 × Int32) ⊕ (Int32)) × Sg) :=
  if (p3 + p4) ≤ a.2 then
  some (.inr a.1, s)
  else
  (fX11_isBetter a.2 p9 s).bind fun w2 =>
  ((if w2.1 = 0 then
  some (0 : Int32)
  else
  some (1 : Int32)) : Option (Int32)).bind fun w3 =>
  bnd (a.1 + w3) fun x5 =>
  bnd (a.2 + (1 : Int32)) fun x6 =>
  some (.inl (x5, x6), w2.2)
def fX11_made_L198 (p1 : Int32) (p3 : Int32) (p4 : Int32) (p6 : Int32) (p8 : Int32) (p9 : Int32) (p11 : Int32) (p12 : Int32) (a : Int32) (s : Sg) : Option (((Int32) ⊕ (Unit)) × Sg) :=
  if p1 ≤ a then
  some (.inr (), s)
  else
  (aI s 56 24 p9).bind fun v2 =>
  (mI a (2 : Int32)).bind fun v3 =>
  ((if v3 = 0 then
  (aI s 68 8 p11).bind fun v16 =>
  some v16
  else
  (aI s 68 8 p11).bind fun v14 =>
  some (-v14)) : Option (Int32)).bind fun w4 =>
  (fX11_lot (((2 : Int32) * (gI s 49 24)) + (1 : Int32)) s).bind fun w6 =>
  bnd ((((v2 + (a * (gI s 49 23))) + w4) + w6.1) - (gI w6.2 49 24)) fun x7 =>
  ((if (1 : Int32) ≤ x7 then
  if x7 ≤ (9999 : Int32) then
  some x7
  else
  some (9999 : Int32)
  else
  some (1 : Int32)) : Option (Int32)).bind fun w8 =>
  (wI w6.2 55 256 (((4 : Int32) * p12) + a) w8).bind fun s10 =>
  bnd (a + (1 : Int32)) fun x11 =>
  some (.inl x11, s10)
def fX11_made_L111 (p1 : Int32) (p3 : Int32) (p4 : Int32) (p6 : Int32) (p8 : Int32) (a : Int32) (s : Sg) : Option (((Int32) ⊕ (Unit)) × Sg) :=
  if (p3 + p4) ≤ a then
  some (.inr (), s)
  else
  (lpG (fX11_made_L126 p1 p3 p4 p6 p8 a) FU ((0 : Int32), p3) s).bind fun w2 =>
  ((if p6 = 0 then
  some (a - p3)
  else
  (aI w2.2 67 8 w2.1).bind fun v32 =>
  some v32) : Option (Int32)).bind fun w3 =>
  (fX11_swimMore p8 a w3 w2.2).bind fun w5 =>
  (lpG (fX11_made_L198 p1 p3 p4 p6 p8 a w3 w5.1) FU (0 : Int32) w5.2).bind fun w6 =>
  bnd (a + (1 : Int32)) fun x7 =>
  some (.inl x7, w6.2)
def fX11_made (x0_ : Int32) (x1_ : Int32) (x2_ : Int32) (x3_ : Int32) (x4_ : Int32) (s : Sg) : Option (Int32 × Sg) :=
  (fX11_in x0_ (1 : Int32) (4 : Int32) s).bind fun w1 =>
  if w1.1 = 0 then
  some ((-2 : Int32), w1.2)
  else
  (fX11_in x1_ (0 : Int32) (9 : Int32) w1.2).bind fun w3 =>
  if w3.1 = 0 then
  some ((-2 : Int32), w3.2)
  else
  (fX11_isSwimmer x2_ w3.2).bind fun w5 =>
  if w5.1 = 0 then
  some ((-2 : Int32), w5.2)
  else
  (fX11_in x3_ (1 : Int32) (8 : Int32) w5.2).bind fun w7 =>
  if w7.1 = 0 then
  some ((-2 : Int32), w7.2)
  else
  if (x2_ + x3_) ≤ (24 : Int32) then
  if (gI w7.2 49 0) = (16 : Int32) then
  some ((-4 : Int32), w7.2)
  else
  if ((gI w7.2 49 3) + x3_) ≤ (64 : Int32) then
  (fX11_ruleFault w7.2).bind fun w10 =>
  ((if w10.1 = (-1 : Int32) then
  some (1 : Int32)
  else
  some (0 : Int32)) : Option (Int32)).bind fun w11 =>
  (fX11_worldFault w10.2).bind fun w13 =>
  bnd (sI w13.2 49 27 x4_) fun s14 =>
  (fX11_raceMore x0_ x1_ s14).bind fun w15 =>
  (lpG (fX11_made_L111 x0_ x2_ x3_ w11 w15.1) FU x2_ w15.2).bind fun w16 =>
  some (w15.1, w16.2)
  else
  some ((-4 : Int32), w7.2)
  else
  some ((-2 : Int32), w7.2)
theorem ct_X11_made {g : Gl} {x0_ : Int32} {x1_ : Int32} {x2_ : Int32} {x3_ : Int32} {x4_ : Int32} {s : Sg} {w : Int32 × Sg}  (h : fX11_made x0_ x1_ x2_ x3_ x4_ s = some w) : Ct SS g iX11_made 4 88 [.ref (gad g 49), .int x0_, .int x1_, .int x2_, .int x3_, .int x4_] s (Dt (some (.int w.1)) w.2) := by
  refine Ct.ofV (by decide +kernel) 9 (lv0 := [some (.ref (gad g 49)), some (.int x0_), some (.int x1_), some (.int x2_), some (.int x3_), some (.int x4_), none, none, none, none, none, none, none, none, none]) rfl rfl (fun M hC => ?_)
  have hP : (Dt (some (.int w.1)) w.2) (some (.int w.1)) w.2 := ⟨rfl, rfl⟩
  generalize Dt (some (.int w.1)) w.2 = P at hP ⊢
  unfold fX11_made at h
  refine v_iload_n (pc := 0) hC dX11_made_0 rfl ?_
  refine v_iconst (pc := 1) (1 : Int32) rfl hC dX11_made_1 ?_
  refine v_iconst (pc := 2) (4 : Int32) rfl hC dX11_made_2 ?_
  obtain ⟨w1, hw1, h⟩ := obd_s h
  refine v_cS (pc := 3) [] [.int w1.1] gm_X11_in hC (ct_X11_in  hw1) ml_X11_94 rfl rfl rfl rfl rfl rfl dX11_made_3 ?_
  refine v_if_eq (pc := 6) (tgt := 46) hC dX11_made_6 rfl (fun c2 => ?_) (fun c2 => ?_)
  · replace h := (if_pos c2).symm.trans h
    refine v_bipush (pc := 46) (-2 : Int32) rfl hC dX11_made_46 ?_
    obtain rfl := Option.some.inj h
    exact v_iret (pc := 48) hC rfl dX11_made_48 hP
  · replace h := (if_neg c2).symm.trans h
    refine v_iload_n (pc := 9) hC dX11_made_9 rfl ?_
    refine v_iconst (pc := 10) (0 : Int32) rfl hC dX11_made_10 ?_
    refine v_bipush (pc := 11) (9 : Int32) rfl hC dX11_made_11 ?_
    obtain ⟨w3, hw3, h⟩ := obd_s h
    refine v_cS (pc := 13) [] [.int w3.1] gm_X11_in hC (ct_X11_in  hw3) ml_X11_94 rfl rfl rfl rfl rfl rfl dX11_made_13 ?_
    refine v_if_eq (pc := 16) (tgt := 46) hC dX11_made_16 rfl (fun c4 => ?_) (fun c4 => ?_)
    · replace h := (if_pos c4).symm.trans h
      refine v_bipush (pc := 46) (-2 : Int32) rfl hC dX11_made_46 ?_
      obtain rfl := Option.some.inj h
      exact v_iret (pc := 48) hC rfl dX11_made_48 hP
    · replace h := (if_neg c4).symm.trans h
      refine v_iload_n (pc := 19) hC dX11_made_19 rfl ?_
      obtain ⟨w5, hw5, h⟩ := obd_s h
      refine v_cS (pc := 20) [] [.int w5.1] gm_X11_isSwimmer hC (ct_X11_isSwimmer  hw5) ml_X11_109 rfl rfl rfl rfl rfl rfl dX11_made_20 ?_
      refine v_if_eq (pc := 23) (tgt := 46) hC dX11_made_23 rfl (fun c6 => ?_) (fun c6 => ?_)
      · replace h := (if_pos c6).symm.trans h
        refine v_bipush (pc := 46) (-2 : Int32) rfl hC dX11_made_46 ?_
        obtain rfl := Option.some.inj h
        exact v_iret (pc := 48) hC rfl dX11_made_48 hP
      · replace h := (if_neg c6).symm.trans h
        refine v_iload (pc := 26) hC dX11_made_26 rfl ?_
        refine v_iconst (pc := 28) (1 : Int32) rfl hC dX11_made_28 ?_
        refine v_bipush (pc := 29) (8 : Int32) rfl hC dX11_made_29 ?_
        obtain ⟨w7, hw7, h⟩ := obd_s h
        refine v_cS (pc := 31) [] [.int w7.1] gm_X11_in hC (ct_X11_in  hw7) ml_X11_94 rfl rfl rfl rfl rfl rfl dX11_made_31 ?_
        refine v_if_eq (pc := 34) (tgt := 46) hC dX11_made_34 rfl (fun c8 => ?_) (fun c8 => ?_)
        · replace h := (if_pos c8).symm.trans h
          refine v_bipush (pc := 46) (-2 : Int32) rfl hC dX11_made_46 ?_
          obtain rfl := Option.some.inj h
          exact v_iret (pc := 48) hC rfl dX11_made_48 hP
        · replace h := (if_neg c8).symm.trans h
          refine v_iload_n (pc := 37) hC dX11_made_37 rfl ?_
          refine v_iload (pc := 38) hC dX11_made_38 rfl ?_
          refine v_iadd (pc := 40) hC dX11_made_40 ?_
          refine v_bipush (pc := 41) (24 : Int32) rfl hC dX11_made_41 ?_
          refine v_ic_le (pc := 43) (tgt := 49) hC dX11_made_43 rfl (fun c72 => ?_) (fun c72 => ?_)
          · replace h := (if_pos c72).symm.trans h
            refine v_aload_n (pc := 49) hC dX11_made_49 rfl ?_
            refine v_gt (pc := 50) 0 (.int (gI w7.2 49 0)) hC s_49 rfl rfl rfl rfl fl_X11_90 dX11_made_50 ?_
            refine v_bipush (pc := 53) (16 : Int32) rfl hC dX11_made_53 ?_
            refine v_ic_eq (pc := 55) (tgt := 70) hC dX11_made_55 rfl (fun c9 => ?_) (fun c9 => ?_)
            · replace h := (if_pos c9).symm.trans h
              refine v_bipush (pc := 70) (-4 : Int32) rfl hC dX11_made_70 ?_
              obtain rfl := Option.some.inj h
              exact v_iret (pc := 72) hC rfl dX11_made_72 hP
            · replace h := (if_neg c9).symm.trans h
              refine v_aload_n (pc := 58) hC dX11_made_58 rfl ?_
              refine v_gt (pc := 59) 3 (.int (gI w7.2 49 3)) hC s_49 rfl rfl rfl rfl fl_X11_98 dX11_made_59 ?_
              refine v_iload (pc := 62) hC dX11_made_62 rfl ?_
              refine v_iadd (pc := 64) hC dX11_made_64 ?_
              refine v_bipush (pc := 65) (64 : Int32) rfl hC dX11_made_65 ?_
              refine v_ic_le (pc := 67) (tgt := 73) hC dX11_made_67 rfl (fun c71 => ?_) (fun c71 => ?_)
              · replace h := (if_pos c71).symm.trans h
                refine v_aload_n (pc := 73) hC dX11_made_73 rfl ?_
                obtain ⟨w10, hw10, h⟩ := obd_s h
                refine v_cV (pc := 74) [] [.int w10.1] gm_X11_ruleFault hC s_49 rfl rfl (ct_X11_ruleFault  hw10) ml_X11_279 rfl rfl rfl rfl rfl rfl dX11_made_74 ?_
                refine v_iconst (pc := 77) (-1 : Int32) rfl hC dX11_made_77 ?_
                obtain ⟨w11, hw11, h⟩ := obd_s h
                have kj12 : V SS g M iX11_made (PQ SS g M P) 86 [some (.ref (gad g 49)), some (.int x0_), some (.int x1_), some (.int x2_), some (.int x3_), some (.int x4_), none, none, none, none, none, none, none, none, none] [.int w11] w10.2 := by
                  refine v_istore (pc := 86) (lv' := [some (.ref (gad g 49)), some (.int x0_), some (.int x1_), some (.int x2_), some (.int x3_), some (.int x4_), some (.int w11), none, none, none, none, none, none, none, none]) hC dX11_made_86 rfl rfl rfl rfl ?_
                  refine v_aload_n (pc := 88) hC dX11_made_88 rfl ?_
                  obtain ⟨w13, hw13, h⟩ := obd_s h
                  refine v_cV (pc := 89) [] [.int w13.1] gm_X11_worldFault hC s_49 rfl rfl (ct_X11_worldFault  hw13) ml_X11_282 rfl rfl rfl rfl rfl rfl dX11_made_89 ?_
                  refine v_istore (pc := 92) (lv' := [some (.ref (gad g 49)), some (.int x0_), some (.int x1_), some (.int x2_), some (.int x3_), some (.int x4_), some (.int w11), some (.int w13.1), none, none, none, none, none, none, none]) hC dX11_made_92 rfl rfl rfl rfl ?_
                  refine v_aload_n (pc := 94) hC dX11_made_94 rfl ?_
                  refine v_iload (pc := 95) hC dX11_made_95 rfl ?_
                  obtain ⟨s14, hs14, h⟩ := bnd_s h
                  refine v_pI (pc := 97) 27 hC s_49 rfl rfl rfl rfl rfl rfl fl_X11_302 hs14 dX11_made_97 ?_
                  refine v_aload_n (pc := 100) hC dX11_made_100 rfl ?_
                  refine v_iload_n (pc := 101) hC dX11_made_101 rfl ?_
                  refine v_iload_n (pc := 102) hC dX11_made_102 rfl ?_
                  obtain ⟨w15, hw15, h⟩ := obd_s h
                  refine v_cV (pc := 103) [] [.int w15.1] gm_X11_raceMore hC s_49 rfl rfl (ct_X11_raceMore  hw15) ml_X11_101 rfl rfl rfl rfl rfl rfl dX11_made_103 ?_
                  refine v_istore (pc := 106) (lv' := [some (.ref (gad g 49)), some (.int x0_), some (.int x1_), some (.int x2_), some (.int x3_), some (.int x4_), some (.int w11), some (.int w13.1), some (.int w15.1), none, none, none, none, none, none]) hC dX11_made_106 rfl rfl rfl rfl ?_
                  refine v_iload_n (pc := 108) hC dX11_made_108 rfl ?_
                  refine v_istore (pc := 109) (lv' := [some (.ref (gad g 49)), some (.int x0_), some (.int x1_), some (.int x2_), some (.int x3_), some (.int x4_), some (.int w11), some (.int w13.1), some (.int w15.1), some (.int x2_), none, none, none, none, none]) hC dX11_made_109 rfl rfl rfl rfl ?_
                  obtain ⟨w16, hw16, h⟩ := obd_s h
                  have kx69 : V SS g M iX11_made (PQ SS g M P) 315 [none, none, none, none, none, none, none, none, some (.int w15.1), none, none, none, none, none, none] [] w16.2 := by
                    refine v_iload (pc := 315) hC dX11_made_315 rfl ?_
                    obtain rfl := Option.some.inj h
                    exact v_iret (pc := 317) hC rfl dX11_made_317 hP
                  refine V.ls (ls_some (ls_some (ls_none (ls_some (ls_some (ls_none (ls_some (ls_none (ls_some (ls_some (ls_none (ls_none (ls_none (ls_none (ls_none ls_nil))))))))))))))) (v_loop (pc := 111) (fun a19 => [some (.ref (gad g 49)), some (.int x0_), none, some (.int x2_), some (.int x3_), none, some (.int w11), none, some (.int w15.1), some (.int a19), none, none, none, none, none]) (fun z t => V SS g M iX11_made (PQ SS g M P) 315 [none, none, none, none, none, none, none, none, some (.int w15.1), none, none, none, none, none, none] [] t) (fun a19 s17 u18 hu18 k20 k21 => ?_) _ _ _ _ hw16 kx69)
                  unfold fX11_made_L111 at hu18
                  refine v_iload (pc := 111) hC dX11_made_111 rfl ?_
                  refine v_iload_n (pc := 113) hC dX11_made_113 rfl ?_
                  refine v_iload (pc := 114) hC dX11_made_114 rfl ?_
                  refine v_iadd (pc := 116) hC dX11_made_116 ?_
                  refine v_ic_ge (pc := 117) (tgt := 315) hC dX11_made_117 rfl (fun c23 => ?_) (fun c23 => ?_)
                  · replace hu18 := (if_pos c23).symm.trans hu18
                    obtain rfl := Option.some.inj hu18
                    exact V.ls (ls_none (ls_none (ls_none (ls_none (ls_none (ls_none (ls_none (ls_none (ls_some (ls_none (ls_none (ls_none (ls_none (ls_none (ls_none ls_nil))))))))))))))) (k21 _ rfl)
                  · replace hu18 := (if_neg c23).symm.trans hu18
                    refine v_iconst (pc := 120) (0 : Int32) rfl hC dX11_made_120 ?_
                    refine v_istore (pc := 121) (lv' := [some (.ref (gad g 49)), some (.int x0_), none, some (.int x2_), some (.int x3_), none, some (.int w11), none, some (.int w15.1), some (.int a19), some (.int (0 : Int32)), none, none, none, none]) hC dX11_made_121 rfl rfl rfl rfl ?_
                    refine v_iload_n (pc := 123) hC dX11_made_123 rfl ?_
                    refine v_istore (pc := 124) (lv' := [some (.ref (gad g 49)), some (.int x0_), none, some (.int x2_), some (.int x3_), none, some (.int w11), none, some (.int w15.1), some (.int a19), some (.int (0 : Int32)), some (.int x2_), none, none, none]) hC dX11_made_124 rfl rfl rfl rfl ?_
                    obtain ⟨w24, hw24, hu18⟩ := obd_s hu18
                    have kx68 : V SS g M iX11_made (PQ SS g M P) 162 [some (.ref (gad g 49)), some (.int x0_), none, some (.int x2_), some (.int x3_), none, some (.int w11), none, some (.int w15.1), some (.int a19), some (.int w24.1), none, none, none, none] [] w24.2 := by
                      refine v_iload (pc := 162) hC dX11_made_162 rfl ?_
                      obtain ⟨w25, hw25, hu18⟩ := obd_s hu18
                      have kj26 : V SS g M iX11_made (PQ SS g M P) 181 [some (.ref (gad g 49)), some (.int x0_), none, some (.int x2_), some (.int x3_), none, some (.int w11), none, some (.int w15.1), some (.int a19), none, none, none, none, none] [.int w25] w24.2 := by
                        refine v_istore (pc := 181) (lv' := [some (.ref (gad g 49)), some (.int x0_), none, some (.int x2_), some (.int x3_), none, some (.int w11), none, some (.int w15.1), some (.int a19), none, some (.int w25), none, none, none]) hC dX11_made_181 rfl rfl rfl rfl ?_
                        refine v_aload_n (pc := 183) hC dX11_made_183 rfl ?_
                        refine v_iload (pc := 184) hC dX11_made_184 rfl ?_
                        refine v_iload (pc := 186) hC dX11_made_186 rfl ?_
                        refine v_iload (pc := 188) hC dX11_made_188 rfl ?_
                        obtain ⟨w27, hw27, hu18⟩ := obd_s hu18
                        refine v_cV (pc := 190) [] [.int w27.1] gm_X11_swimMore hC s_49 rfl rfl (ct_X11_swimMore  hw27) ml_X11_115 rfl rfl rfl rfl rfl rfl dX11_made_190 ?_
                        refine v_istore (pc := 193) (lv' := [some (.ref (gad g 49)), some (.int x0_), none, some (.int x2_), some (.int x3_), none, some (.int w11), none, some (.int w15.1), some (.int a19), none, some (.int w25), some (.int w27.1), none, none]) hC dX11_made_193 rfl rfl rfl rfl ?_
                        refine v_iconst (pc := 195) (0 : Int32) rfl hC dX11_made_195 ?_
                        refine v_istore (pc := 196) (lv' := [some (.ref (gad g 49)), some (.int x0_), none, some (.int x2_), some (.int x3_), none, some (.int w11), none, some (.int w15.1), some (.int a19), none, some (.int w25), some (.int w27.1), some (.int (0 : Int32)), none]) hC dX11_made_196 rfl rfl rfl rfl ?_
                        obtain ⟨w28, hw28, hu18⟩ := obd_s hu18
                        have kx52 : V SS g M iX11_made (PQ SS g M P) 309 [some (.ref (gad g 49)), some (.int x0_), none, some (.int x2_), some (.int x3_), none, some (.int w11), none, some (.int w15.1), some (.int a19), none, none, none, none, none] [] w28.2 := by
                          obtain ⟨x29, hx29, hu18⟩ := bnd_s hu18
                          refine v_iinc (pc := 309) (lv' := [some (.ref (gad g 49)), some (.int x0_), none, some (.int x2_), some (.int x3_), none, some (.int w11), none, some (.int w15.1), some (.int x29), none, none, none, none, none]) (1 : Int32) rfl hx29 hC dX11_made_309 rfl rfl rfl rfl ?_
                          refine v_goto (pc := 312) (tgt := 111) hC dX11_made_312 rfl ?_
                          obtain rfl := Option.some.inj hu18
                          exact V.ls (ls_some (ls_some (ls_none (ls_some (ls_some (ls_none (ls_some (ls_none (ls_some (ls_some (ls_none (ls_none (ls_none (ls_none (ls_none ls_nil))))))))))))))) (k20 _ rfl)
                        refine V.ls (ls_some (ls_some (ls_none (ls_some (ls_some (ls_none (ls_some (ls_none (ls_some (ls_some (ls_none (ls_some (ls_some (ls_some (ls_none ls_nil))))))))))))))) (v_loop (pc := 198) (fun a32 => [some (.ref (gad g 49)), some (.int x0_), none, some (.int x2_), some (.int x3_), none, some (.int w11), none, some (.int w15.1), some (.int a19), none, some (.int w25), some (.int w27.1), some (.int a32), none]) (fun z t => V SS g M iX11_made (PQ SS g M P) 309 [some (.ref (gad g 49)), some (.int x0_), none, some (.int x2_), some (.int x3_), none, some (.int w11), none, some (.int w15.1), some (.int a19), none, none, none, none, none] [] t) (fun a32 s30 u31 hu31 k33 k34 => ?_) _ _ _ _ hw28 kx52)
                        unfold fX11_made_L198 at hu31
                        refine v_iload (pc := 198) hC dX11_made_198 rfl ?_
                        refine v_iload_n (pc := 200) hC dX11_made_200 rfl ?_
                        refine v_ic_ge (pc := 201) (tgt := 309) hC dX11_made_201 rfl (fun c36 => ?_) (fun c36 => ?_)
                        · replace hu31 := (if_pos c36).symm.trans hu31
                          obtain rfl := Option.some.inj hu31
                          exact V.ls (ls_some (ls_some (ls_none (ls_some (ls_some (ls_none (ls_some (ls_none (ls_some (ls_some (ls_none (ls_none (ls_none (ls_none (ls_none ls_nil))))))))))))))) (k34 _ rfl)
                        · replace hu31 := (if_neg c36).symm.trans hu31
                          refine v_aload_n (pc := 204) hC dX11_made_204 rfl ?_
                          refine v_gt (pc := 205) 8 (.ref (gad g 56)) hC s_49 rfl rfl rfl rfl fl_X11_28 dX11_made_205 ?_
                          refine v_iload (pc := 208) hC dX11_made_208 rfl ?_
                          obtain ⟨v37, hv37, hu31⟩ := obd_s hu31
                          refine v_aI (pc := 210) hC s_56 hv37 dX11_made_210 ?_
                          refine v_iload (pc := 211) hC dX11_made_211 rfl ?_
                          refine v_aload_n (pc := 213) hC dX11_made_213 rfl ?_
                          refine v_gt (pc := 214) 23 (.int (gI s30 49 23)) hC s_49 rfl rfl rfl rfl fl_X11_267 dX11_made_214 ?_
                          refine v_imul (pc := 217) hC dX11_made_217 ?_
                          refine v_iadd (pc := 218) hC dX11_made_218 ?_
                          refine v_iload (pc := 219) hC dX11_made_219 rfl ?_
                          refine v_iconst (pc := 221) (2 : Int32) rfl hC dX11_made_221 ?_
                          obtain ⟨v38, hv38, hu31⟩ := obd_s hu31
                          refine v_mI (pc := 222) hC hv38 dX11_made_222 ?_
                          obtain ⟨w39, hw39, hu31⟩ := obd_s hu31
                          have kj40 : V SS g M iX11_made (PQ SS g M P) 244 [some (.ref (gad g 49)), some (.int x0_), none, some (.int x2_), some (.int x3_), none, some (.int w11), none, some (.int w15.1), some (.int a19), none, some (.int w25), some (.int w27.1), some (.int a32), none] [.int w39, .int (v37 + (a32 * (gI s30 49 23)))] s30 := by
                            refine v_iadd (pc := 244) hC dX11_made_244 ?_
                            refine v_aload_n (pc := 245) hC dX11_made_245 rfl ?_
                            refine v_iconst (pc := 246) (2 : Int32) rfl hC dX11_made_246 ?_
                            refine v_aload_n (pc := 247) hC dX11_made_247 rfl ?_
                            refine v_gt (pc := 248) 24 (.int (gI s30 49 24)) hC s_49 rfl rfl rfl rfl fl_X11_270 dX11_made_248 ?_
                            refine v_imul (pc := 251) hC dX11_made_251 ?_
                            refine v_iconst (pc := 252) (1 : Int32) rfl hC dX11_made_252 ?_
                            refine v_iadd (pc := 253) hC dX11_made_253 ?_
                            obtain ⟨w41, hw41, hu31⟩ := obd_s hu31
                            refine v_cV (pc := 254) [.int ((v37 + (a32 * (gI s30 49 23))) + w39)] [.int w41.1, .int ((v37 + (a32 * (gI s30 49 23))) + w39)] gm_X11_lot hC s_49 rfl rfl (ct_X11_lot  hw41) ml_X11_305 rfl rfl rfl rfl rfl rfl dX11_made_254 ?_
                            refine v_iadd (pc := 257) hC dX11_made_257 ?_
                            refine v_aload_n (pc := 258) hC dX11_made_258 rfl ?_
                            refine v_gt (pc := 259) 24 (.int (gI w41.2 49 24)) hC s_49 rfl rfl rfl rfl fl_X11_270 dX11_made_259 ?_
                            refine v_isub (pc := 262) hC dX11_made_262 ?_
                            obtain ⟨x42, hx42, hu31⟩ := bnd_s hu31
                            refine v_istore (pc := 263) (lv' := [some (.ref (gad g 49)), some (.int x0_), none, some (.int x2_), some (.int x3_), none, some (.int w11), none, some (.int w15.1), some (.int a19), none, some (.int w25), some (.int w27.1), some (.int a32), some (.int x42)]) hC dX11_made_263 hx42 rfl rfl rfl ?_
                            refine v_aload_n (pc := 265) hC dX11_made_265 rfl ?_
                            refine v_gt (pc := 266) 7 (.ref (gad g 55)) hC s_49 rfl rfl rfl rfl fl_X11_25 dX11_made_266 ?_
                            refine v_iconst (pc := 269) (4 : Int32) rfl hC dX11_made_269 ?_
                            refine v_iload (pc := 270) hC dX11_made_270 rfl ?_
                            refine v_imul (pc := 272) hC dX11_made_272 ?_
                            refine v_iload (pc := 273) hC dX11_made_273 rfl ?_
                            refine v_iadd (pc := 275) hC dX11_made_275 ?_
                            refine v_iload (pc := 276) hC dX11_made_276 rfl ?_
                            refine v_iconst (pc := 278) (1 : Int32) rfl hC dX11_made_278 ?_
                            obtain ⟨w43, hw43, hu31⟩ := obd_s hu31
                            have kj44 : V SS g M iX11_made (PQ SS g M P) 302 [some (.ref (gad g 49)), some (.int x0_), none, some (.int x2_), some (.int x3_), none, some (.int w11), none, some (.int w15.1), some (.int a19), none, some (.int w25), some (.int w27.1), some (.int a32), none] [.int w43, .int (((4 : Int32) * w27.1) + a32), .ref (gad g 55)] w41.2 := by
                              obtain ⟨s45, hs45, hu31⟩ := obd_s hu31
                              refine v_wI (pc := 302) hC s_55 hs45 dX11_made_302 ?_
                              obtain ⟨x46, hx46, hu31⟩ := bnd_s hu31
                              refine v_iinc (pc := 303) (lv' := [some (.ref (gad g 49)), some (.int x0_), none, some (.int x2_), some (.int x3_), none, some (.int w11), none, some (.int w15.1), some (.int a19), none, some (.int w25), some (.int w27.1), some (.int x46), none]) (1 : Int32) rfl hx46 hC dX11_made_303 rfl rfl rfl rfl ?_
                              refine v_goto (pc := 306) (tgt := 198) hC dX11_made_306 rfl ?_
                              obtain rfl := Option.some.inj hu31
                              exact V.ls (ls_some (ls_some (ls_none (ls_some (ls_some (ls_none (ls_some (ls_none (ls_some (ls_some (ls_none (ls_some (ls_some (ls_some (ls_none ls_nil))))))))))))))) (k33 _ rfl)
                            refine v_ic_ge (pc := 279) (tgt := 286) hC dX11_made_279 rfl (fun c48 => ?_) (fun c48 => ?_)
                            · replace hw43 := (if_pos c48).symm.trans hw43
                              refine v_iload (pc := 286) hC dX11_made_286 rfl ?_
                              refine v_sipush (pc := 288) (9999 : Int32) rfl hC dX11_made_288 ?_
                              refine v_ic_le (pc := 291) (tgt := 300) hC dX11_made_291 rfl (fun c47 => ?_) (fun c47 => ?_)
                              · replace hw43 := (if_pos c47).symm.trans hw43
                                refine v_iload (pc := 300) hC dX11_made_300 rfl ?_
                                obtain rfl := Option.some.inj hw43
                                exact V.ls (ls_some (ls_some (ls_none (ls_some (ls_some (ls_none (ls_some (ls_none (ls_some (ls_some (ls_none (ls_some (ls_some (ls_some (ls_none ls_nil))))))))))))))) kj44
                              · replace hw43 := (if_neg c47).symm.trans hw43
                                refine v_sipush (pc := 294) (9999 : Int32) rfl hC dX11_made_294 ?_
                                refine v_goto (pc := 297) (tgt := 302) hC dX11_made_297 rfl ?_
                                obtain rfl := Option.some.inj hw43
                                exact V.ls (ls_some (ls_some (ls_none (ls_some (ls_some (ls_none (ls_some (ls_none (ls_some (ls_some (ls_none (ls_some (ls_some (ls_some (ls_none ls_nil))))))))))))))) kj44
                            · replace hw43 := (if_neg c48).symm.trans hw43
                              refine v_iconst (pc := 282) (1 : Int32) rfl hC dX11_made_282 ?_
                              refine v_goto (pc := 283) (tgt := 302) hC dX11_made_283 rfl ?_
                              obtain rfl := Option.some.inj hw43
                              exact V.ls (ls_some (ls_some (ls_none (ls_some (ls_some (ls_none (ls_some (ls_none (ls_some (ls_some (ls_none (ls_some (ls_some (ls_some (ls_none ls_nil))))))))))))))) kj44
                          refine v_if_ne (pc := 223) (tgt := 236) hC dX11_made_223 rfl (fun c50 => ?_) (fun c50 => ?_)
                          · replace hw39 := (if_neg c50).symm.trans hw39
                            refine v_aload_n (pc := 236) hC dX11_made_236 rfl ?_
                            refine v_gt (pc := 237) 22 (.ref (gad g 68)) hC s_49 rfl rfl rfl rfl fl_X11_65 dX11_made_237 ?_
                            refine v_iload (pc := 240) hC dX11_made_240 rfl ?_
                            obtain ⟨v49, hv49, hw39⟩ := obd_s hw39
                            refine v_aI (pc := 242) hC s_68 hv49 dX11_made_242 ?_
                            refine v_ineg (pc := 243) hC dX11_made_243 ?_
                            obtain rfl := Option.some.inj hw39
                            exact V.ls (ls_some (ls_some (ls_none (ls_some (ls_some (ls_none (ls_some (ls_none (ls_some (ls_some (ls_none (ls_some (ls_some (ls_some (ls_none ls_nil))))))))))))))) kj40
                          · replace hw39 := (if_pos c50).symm.trans hw39
                            refine v_aload_n (pc := 226) hC dX11_made_226 rfl ?_
                            refine v_gt (pc := 227) 22 (.ref (gad g 68)) hC s_49 rfl rfl rfl rfl fl_X11_65 dX11_made_227 ?_
                            refine v_iload (pc := 230) hC dX11_made_230 rfl ?_
                            obtain ⟨v51, hv51, hw39⟩ := obd_s hw39
                            refine v_aI (pc := 232) hC s_68 hv51 dX11_made_232 ?_
                            refine v_goto (pc := 233) (tgt := 244) hC dX11_made_233 rfl ?_
                            obtain rfl := Option.some.inj hw39
                            exact V.ls (ls_some (ls_some (ls_none (ls_some (ls_some (ls_none (ls_some (ls_none (ls_some (ls_some (ls_none (ls_some (ls_some (ls_some (ls_none ls_nil))))))))))))))) kj40
                      refine v_if_eq (pc := 164) (tgt := 177) hC dX11_made_164 rfl (fun c53 => ?_) (fun c53 => ?_)
                      · replace hw25 := (if_pos c53).symm.trans hw25
                        refine v_iload (pc := 177) hC dX11_made_177 rfl ?_
                        refine v_iload_n (pc := 179) hC dX11_made_179 rfl ?_
                        refine v_isub (pc := 180) hC dX11_made_180 ?_
                        obtain rfl := Option.some.inj hw25
                        exact V.ls (ls_some (ls_some (ls_none (ls_some (ls_some (ls_none (ls_some (ls_none (ls_some (ls_some (ls_none (ls_none (ls_none (ls_none (ls_none ls_nil))))))))))))))) kj26
                      · replace hw25 := (if_neg c53).symm.trans hw25
                        refine v_aload_n (pc := 167) hC dX11_made_167 rfl ?_
                        refine v_gt (pc := 168) 21 (.ref (gad g 67)) hC s_49 rfl rfl rfl rfl fl_X11_62 dX11_made_168 ?_
                        refine v_iload (pc := 171) hC dX11_made_171 rfl ?_
                        obtain ⟨v54, hv54, hw25⟩ := obd_s hw25
                        refine v_aI (pc := 173) hC s_67 hv54 dX11_made_173 ?_
                        refine v_goto (pc := 174) (tgt := 181) hC dX11_made_174 rfl ?_
                        obtain rfl := Option.some.inj hw25
                        exact V.ls (ls_some (ls_some (ls_none (ls_some (ls_some (ls_none (ls_some (ls_none (ls_some (ls_some (ls_none (ls_none (ls_none (ls_none (ls_none ls_nil))))))))))))))) kj26
                    refine V.ls (ls_some (ls_some (ls_none (ls_some (ls_some (ls_none (ls_some (ls_none (ls_some (ls_some (ls_some (ls_some (ls_none (ls_none (ls_none ls_nil))))))))))))))) (v_loop (pc := 126) (fun a57 => [some (.ref (gad g 49)), some (.int x0_), none, some (.int x2_), some (.int x3_), none, some (.int w11), none, some (.int w15.1), some (.int a19), some (.int a57.1), some (.int a57.2), none, none, none]) (fun z t => V SS g M iX11_made (PQ SS g M P) 162 [some (.ref (gad g 49)), some (.int x0_), none, some (.int x2_), some (.int x3_), none, some (.int w11), none, some (.int w15.1), some (.int a19), some (.int z), none, none, none, none] [] t) (fun a57 s55 u56 hu56 k58 k59 => ?_) _ _ _ _ hw24 kx68)
                    unfold fX11_made_L126 at hu56
                    refine v_iload (pc := 126) hC dX11_made_126 rfl ?_
                    refine v_iload_n (pc := 128) hC dX11_made_128 rfl ?_
                    refine v_iload (pc := 129) hC dX11_made_129 rfl ?_
                    refine v_iadd (pc := 131) hC dX11_made_131 ?_
                    refine v_ic_ge (pc := 132) (tgt := 162) hC dX11_made_132 rfl (fun c61 => ?_) (fun c61 => ?_)
                    · replace hu56 := (if_pos c61).symm.trans hu56
                      obtain rfl := Option.some.inj hu56
                      exact V.ls (ls_some (ls_some (ls_none (ls_some (ls_some (ls_none (ls_some (ls_none (ls_some (ls_some (ls_some (ls_none (ls_none (ls_none (ls_none ls_nil))))))))))))))) (k59 _ rfl)
                    · replace hu56 := (if_neg c61).symm.trans hu56
                      refine v_iload (pc := 135) hC dX11_made_135 rfl ?_
                      refine v_aload_n (pc := 137) hC dX11_made_137 rfl ?_
                      refine v_iload (pc := 138) hC dX11_made_138 rfl ?_
                      refine v_iload (pc := 140) hC dX11_made_140 rfl ?_
                      obtain ⟨w62, hw62, hu56⟩ := obd_s hu56
                      refine v_cV (pc := 142) [.int a57.1] [.int w62.1, .int a57.1] gm_X11_isBetter hC s_49 rfl rfl (ct_X11_isBetter  hw62) ml_X11_285 rfl rfl rfl rfl rfl rfl dX11_made_142 ?_
                      obtain ⟨w63, hw63, hu56⟩ := obd_s hu56
                      have kj64 : V SS g M iX11_made (PQ SS g M P) 153 [some (.ref (gad g 49)), some (.int x0_), none, some (.int x2_), some (.int x3_), none, some (.int w11), none, some (.int w15.1), some (.int a19), none, some (.int a57.2), none, none, none] [.int w63, .int a57.1] w62.2 := by
                        refine v_iadd (pc := 153) hC dX11_made_153 ?_
                        obtain ⟨x65, hx65, hu56⟩ := bnd_s hu56
                        refine v_istore (pc := 154) (lv' := [some (.ref (gad g 49)), some (.int x0_), none, some (.int x2_), some (.int x3_), none, some (.int w11), none, some (.int w15.1), some (.int a19), some (.int x65), some (.int a57.2), none, none, none]) hC dX11_made_154 hx65 rfl rfl rfl ?_
                        obtain ⟨x66, hx66, hu56⟩ := bnd_s hu56
                        refine v_iinc (pc := 156) (lv' := [some (.ref (gad g 49)), some (.int x0_), none, some (.int x2_), some (.int x3_), none, some (.int w11), none, some (.int w15.1), some (.int a19), some (.int x65), some (.int x66), none, none, none]) (1 : Int32) rfl hx66 hC dX11_made_156 rfl rfl rfl rfl ?_
                        refine v_goto (pc := 159) (tgt := 126) hC dX11_made_159 rfl ?_
                        obtain rfl := Option.some.inj hu56
                        exact V.ls (ls_some (ls_some (ls_none (ls_some (ls_some (ls_none (ls_some (ls_none (ls_some (ls_some (ls_some (ls_some (ls_none (ls_none (ls_none ls_nil))))))))))))))) (k58 _ rfl)
                      refine v_if_eq (pc := 145) (tgt := 152) hC dX11_made_145 rfl (fun c67 => ?_) (fun c67 => ?_)
                      · replace hw63 := (if_pos c67).symm.trans hw63
                        refine v_iconst (pc := 152) (0 : Int32) rfl hC dX11_made_152 ?_
                        obtain rfl := Option.some.inj hw63
                        exact V.ls (ls_some (ls_some (ls_none (ls_some (ls_some (ls_none (ls_some (ls_none (ls_some (ls_some (ls_none (ls_some (ls_none (ls_none (ls_none ls_nil))))))))))))))) kj64
                      · replace hw63 := (if_neg c67).symm.trans hw63
                        refine v_iconst (pc := 148) (1 : Int32) rfl hC dX11_made_148 ?_
                        refine v_goto (pc := 149) (tgt := 153) hC dX11_made_149 rfl ?_
                        obtain rfl := Option.some.inj hw63
                        exact V.ls (ls_some (ls_some (ls_none (ls_some (ls_some (ls_none (ls_some (ls_none (ls_some (ls_some (ls_none (ls_some (ls_none (ls_none (ls_none ls_nil))))))))))))))) kj64
                refine v_ic_ne (pc := 78) (tgt := 85) hC dX11_made_78 rfl (fun c70 => ?_) (fun c70 => ?_)
                · replace hw11 := (if_neg c70).symm.trans hw11
                  refine v_iconst (pc := 85) (0 : Int32) rfl hC dX11_made_85 ?_
                  obtain rfl := Option.some.inj hw11
                  exact V.ls (ls_some (ls_some (ls_some (ls_some (ls_some (ls_some (ls_none (ls_none (ls_none (ls_none (ls_none (ls_none (ls_none (ls_none (ls_none ls_nil))))))))))))))) kj12
                · replace hw11 := (if_pos c70).symm.trans hw11
                  refine v_iconst (pc := 81) (1 : Int32) rfl hC dX11_made_81 ?_
                  refine v_goto (pc := 82) (tgt := 86) hC dX11_made_82 rfl ?_
                  obtain rfl := Option.some.inj hw11
                  exact V.ls (ls_some (ls_some (ls_some (ls_some (ls_some (ls_some (ls_none (ls_none (ls_none (ls_none (ls_none (ls_none (ls_none (ls_none (ls_none ls_nil))))))))))))))) kj12
              · replace h := (if_neg c71).symm.trans h
                refine v_bipush (pc := 70) (-4 : Int32) rfl hC dX11_made_70 ?_
                obtain rfl := Option.some.inj h
                exact v_iret (pc := 72) hC rfl dX11_made_72 hP
          · replace h := (if_neg c72).symm.trans h
            refine v_bipush (pc := 46) (-2 : Int32) rfl hC dX11_made_46 ?_
            obtain rfl := Option.some.inj h
            exact v_iret (pc := 48) hC rfl dX11_made_48 hP
theorem dX11_sheet_0 : decode cX11_sheet 0 = .ok (.iload_n 1, 1) := by decide +kernel
theorem dX11_sheet_1 : decode cX11_sheet 1 = .ok (.invokestatic 125, 3) := by decide +kernel
theorem dX11_sheet_4 : decode cX11_sheet 4 = .ok (.ifCond .eq 18, 3) := by decide +kernel
theorem dX11_sheet_7 : decode cX11_sheet 7 = .ok (.iload_n 2, 1) := by decide +kernel
theorem dX11_sheet_8 : decode cX11_sheet 8 = .ok (.iconst 0, 1) := by decide +kernel
theorem dX11_sheet_9 : decode cX11_sheet 9 = .ok (.iconst 2, 1) := by decide +kernel
theorem dX11_sheet_10 : decode cX11_sheet 10 = .ok (.invokestatic 94, 3) := by decide +kernel
theorem dX11_sheet_13 : decode cX11_sheet 13 = .ok (.ifCond .eq 9, 3) := by decide +kernel
theorem dX11_sheet_16 : decode cX11_sheet 16 = .ok (.iload_n 3, 1) := by decide +kernel
theorem dX11_sheet_17 : decode cX11_sheet 17 = .ok (.bipush 48, 2) := by decide +kernel
theorem dX11_sheet_19 : decode cX11_sheet 19 = .ok (.if_icmp .le 6, 3) := by decide +kernel
theorem dX11_sheet_22 : decode cX11_sheet 22 = .ok (.bipush (-2), 2) := by decide +kernel
theorem dX11_sheet_24 : decode cX11_sheet 24 = .ok (.ireturn, 1) := by decide +kernel
theorem dX11_sheet_25 : decode cX11_sheet 25 = .ok (.iload_n 3, 1) := by decide +kernel
theorem dX11_sheet_26 : decode cX11_sheet 26 = .ok (.ifCond .ge 9, 3) := by decide +kernel
theorem dX11_sheet_29 : decode cX11_sheet 29 = .ok (.aload_n 0, 1) := by decide +kernel
theorem dX11_sheet_30 : decode cX11_sheet 30 = .ok (.iconst 5, 1) := by decide +kernel
theorem dX11_sheet_31 : decode cX11_sheet 31 = .ok (.invokevirtual 128, 3) := by decide +kernel
theorem dX11_sheet_34 : decode cX11_sheet 34 = .ok (.ireturn, 1) := by decide +kernel
theorem dX11_sheet_35 : decode cX11_sheet 35 = .ok (.aload_n 0, 1) := by decide +kernel
theorem dX11_sheet_36 : decode cX11_sheet 36 = .ok (.getfield 68, 3) := by decide +kernel
theorem dX11_sheet_39 : decode cX11_sheet 39 = .ok (.iload_n 1, 1) := by decide +kernel
theorem dX11_sheet_40 : decode cX11_sheet 40 = .ok (.iconst 1, 1) := by decide +kernel
theorem dX11_sheet_41 : decode cX11_sheet 41 = .ok (.bastore, 1) := by decide +kernel
theorem dX11_sheet_42 : decode cX11_sheet 42 = .ok (.aload_n 0, 1) := by decide +kernel
theorem dX11_sheet_43 : decode cX11_sheet 43 = .ok (.getfield 72, 3) := by decide +kernel
theorem dX11_sheet_46 : decode cX11_sheet 46 = .ok (.iload_n 1, 1) := by decide +kernel
theorem dX11_sheet_47 : decode cX11_sheet 47 = .ok (.iload_n 2, 1) := by decide +kernel
theorem dX11_sheet_48 : decode cX11_sheet 48 = .ok (.iastore, 1) := by decide +kernel
theorem dX11_sheet_49 : decode cX11_sheet 49 = .ok (.aload_n 0, 1) := by decide +kernel
theorem dX11_sheet_50 : decode cX11_sheet 50 = .ok (.getfield 75, 3) := by decide +kernel
theorem dX11_sheet_53 : decode cX11_sheet 53 = .ok (.iload_n 1, 1) := by decide +kernel
theorem dX11_sheet_54 : decode cX11_sheet 54 = .ok (.iload_n 3, 1) := by decide +kernel
theorem dX11_sheet_55 : decode cX11_sheet 55 = .ok (.iastore, 1) := by decide +kernel
theorem dX11_sheet_56 : decode cX11_sheet 56 = .ok (.iconst 0, 1) := by decide +kernel
theorem dX11_sheet_57 : decode cX11_sheet 57 = .ok (.istore 4, 2) := by decide +kernel
theorem dX11_sheet_59 : decode cX11_sheet 59 = .ok (.iload 4, 2) := by decide +kernel
theorem dX11_sheet_61 : decode cX11_sheet 61 = .ok (.bipush 48, 2) := by decide +kernel
theorem dX11_sheet_63 : decode cX11_sheet 63 = .ok (.if_icmp .ge 22, 3) := by decide +kernel
theorem dX11_sheet_66 : decode cX11_sheet 66 = .ok (.aload_n 0, 1) := by decide +kernel
theorem dX11_sheet_67 : decode cX11_sheet 67 = .ok (.getfield 78, 3) := by decide +kernel
theorem dX11_sheet_70 : decode cX11_sheet 70 = .ok (.bipush 48, 2) := by decide +kernel
theorem dX11_sheet_72 : decode cX11_sheet 72 = .ok (.iload_n 1, 1) := by decide +kernel
theorem dX11_sheet_73 : decode cX11_sheet 73 = .ok (.imul, 1) := by decide +kernel
theorem dX11_sheet_74 : decode cX11_sheet 74 = .ok (.iload 4, 2) := by decide +kernel
theorem dX11_sheet_76 : decode cX11_sheet 76 = .ok (.iadd, 1) := by decide +kernel
theorem dX11_sheet_77 : decode cX11_sheet 77 = .ok (.iconst 0, 1) := by decide +kernel
theorem dX11_sheet_78 : decode cX11_sheet 78 = .ok (.iastore, 1) := by decide +kernel
theorem dX11_sheet_79 : decode cX11_sheet 79 = .ok (.iinc 4 1, 3) := by decide +kernel
theorem dX11_sheet_82 : decode cX11_sheet 82 = .ok (.goto (-23), 3) := by decide +kernel
theorem dX11_sheet_85 : decode cX11_sheet 85 = .ok (.iload_n 3, 1) := by decide +kernel
theorem dX11_sheet_86 : decode cX11_sheet 86 = .ok (.ireturn, 1) := by decide +kernel
def fX11_sheet_L59 (p1 : Int32) (p3 : Int32) (a : Int32) (s : Sg) : Option (((Int32) ⊕ (Unit)) × Sg) :=
  if (48 : Int32) ≤ a then
  some (.inr (), s)
  else
  (wI s 72 192 (((48 : Int32) * p1) + a) (0 : Int32)).bind fun s2 =>
  bnd (a + (1 : Int32)) fun x3 =>
  some (.inl x3, s2)
def fX11_sheet (x0_ : Int32) (x1_ : Int32) (x2_ : Int32) (s : Sg) : Option (Int32 × Sg) :=
  (fX11_isSheet x0_ s).bind fun w1 =>
  if w1.1 = 0 then
  some ((-2 : Int32), w1.2)
  else
  (fX11_in x1_ (0 : Int32) (2 : Int32) w1.2).bind fun w3 =>
  if w3.1 = 0 then
  some ((-2 : Int32), w3.2)
  else
  if x2_ ≤ (48 : Int32) then
  if 0 ≤ x2_ then
  (wZ w3.2 69 4 x0_ (1 : Int32)).bind fun s5 =>
  (wI s5 70 4 x0_ x1_).bind fun s6 =>
  (wI s6 71 4 x0_ x2_).bind fun s7 =>
  (lpG (fX11_sheet_L59 x0_ x2_) FU (0 : Int32) s7).bind fun w8 =>
  some (x2_, w8.2)
  else
  (fX11_meets (5 : Int32) w3.2).bind fun w20 =>
  some (w20.1, w20.2)
  else
  some ((-2 : Int32), w3.2)
theorem ct_X11_sheet {g : Gl} {x0_ : Int32} {x1_ : Int32} {x2_ : Int32} {s : Sg} {w : Int32 × Sg}  (h : fX11_sheet x0_ x1_ x2_ s = some w) : Ct SS g iX11_sheet 2 42 [.ref (gad g 49), .int x0_, .int x1_, .int x2_] s (Dt (some (.int w.1)) w.2) := by
  refine Ct.ofV (by decide +kernel) 1 (lv0 := [some (.ref (gad g 49)), some (.int x0_), some (.int x1_), some (.int x2_), none]) rfl rfl (fun M hC => ?_)
  have hP : (Dt (some (.int w.1)) w.2) (some (.int w.1)) w.2 := ⟨rfl, rfl⟩
  generalize Dt (some (.int w.1)) w.2 = P at hP ⊢
  unfold fX11_sheet at h
  refine v_iload_n (pc := 0) hC dX11_sheet_0 rfl ?_
  obtain ⟨w1, hw1, h⟩ := obd_s h
  refine v_cS (pc := 1) [] [.int w1.1] gm_X11_isSheet hC (ct_X11_isSheet  hw1) ml_X11_125 rfl rfl rfl rfl rfl rfl dX11_sheet_1 ?_
  refine v_if_eq (pc := 4) (tgt := 22) hC dX11_sheet_4 rfl (fun c2 => ?_) (fun c2 => ?_)
  · replace h := (if_pos c2).symm.trans h
    refine v_bipush (pc := 22) (-2 : Int32) rfl hC dX11_sheet_22 ?_
    obtain rfl := Option.some.inj h
    exact v_iret (pc := 24) hC rfl dX11_sheet_24 hP
  · replace h := (if_neg c2).symm.trans h
    refine v_iload_n (pc := 7) hC dX11_sheet_7 rfl ?_
    refine v_iconst (pc := 8) (0 : Int32) rfl hC dX11_sheet_8 ?_
    refine v_iconst (pc := 9) (2 : Int32) rfl hC dX11_sheet_9 ?_
    obtain ⟨w3, hw3, h⟩ := obd_s h
    refine v_cS (pc := 10) [] [.int w3.1] gm_X11_in hC (ct_X11_in  hw3) ml_X11_94 rfl rfl rfl rfl rfl rfl dX11_sheet_10 ?_
    refine v_if_eq (pc := 13) (tgt := 22) hC dX11_sheet_13 rfl (fun c4 => ?_) (fun c4 => ?_)
    · replace h := (if_pos c4).symm.trans h
      refine v_bipush (pc := 22) (-2 : Int32) rfl hC dX11_sheet_22 ?_
      obtain rfl := Option.some.inj h
      exact v_iret (pc := 24) hC rfl dX11_sheet_24 hP
    · replace h := (if_neg c4).symm.trans h
      refine v_iload_n (pc := 16) hC dX11_sheet_16 rfl ?_
      refine v_bipush (pc := 17) (48 : Int32) rfl hC dX11_sheet_17 ?_
      refine v_ic_le (pc := 19) (tgt := 25) hC dX11_sheet_19 rfl (fun c21 => ?_) (fun c21 => ?_)
      · replace h := (if_pos c21).symm.trans h
        refine v_iload_n (pc := 25) hC dX11_sheet_25 rfl ?_
        refine v_if_ge (pc := 26) (tgt := 35) hC dX11_sheet_26 rfl (fun c19 => ?_) (fun c19 => ?_)
        · replace h := (if_pos c19).symm.trans h
          refine v_aload_n (pc := 35) hC dX11_sheet_35 rfl ?_
          refine v_gt (pc := 36) 28 (.ref (gad g 69)) hC s_49 rfl rfl rfl rfl fl_X11_68 dX11_sheet_36 ?_
          refine v_iload_n (pc := 39) hC dX11_sheet_39 rfl ?_
          refine v_iconst (pc := 40) (1 : Int32) rfl hC dX11_sheet_40 ?_
          obtain ⟨s5, hs5, h⟩ := obd_s h
          refine v_wZ (pc := 41) hC s_69 hs5 dX11_sheet_41 ?_
          refine v_aload_n (pc := 42) hC dX11_sheet_42 rfl ?_
          refine v_gt (pc := 43) 29 (.ref (gad g 70)) hC s_49 rfl rfl rfl rfl fl_X11_72 dX11_sheet_43 ?_
          refine v_iload_n (pc := 46) hC dX11_sheet_46 rfl ?_
          refine v_iload_n (pc := 47) hC dX11_sheet_47 rfl ?_
          obtain ⟨s6, hs6, h⟩ := obd_s h
          refine v_wI (pc := 48) hC s_70 hs6 dX11_sheet_48 ?_
          refine v_aload_n (pc := 49) hC dX11_sheet_49 rfl ?_
          refine v_gt (pc := 50) 30 (.ref (gad g 71)) hC s_49 rfl rfl rfl rfl fl_X11_75 dX11_sheet_50 ?_
          refine v_iload_n (pc := 53) hC dX11_sheet_53 rfl ?_
          refine v_iload_n (pc := 54) hC dX11_sheet_54 rfl ?_
          obtain ⟨s7, hs7, h⟩ := obd_s h
          refine v_wI (pc := 55) hC s_71 hs7 dX11_sheet_55 ?_
          refine v_iconst (pc := 56) (0 : Int32) rfl hC dX11_sheet_56 ?_
          refine v_istore (pc := 57) (lv' := [some (.ref (gad g 49)), some (.int x0_), some (.int x1_), some (.int x2_), some (.int (0 : Int32))]) hC dX11_sheet_57 rfl rfl rfl rfl ?_
          obtain ⟨w8, hw8, h⟩ := obd_s h
          have kx18 : V SS g M iX11_sheet (PQ SS g M P) 85 [none, none, none, some (.int x2_), none] [] w8.2 := by
            refine v_iload_n (pc := 85) hC dX11_sheet_85 rfl ?_
            obtain rfl := Option.some.inj h
            exact v_iret (pc := 86) hC rfl dX11_sheet_86 hP
          refine V.ls (ls_some (ls_some (ls_none (ls_some (ls_some ls_nil))))) (v_loop (pc := 59) (fun a11 => [some (.ref (gad g 49)), some (.int x0_), none, some (.int x2_), some (.int a11)]) (fun z t => V SS g M iX11_sheet (PQ SS g M P) 85 [none, none, none, some (.int x2_), none] [] t) (fun a11 s9 u10 hu10 k12 k13 => ?_) _ _ _ _ hw8 kx18)
          unfold fX11_sheet_L59 at hu10
          refine v_iload (pc := 59) hC dX11_sheet_59 rfl ?_
          refine v_bipush (pc := 61) (48 : Int32) rfl hC dX11_sheet_61 ?_
          refine v_ic_ge (pc := 63) (tgt := 85) hC dX11_sheet_63 rfl (fun c15 => ?_) (fun c15 => ?_)
          · replace hu10 := (if_pos c15).symm.trans hu10
            obtain rfl := Option.some.inj hu10
            exact V.ls (ls_none (ls_none (ls_none (ls_some (ls_none ls_nil))))) (k13 _ rfl)
          · replace hu10 := (if_neg c15).symm.trans hu10
            refine v_aload_n (pc := 66) hC dX11_sheet_66 rfl ?_
            refine v_gt (pc := 67) 31 (.ref (gad g 72)) hC s_49 rfl rfl rfl rfl fl_X11_78 dX11_sheet_67 ?_
            refine v_bipush (pc := 70) (48 : Int32) rfl hC dX11_sheet_70 ?_
            refine v_iload_n (pc := 72) hC dX11_sheet_72 rfl ?_
            refine v_imul (pc := 73) hC dX11_sheet_73 ?_
            refine v_iload (pc := 74) hC dX11_sheet_74 rfl ?_
            refine v_iadd (pc := 76) hC dX11_sheet_76 ?_
            refine v_iconst (pc := 77) (0 : Int32) rfl hC dX11_sheet_77 ?_
            obtain ⟨s16, hs16, hu10⟩ := obd_s hu10
            refine v_wI (pc := 78) hC s_72 hs16 dX11_sheet_78 ?_
            obtain ⟨x17, hx17, hu10⟩ := bnd_s hu10
            refine v_iinc (pc := 79) (lv' := [some (.ref (gad g 49)), some (.int x0_), none, some (.int x2_), some (.int x17)]) (1 : Int32) rfl hx17 hC dX11_sheet_79 rfl rfl rfl rfl ?_
            refine v_goto (pc := 82) (tgt := 59) hC dX11_sheet_82 rfl ?_
            obtain rfl := Option.some.inj hu10
            exact V.ls (ls_some (ls_some (ls_none (ls_some (ls_some ls_nil))))) (k12 _ rfl)
        · replace h := (if_neg c19).symm.trans h
          refine v_aload_n (pc := 29) hC dX11_sheet_29 rfl ?_
          refine v_iconst (pc := 30) (5 : Int32) rfl hC dX11_sheet_30 ?_
          obtain ⟨w20, hw20, h⟩ := obd_s h
          refine v_cV (pc := 31) [] [.int w20.1] gm_X11_meets hC s_49 rfl rfl (ct_X11_meets  hw20) ml_X11_128 rfl rfl rfl rfl rfl rfl dX11_sheet_31 ?_
          obtain rfl := Option.some.inj h
          exact v_iret (pc := 34) hC rfl dX11_sheet_34 hP
      · replace h := (if_neg c21).symm.trans h
        refine v_bipush (pc := 22) (-2 : Int32) rfl hC dX11_sheet_22 ?_
        obtain rfl := Option.some.inj h
        exact v_iret (pc := 24) hC rfl dX11_sheet_24 hP
