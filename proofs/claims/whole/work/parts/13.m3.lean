/-! methods, printed by wip/whole/gen/meth.py: X6_putRight, X6_slowness, X6_placeOf, X6_hasMedal, X6_changedMedals, X7_isFull, X7_append, X7_clear, X8_survey, J6_compare_7cf53, X8_leanOfPair, X8_findRan, X8_surveyDays, X8_leanOf, X8_swap, X8_shareOfOrders -/
theorem dX6_putRight_0 : decode cX6_putRight 0 = .ok (.aload_n 0, 1) := by decide +kernel
theorem dX6_putRight_1 : decode cX6_putRight 1 = .ok (.aload_n 0, 1) := by decide +kernel
theorem dX6_putRight_2 : decode cX6_putRight 2 = .ok (.getfield 15, 3) := by decide +kernel
theorem dX6_putRight_5 : decode cX6_putRight 5 = .ok (.getfield 76, 3) := by decide +kernel
theorem dX6_putRight_8 : decode cX6_putRight 8 = .ok (.ifCond .ne 7, 3) := by decide +kernel
theorem dX6_putRight_11 : decode cX6_putRight 11 = .ok (.lconst 1, 1) := by decide +kernel
theorem dX6_putRight_12 : decode cX6_putRight 12 = .ok (.goto 23, 3) := by decide +kernel
theorem dX6_putRight_15 : decode cX6_putRight 15 = .ok (.ldc2_w 81, 3) := by decide +kernel
theorem dX6_putRight_18 : decode cX6_putRight 18 = .ok (.aload_n 0, 1) := by decide +kernel
theorem dX6_putRight_19 : decode cX6_putRight 19 = .ok (.getfield 15, 3) := by decide +kernel
theorem dX6_putRight_22 : decode cX6_putRight 22 = .ok (.getfield 83, 3) := by decide +kernel
theorem dX6_putRight_25 : decode cX6_putRight 25 = .ok (.lmul, 1) := by decide +kernel
theorem dX6_putRight_26 : decode cX6_putRight 26 = .ok (.aload_n 0, 1) := by decide +kernel
theorem dX6_putRight_27 : decode cX6_putRight 27 = .ok (.getfield 15, 3) := by decide +kernel
theorem dX6_putRight_30 : decode cX6_putRight 30 = .ok (.getfield 76, 3) := by decide +kernel
theorem dX6_putRight_33 : decode cX6_putRight 33 = .ok (.i2l, 1) := by decide +kernel
theorem dX6_putRight_34 : decode cX6_putRight 34 = .ok (.lmul, 1) := by decide +kernel
theorem dX6_putRight_35 : decode cX6_putRight 35 = .ok (.putfield 37, 3) := by decide +kernel
theorem dX6_putRight_38 : decode cX6_putRight 38 = .ok (.iconst 0, 1) := by decide +kernel
theorem dX6_putRight_39 : decode cX6_putRight 39 = .ok (.istore_n 1, 1) := by decide +kernel
theorem dX6_putRight_40 : decode cX6_putRight 40 = .ok (.iload_n 1, 1) := by decide +kernel
theorem dX6_putRight_41 : decode cX6_putRight 41 = .ok (.aload_n 0, 1) := by decide +kernel
theorem dX6_putRight_42 : decode cX6_putRight 42 = .ok (.getfield 9, 3) := by decide +kernel
theorem dX6_putRight_45 : decode cX6_putRight 45 = .ok (.getfield 41, 3) := by decide +kernel
theorem dX6_putRight_48 : decode cX6_putRight 48 = .ok (.if_icmp .ge 82, 3) := by decide +kernel
theorem dX6_putRight_51 : decode cX6_putRight 51 = .ok (.aload_n 0, 1) := by decide +kernel
theorem dX6_putRight_52 : decode cX6_putRight 52 = .ok (.getfield 9, 3) := by decide +kernel
theorem dX6_putRight_55 : decode cX6_putRight 55 = .ok (.getfield 61, 3) := by decide +kernel
theorem dX6_putRight_58 : decode cX6_putRight 58 = .ok (.iload_n 1, 1) := by decide +kernel
theorem dX6_putRight_59 : decode cX6_putRight 59 = .ok (.iaload, 1) := by decide +kernel
theorem dX6_putRight_60 : decode cX6_putRight 60 = .ok (.istore_n 2, 1) := by decide +kernel
theorem dX6_putRight_61 : decode cX6_putRight 61 = .ok (.aload_n 0, 1) := by decide +kernel
theorem dX6_putRight_62 : decode cX6_putRight 62 = .ok (.getfield 15, 3) := by decide +kernel
theorem dX6_putRight_65 : decode cX6_putRight 65 = .ok (.getfield 86, 3) := by decide +kernel
theorem dX6_putRight_68 : decode cX6_putRight 68 = .ok (.iload_n 2, 1) := by decide +kernel
theorem dX6_putRight_69 : decode cX6_putRight 69 = .ok (.iaload, 1) := by decide +kernel
theorem dX6_putRight_70 : decode cX6_putRight 70 = .ok (.ifCond .ne 7, 3) := by decide +kernel
theorem dX6_putRight_73 : decode cX6_putRight 73 = .ok (.lconst 0, 1) := by decide +kernel
theorem dX6_putRight_74 : decode cX6_putRight 74 = .ok (.goto 11, 3) := by decide +kernel
theorem dX6_putRight_77 : decode cX6_putRight 77 = .ok (.aload_n 0, 1) := by decide +kernel
theorem dX6_putRight_78 : decode cX6_putRight 78 = .ok (.getfield 15, 3) := by decide +kernel
theorem dX6_putRight_81 : decode cX6_putRight 81 = .ok (.iload_n 2, 1) := by decide +kernel
theorem dX6_putRight_82 : decode cX6_putRight 82 = .ok (.invokevirtual 89, 3) := by decide +kernel
theorem dX6_putRight_85 : decode cX6_putRight 85 = .ok (.lstore_n 3, 1) := by decide +kernel
theorem dX6_putRight_86 : decode cX6_putRight 86 = .ok (.aload_n 0, 1) := by decide +kernel
theorem dX6_putRight_87 : decode cX6_putRight 87 = .ok (.getfield 33, 3) := by decide +kernel
theorem dX6_putRight_90 : decode cX6_putRight 90 = .ok (.iload_n 1, 1) := by decide +kernel
theorem dX6_putRight_91 : decode cX6_putRight 91 = .ok (.aload_n 0, 1) := by decide +kernel
theorem dX6_putRight_92 : decode cX6_putRight 92 = .ok (.getfield 9, 3) := by decide +kernel
theorem dX6_putRight_95 : decode cX6_putRight 95 = .ok (.iload_n 1, 1) := by decide +kernel
theorem dX6_putRight_96 : decode cX6_putRight 96 = .ok (.invokevirtual 46, 3) := by decide +kernel
theorem dX6_putRight_99 : decode cX6_putRight 99 = .ok (.ifCond .eq 23, 3) := by decide +kernel
theorem dX6_putRight_102 : decode cX6_putRight 102 = .ok (.aload_n 0, 1) := by decide +kernel
theorem dX6_putRight_103 : decode cX6_putRight 103 = .ok (.getfield 9, 3) := by decide +kernel
theorem dX6_putRight_106 : decode cX6_putRight 106 = .ok (.iload_n 1, 1) := by decide +kernel
theorem dX6_putRight_107 : decode cX6_putRight 107 = .ok (.iconst 0, 1) := by decide +kernel
theorem dX6_putRight_108 : decode cX6_putRight 108 = .ok (.invokevirtual 57, 3) := by decide +kernel
theorem dX6_putRight_111 : decode cX6_putRight 111 = .ok (.i2l, 1) := by decide +kernel
theorem dX6_putRight_112 : decode cX6_putRight 112 = .ok (.aload_n 0, 1) := by decide +kernel
theorem dX6_putRight_113 : decode cX6_putRight 113 = .ok (.getfield 37, 3) := by decide +kernel
theorem dX6_putRight_116 : decode cX6_putRight 116 = .ok (.lmul, 1) := by decide +kernel
theorem dX6_putRight_117 : decode cX6_putRight 117 = .ok (.lload_n 3, 1) := by decide +kernel
theorem dX6_putRight_118 : decode cX6_putRight 118 = .ok (.lsub, 1) := by decide +kernel
theorem dX6_putRight_119 : decode cX6_putRight 119 = .ok (.goto 4, 3) := by decide +kernel
theorem dX6_putRight_122 : decode cX6_putRight 122 = .ok (.lconst 0, 1) := by decide +kernel
theorem dX6_putRight_123 : decode cX6_putRight 123 = .ok (.lastore, 1) := by decide +kernel
theorem dX6_putRight_124 : decode cX6_putRight 124 = .ok (.iinc 1 1, 3) := by decide +kernel
theorem dX6_putRight_127 : decode cX6_putRight 127 = .ok (.goto (-87), 3) := by decide +kernel
theorem dX6_putRight_130 : decode cX6_putRight 130 = .ok (.return_, 1) := by decide +kernel
def fX6_putRight_L40  (a : Int32) (s : Sg) : Option (((Int32) ⊕ (Unit)) × Sg) :=
  if (gI s 1 1) ≤ a then
  some (.inr (), s)
  else
  (aI s 6 64 a).bind fun v2 =>
  (aI s 15 8 v2).bind fun v3 =>
  ((if v3 = 0 then
  some ((0 : Int64), s)
  else
  (fX1_aboveMean 14 v2 s).bind fun w13 =>
  some (w13.1, w13.2)) : Option (Int64 × Sg)).bind fun w4 =>
  (fX3_isSingle a w4.2).bind fun w6 =>
  ((if w6.1 = 0 then
  some ((0 : Int64), w6.2)
  else
  (fX3_timeOf a (0 : Int32) w6.2).bind fun w12 =>
  some (((((w12.1).toInt64) * (gL w12.2 25 7)) - w4.1), w12.2)) : Option (Int64 × Sg)).bind fun w7 =>
  (wL w7.2 29 64 a w7.1).bind fun s9 =>
  bnd (a + (1 : Int32)) fun x10 =>
  some (.inl x10, s9)
def fX6_putRight  (s : Sg) : Option (Sg) :=
  ((if (gI s 14 4) = 0 then
  some (1 : Int64)
  else
  some (((4 : Int64) * (gL s 14 5)) * (((gI s 14 4)).toInt64))) : Option (Int64)).bind fun w1 =>
  bnd (sL s 25 7 w1) fun s3 =>
  (lpG (fX6_putRight_L40) FU (0 : Int32) s3).bind fun w4 =>
  some w4.2
theorem ct_X6_putRight {g : Gl}  {s : Sg} {w : Sg}  (h : fX6_putRight s = some w) : Ct SS g iX6_putRight 2 43 [.ref (gad g 25)] s (Dt none w) := by
  refine Ct.ofV (by decide +kernel) 4 (lv0 := [some (.ref (gad g 25)), none, none, none, none]) rfl rfl (fun M hC => ?_)
  have hP : (Dt none w) none w := ⟨rfl, rfl⟩
  generalize Dt none w = P at hP ⊢
  unfold fX6_putRight at h
  refine v_aload_n (pc := 0) hC dX6_putRight_0 rfl ?_
  refine v_aload_n (pc := 1) hC dX6_putRight_1 rfl ?_
  refine v_gt (pc := 2) 1 (.ref (gad g 14)) hC s_25 rfl rfl rfl rfl fl_X6_15 dX6_putRight_2 ?_
  refine v_gtN (pc := 5) 4 (.int (gI s 14 4)) hC s_14 rfl rfl rfl rfl fl_X6_76 dX6_putRight_5 ?_
  obtain ⟨w1, hw1, h⟩ := obd_s h
  have kj2 : V SS g M iX6_putRight (PQ SS g M P) 35 [some (.ref (gad g 25)), none, none, none, none] [.long w1, .ref (gad g 25)] s := by
    obtain ⟨s3, hs3, h⟩ := bnd_s h
    refine v_pL (pc := 35) 7 hC s_25 rfl rfl rfl rfl rfl rfl fl_X6_37 hs3 dX6_putRight_35 ?_
    refine v_iconst (pc := 38) (0 : Int32) rfl hC dX6_putRight_38 ?_
    refine v_istore_n (pc := 39) (lv' := [some (.ref (gad g 25)), some (.int (0 : Int32)), none, none, none]) hC dX6_putRight_39 rfl rfl rfl rfl ?_
    obtain ⟨w4, hw4, h⟩ := obd_s h
    have kx25 : V SS g M iX6_putRight (PQ SS g M P) 130 [none, none, none, none, none] [] w4.2 := by
      obtain rfl := Option.some.inj h
      exact v_vret (pc := 130) hC rfl dX6_putRight_130 hP
    refine V.ls (ls_some (ls_some (ls_none (ls_none (ls_none ls_nil))))) (v_loop (pc := 40) (fun a7 => [some (.ref (gad g 25)), some (.int a7), none, none, none]) (fun z t => V SS g M iX6_putRight (PQ SS g M P) 130 [none, none, none, none, none] [] t) (fun a7 s5 u6 hu6 k8 k9 => ?_) _ _ _ _ hw4 kx25)
    unfold fX6_putRight_L40 at hu6
    refine v_iload_n (pc := 40) hC dX6_putRight_40 rfl ?_
    refine v_aload_n (pc := 41) hC dX6_putRight_41 rfl ?_
    refine v_gt (pc := 42) 0 (.ref (gad g 1)) hC s_25 rfl rfl rfl rfl fl_X6_9 dX6_putRight_42 ?_
    refine v_gtN (pc := 45) 1 (.int (gI s5 1 1)) hC s_1 rfl rfl rfl rfl fl_X6_41 dX6_putRight_45 ?_
    refine v_ic_ge (pc := 48) (tgt := 130) hC dX6_putRight_48 rfl (fun c11 => ?_) (fun c11 => ?_)
    · replace hu6 := (if_pos c11).symm.trans hu6
      obtain rfl := Option.some.inj hu6
      exact V.ls (ls_none (ls_none (ls_none (ls_none (ls_none ls_nil))))) (k9 _ rfl)
    · replace hu6 := (if_neg c11).symm.trans hu6
      refine v_aload_n (pc := 51) hC dX6_putRight_51 rfl ?_
      refine v_gt (pc := 52) 0 (.ref (gad g 1)) hC s_25 rfl rfl rfl rfl fl_X6_9 dX6_putRight_52 ?_
      refine v_gtN (pc := 55) 6 (.ref (gad g 6)) hC s_1 rfl rfl rfl rfl fl_X6_61 dX6_putRight_55 ?_
      refine v_iload_n (pc := 58) hC dX6_putRight_58 rfl ?_
      obtain ⟨v12, hv12, hu6⟩ := obd_s hu6
      refine v_aI (pc := 59) hC s_6 hv12 dX6_putRight_59 ?_
      refine v_istore_n (pc := 60) (lv' := [some (.ref (gad g 25)), some (.int a7), some (.int v12), none, none]) hC dX6_putRight_60 rfl rfl rfl rfl ?_
      refine v_aload_n (pc := 61) hC dX6_putRight_61 rfl ?_
      refine v_gt (pc := 62) 1 (.ref (gad g 14)) hC s_25 rfl rfl rfl rfl fl_X6_15 dX6_putRight_62 ?_
      refine v_gtN (pc := 65) 0 (.ref (gad g 15)) hC s_14 rfl rfl rfl rfl fl_X6_86 dX6_putRight_65 ?_
      refine v_iload_n (pc := 68) hC dX6_putRight_68 rfl ?_
      obtain ⟨v13, hv13, hu6⟩ := obd_s hu6
      refine v_aI (pc := 69) hC s_15 hv13 dX6_putRight_69 ?_
      obtain ⟨w14, hw14, hu6⟩ := obd_s hu6
      have kj15 : V SS g M iX6_putRight (PQ SS g M P) 85 [some (.ref (gad g 25)), some (.int a7), none, none, none] [.long w14.1] w14.2 := by
        refine v_lstore_n (pc := 85) (lv' := [some (.ref (gad g 25)), some (.int a7), none, some (.long w14.1), none]) hC dX6_putRight_85 rfl rfl rfl rfl ?_
        refine v_aload_n (pc := 86) hC dX6_putRight_86 rfl ?_
        refine v_gt (pc := 87) 6 (.ref (gad g 29)) hC s_25 rfl rfl rfl rfl fl_X6_33 dX6_putRight_87 ?_
        refine v_iload_n (pc := 90) hC dX6_putRight_90 rfl ?_
        refine v_aload_n (pc := 91) hC dX6_putRight_91 rfl ?_
        refine v_gt (pc := 92) 0 (.ref (gad g 1)) hC s_25 rfl rfl rfl rfl fl_X6_9 dX6_putRight_92 ?_
        refine v_iload_n (pc := 95) hC dX6_putRight_95 rfl ?_
        obtain ⟨w16, hw16, hu6⟩ := obd_s hu6
        refine v_cV (pc := 96) [.int a7, .ref (gad g 29)] [.int w16.1, .int a7, .ref (gad g 29)] gm_X3_isSingle hC s_1 rfl rfl (ct_X3_isSingle  hw16) ml_X6_46 rfl rfl rfl rfl rfl rfl dX6_putRight_96 ?_
        obtain ⟨w17, hw17, hu6⟩ := obd_s hu6
        have kj18 : V SS g M iX6_putRight (PQ SS g M P) 123 [some (.ref (gad g 25)), some (.int a7), none, none, none] [.long w17.1, .int a7, .ref (gad g 29)] w17.2 := by
          obtain ⟨s19, hs19, hu6⟩ := obd_s hu6
          refine v_wL (pc := 123) hC s_29 hs19 dX6_putRight_123 ?_
          obtain ⟨x20, hx20, hu6⟩ := bnd_s hu6
          refine v_iinc (pc := 124) (lv' := [some (.ref (gad g 25)), some (.int x20), none, none, none]) (1 : Int32) rfl hx20 hC dX6_putRight_124 rfl rfl rfl rfl ?_
          refine v_goto (pc := 127) (tgt := 40) hC dX6_putRight_127 rfl ?_
          obtain rfl := Option.some.inj hu6
          exact V.ls (ls_some (ls_some (ls_none (ls_none (ls_none ls_nil))))) (k8 _ rfl)
        refine v_if_eq (pc := 99) (tgt := 122) hC dX6_putRight_99 rfl (fun c21 => ?_) (fun c21 => ?_)
        · replace hw17 := (if_pos c21).symm.trans hw17
          refine v_lconst (pc := 122) (0 : Int64) rfl hC dX6_putRight_122 ?_
          obtain rfl := Option.some.inj hw17
          exact V.ls (ls_some (ls_some (ls_none (ls_none (ls_none ls_nil))))) kj18
        · replace hw17 := (if_neg c21).symm.trans hw17
          refine v_aload_n (pc := 102) hC dX6_putRight_102 rfl ?_
          refine v_gt (pc := 103) 0 (.ref (gad g 1)) hC s_25 rfl rfl rfl rfl fl_X6_9 dX6_putRight_103 ?_
          refine v_iload_n (pc := 106) hC dX6_putRight_106 rfl ?_
          refine v_iconst (pc := 107) (0 : Int32) rfl hC dX6_putRight_107 ?_
          obtain ⟨w22, hw22, hw17⟩ := obd_s hw17
          refine v_cV (pc := 108) [.int a7, .ref (gad g 29)] [.int w22.1, .int a7, .ref (gad g 29)] gm_X3_timeOf hC s_1 rfl rfl (ct_X3_timeOf  hw22) ml_X6_57 rfl rfl rfl rfl rfl rfl dX6_putRight_108 ?_
          refine v_i2l (pc := 111) hC dX6_putRight_111 ?_
          refine v_aload_n (pc := 112) hC dX6_putRight_112 rfl ?_
          refine v_gt (pc := 113) 7 (.long (gL w22.2 25 7)) hC s_25 rfl rfl rfl rfl fl_X6_37 dX6_putRight_113 ?_
          refine v_lmul (pc := 116) hC dX6_putRight_116 ?_
          refine v_lload_n (pc := 117) hC dX6_putRight_117 rfl ?_
          refine v_lsub (pc := 118) hC dX6_putRight_118 ?_
          refine v_goto (pc := 119) (tgt := 123) hC dX6_putRight_119 rfl ?_
          obtain rfl := Option.some.inj hw17
          exact V.ls (ls_some (ls_some (ls_none (ls_none (ls_none ls_nil))))) kj18
      refine v_if_ne (pc := 70) (tgt := 77) hC dX6_putRight_70 rfl (fun c24 => ?_) (fun c24 => ?_)
      · replace hw14 := (if_neg c24).symm.trans hw14
        refine v_aload_n (pc := 77) hC dX6_putRight_77 rfl ?_
        refine v_gt (pc := 78) 1 (.ref (gad g 14)) hC s_25 rfl rfl rfl rfl fl_X6_15 dX6_putRight_78 ?_
        refine v_iload_n (pc := 81) hC dX6_putRight_81 rfl ?_
        obtain ⟨w23, hw23, hw14⟩ := obd_s hw14
        refine v_cV (pc := 82) [] [.long w23.1] gm_X1_aboveMean hC s_14 rfl rfl (ct_X1_aboveMean lv_14 hw23) ml_X6_89 rfl rfl rfl rfl rfl rfl dX6_putRight_82 ?_
        obtain rfl := Option.some.inj hw14
        exact V.ls (ls_some (ls_some (ls_none (ls_none (ls_none ls_nil))))) kj15
      · replace hw14 := (if_pos c24).symm.trans hw14
        refine v_lconst (pc := 73) (0 : Int64) rfl hC dX6_putRight_73 ?_
        refine v_goto (pc := 74) (tgt := 85) hC dX6_putRight_74 rfl ?_
        obtain rfl := Option.some.inj hw14
        exact V.ls (ls_some (ls_some (ls_none (ls_none (ls_none ls_nil))))) kj15
  refine v_if_ne (pc := 8) (tgt := 15) hC dX6_putRight_8 rfl (fun c26 => ?_) (fun c26 => ?_)
  · replace hw1 := (if_neg c26).symm.trans hw1
    refine v_ldc2 (pc := 15) (4 : Int64) kc_X6_81 hC dX6_putRight_15 ?_
    refine v_aload_n (pc := 18) hC dX6_putRight_18 rfl ?_
    refine v_gt (pc := 19) 1 (.ref (gad g 14)) hC s_25 rfl rfl rfl rfl fl_X6_15 dX6_putRight_19 ?_
    refine v_gtN (pc := 22) 5 (.long (gL s 14 5)) hC s_14 rfl rfl rfl rfl fl_X6_83 dX6_putRight_22 ?_
    refine v_lmul (pc := 25) hC dX6_putRight_25 ?_
    refine v_aload_n (pc := 26) hC dX6_putRight_26 rfl ?_
    refine v_gt (pc := 27) 1 (.ref (gad g 14)) hC s_25 rfl rfl rfl rfl fl_X6_15 dX6_putRight_27 ?_
    refine v_gtN (pc := 30) 4 (.int (gI s 14 4)) hC s_14 rfl rfl rfl rfl fl_X6_76 dX6_putRight_30 ?_
    refine v_i2l (pc := 33) hC dX6_putRight_33 ?_
    refine v_lmul (pc := 34) hC dX6_putRight_34 ?_
    obtain rfl := Option.some.inj hw1
    exact V.ls (ls_some (ls_none (ls_none (ls_none (ls_none ls_nil))))) kj2
  · replace hw1 := (if_pos c26).symm.trans hw1
    refine v_lconst (pc := 11) (1 : Int64) rfl hC dX6_putRight_11 ?_
    refine v_goto (pc := 12) (tgt := 35) hC dX6_putRight_12 rfl ?_
    obtain rfl := Option.some.inj hw1
    exact V.ls (ls_some (ls_none (ls_none (ls_none (ls_none ls_nil))))) kj2
theorem dX6_slowness_0 : decode cX6_slowness 0 = .ok (.iload_n 2, 1) := by decide +kernel
theorem dX6_slowness_1 : decode cX6_slowness 1 = .ok (.ifCond .ne 16, 3) := by decide +kernel
theorem dX6_slowness_4 : decode cX6_slowness 4 = .ok (.aload_n 0, 1) := by decide +kernel
theorem dX6_slowness_5 : decode cX6_slowness 5 = .ok (.getfield 9, 3) := by decide +kernel
theorem dX6_slowness_8 : decode cX6_slowness 8 = .ok (.iload_n 1, 1) := by decide +kernel
theorem dX6_slowness_9 : decode cX6_slowness 9 = .ok (.iconst 0, 1) := by decide +kernel
theorem dX6_slowness_10 : decode cX6_slowness 10 = .ok (.invokevirtual 57, 3) := by decide +kernel
theorem dX6_slowness_13 : decode cX6_slowness 13 = .ok (.i2l, 1) := by decide +kernel
theorem dX6_slowness_14 : decode cX6_slowness 14 = .ok (.goto 9, 3) := by decide +kernel
theorem dX6_slowness_17 : decode cX6_slowness 17 = .ok (.aload_n 0, 1) := by decide +kernel
theorem dX6_slowness_18 : decode cX6_slowness 18 = .ok (.getfield 33, 3) := by decide +kernel
theorem dX6_slowness_21 : decode cX6_slowness 21 = .ok (.iload_n 1, 1) := by decide +kernel
theorem dX6_slowness_22 : decode cX6_slowness 22 = .ok (.laload, 1) := by decide +kernel
theorem dX6_slowness_23 : decode cX6_slowness 23 = .ok (.lreturn, 1) := by decide +kernel
def fX6_slowness (x0_ : Int32) (x1_ : Int32) (s : Sg) : Option (Int64 × Sg) :=
  if x1_ = 0 then
  (fX3_timeOf x0_ (0 : Int32) s).bind fun w3 =>
  some (((w3.1).toInt64), w3.2)
  else
  (aL s 29 64 x0_).bind fun v1 =>
  some (v1, s)
theorem ct_X6_slowness {g : Gl} {x0_ : Int32} {x1_ : Int32} {s : Sg} {w : Int64 × Sg}  (h : fX6_slowness x0_ x1_ s = some w) : Ct SS g iX6_slowness 1 22 [.ref (gad g 25), .int x0_, .int x1_] s (Dt (some (.long w.1)) w.2) := by
  refine Ct.ofV (by decide +kernel) 0 (lv0 := [some (.ref (gad g 25)), some (.int x0_), some (.int x1_)]) rfl rfl (fun M hC => ?_)
  have hP : (Dt (some (.long w.1)) w.2) (some (.long w.1)) w.2 := ⟨rfl, rfl⟩
  generalize Dt (some (.long w.1)) w.2 = P at hP ⊢
  unfold fX6_slowness at h
  refine v_iload_n (pc := 0) hC dX6_slowness_0 rfl ?_
  refine v_if_ne (pc := 1) (tgt := 17) hC dX6_slowness_1 rfl (fun c2 => ?_) (fun c2 => ?_)
  · replace h := (if_neg c2).symm.trans h
    refine v_aload_n (pc := 17) hC dX6_slowness_17 rfl ?_
    refine v_gt (pc := 18) 6 (.ref (gad g 29)) hC s_25 rfl rfl rfl rfl fl_X6_33 dX6_slowness_18 ?_
    refine v_iload_n (pc := 21) hC dX6_slowness_21 rfl ?_
    obtain ⟨v1, hv1, h⟩ := obd_s h
    refine v_aL (pc := 22) hC s_29 hv1 dX6_slowness_22 ?_
    obtain rfl := Option.some.inj h
    exact v_lret (pc := 23) hC rfl dX6_slowness_23 hP
  · replace h := (if_pos c2).symm.trans h
    refine v_aload_n (pc := 4) hC dX6_slowness_4 rfl ?_
    refine v_gt (pc := 5) 0 (.ref (gad g 1)) hC s_25 rfl rfl rfl rfl fl_X6_9 dX6_slowness_5 ?_
    refine v_iload_n (pc := 8) hC dX6_slowness_8 rfl ?_
    refine v_iconst (pc := 9) (0 : Int32) rfl hC dX6_slowness_9 ?_
    obtain ⟨w3, hw3, h⟩ := obd_s h
    refine v_cV (pc := 10) [] [.int w3.1] gm_X3_timeOf hC s_1 rfl rfl (ct_X3_timeOf  hw3) ml_X6_57 rfl rfl rfl rfl rfl rfl dX6_slowness_10 ?_
    refine v_i2l (pc := 13) hC dX6_slowness_13 ?_
    refine v_goto (pc := 14) (tgt := 23) hC dX6_slowness_14 rfl ?_
    obtain rfl := Option.some.inj h
    exact v_lret (pc := 23) hC rfl dX6_slowness_23 hP
theorem dX6_placeOf_0 : decode cX6_placeOf 0 = .ok (.aload_n 0, 1) := by decide +kernel
theorem dX6_placeOf_1 : decode cX6_placeOf 1 = .ok (.iload_n 1, 1) := by decide +kernel
theorem dX6_placeOf_2 : decode cX6_placeOf 2 = .ok (.iload_n 2, 1) := by decide +kernel
theorem dX6_placeOf_3 : decode cX6_placeOf 3 = .ok (.invokevirtual 93, 3) := by decide +kernel
theorem dX6_placeOf_6 : decode cX6_placeOf 6 = .ok (.lstore_n 3, 1) := by decide +kernel
theorem dX6_placeOf_7 : decode cX6_placeOf 7 = .ok (.iconst 0, 1) := by decide +kernel
theorem dX6_placeOf_8 : decode cX6_placeOf 8 = .ok (.istore 5, 2) := by decide +kernel
theorem dX6_placeOf_10 : decode cX6_placeOf 10 = .ok (.iconst 0, 1) := by decide +kernel
theorem dX6_placeOf_11 : decode cX6_placeOf 11 = .ok (.istore 6, 2) := by decide +kernel
theorem dX6_placeOf_13 : decode cX6_placeOf 13 = .ok (.iload 6, 2) := by decide +kernel
theorem dX6_placeOf_15 : decode cX6_placeOf 15 = .ok (.aload_n 0, 1) := by decide +kernel
theorem dX6_placeOf_16 : decode cX6_placeOf 16 = .ok (.getfield 9, 3) := by decide +kernel
theorem dX6_placeOf_19 : decode cX6_placeOf 19 = .ok (.getfield 41, 3) := by decide +kernel
theorem dX6_placeOf_22 : decode cX6_placeOf 22 = .ok (.if_icmp .ge 58, 3) := by decide +kernel
theorem dX6_placeOf_25 : decode cX6_placeOf 25 = .ok (.aload_n 0, 1) := by decide +kernel
theorem dX6_placeOf_26 : decode cX6_placeOf 26 = .ok (.getfield 9, 3) := by decide +kernel
theorem dX6_placeOf_29 : decode cX6_placeOf 29 = .ok (.getfield 97, 3) := by decide +kernel
theorem dX6_placeOf_32 : decode cX6_placeOf 32 = .ok (.iload 6, 2) := by decide +kernel
theorem dX6_placeOf_34 : decode cX6_placeOf 34 = .ok (.iaload, 1) := by decide +kernel
theorem dX6_placeOf_35 : decode cX6_placeOf 35 = .ok (.aload_n 0, 1) := by decide +kernel
theorem dX6_placeOf_36 : decode cX6_placeOf 36 = .ok (.getfield 9, 3) := by decide +kernel
theorem dX6_placeOf_39 : decode cX6_placeOf 39 = .ok (.getfield 97, 3) := by decide +kernel
theorem dX6_placeOf_42 : decode cX6_placeOf 42 = .ok (.iload_n 1, 1) := by decide +kernel
theorem dX6_placeOf_43 : decode cX6_placeOf 43 = .ok (.iaload, 1) := by decide +kernel
theorem dX6_placeOf_44 : decode cX6_placeOf 44 = .ok (.if_icmp .ne 30, 3) := by decide +kernel
theorem dX6_placeOf_47 : decode cX6_placeOf 47 = .ok (.aload_n 0, 1) := by decide +kernel
theorem dX6_placeOf_48 : decode cX6_placeOf 48 = .ok (.getfield 9, 3) := by decide +kernel
theorem dX6_placeOf_51 : decode cX6_placeOf 51 = .ok (.iload 6, 2) := by decide +kernel
theorem dX6_placeOf_53 : decode cX6_placeOf 53 = .ok (.invokevirtual 46, 3) := by decide +kernel
theorem dX6_placeOf_56 : decode cX6_placeOf 56 = .ok (.ifCond .eq 18, 3) := by decide +kernel
theorem dX6_placeOf_59 : decode cX6_placeOf 59 = .ok (.aload_n 0, 1) := by decide +kernel
theorem dX6_placeOf_60 : decode cX6_placeOf 60 = .ok (.iload 6, 2) := by decide +kernel
theorem dX6_placeOf_62 : decode cX6_placeOf 62 = .ok (.iload_n 2, 1) := by decide +kernel
theorem dX6_placeOf_63 : decode cX6_placeOf 63 = .ok (.invokevirtual 93, 3) := by decide +kernel
theorem dX6_placeOf_66 : decode cX6_placeOf 66 = .ok (.lload_n 3, 1) := by decide +kernel
theorem dX6_placeOf_67 : decode cX6_placeOf 67 = .ok (.lcmp, 1) := by decide +kernel
theorem dX6_placeOf_68 : decode cX6_placeOf 68 = .ok (.ifCond .ge 6, 3) := by decide +kernel
theorem dX6_placeOf_71 : decode cX6_placeOf 71 = .ok (.iinc 5 1, 3) := by decide +kernel
theorem dX6_placeOf_74 : decode cX6_placeOf 74 = .ok (.iinc 6 1, 3) := by decide +kernel
theorem dX6_placeOf_77 : decode cX6_placeOf 77 = .ok (.goto (-64), 3) := by decide +kernel
theorem dX6_placeOf_80 : decode cX6_placeOf 80 = .ok (.iconst 1, 1) := by decide +kernel
theorem dX6_placeOf_81 : decode cX6_placeOf 81 = .ok (.iload 5, 2) := by decide +kernel
theorem dX6_placeOf_83 : decode cX6_placeOf 83 = .ok (.iadd, 1) := by decide +kernel
theorem dX6_placeOf_84 : decode cX6_placeOf 84 = .ok (.ireturn, 1) := by decide +kernel
def fX6_placeOf_L13 (p1 : Int32) (p2 : Int32) (p3 : Int64) (a : Int32 × Int32) (s : Sg) : Option (((Int32 × Int32) ⊕ (Int32)) × Sg) :=
  if (gI s 1 1) ≤ a.2 then
  some (.inr a.1, s)
  else
  (aI s 4 64 a.2).bind fun v2 =>
  (aI s 4 64 p1).bind fun v3 =>
  ((if v2 = v3 then
  (fX3_isSingle a.2 s).bind fun w8 =>
  if w8.1 = 0 then
  some (a.1, w8.2)
  else
  (fX6_slowness a.2 p2 w8.2).bind fun w10 =>
  if 0 ≤ (lg_cmp w10.1 p3) then
  some (a.1, w10.2)
  else
  bnd (a.1 + (1 : Int32)) fun x12 =>
  some (x12, w10.2)
  else
  some (a.1, s)) : Option (Int32 × Sg)).bind fun w4 =>
  bnd (a.2 + (1 : Int32)) fun x6 =>
  some (.inl (w4.1, x6), w4.2)
def fX6_placeOf (x0_ : Int32) (x1_ : Int32) (s : Sg) : Option (Int32 × Sg) :=
  (fX6_slowness x0_ x1_ s).bind fun w1 =>
  (lpG (fX6_placeOf_L13 x0_ x1_ w1.1) FU ((0 : Int32), (0 : Int32)) w1.2).bind fun w2 =>
  some (((1 : Int32) + w2.1), w2.2)
theorem ct_X6_placeOf {g : Gl} {x0_ : Int32} {x1_ : Int32} {s : Sg} {w : Int32 × Sg}  (h : fX6_placeOf x0_ x1_ s = some w) : Ct SS g iX6_placeOf 2 44 [.ref (gad g 25), .int x0_, .int x1_] s (Dt (some (.int w.1)) w.2) := by
  refine Ct.ofV (by decide +kernel) 4 (lv0 := [some (.ref (gad g 25)), some (.int x0_), some (.int x1_), none, none, none, none]) rfl rfl (fun M hC => ?_)
  have hP : (Dt (some (.int w.1)) w.2) (some (.int w.1)) w.2 := ⟨rfl, rfl⟩
  generalize Dt (some (.int w.1)) w.2 = P at hP ⊢
  unfold fX6_placeOf at h
  refine v_aload_n (pc := 0) hC dX6_placeOf_0 rfl ?_
  refine v_iload_n (pc := 1) hC dX6_placeOf_1 rfl ?_
  refine v_iload_n (pc := 2) hC dX6_placeOf_2 rfl ?_
  obtain ⟨w1, hw1, h⟩ := obd_s h
  refine v_cV (pc := 3) [] [.long w1.1] gm_X6_slowness hC s_25 rfl rfl (ct_X6_slowness  hw1) ml_X6_93 rfl rfl rfl rfl rfl rfl dX6_placeOf_3 ?_
  refine v_lstore_n (pc := 6) (lv' := [some (.ref (gad g 25)), some (.int x0_), some (.int x1_), some (.long w1.1), none, none, none]) hC dX6_placeOf_6 rfl rfl rfl rfl ?_
  refine v_iconst (pc := 7) (0 : Int32) rfl hC dX6_placeOf_7 ?_
  refine v_istore (pc := 8) (lv' := [some (.ref (gad g 25)), some (.int x0_), some (.int x1_), some (.long w1.1), none, some (.int (0 : Int32)), none]) hC dX6_placeOf_8 rfl rfl rfl rfl ?_
  refine v_iconst (pc := 10) (0 : Int32) rfl hC dX6_placeOf_10 ?_
  refine v_istore (pc := 11) (lv' := [some (.ref (gad g 25)), some (.int x0_), some (.int x1_), some (.long w1.1), none, some (.int (0 : Int32)), some (.int (0 : Int32))]) hC dX6_placeOf_11 rfl rfl rfl rfl ?_
  obtain ⟨w2, hw2, h⟩ := obd_s h
  have kx21 : V SS g M iX6_placeOf (PQ SS g M P) 80 [none, none, none, none, none, some (.int w2.1), none] [] w2.2 := by
    refine v_iconst (pc := 80) (1 : Int32) rfl hC dX6_placeOf_80 ?_
    refine v_iload (pc := 81) hC dX6_placeOf_81 rfl ?_
    refine v_iadd (pc := 83) hC dX6_placeOf_83 ?_
    obtain rfl := Option.some.inj h
    exact v_iret (pc := 84) hC rfl dX6_placeOf_84 hP
  refine V.ls (ls_some (ls_some (ls_some (ls_some (ls_none (ls_some (ls_some ls_nil))))))) (v_loop (pc := 13) (fun a5 => [some (.ref (gad g 25)), some (.int x0_), some (.int x1_), some (.long w1.1), none, some (.int a5.1), some (.int a5.2)]) (fun z t => V SS g M iX6_placeOf (PQ SS g M P) 80 [none, none, none, none, none, some (.int z), none] [] t) (fun a5 s3 u4 hu4 k6 k7 => ?_) _ _ _ _ hw2 kx21)
  unfold fX6_placeOf_L13 at hu4
  refine v_iload (pc := 13) hC dX6_placeOf_13 rfl ?_
  refine v_aload_n (pc := 15) hC dX6_placeOf_15 rfl ?_
  refine v_gt (pc := 16) 0 (.ref (gad g 1)) hC s_25 rfl rfl rfl rfl fl_X6_9 dX6_placeOf_16 ?_
  refine v_gtN (pc := 19) 1 (.int (gI s3 1 1)) hC s_1 rfl rfl rfl rfl fl_X6_41 dX6_placeOf_19 ?_
  refine v_ic_ge (pc := 22) (tgt := 80) hC dX6_placeOf_22 rfl (fun c9 => ?_) (fun c9 => ?_)
  · replace hu4 := (if_pos c9).symm.trans hu4
    obtain rfl := Option.some.inj hu4
    exact V.ls (ls_none (ls_none (ls_none (ls_none (ls_none (ls_some (ls_none ls_nil))))))) (k7 _ rfl)
  · replace hu4 := (if_neg c9).symm.trans hu4
    refine v_aload_n (pc := 25) hC dX6_placeOf_25 rfl ?_
    refine v_gt (pc := 26) 0 (.ref (gad g 1)) hC s_25 rfl rfl rfl rfl fl_X6_9 dX6_placeOf_26 ?_
    refine v_gtN (pc := 29) 4 (.ref (gad g 4)) hC s_1 rfl rfl rfl rfl fl_X6_97 dX6_placeOf_29 ?_
    refine v_iload (pc := 32) hC dX6_placeOf_32 rfl ?_
    obtain ⟨v10, hv10, hu4⟩ := obd_s hu4
    refine v_aI (pc := 34) hC s_4 hv10 dX6_placeOf_34 ?_
    refine v_aload_n (pc := 35) hC dX6_placeOf_35 rfl ?_
    refine v_gt (pc := 36) 0 (.ref (gad g 1)) hC s_25 rfl rfl rfl rfl fl_X6_9 dX6_placeOf_36 ?_
    refine v_gtN (pc := 39) 4 (.ref (gad g 4)) hC s_1 rfl rfl rfl rfl fl_X6_97 dX6_placeOf_39 ?_
    refine v_iload_n (pc := 42) hC dX6_placeOf_42 rfl ?_
    obtain ⟨v11, hv11, hu4⟩ := obd_s hu4
    refine v_aI (pc := 43) hC s_4 hv11 dX6_placeOf_43 ?_
    obtain ⟨w12, hw12, hu4⟩ := obd_s hu4
    have kj13 : V SS g M iX6_placeOf (PQ SS g M P) 74 [some (.ref (gad g 25)), some (.int x0_), some (.int x1_), some (.long w1.1), none, some (.int w12.1), some (.int a5.2)] [] w12.2 := by
      obtain ⟨x14, hx14, hu4⟩ := bnd_s hu4
      refine v_iinc (pc := 74) (lv' := [some (.ref (gad g 25)), some (.int x0_), some (.int x1_), some (.long w1.1), none, some (.int w12.1), some (.int x14)]) (1 : Int32) rfl hx14 hC dX6_placeOf_74 rfl rfl rfl rfl ?_
      refine v_goto (pc := 77) (tgt := 13) hC dX6_placeOf_77 rfl ?_
      obtain rfl := Option.some.inj hu4
      exact V.ls (ls_some (ls_some (ls_some (ls_some (ls_none (ls_some (ls_some ls_nil))))))) (k6 _ rfl)
    refine v_ic_ne (pc := 44) (tgt := 74) hC dX6_placeOf_44 rfl (fun c15 => ?_) (fun c15 => ?_)
    · replace hw12 := (if_neg c15).symm.trans hw12
      obtain rfl := Option.some.inj hw12
      exact V.ls (ls_some (ls_some (ls_some (ls_some (ls_none (ls_some (ls_some ls_nil))))))) kj13
    · replace hw12 := (if_pos c15).symm.trans hw12
      refine v_aload_n (pc := 47) hC dX6_placeOf_47 rfl ?_
      refine v_gt (pc := 48) 0 (.ref (gad g 1)) hC s_25 rfl rfl rfl rfl fl_X6_9 dX6_placeOf_48 ?_
      refine v_iload (pc := 51) hC dX6_placeOf_51 rfl ?_
      obtain ⟨w16, hw16, hw12⟩ := obd_s hw12
      refine v_cV (pc := 53) [] [.int w16.1] gm_X3_isSingle hC s_1 rfl rfl (ct_X3_isSingle  hw16) ml_X6_46 rfl rfl rfl rfl rfl rfl dX6_placeOf_53 ?_
      refine v_if_eq (pc := 56) (tgt := 74) hC dX6_placeOf_56 rfl (fun c17 => ?_) (fun c17 => ?_)
      · replace hw12 := (if_pos c17).symm.trans hw12
        obtain rfl := Option.some.inj hw12
        exact V.ls (ls_some (ls_some (ls_some (ls_some (ls_none (ls_some (ls_some ls_nil))))))) kj13
      · replace hw12 := (if_neg c17).symm.trans hw12
        refine v_aload_n (pc := 59) hC dX6_placeOf_59 rfl ?_
        refine v_iload (pc := 60) hC dX6_placeOf_60 rfl ?_
        refine v_iload_n (pc := 62) hC dX6_placeOf_62 rfl ?_
        obtain ⟨w18, hw18, hw12⟩ := obd_s hw12
        refine v_cV (pc := 63) [] [.long w18.1] gm_X6_slowness hC s_25 rfl rfl (ct_X6_slowness  hw18) ml_X6_93 rfl rfl rfl rfl rfl rfl dX6_placeOf_63 ?_
        refine v_lload_n (pc := 66) hC dX6_placeOf_66 rfl ?_
        refine v_lcmp (pc := 67) hC dX6_placeOf_67 ?_
        refine v_if_ge (pc := 68) (tgt := 74) hC dX6_placeOf_68 rfl (fun c19 => ?_) (fun c19 => ?_)
        · replace hw12 := (if_pos c19).symm.trans hw12
          obtain rfl := Option.some.inj hw12
          exact V.ls (ls_some (ls_some (ls_some (ls_some (ls_none (ls_some (ls_some ls_nil))))))) kj13
        · replace hw12 := (if_neg c19).symm.trans hw12
          obtain ⟨x20, hx20, hw12⟩ := bnd_s hw12
          refine v_iinc (pc := 71) (lv' := [some (.ref (gad g 25)), some (.int x0_), some (.int x1_), some (.long w1.1), none, some (.int x20), some (.int a5.2)]) (1 : Int32) rfl hx20 hC dX6_placeOf_71 rfl rfl rfl rfl ?_
          obtain rfl := Option.some.inj hw12
          exact V.ls (ls_some (ls_some (ls_some (ls_some (ls_none (ls_some (ls_some ls_nil))))))) kj13
theorem dX6_hasMedal_0 : decode cX6_hasMedal 0 = .ok (.aload_n 0, 1) := by decide +kernel
theorem dX6_hasMedal_1 : decode cX6_hasMedal 1 = .ok (.iload_n 1, 1) := by decide +kernel
theorem dX6_hasMedal_2 : decode cX6_hasMedal 2 = .ok (.iload_n 2, 1) := by decide +kernel
theorem dX6_hasMedal_3 : decode cX6_hasMedal 3 = .ok (.invokevirtual 107, 3) := by decide +kernel
theorem dX6_hasMedal_6 : decode cX6_hasMedal 6 = .ok (.iconst 3, 1) := by decide +kernel
theorem dX6_hasMedal_7 : decode cX6_hasMedal 7 = .ok (.if_icmp .gt 7, 3) := by decide +kernel
theorem dX6_hasMedal_10 : decode cX6_hasMedal 10 = .ok (.iconst 1, 1) := by decide +kernel
theorem dX6_hasMedal_11 : decode cX6_hasMedal 11 = .ok (.goto 4, 3) := by decide +kernel
theorem dX6_hasMedal_14 : decode cX6_hasMedal 14 = .ok (.iconst 0, 1) := by decide +kernel
theorem dX6_hasMedal_15 : decode cX6_hasMedal 15 = .ok (.ireturn, 1) := by decide +kernel
def fX6_hasMedal (x0_ : Int32) (x1_ : Int32) (s : Sg) : Option (Int32 × Sg) :=
  (fX6_placeOf x0_ x1_ s).bind fun w1 =>
  if (3 : Int32) < w1.1 then
  some ((0 : Int32), w1.2)
  else
  some ((1 : Int32), w1.2)
theorem ct_X6_hasMedal {g : Gl} {x0_ : Int32} {x1_ : Int32} {s : Sg} {w : Int32 × Sg}  (h : fX6_hasMedal x0_ x1_ s = some w) : Ct SS g iX6_hasMedal 3 70 [.ref (gad g 25), .int x0_, .int x1_] s (Dt (some (.int w.1)) w.2) := by
  refine Ct.ofV (by decide +kernel) 0 (lv0 := [some (.ref (gad g 25)), some (.int x0_), some (.int x1_)]) rfl rfl (fun M hC => ?_)
  have hP : (Dt (some (.int w.1)) w.2) (some (.int w.1)) w.2 := ⟨rfl, rfl⟩
  generalize Dt (some (.int w.1)) w.2 = P at hP ⊢
  unfold fX6_hasMedal at h
  refine v_aload_n (pc := 0) hC dX6_hasMedal_0 rfl ?_
  refine v_iload_n (pc := 1) hC dX6_hasMedal_1 rfl ?_
  refine v_iload_n (pc := 2) hC dX6_hasMedal_2 rfl ?_
  obtain ⟨w1, hw1, h⟩ := obd_s h
  refine v_cV (pc := 3) [] [.int w1.1] gm_X6_placeOf hC s_25 rfl rfl (ct_X6_placeOf  hw1) ml_X6_107 rfl rfl rfl rfl rfl rfl dX6_hasMedal_3 ?_
  refine v_iconst (pc := 6) (3 : Int32) rfl hC dX6_hasMedal_6 ?_
  refine v_ic_gt (pc := 7) (tgt := 14) hC dX6_hasMedal_7 rfl (fun c2 => ?_) (fun c2 => ?_)
  · replace h := (if_pos c2).symm.trans h
    refine v_iconst (pc := 14) (0 : Int32) rfl hC dX6_hasMedal_14 ?_
    obtain rfl := Option.some.inj h
    exact v_zret (pc := 15) hC rfl rfl dX6_hasMedal_15 hP
  · replace h := (if_neg c2).symm.trans h
    refine v_iconst (pc := 10) (1 : Int32) rfl hC dX6_hasMedal_10 ?_
    refine v_goto (pc := 11) (tgt := 15) hC dX6_hasMedal_11 rfl ?_
    obtain rfl := Option.some.inj h
    exact v_zret (pc := 15) hC rfl rfl dX6_hasMedal_15 hP
theorem dX6_changedMedals_0 : decode cX6_changedMedals 0 = .ok (.aload_n 0, 1) := by decide +kernel
theorem dX6_changedMedals_1 : decode cX6_changedMedals 1 = .ok (.getfield 9, 3) := by decide +kernel
theorem dX6_changedMedals_4 : decode cX6_changedMedals 4 = .ok (.getfield 100, 3) := by decide +kernel
theorem dX6_changedMedals_7 : decode cX6_changedMedals 7 = .ok (.iload_n 1, 1) := by decide +kernel
theorem dX6_changedMedals_8 : decode cX6_changedMedals 8 = .ok (.iaload, 1) := by decide +kernel
theorem dX6_changedMedals_9 : decode cX6_changedMedals 9 = .ok (.iconst 1, 1) := by decide +kernel
theorem dX6_changedMedals_10 : decode cX6_changedMedals 10 = .ok (.if_icmp .le 6, 3) := by decide +kernel
theorem dX6_changedMedals_13 : decode cX6_changedMedals 13 = .ok (.bipush (-3), 2) := by decide +kernel
theorem dX6_changedMedals_15 : decode cX6_changedMedals 15 = .ok (.ireturn, 1) := by decide +kernel
theorem dX6_changedMedals_16 : decode cX6_changedMedals 16 = .ok (.iconst 0, 1) := by decide +kernel
theorem dX6_changedMedals_17 : decode cX6_changedMedals 17 = .ok (.istore_n 2, 1) := by decide +kernel
theorem dX6_changedMedals_18 : decode cX6_changedMedals 18 = .ok (.iconst 0, 1) := by decide +kernel
theorem dX6_changedMedals_19 : decode cX6_changedMedals 19 = .ok (.istore_n 3, 1) := by decide +kernel
theorem dX6_changedMedals_20 : decode cX6_changedMedals 20 = .ok (.iload_n 3, 1) := by decide +kernel
theorem dX6_changedMedals_21 : decode cX6_changedMedals 21 = .ok (.aload_n 0, 1) := by decide +kernel
theorem dX6_changedMedals_22 : decode cX6_changedMedals 22 = .ok (.getfield 9, 3) := by decide +kernel
theorem dX6_changedMedals_25 : decode cX6_changedMedals 25 = .ok (.getfield 41, 3) := by decide +kernel
theorem dX6_changedMedals_28 : decode cX6_changedMedals 28 = .ok (.if_icmp .ge 51, 3) := by decide +kernel
theorem dX6_changedMedals_31 : decode cX6_changedMedals 31 = .ok (.aload_n 0, 1) := by decide +kernel
theorem dX6_changedMedals_32 : decode cX6_changedMedals 32 = .ok (.getfield 9, 3) := by decide +kernel
theorem dX6_changedMedals_35 : decode cX6_changedMedals 35 = .ok (.getfield 97, 3) := by decide +kernel
theorem dX6_changedMedals_38 : decode cX6_changedMedals 38 = .ok (.iload_n 3, 1) := by decide +kernel
theorem dX6_changedMedals_39 : decode cX6_changedMedals 39 = .ok (.iaload, 1) := by decide +kernel
theorem dX6_changedMedals_40 : decode cX6_changedMedals 40 = .ok (.iload_n 1, 1) := by decide +kernel
theorem dX6_changedMedals_41 : decode cX6_changedMedals 41 = .ok (.if_icmp .ne 32, 3) := by decide +kernel
theorem dX6_changedMedals_44 : decode cX6_changedMedals 44 = .ok (.aload_n 0, 1) := by decide +kernel
theorem dX6_changedMedals_45 : decode cX6_changedMedals 45 = .ok (.getfield 9, 3) := by decide +kernel
theorem dX6_changedMedals_48 : decode cX6_changedMedals 48 = .ok (.iload_n 3, 1) := by decide +kernel
theorem dX6_changedMedals_49 : decode cX6_changedMedals 49 = .ok (.invokevirtual 46, 3) := by decide +kernel
theorem dX6_changedMedals_52 : decode cX6_changedMedals 52 = .ok (.ifCond .eq 21, 3) := by decide +kernel
theorem dX6_changedMedals_55 : decode cX6_changedMedals 55 = .ok (.aload_n 0, 1) := by decide +kernel
theorem dX6_changedMedals_56 : decode cX6_changedMedals 56 = .ok (.iload_n 3, 1) := by decide +kernel
theorem dX6_changedMedals_57 : decode cX6_changedMedals 57 = .ok (.iconst 0, 1) := by decide +kernel
theorem dX6_changedMedals_58 : decode cX6_changedMedals 58 = .ok (.invokevirtual 103, 3) := by decide +kernel
theorem dX6_changedMedals_61 : decode cX6_changedMedals 61 = .ok (.aload_n 0, 1) := by decide +kernel
theorem dX6_changedMedals_62 : decode cX6_changedMedals 62 = .ok (.iload_n 3, 1) := by decide +kernel
theorem dX6_changedMedals_63 : decode cX6_changedMedals 63 = .ok (.iconst 1, 1) := by decide +kernel
theorem dX6_changedMedals_64 : decode cX6_changedMedals 64 = .ok (.invokevirtual 103, 3) := by decide +kernel
theorem dX6_changedMedals_67 : decode cX6_changedMedals 67 = .ok (.if_icmp .eq 6, 3) := by decide +kernel
theorem dX6_changedMedals_70 : decode cX6_changedMedals 70 = .ok (.iinc 2 1, 3) := by decide +kernel
theorem dX6_changedMedals_73 : decode cX6_changedMedals 73 = .ok (.iinc 3 1, 3) := by decide +kernel
theorem dX6_changedMedals_76 : decode cX6_changedMedals 76 = .ok (.goto (-56), 3) := by decide +kernel
theorem dX6_changedMedals_79 : decode cX6_changedMedals 79 = .ok (.iload_n 2, 1) := by decide +kernel
theorem dX6_changedMedals_80 : decode cX6_changedMedals 80 = .ok (.ireturn, 1) := by decide +kernel
def fX6_changedMedals_L20 (p1 : Int32) (a : Int32 × Int32) (s : Sg) : Option (((Int32 × Int32) ⊕ (Int32)) × Sg) :=
  if (gI s 1 1) ≤ a.2 then
  some (.inr a.1, s)
  else
  (aI s 4 64 a.2).bind fun v2 =>
  ((if v2 = p1 then
  (fX3_isSingle a.2 s).bind fun w7 =>
  if w7.1 = 0 then
  some (a.1, w7.2)
  else
  (fX6_hasMedal a.2 (0 : Int32) w7.2).bind fun w9 =>
  (fX6_hasMedal a.2 (1 : Int32) w9.2).bind fun w10 =>
  if w9.1 = w10.1 then
  some (a.1, w10.2)
  else
  bnd (a.1 + (1 : Int32)) fun x12 =>
  some (x12, w10.2)
  else
  some (a.1, s)) : Option (Int32 × Sg)).bind fun w3 =>
  bnd (a.2 + (1 : Int32)) fun x5 =>
  some (.inl (w3.1, x5), w3.2)
def fX6_changedMedals (x0_ : Int32) (s : Sg) : Option (Int32 × Sg) :=
  (aI s 2 16 x0_).bind fun v1 =>
  if v1 ≤ (1 : Int32) then
  (lpG (fX6_changedMedals_L20 x0_) FU ((0 : Int32), (0 : Int32)) s).bind fun w2 =>
  some (w2.1, w2.2)
  else
  some ((-3 : Int32), s)
theorem ct_X6_changedMedals {g : Gl} {x0_ : Int32} {s : Sg} {w : Int32 × Sg}  (h : fX6_changedMedals x0_ s = some w) : Ct SS g iX6_changedMedals 4 92 [.ref (gad g 25), .int x0_] s (Dt (some (.int w.1)) w.2) := by
  refine Ct.ofV (by decide +kernel) 2 (lv0 := [some (.ref (gad g 25)), some (.int x0_), none, none]) rfl rfl (fun M hC => ?_)
  have hP : (Dt (some (.int w.1)) w.2) (some (.int w.1)) w.2 := ⟨rfl, rfl⟩
  generalize Dt (some (.int w.1)) w.2 = P at hP ⊢
  unfold fX6_changedMedals at h
  refine v_aload_n (pc := 0) hC dX6_changedMedals_0 rfl ?_
  refine v_gt (pc := 1) 0 (.ref (gad g 1)) hC s_25 rfl rfl rfl rfl fl_X6_9 dX6_changedMedals_1 ?_
  refine v_gtN (pc := 4) 2 (.ref (gad g 2)) hC s_1 rfl rfl rfl rfl fl_X6_100 dX6_changedMedals_4 ?_
  refine v_iload_n (pc := 7) hC dX6_changedMedals_7 rfl ?_
  obtain ⟨v1, hv1, h⟩ := obd_s h
  refine v_aI (pc := 8) hC s_2 hv1 dX6_changedMedals_8 ?_
  refine v_iconst (pc := 9) (1 : Int32) rfl hC dX6_changedMedals_9 ?_
  refine v_ic_le (pc := 10) (tgt := 16) hC dX6_changedMedals_10 rfl (fun c22 => ?_) (fun c22 => ?_)
  · replace h := (if_pos c22).symm.trans h
    refine v_iconst (pc := 16) (0 : Int32) rfl hC dX6_changedMedals_16 ?_
    refine v_istore_n (pc := 17) (lv' := [some (.ref (gad g 25)), some (.int x0_), some (.int (0 : Int32)), none]) hC dX6_changedMedals_17 rfl rfl rfl rfl ?_
    refine v_iconst (pc := 18) (0 : Int32) rfl hC dX6_changedMedals_18 ?_
    refine v_istore_n (pc := 19) (lv' := [some (.ref (gad g 25)), some (.int x0_), some (.int (0 : Int32)), some (.int (0 : Int32))]) hC dX6_changedMedals_19 rfl rfl rfl rfl ?_
    obtain ⟨w2, hw2, h⟩ := obd_s h
    have kx21 : V SS g M iX6_changedMedals (PQ SS g M P) 79 [none, none, some (.int w2.1), none] [] w2.2 := by
      refine v_iload_n (pc := 79) hC dX6_changedMedals_79 rfl ?_
      obtain rfl := Option.some.inj h
      exact v_iret (pc := 80) hC rfl dX6_changedMedals_80 hP
    refine V.ls (ls_some (ls_some (ls_some (ls_some ls_nil)))) (v_loop (pc := 20) (fun a5 => [some (.ref (gad g 25)), some (.int x0_), some (.int a5.1), some (.int a5.2)]) (fun z t => V SS g M iX6_changedMedals (PQ SS g M P) 79 [none, none, some (.int z), none] [] t) (fun a5 s3 u4 hu4 k6 k7 => ?_) _ _ _ _ hw2 kx21)
    unfold fX6_changedMedals_L20 at hu4
    refine v_iload_n (pc := 20) hC dX6_changedMedals_20 rfl ?_
    refine v_aload_n (pc := 21) hC dX6_changedMedals_21 rfl ?_
    refine v_gt (pc := 22) 0 (.ref (gad g 1)) hC s_25 rfl rfl rfl rfl fl_X6_9 dX6_changedMedals_22 ?_
    refine v_gtN (pc := 25) 1 (.int (gI s3 1 1)) hC s_1 rfl rfl rfl rfl fl_X6_41 dX6_changedMedals_25 ?_
    refine v_ic_ge (pc := 28) (tgt := 79) hC dX6_changedMedals_28 rfl (fun c9 => ?_) (fun c9 => ?_)
    · replace hu4 := (if_pos c9).symm.trans hu4
      obtain rfl := Option.some.inj hu4
      exact V.ls (ls_none (ls_none (ls_some (ls_none ls_nil)))) (k7 _ rfl)
    · replace hu4 := (if_neg c9).symm.trans hu4
      refine v_aload_n (pc := 31) hC dX6_changedMedals_31 rfl ?_
      refine v_gt (pc := 32) 0 (.ref (gad g 1)) hC s_25 rfl rfl rfl rfl fl_X6_9 dX6_changedMedals_32 ?_
      refine v_gtN (pc := 35) 4 (.ref (gad g 4)) hC s_1 rfl rfl rfl rfl fl_X6_97 dX6_changedMedals_35 ?_
      refine v_iload_n (pc := 38) hC dX6_changedMedals_38 rfl ?_
      obtain ⟨v10, hv10, hu4⟩ := obd_s hu4
      refine v_aI (pc := 39) hC s_4 hv10 dX6_changedMedals_39 ?_
      refine v_iload_n (pc := 40) hC dX6_changedMedals_40 rfl ?_
      obtain ⟨w11, hw11, hu4⟩ := obd_s hu4
      have kj12 : V SS g M iX6_changedMedals (PQ SS g M P) 73 [some (.ref (gad g 25)), some (.int x0_), some (.int w11.1), some (.int a5.2)] [] w11.2 := by
        obtain ⟨x13, hx13, hu4⟩ := bnd_s hu4
        refine v_iinc (pc := 73) (lv' := [some (.ref (gad g 25)), some (.int x0_), some (.int w11.1), some (.int x13)]) (1 : Int32) rfl hx13 hC dX6_changedMedals_73 rfl rfl rfl rfl ?_
        refine v_goto (pc := 76) (tgt := 20) hC dX6_changedMedals_76 rfl ?_
        obtain rfl := Option.some.inj hu4
        exact V.ls (ls_some (ls_some (ls_some (ls_some ls_nil)))) (k6 _ rfl)
      refine v_ic_ne (pc := 41) (tgt := 73) hC dX6_changedMedals_41 rfl (fun c14 => ?_) (fun c14 => ?_)
      · replace hw11 := (if_neg c14).symm.trans hw11
        obtain rfl := Option.some.inj hw11
        exact V.ls (ls_some (ls_some (ls_some (ls_some ls_nil)))) kj12
      · replace hw11 := (if_pos c14).symm.trans hw11
        refine v_aload_n (pc := 44) hC dX6_changedMedals_44 rfl ?_
        refine v_gt (pc := 45) 0 (.ref (gad g 1)) hC s_25 rfl rfl rfl rfl fl_X6_9 dX6_changedMedals_45 ?_
        refine v_iload_n (pc := 48) hC dX6_changedMedals_48 rfl ?_
        obtain ⟨w15, hw15, hw11⟩ := obd_s hw11
        refine v_cV (pc := 49) [] [.int w15.1] gm_X3_isSingle hC s_1 rfl rfl (ct_X3_isSingle  hw15) ml_X6_46 rfl rfl rfl rfl rfl rfl dX6_changedMedals_49 ?_
        refine v_if_eq (pc := 52) (tgt := 73) hC dX6_changedMedals_52 rfl (fun c16 => ?_) (fun c16 => ?_)
        · replace hw11 := (if_pos c16).symm.trans hw11
          obtain rfl := Option.some.inj hw11
          exact V.ls (ls_some (ls_some (ls_some (ls_some ls_nil)))) kj12
        · replace hw11 := (if_neg c16).symm.trans hw11
          refine v_aload_n (pc := 55) hC dX6_changedMedals_55 rfl ?_
          refine v_iload_n (pc := 56) hC dX6_changedMedals_56 rfl ?_
          refine v_iconst (pc := 57) (0 : Int32) rfl hC dX6_changedMedals_57 ?_
          obtain ⟨w17, hw17, hw11⟩ := obd_s hw11
          refine v_cV (pc := 58) [] [.int w17.1] gm_X6_hasMedal hC s_25 rfl rfl (ct_X6_hasMedal  hw17) ml_X6_103 rfl rfl rfl rfl rfl rfl dX6_changedMedals_58 ?_
          refine v_aload_n (pc := 61) hC dX6_changedMedals_61 rfl ?_
          refine v_iload_n (pc := 62) hC dX6_changedMedals_62 rfl ?_
          refine v_iconst (pc := 63) (1 : Int32) rfl hC dX6_changedMedals_63 ?_
          obtain ⟨w18, hw18, hw11⟩ := obd_s hw11
          refine v_cV (pc := 64) [.int w17.1] [.int w18.1, .int w17.1] gm_X6_hasMedal hC s_25 rfl rfl (ct_X6_hasMedal  hw18) ml_X6_103 rfl rfl rfl rfl rfl rfl dX6_changedMedals_64 ?_
          refine v_ic_eq (pc := 67) (tgt := 73) hC dX6_changedMedals_67 rfl (fun c19 => ?_) (fun c19 => ?_)
          · replace hw11 := (if_pos c19).symm.trans hw11
            obtain rfl := Option.some.inj hw11
            exact V.ls (ls_some (ls_some (ls_some (ls_some ls_nil)))) kj12
          · replace hw11 := (if_neg c19).symm.trans hw11
            obtain ⟨x20, hx20, hw11⟩ := bnd_s hw11
            refine v_iinc (pc := 70) (lv' := [some (.ref (gad g 25)), some (.int x0_), some (.int x20), some (.int a5.2)]) (1 : Int32) rfl hx20 hC dX6_changedMedals_70 rfl rfl rfl rfl ?_
            obtain rfl := Option.some.inj hw11
            exact V.ls (ls_some (ls_some (ls_some (ls_some ls_nil)))) kj12
  · replace h := (if_neg c22).symm.trans h
    refine v_bipush (pc := 13) (-3 : Int32) rfl hC dX6_changedMedals_13 ?_
    obtain rfl := Option.some.inj h
    exact v_iret (pc := 15) hC rfl dX6_changedMedals_15 hP
theorem dX7_isFull_0 : decode cX7_isFull 0 = .ok (.aload_n 0, 1) := by decide +kernel
theorem dX7_isFull_1 : decode cX7_isFull 1 = .ok (.getfield 19, 3) := by decide +kernel
theorem dX7_isFull_4 : decode cX7_isFull 4 = .ok (.aload_n 0, 1) := by decide +kernel
theorem dX7_isFull_5 : decode cX7_isFull 5 = .ok (.getfield 13, 3) := by decide +kernel
theorem dX7_isFull_8 : decode cX7_isFull 8 = .ok (.arraylength, 1) := by decide +kernel
theorem dX7_isFull_9 : decode cX7_isFull 9 = .ok (.if_icmp .lt 7, 3) := by decide +kernel
theorem dX7_isFull_12 : decode cX7_isFull 12 = .ok (.iconst 1, 1) := by decide +kernel
theorem dX7_isFull_13 : decode cX7_isFull 13 = .ok (.goto 4, 3) := by decide +kernel
theorem dX7_isFull_16 : decode cX7_isFull 16 = .ok (.iconst 0, 1) := by decide +kernel
theorem dX7_isFull_17 : decode cX7_isFull 17 = .ok (.ireturn, 1) := by decide +kernel
def fX7_isFull (b0 : Nat) (n0 : Nat) (s : Sg) : Option (Int32 × Sg) :=
  if (gI s b0 1) < (Int32.ofNat n0) then
  some ((0 : Int32), s)
  else
  some ((1 : Int32), s)
theorem ct_X7_isFull {g : Gl} {b0 : Nat} {n0 : Nat} {s : Sg} {w : Int32 × Sg} (hb0 : isTx b0 n0) (h : fX7_isFull b0 n0 s = some w) : Ct SS g iX7_isFull 0 0 [.ref (gad g b0)] s (Dt (some (.int w.1)) w.2) := by
  refine Ct.ofV (by decide +kernel) 0 (lv0 := [some (.ref (gad g b0))]) rfl rfl (fun M hC => ?_)
  have hP : (Dt (some (.int w.1)) w.2) (some (.int w.1)) w.2 := ⟨rfl, rfl⟩
  generalize Dt (some (.int w.1)) w.2 = P at hP ⊢
  unfold fX7_isFull at h
  refine v_aload_n (pc := 0) hC dX7_isFull_0 rfl ?_
  refine v_gt (pc := 1) 1 (.int (gI s b0 1)) hC hb0.1 rfl rfl rfl rfl fl_X7_19 dX7_isFull_1 ?_
  refine v_aload_n (pc := 4) hC dX7_isFull_4 rfl ?_
  refine v_gt (pc := 5) 0 (.ref (gad g (b0 + 1))) hC hb0.1 rfl rfl rfl rfl fl_X7_13 dX7_isFull_5 ?_
  refine v_alen (pc := 8) (Int32.ofNat n0) rfl hC hb0.2 dX7_isFull_8 ?_
  refine v_ic_lt (pc := 9) (tgt := 16) hC dX7_isFull_9 rfl (fun c1 => ?_) (fun c1 => ?_)
  · replace h := (if_pos c1).symm.trans h
    refine v_iconst (pc := 16) (0 : Int32) rfl hC dX7_isFull_16 ?_
    obtain rfl := Option.some.inj h
    exact v_zret (pc := 17) hC rfl rfl dX7_isFull_17 hP
  · replace h := (if_neg c1).symm.trans h
    refine v_iconst (pc := 12) (1 : Int32) rfl hC dX7_isFull_12 ?_
    refine v_goto (pc := 13) (tgt := 17) hC dX7_isFull_13 rfl ?_
    obtain rfl := Option.some.inj h
    exact v_zret (pc := 17) hC rfl rfl dX7_isFull_17 hP
theorem dX7_append_0 : decode cX7_append 0 = .ok (.aload_n 0, 1) := by decide +kernel
theorem dX7_append_1 : decode cX7_append 1 = .ok (.invokevirtual 23, 3) := by decide +kernel
theorem dX7_append_4 : decode cX7_append 4 = .ok (.ifCond .ne 23, 3) := by decide +kernel
theorem dX7_append_7 : decode cX7_append 7 = .ok (.aload_n 0, 1) := by decide +kernel
theorem dX7_append_8 : decode cX7_append 8 = .ok (.getfield 13, 3) := by decide +kernel
theorem dX7_append_11 : decode cX7_append 11 = .ok (.aload_n 0, 1) := by decide +kernel
theorem dX7_append_12 : decode cX7_append 12 = .ok (.getfield 19, 3) := by decide +kernel
theorem dX7_append_15 : decode cX7_append 15 = .ok (.iload_n 1, 1) := by decide +kernel
theorem dX7_append_16 : decode cX7_append 16 = .ok (.iastore, 1) := by decide +kernel
theorem dX7_append_17 : decode cX7_append 17 = .ok (.aload_n 0, 1) := by decide +kernel
theorem dX7_append_18 : decode cX7_append 18 = .ok (.dup, 1) := by decide +kernel
theorem dX7_append_19 : decode cX7_append 19 = .ok (.getfield 19, 3) := by decide +kernel
theorem dX7_append_22 : decode cX7_append 22 = .ok (.iconst 1, 1) := by decide +kernel
theorem dX7_append_23 : decode cX7_append 23 = .ok (.iadd, 1) := by decide +kernel
theorem dX7_append_24 : decode cX7_append 24 = .ok (.putfield 19, 3) := by decide +kernel
theorem dX7_append_27 : decode cX7_append 27 = .ok (.aload_n 0, 1) := by decide +kernel
theorem dX7_append_28 : decode cX7_append 28 = .ok (.getfield 19, 3) := by decide +kernel
theorem dX7_append_31 : decode cX7_append 31 = .ok (.ireturn, 1) := by decide +kernel
def fX7_append (b0 : Nat) (n0 : Nat) (x0_ : Int32) (s : Sg) : Option (Int32 × Sg) :=
  (fX7_isFull b0 n0 s).bind fun w1 =>
  if w1.1 = 0 then
  (wI w1.2 (b0 + 1) n0 (gI w1.2 b0 1) x0_).bind fun s3 =>
  bnd (sI s3 b0 1 ((gI s3 b0 1) + (1 : Int32))) fun s4 =>
  some ((gI s4 b0 1), s4)
  else
  some ((gI w1.2 b0 1), w1.2)
theorem ct_X7_append {g : Gl} {b0 : Nat} {n0 : Nat} {x0_ : Int32} {s : Sg} {w : Int32 × Sg} (hb0 : isTx b0 n0) (h : fX7_append b0 n0 x0_ s = some w) : Ct SS g iX7_append 1 20 [.ref (gad g b0), .int x0_] s (Dt (some (.int w.1)) w.2) := by
  refine Ct.ofV (by decide +kernel) 0 (lv0 := [some (.ref (gad g b0)), some (.int x0_)]) rfl rfl (fun M hC => ?_)
  have hP : (Dt (some (.int w.1)) w.2) (some (.int w.1)) w.2 := ⟨rfl, rfl⟩
  generalize Dt (some (.int w.1)) w.2 = P at hP ⊢
  unfold fX7_append at h
  refine v_aload_n (pc := 0) hC dX7_append_0 rfl ?_
  obtain ⟨w1, hw1, h⟩ := obd_s h
  refine v_cV (pc := 1) [] [.int w1.1] gm_X7_isFull hC hb0.1 rfl rfl (ct_X7_isFull hb0 hw1) ml_X7_23 rfl rfl rfl rfl rfl rfl dX7_append_1 ?_
  refine v_if_ne (pc := 4) (tgt := 27) hC dX7_append_4 rfl (fun c2 => ?_) (fun c2 => ?_)
  · replace h := (if_neg c2).symm.trans h
    refine v_aload_n (pc := 27) hC dX7_append_27 rfl ?_
    refine v_gt (pc := 28) 1 (.int (gI w1.2 b0 1)) hC hb0.1 rfl rfl rfl rfl fl_X7_19 dX7_append_28 ?_
    obtain rfl := Option.some.inj h
    exact v_iret (pc := 31) hC rfl dX7_append_31 hP
  · replace h := (if_pos c2).symm.trans h
    refine v_aload_n (pc := 7) hC dX7_append_7 rfl ?_
    refine v_gt (pc := 8) 0 (.ref (gad g (b0 + 1))) hC hb0.1 rfl rfl rfl rfl fl_X7_13 dX7_append_8 ?_
    refine v_aload_n (pc := 11) hC dX7_append_11 rfl ?_
    refine v_gt (pc := 12) 1 (.int (gI w1.2 b0 1)) hC hb0.1 rfl rfl rfl rfl fl_X7_19 dX7_append_12 ?_
    refine v_iload_n (pc := 15) hC dX7_append_15 rfl ?_
    obtain ⟨s3, hs3, h⟩ := obd_s h
    refine v_wI (pc := 16) hC hb0.2 hs3 dX7_append_16 ?_
    refine v_aload_n (pc := 17) hC dX7_append_17 rfl ?_
    refine v_dup (pc := 18) hC rfl dX7_append_18 ?_
    refine v_gt (pc := 19) 1 (.int (gI s3 b0 1)) hC hb0.1 rfl rfl rfl rfl fl_X7_19 dX7_append_19 ?_
    refine v_iconst (pc := 22) (1 : Int32) rfl hC dX7_append_22 ?_
    refine v_iadd (pc := 23) hC dX7_append_23 ?_
    obtain ⟨s4, hs4, h⟩ := bnd_s h
    refine v_pI (pc := 24) 1 hC hb0.1 rfl rfl rfl rfl rfl rfl fl_X7_19 hs4 dX7_append_24 ?_
    refine v_aload_n (pc := 27) hC dX7_append_27 rfl ?_
    refine v_gt (pc := 28) 1 (.int (gI s4 b0 1)) hC hb0.1 rfl rfl rfl rfl fl_X7_19 dX7_append_28 ?_
    obtain rfl := Option.some.inj h
    exact v_iret (pc := 31) hC rfl dX7_append_31 hP
theorem dX7_clear_0 : decode cX7_clear 0 = .ok (.aload_n 0, 1) := by decide +kernel
theorem dX7_clear_1 : decode cX7_clear 1 = .ok (.getfield 19, 3) := by decide +kernel
theorem dX7_clear_4 : decode cX7_clear 4 = .ok (.istore_n 1, 1) := by decide +kernel
theorem dX7_clear_5 : decode cX7_clear 5 = .ok (.aload_n 0, 1) := by decide +kernel
theorem dX7_clear_6 : decode cX7_clear 6 = .ok (.iconst 0, 1) := by decide +kernel
theorem dX7_clear_7 : decode cX7_clear 7 = .ok (.putfield 19, 3) := by decide +kernel
theorem dX7_clear_10 : decode cX7_clear 10 = .ok (.iload_n 1, 1) := by decide +kernel
theorem dX7_clear_11 : decode cX7_clear 11 = .ok (.ireturn, 1) := by decide +kernel
def fX7_clear (b0 : Nat) (n0 : Nat) (s : Sg) : Option (Int32 × Sg) :=
  bnd (gI s b0 1) fun x1 =>
  bnd (sI s b0 1 (0 : Int32)) fun s2 =>
  some (x1, s2)
theorem ct_X7_clear {g : Gl} {b0 : Nat} {n0 : Nat} {s : Sg} {w : Int32 × Sg} (hb0 : isTx b0 n0) (h : fX7_clear b0 n0 s = some w) : Ct SS g iX7_clear 0 0 [.ref (gad g b0)] s (Dt (some (.int w.1)) w.2) := by
  refine Ct.ofV (by decide +kernel) 1 (lv0 := [some (.ref (gad g b0)), none]) rfl rfl (fun M hC => ?_)
  have hP : (Dt (some (.int w.1)) w.2) (some (.int w.1)) w.2 := ⟨rfl, rfl⟩
  generalize Dt (some (.int w.1)) w.2 = P at hP ⊢
  unfold fX7_clear at h
  refine v_aload_n (pc := 0) hC dX7_clear_0 rfl ?_
  refine v_gt (pc := 1) 1 (.int (gI s b0 1)) hC hb0.1 rfl rfl rfl rfl fl_X7_19 dX7_clear_1 ?_
  obtain ⟨x1, hx1, h⟩ := bnd_s h
  refine v_istore_n (pc := 4) (lv' := [some (.ref (gad g b0)), some (.int x1)]) hC dX7_clear_4 hx1 rfl rfl rfl ?_
  refine v_aload_n (pc := 5) hC dX7_clear_5 rfl ?_
  refine v_iconst (pc := 6) (0 : Int32) rfl hC dX7_clear_6 ?_
  obtain ⟨s2, hs2, h⟩ := bnd_s h
  refine v_pI (pc := 7) 1 hC hb0.1 rfl rfl rfl rfl rfl rfl fl_X7_19 hs2 dX7_clear_7 ?_
  refine v_iload_n (pc := 10) hC dX7_clear_10 rfl ?_
  obtain rfl := Option.some.inj h
  exact v_iret (pc := 11) hC rfl dX7_clear_11 hP
theorem dX8_survey_0 : decode cX8_survey 0 = .ok (.aload_n 0, 1) := by decide +kernel
theorem dX8_survey_1 : decode cX8_survey 1 = .ok (.getfield 18, 3) := by decide +kernel
theorem dX8_survey_4 : decode cX8_survey 4 = .ok (.invokevirtual 50, 3) := by decide +kernel
theorem dX8_survey_7 : decode cX8_survey 7 = .ok (.iconst 0, 1) := by decide +kernel
theorem dX8_survey_8 : decode cX8_survey 8 = .ok (.istore_n 1, 1) := by decide +kernel
theorem dX8_survey_9 : decode cX8_survey 9 = .ok (.iload_n 1, 1) := by decide +kernel
theorem dX8_survey_10 : decode cX8_survey 10 = .ok (.aload_n 0, 1) := by decide +kernel
theorem dX8_survey_11 : decode cX8_survey 11 = .ok (.getfield 9, 3) := by decide +kernel
theorem dX8_survey_14 : decode cX8_survey 14 = .ok (.getfield 53, 3) := by decide +kernel
theorem dX8_survey_17 : decode cX8_survey 17 = .ok (.if_icmp .ge 107, 3) := by decide +kernel
theorem dX8_survey_20 : decode cX8_survey 20 = .ok (.aload_n 0, 1) := by decide +kernel
theorem dX8_survey_21 : decode cX8_survey 21 = .ok (.getfield 25, 3) := by decide +kernel
theorem dX8_survey_24 : decode cX8_survey 24 = .ok (.iload_n 1, 1) := by decide +kernel
theorem dX8_survey_25 : decode cX8_survey 25 = .ok (.aload_n 0, 1) := by decide +kernel
theorem dX8_survey_26 : decode cX8_survey 26 = .ok (.getfield 9, 3) := by decide +kernel
theorem dX8_survey_29 : decode cX8_survey 29 = .ok (.iload_n 1, 1) := by decide +kernel
theorem dX8_survey_30 : decode cX8_survey 30 = .ok (.invokevirtual 58, 3) := by decide +kernel
theorem dX8_survey_33 : decode cX8_survey 33 = .ok (.bastore, 1) := by decide +kernel
theorem dX8_survey_34 : decode cX8_survey 34 = .ok (.aload_n 0, 1) := by decide +kernel
theorem dX8_survey_35 : decode cX8_survey 35 = .ok (.getfield 29, 3) := by decide +kernel
theorem dX8_survey_38 : decode cX8_survey 38 = .ok (.iload_n 1, 1) := by decide +kernel
theorem dX8_survey_39 : decode cX8_survey 39 = .ok (.aload_n 0, 1) := by decide +kernel
theorem dX8_survey_40 : decode cX8_survey 40 = .ok (.getfield 25, 3) := by decide +kernel
theorem dX8_survey_43 : decode cX8_survey 43 = .ok (.iload_n 1, 1) := by decide +kernel
theorem dX8_survey_44 : decode cX8_survey 44 = .ok (.baload, 1) := by decide +kernel
theorem dX8_survey_45 : decode cX8_survey 45 = .ok (.ifCond .eq 14, 3) := by decide +kernel
theorem dX8_survey_48 : decode cX8_survey 48 = .ok (.aload_n 0, 1) := by decide +kernel
theorem dX8_survey_49 : decode cX8_survey 49 = .ok (.getfield 9, 3) := by decide +kernel
theorem dX8_survey_52 : decode cX8_survey 52 = .ok (.iload_n 1, 1) := by decide +kernel
theorem dX8_survey_53 : decode cX8_survey 53 = .ok (.invokevirtual 62, 3) := by decide +kernel
theorem dX8_survey_56 : decode cX8_survey 56 = .ok (.goto 4, 3) := by decide +kernel
theorem dX8_survey_59 : decode cX8_survey 59 = .ok (.iconst 0, 1) := by decide +kernel
theorem dX8_survey_60 : decode cX8_survey 60 = .ok (.iastore, 1) := by decide +kernel
theorem dX8_survey_61 : decode cX8_survey 61 = .ok (.aload_n 0, 1) := by decide +kernel
theorem dX8_survey_62 : decode cX8_survey 62 = .ok (.getfield 25, 3) := by decide +kernel
theorem dX8_survey_65 : decode cX8_survey 65 = .ok (.iload_n 1, 1) := by decide +kernel
theorem dX8_survey_66 : decode cX8_survey 66 = .ok (.baload, 1) := by decide +kernel
theorem dX8_survey_67 : decode cX8_survey 67 = .ok (.ifCond .eq 51, 3) := by decide +kernel
theorem dX8_survey_70 : decode cX8_survey 70 = .ok (.aload_n 0, 1) := by decide +kernel
theorem dX8_survey_71 : decode cX8_survey 71 = .ok (.getfield 18, 3) := by decide +kernel
theorem dX8_survey_74 : decode cX8_survey 74 = .ok (.getfield 66, 3) := by decide +kernel
theorem dX8_survey_77 : decode cX8_survey 77 = .ok (.aload_n 0, 1) := by decide +kernel
theorem dX8_survey_78 : decode cX8_survey 78 = .ok (.getfield 9, 3) := by decide +kernel
theorem dX8_survey_81 : decode cX8_survey 81 = .ok (.getfield 69, 3) := by decide +kernel
theorem dX8_survey_84 : decode cX8_survey 84 = .ok (.iload_n 1, 1) := by decide +kernel
theorem dX8_survey_85 : decode cX8_survey 85 = .ok (.iaload, 1) := by decide +kernel
theorem dX8_survey_86 : decode cX8_survey 86 = .ok (.dup2, 1) := by decide +kernel
theorem dX8_survey_87 : decode cX8_survey 87 = .ok (.iaload, 1) := by decide +kernel
theorem dX8_survey_88 : decode cX8_survey 88 = .ok (.iconst 1, 1) := by decide +kernel
theorem dX8_survey_89 : decode cX8_survey 89 = .ok (.iadd, 1) := by decide +kernel
theorem dX8_survey_90 : decode cX8_survey 90 = .ok (.iastore, 1) := by decide +kernel
theorem dX8_survey_91 : decode cX8_survey 91 = .ok (.aload_n 0, 1) := by decide +kernel
theorem dX8_survey_92 : decode cX8_survey 92 = .ok (.getfield 18, 3) := by decide +kernel
theorem dX8_survey_95 : decode cX8_survey 95 = .ok (.getfield 72, 3) := by decide +kernel
theorem dX8_survey_98 : decode cX8_survey 98 = .ok (.aload_n 0, 1) := by decide +kernel
theorem dX8_survey_99 : decode cX8_survey 99 = .ok (.getfield 9, 3) := by decide +kernel
theorem dX8_survey_102 : decode cX8_survey 102 = .ok (.getfield 69, 3) := by decide +kernel
theorem dX8_survey_105 : decode cX8_survey 105 = .ok (.iload_n 1, 1) := by decide +kernel
theorem dX8_survey_106 : decode cX8_survey 106 = .ok (.iaload, 1) := by decide +kernel
theorem dX8_survey_107 : decode cX8_survey 107 = .ok (.dup2, 1) := by decide +kernel
theorem dX8_survey_108 : decode cX8_survey 108 = .ok (.laload, 1) := by decide +kernel
theorem dX8_survey_109 : decode cX8_survey 109 = .ok (.aload_n 0, 1) := by decide +kernel
theorem dX8_survey_110 : decode cX8_survey 110 = .ok (.getfield 29, 3) := by decide +kernel
theorem dX8_survey_113 : decode cX8_survey 113 = .ok (.iload_n 1, 1) := by decide +kernel
theorem dX8_survey_114 : decode cX8_survey 114 = .ok (.iaload, 1) := by decide +kernel
theorem dX8_survey_115 : decode cX8_survey 115 = .ok (.i2l, 1) := by decide +kernel
theorem dX8_survey_116 : decode cX8_survey 116 = .ok (.ladd, 1) := by decide +kernel
theorem dX8_survey_117 : decode cX8_survey 117 = .ok (.lastore, 1) := by decide +kernel
theorem dX8_survey_118 : decode cX8_survey 118 = .ok (.iinc 1 1, 3) := by decide +kernel
theorem dX8_survey_121 : decode cX8_survey 121 = .ok (.goto (-112), 3) := by decide +kernel
theorem dX8_survey_124 : decode cX8_survey 124 = .ok (.aload_n 0, 1) := by decide +kernel
theorem dX8_survey_125 : decode cX8_survey 125 = .ok (.getfield 18, 3) := by decide +kernel
theorem dX8_survey_128 : decode cX8_survey 128 = .ok (.invokevirtual 75, 3) := by decide +kernel
theorem dX8_survey_131 : decode cX8_survey 131 = .ok (.aload_n 0, 1) := by decide +kernel
theorem dX8_survey_132 : decode cX8_survey 132 = .ok (.getfield 22, 3) := by decide +kernel
theorem dX8_survey_135 : decode cX8_survey 135 = .ok (.aload_n 0, 1) := by decide +kernel
theorem dX8_survey_136 : decode cX8_survey 136 = .ok (.getfield 18, 3) := by decide +kernel
theorem dX8_survey_139 : decode cX8_survey 139 = .ok (.invokevirtual 78, 3) := by decide +kernel
theorem dX8_survey_142 : decode cX8_survey 142 = .ok (.return_, 1) := by decide +kernel
def fX8_survey_L9  (a : Int32) (s : Sg) : Option (((Int32) ⊕ (Unit)) × Sg) :=
  if (gI s 1 1) ≤ a then
  some (.inr (), s)
  else
  (fX3_hasDiff a s).bind fun w2 =>
  (wZ w2.2 20 64 a w2.1).bind fun s3 =>
  (aI s3 20 64 a).bind fun v4 =>
  ((if v4 = 0 then
  some ((0 : Int32), s3)
  else
  (fX3_doubledDiff a s3).bind fun w21 =>
  some (w21.1, w21.2)) : Option (Int32 × Sg)).bind fun w5 =>
  (wI w5.2 21 64 a w5.1).bind fun s7 =>
  (aI s7 20 64 a).bind fun v8 =>
  ((if v8 = 0 then
  some s7
  else
  (aI s7 6 64 a).bind fun v13 =>
  (aI s7 10 8 v13).bind fun v14 =>
  (wI s7 10 8 v13 (v14 + (1 : Int32))).bind fun s15 =>
  (aI s15 6 64 a).bind fun v16 =>
  (aL s15 11 8 v16).bind fun v17 =>
  (aI s15 21 64 a).bind fun v18 =>
  (wL s15 11 8 v16 (v17 + ((v18).toInt64))).bind fun s19 =>
  some s19) : Option (Sg)).bind fun w9 =>
  bnd (a + (1 : Int32)) fun x11 =>
  some (.inl x11, w9)
def fX8_survey  (s : Sg) : Option (Sg) :=
  (fX1_clear 9 s).bind fun w1 =>
  (lpG (fX8_survey_L9) FU (0 : Int32) w1).bind fun w2 =>
  (fX1_settle 9 w2.2).bind fun w3 =>
  (fX1_becomeShapeOf 14 9 w3).bind fun w4 =>
  some w4
theorem ct_X8_survey {g : Gl}  {s : Sg} {w : Sg}  (h : fX8_survey s = some w) : Ct SS g iX8_survey 4 99 [.ref (gad g 19)] s (Dt none w) := by
  refine Ct.ofV (by decide +kernel) 1 (lv0 := [some (.ref (gad g 19)), none]) rfl rfl (fun M hC => ?_)
  have hP : (Dt none w) none w := ⟨rfl, rfl⟩
  generalize Dt none w = P at hP ⊢
  unfold fX8_survey at h
  refine v_aload_n (pc := 0) hC dX8_survey_0 rfl ?_
  refine v_gt (pc := 1) 1 (.ref (gad g 9)) hC s_19 rfl rfl rfl rfl fl_X8_18 dX8_survey_1 ?_
  obtain ⟨w1, hw1, h⟩ := obd_s h
  refine v_cV (pc := 4) [] [] gm_X1_clear hC s_9 rfl rfl (ct_X1_clear lv_9 hw1) ml_X8_50 rfl rfl rfl rfl rfl rfl dX8_survey_4 ?_
  refine v_iconst (pc := 7) (0 : Int32) rfl hC dX8_survey_7 ?_
  refine v_istore_n (pc := 8) (lv' := [some (.ref (gad g 19)), some (.int (0 : Int32))]) hC dX8_survey_8 rfl rfl rfl rfl ?_
  obtain ⟨w2, hw2, h⟩ := obd_s h
  have kx32 : V SS g M iX8_survey (PQ SS g M P) 124 [some (.ref (gad g 19)), none] [] w2.2 := by
    refine v_aload_n (pc := 124) hC dX8_survey_124 rfl ?_
    refine v_gt (pc := 125) 1 (.ref (gad g 9)) hC s_19 rfl rfl rfl rfl fl_X8_18 dX8_survey_125 ?_
    obtain ⟨w3, hw3, h⟩ := obd_s h
    refine v_cV (pc := 128) [] [] gm_X1_settle hC s_9 rfl rfl (ct_X1_settle lv_9 hw3) ml_X8_75 rfl rfl rfl rfl rfl rfl dX8_survey_128 ?_
    refine v_aload_n (pc := 131) hC dX8_survey_131 rfl ?_
    refine v_gt (pc := 132) 2 (.ref (gad g 14)) hC s_19 rfl rfl rfl rfl fl_X8_22 dX8_survey_132 ?_
    refine v_aload_n (pc := 135) hC dX8_survey_135 rfl ?_
    refine v_gt (pc := 136) 1 (.ref (gad g 9)) hC s_19 rfl rfl rfl rfl fl_X8_18 dX8_survey_136 ?_
    obtain ⟨w4, hw4, h⟩ := obd_s h
    refine v_cV (pc := 139) [] [] gm_X1_becomeShapeOf hC s_14 rfl rfl (ct_X1_becomeShapeOf lv_14 lv_9 hw4) ml_X8_78 rfl rfl rfl rfl rfl rfl dX8_survey_139 ?_
    obtain rfl := Option.some.inj h
    exact v_vret (pc := 142) hC rfl dX8_survey_142 hP
  refine V.ls (ls_some (ls_some ls_nil)) (v_loop (pc := 9) (fun a7 => [some (.ref (gad g 19)), some (.int a7)]) (fun z t => V SS g M iX8_survey (PQ SS g M P) 124 [some (.ref (gad g 19)), none] [] t) (fun a7 s5 u6 hu6 k8 k9 => ?_) _ _ _ _ hw2 kx32)
  unfold fX8_survey_L9 at hu6
  refine v_iload_n (pc := 9) hC dX8_survey_9 rfl ?_
  refine v_aload_n (pc := 10) hC dX8_survey_10 rfl ?_
  refine v_gt (pc := 11) 0 (.ref (gad g 1)) hC s_19 rfl rfl rfl rfl fl_X8_9 dX8_survey_11 ?_
  refine v_gtN (pc := 14) 1 (.int (gI s5 1 1)) hC s_1 rfl rfl rfl rfl fl_X8_53 dX8_survey_14 ?_
  refine v_ic_ge (pc := 17) (tgt := 124) hC dX8_survey_17 rfl (fun c11 => ?_) (fun c11 => ?_)
  · replace hu6 := (if_pos c11).symm.trans hu6
    obtain rfl := Option.some.inj hu6
    exact V.ls (ls_some (ls_none ls_nil)) (k9 _ rfl)
  · replace hu6 := (if_neg c11).symm.trans hu6
    refine v_aload_n (pc := 20) hC dX8_survey_20 rfl ?_
    refine v_gt (pc := 21) 3 (.ref (gad g 20)) hC s_19 rfl rfl rfl rfl fl_X8_25 dX8_survey_21 ?_
    refine v_iload_n (pc := 24) hC dX8_survey_24 rfl ?_
    refine v_aload_n (pc := 25) hC dX8_survey_25 rfl ?_
    refine v_gt (pc := 26) 0 (.ref (gad g 1)) hC s_19 rfl rfl rfl rfl fl_X8_9 dX8_survey_26 ?_
    refine v_iload_n (pc := 29) hC dX8_survey_29 rfl ?_
    obtain ⟨w12, hw12, hu6⟩ := obd_s hu6
    refine v_cV (pc := 30) [.int a7, .ref (gad g 20)] [.int w12.1, .int a7, .ref (gad g 20)] gm_X3_hasDiff hC s_1 rfl rfl (ct_X3_hasDiff  hw12) ml_X8_58 rfl rfl rfl rfl rfl rfl dX8_survey_30 ?_
    obtain ⟨s13, hs13, hu6⟩ := obd_s hu6
    refine v_wZ (pc := 33) hC s_20 hs13 dX8_survey_33 ?_
    refine v_aload_n (pc := 34) hC dX8_survey_34 rfl ?_
    refine v_gt (pc := 35) 4 (.ref (gad g 21)) hC s_19 rfl rfl rfl rfl fl_X8_29 dX8_survey_35 ?_
    refine v_iload_n (pc := 38) hC dX8_survey_38 rfl ?_
    refine v_aload_n (pc := 39) hC dX8_survey_39 rfl ?_
    refine v_gt (pc := 40) 3 (.ref (gad g 20)) hC s_19 rfl rfl rfl rfl fl_X8_25 dX8_survey_40 ?_
    refine v_iload_n (pc := 43) hC dX8_survey_43 rfl ?_
    obtain ⟨v14, hv14, hu6⟩ := obd_s hu6
    refine v_aZ (pc := 44) hC s_20 hv14 dX8_survey_44 ?_
    obtain ⟨w15, hw15, hu6⟩ := obd_s hu6
    have kj16 : V SS g M iX8_survey (PQ SS g M P) 60 [some (.ref (gad g 19)), some (.int a7)] [.int w15.1, .int a7, .ref (gad g 21)] w15.2 := by
      obtain ⟨s17, hs17, hu6⟩ := obd_s hu6
      refine v_wI (pc := 60) hC s_21 hs17 dX8_survey_60 ?_
      refine v_aload_n (pc := 61) hC dX8_survey_61 rfl ?_
      refine v_gt (pc := 62) 3 (.ref (gad g 20)) hC s_19 rfl rfl rfl rfl fl_X8_25 dX8_survey_62 ?_
      refine v_iload_n (pc := 65) hC dX8_survey_65 rfl ?_
      obtain ⟨v18, hv18, hu6⟩ := obd_s hu6
      refine v_aZ (pc := 66) hC s_20 hv18 dX8_survey_66 ?_
      obtain ⟨w19, hw19, hu6⟩ := obd_s hu6
      have kj20 : V SS g M iX8_survey (PQ SS g M P) 118 [some (.ref (gad g 19)), some (.int a7)] [] w19 := by
        obtain ⟨x21, hx21, hu6⟩ := bnd_s hu6
        refine v_iinc (pc := 118) (lv' := [some (.ref (gad g 19)), some (.int x21)]) (1 : Int32) rfl hx21 hC dX8_survey_118 rfl rfl rfl rfl ?_
        refine v_goto (pc := 121) (tgt := 9) hC dX8_survey_121 rfl ?_
        obtain rfl := Option.some.inj hu6
        exact V.ls (ls_some (ls_some ls_nil)) (k8 _ rfl)
      refine v_if_eq (pc := 67) (tgt := 118) hC dX8_survey_67 rfl (fun c22 => ?_) (fun c22 => ?_)
      · replace hw19 := (if_pos c22).symm.trans hw19
        obtain rfl := Option.some.inj hw19
        exact V.ls (ls_some (ls_some ls_nil)) kj20
      · replace hw19 := (if_neg c22).symm.trans hw19
        refine v_aload_n (pc := 70) hC dX8_survey_70 rfl ?_
        refine v_gt (pc := 71) 1 (.ref (gad g 9)) hC s_19 rfl rfl rfl rfl fl_X8_18 dX8_survey_71 ?_
        refine v_gtN (pc := 74) 0 (.ref (gad g 10)) hC s_9 rfl rfl rfl rfl fl_X8_66 dX8_survey_74 ?_
        refine v_aload_n (pc := 77) hC dX8_survey_77 rfl ?_
        refine v_gt (pc := 78) 0 (.ref (gad g 1)) hC s_19 rfl rfl rfl rfl fl_X8_9 dX8_survey_78 ?_
        refine v_gtN (pc := 81) 6 (.ref (gad g 6)) hC s_1 rfl rfl rfl rfl fl_X8_69 dX8_survey_81 ?_
        refine v_iload_n (pc := 84) hC dX8_survey_84 rfl ?_
        obtain ⟨v23, hv23, hw19⟩ := obd_s hw19
        refine v_aI (pc := 85) hC s_6 hv23 dX8_survey_85 ?_
        refine v_dup2 (pc := 86) hC rfl rfl dX8_survey_86 ?_
        obtain ⟨v24, hv24, hw19⟩ := obd_s hw19
        refine v_aI (pc := 87) hC s_10 hv24 dX8_survey_87 ?_
        refine v_iconst (pc := 88) (1 : Int32) rfl hC dX8_survey_88 ?_
        refine v_iadd (pc := 89) hC dX8_survey_89 ?_
        obtain ⟨s25, hs25, hw19⟩ := obd_s hw19
        refine v_wI (pc := 90) hC s_10 hs25 dX8_survey_90 ?_
        refine v_aload_n (pc := 91) hC dX8_survey_91 rfl ?_
        refine v_gt (pc := 92) 1 (.ref (gad g 9)) hC s_19 rfl rfl rfl rfl fl_X8_18 dX8_survey_92 ?_
        refine v_gtN (pc := 95) 1 (.ref (gad g 11)) hC s_9 rfl rfl rfl rfl fl_X8_72 dX8_survey_95 ?_
        refine v_aload_n (pc := 98) hC dX8_survey_98 rfl ?_
        refine v_gt (pc := 99) 0 (.ref (gad g 1)) hC s_19 rfl rfl rfl rfl fl_X8_9 dX8_survey_99 ?_
        refine v_gtN (pc := 102) 6 (.ref (gad g 6)) hC s_1 rfl rfl rfl rfl fl_X8_69 dX8_survey_102 ?_
        refine v_iload_n (pc := 105) hC dX8_survey_105 rfl ?_
        obtain ⟨v26, hv26, hw19⟩ := obd_s hw19
        refine v_aI (pc := 106) hC s_6 hv26 dX8_survey_106 ?_
        refine v_dup2 (pc := 107) hC rfl rfl dX8_survey_107 ?_
        obtain ⟨v27, hv27, hw19⟩ := obd_s hw19
        refine v_aL (pc := 108) hC s_11 hv27 dX8_survey_108 ?_
        refine v_aload_n (pc := 109) hC dX8_survey_109 rfl ?_
        refine v_gt (pc := 110) 4 (.ref (gad g 21)) hC s_19 rfl rfl rfl rfl fl_X8_29 dX8_survey_110 ?_
        refine v_iload_n (pc := 113) hC dX8_survey_113 rfl ?_
        obtain ⟨v28, hv28, hw19⟩ := obd_s hw19
        refine v_aI (pc := 114) hC s_21 hv28 dX8_survey_114 ?_
        refine v_i2l (pc := 115) hC dX8_survey_115 ?_
        refine v_ladd (pc := 116) hC dX8_survey_116 ?_
        obtain ⟨s29, hs29, hw19⟩ := obd_s hw19
        refine v_wL (pc := 117) hC s_11 hs29 dX8_survey_117 ?_
        obtain rfl := Option.some.inj hw19
        exact V.ls (ls_some (ls_some ls_nil)) kj20
    refine v_if_eq (pc := 45) (tgt := 59) hC dX8_survey_45 rfl (fun c30 => ?_) (fun c30 => ?_)
    · replace hw15 := (if_pos c30).symm.trans hw15
      refine v_iconst (pc := 59) (0 : Int32) rfl hC dX8_survey_59 ?_
      obtain rfl := Option.some.inj hw15
      exact V.ls (ls_some (ls_some ls_nil)) kj16
    · replace hw15 := (if_neg c30).symm.trans hw15
      refine v_aload_n (pc := 48) hC dX8_survey_48 rfl ?_
      refine v_gt (pc := 49) 0 (.ref (gad g 1)) hC s_19 rfl rfl rfl rfl fl_X8_9 dX8_survey_49 ?_
      refine v_iload_n (pc := 52) hC dX8_survey_52 rfl ?_
      obtain ⟨w31, hw31, hw15⟩ := obd_s hw15
      refine v_cV (pc := 53) [.int a7, .ref (gad g 21)] [.int w31.1, .int a7, .ref (gad g 21)] gm_X3_doubledDiff hC s_1 rfl rfl (ct_X3_doubledDiff  hw31) ml_X8_62 rfl rfl rfl rfl rfl rfl dX8_survey_53 ?_
      refine v_goto (pc := 56) (tgt := 60) hC dX8_survey_56 rfl ?_
      obtain rfl := Option.some.inj hw15
      exact V.ls (ls_some (ls_some ls_nil)) kj16
theorem dJ6_compare_7cf53_0 : decode cJ6_compare_7cf53 0 = .ok (.iload_n 0, 1) := by decide +kernel
theorem dJ6_compare_7cf53_1 : decode cJ6_compare_7cf53 1 = .ok (.iload_n 1, 1) := by decide +kernel
theorem dJ6_compare_7cf53_2 : decode cJ6_compare_7cf53 2 = .ok (.if_icmp .ge 7, 3) := by decide +kernel
theorem dJ6_compare_7cf53_5 : decode cJ6_compare_7cf53 5 = .ok (.iconst (-1), 1) := by decide +kernel
theorem dJ6_compare_7cf53_6 : decode cJ6_compare_7cf53 6 = .ok (.goto 13, 3) := by decide +kernel
theorem dJ6_compare_7cf53_9 : decode cJ6_compare_7cf53 9 = .ok (.iload_n 0, 1) := by decide +kernel
theorem dJ6_compare_7cf53_10 : decode cJ6_compare_7cf53 10 = .ok (.iload_n 1, 1) := by decide +kernel
theorem dJ6_compare_7cf53_11 : decode cJ6_compare_7cf53 11 = .ok (.if_icmp .ne 7, 3) := by decide +kernel
theorem dJ6_compare_7cf53_14 : decode cJ6_compare_7cf53 14 = .ok (.iconst 0, 1) := by decide +kernel
theorem dJ6_compare_7cf53_15 : decode cJ6_compare_7cf53 15 = .ok (.goto 4, 3) := by decide +kernel
theorem dJ6_compare_7cf53_18 : decode cJ6_compare_7cf53 18 = .ok (.iconst 1, 1) := by decide +kernel
theorem dJ6_compare_7cf53_19 : decode cJ6_compare_7cf53 19 = .ok (.ireturn, 1) := by decide +kernel
def fJ6_compare_7cf53 (x0_ : Int32) (x1_ : Int32) (s : Sg) : Option (Int32 × Sg) :=
  if x1_ ≤ x0_ then
  if x0_ = x1_ then
  some ((0 : Int32), s)
  else
  some ((1 : Int32), s)
  else
  some ((-1 : Int32), s)
theorem ct_J6_compare_7cf53 {g : Gl} {x0_ : Int32} {x1_ : Int32} {s : Sg} {w : Int32 × Sg}  (h : fJ6_compare_7cf53 x0_ x1_ s = some w) : Ct SS g iJ6_compare_7cf53 0 0 [.int x0_, .int x1_] s (Dt (some (.int w.1)) w.2) := by
  refine Ct.ofV (by decide +kernel) 0 (lv0 := [some (.int x0_), some (.int x1_)]) rfl rfl (fun M hC => ?_)
  have hP : (Dt (some (.int w.1)) w.2) (some (.int w.1)) w.2 := ⟨rfl, rfl⟩
  generalize Dt (some (.int w.1)) w.2 = P at hP ⊢
  unfold fJ6_compare_7cf53 at h
  refine v_iload_n (pc := 0) hC dJ6_compare_7cf53_0 rfl ?_
  refine v_iload_n (pc := 1) hC dJ6_compare_7cf53_1 rfl ?_
  refine v_ic_ge (pc := 2) (tgt := 9) hC dJ6_compare_7cf53_2 rfl (fun c2 => ?_) (fun c2 => ?_)
  · replace h := (if_pos c2).symm.trans h
    refine v_iload_n (pc := 9) hC dJ6_compare_7cf53_9 rfl ?_
    refine v_iload_n (pc := 10) hC dJ6_compare_7cf53_10 rfl ?_
    refine v_ic_ne (pc := 11) (tgt := 18) hC dJ6_compare_7cf53_11 rfl (fun c1 => ?_) (fun c1 => ?_)
    · replace h := (if_neg c1).symm.trans h
      refine v_iconst (pc := 18) (1 : Int32) rfl hC dJ6_compare_7cf53_18 ?_
      obtain rfl := Option.some.inj h
      exact v_iret (pc := 19) hC rfl dJ6_compare_7cf53_19 hP
    · replace h := (if_pos c1).symm.trans h
      refine v_iconst (pc := 14) (0 : Int32) rfl hC dJ6_compare_7cf53_14 ?_
      refine v_goto (pc := 15) (tgt := 19) hC dJ6_compare_7cf53_15 rfl ?_
      obtain rfl := Option.some.inj h
      exact v_iret (pc := 19) hC rfl dJ6_compare_7cf53_19 hP
  · replace h := (if_neg c2).symm.trans h
    refine v_iconst (pc := 5) (-1 : Int32) rfl hC dJ6_compare_7cf53_5 ?_
    refine v_goto (pc := 6) (tgt := 19) hC dJ6_compare_7cf53_6 rfl ?_
    obtain rfl := Option.some.inj h
    exact v_iret (pc := 19) hC rfl dJ6_compare_7cf53_19 hP
theorem dX8_leanOfPair_0 : decode cX8_leanOfPair 0 = .ok (.aload_n 0, 1) := by decide +kernel
theorem dX8_leanOfPair_1 : decode cX8_leanOfPair 1 = .ok (.getfield 29, 3) := by decide +kernel
theorem dX8_leanOfPair_4 : decode cX8_leanOfPair 4 = .ok (.iload_n 2, 1) := by decide +kernel
theorem dX8_leanOfPair_5 : decode cX8_leanOfPair 5 = .ok (.iaload, 1) := by decide +kernel
theorem dX8_leanOfPair_6 : decode cX8_leanOfPair 6 = .ok (.aload_n 0, 1) := by decide +kernel
theorem dX8_leanOfPair_7 : decode cX8_leanOfPair 7 = .ok (.getfield 29, 3) := by decide +kernel
theorem dX8_leanOfPair_10 : decode cX8_leanOfPair 10 = .ok (.iload_n 1, 1) := by decide +kernel
theorem dX8_leanOfPair_11 : decode cX8_leanOfPair 11 = .ok (.iaload, 1) := by decide +kernel
theorem dX8_leanOfPair_12 : decode cX8_leanOfPair 12 = .ok (.invokestatic 95, 3) := by decide +kernel
theorem dX8_leanOfPair_15 : decode cX8_leanOfPair 15 = .ok (.istore_n 3, 1) := by decide +kernel
theorem dX8_leanOfPair_16 : decode cX8_leanOfPair 16 = .ok (.aload_n 0, 1) := by decide +kernel
theorem dX8_leanOfPair_17 : decode cX8_leanOfPair 17 = .ok (.getfield 9, 3) := by decide +kernel
theorem dX8_leanOfPair_20 : decode cX8_leanOfPair 20 = .ok (.getfield 69, 3) := by decide +kernel
theorem dX8_leanOfPair_23 : decode cX8_leanOfPair 23 = .ok (.iload_n 2, 1) := by decide +kernel
theorem dX8_leanOfPair_24 : decode cX8_leanOfPair 24 = .ok (.iaload, 1) := by decide +kernel
theorem dX8_leanOfPair_25 : decode cX8_leanOfPair 25 = .ok (.aload_n 0, 1) := by decide +kernel
theorem dX8_leanOfPair_26 : decode cX8_leanOfPair 26 = .ok (.getfield 9, 3) := by decide +kernel
theorem dX8_leanOfPair_29 : decode cX8_leanOfPair 29 = .ok (.getfield 69, 3) := by decide +kernel
theorem dX8_leanOfPair_32 : decode cX8_leanOfPair 32 = .ok (.iload_n 1, 1) := by decide +kernel
theorem dX8_leanOfPair_33 : decode cX8_leanOfPair 33 = .ok (.iaload, 1) := by decide +kernel
theorem dX8_leanOfPair_34 : decode cX8_leanOfPair 34 = .ok (.if_icmp .le 7, 3) := by decide +kernel
theorem dX8_leanOfPair_37 : decode cX8_leanOfPair 37 = .ok (.iload_n 3, 1) := by decide +kernel
theorem dX8_leanOfPair_38 : decode cX8_leanOfPair 38 = .ok (.goto 5, 3) := by decide +kernel
theorem dX8_leanOfPair_41 : decode cX8_leanOfPair 41 = .ok (.iload_n 3, 1) := by decide +kernel
theorem dX8_leanOfPair_42 : decode cX8_leanOfPair 42 = .ok (.ineg, 1) := by decide +kernel
theorem dX8_leanOfPair_43 : decode cX8_leanOfPair 43 = .ok (.ireturn, 1) := by decide +kernel
def fX8_leanOfPair (x0_ : Int32) (x1_ : Int32) (s : Sg) : Option (Int32 × Sg) :=
  (aI s 21 64 x1_).bind fun v1 =>
  (aI s 21 64 x0_).bind fun v2 =>
  (fJ6_compare_7cf53 v1 v2 s).bind fun w3 =>
  (aI w3.2 6 64 x1_).bind fun v4 =>
  (aI w3.2 6 64 x0_).bind fun v5 =>
  if v4 ≤ v5 then
  some ((-w3.1), w3.2)
  else
  some (w3.1, w3.2)
theorem ct_X8_leanOfPair {g : Gl} {x0_ : Int32} {x1_ : Int32} {s : Sg} {w : Int32 × Sg}  (h : fX8_leanOfPair x0_ x1_ s = some w) : Ct SS g iX8_leanOfPair 1 21 [.ref (gad g 19), .int x0_, .int x1_] s (Dt (some (.int w.1)) w.2) := by
  refine Ct.ofV (by decide +kernel) 1 (lv0 := [some (.ref (gad g 19)), some (.int x0_), some (.int x1_), none]) rfl rfl (fun M hC => ?_)
  have hP : (Dt (some (.int w.1)) w.2) (some (.int w.1)) w.2 := ⟨rfl, rfl⟩
  generalize Dt (some (.int w.1)) w.2 = P at hP ⊢
  unfold fX8_leanOfPair at h
  refine v_aload_n (pc := 0) hC dX8_leanOfPair_0 rfl ?_
  refine v_gt (pc := 1) 4 (.ref (gad g 21)) hC s_19 rfl rfl rfl rfl fl_X8_29 dX8_leanOfPair_1 ?_
  refine v_iload_n (pc := 4) hC dX8_leanOfPair_4 rfl ?_
  obtain ⟨v1, hv1, h⟩ := obd_s h
  refine v_aI (pc := 5) hC s_21 hv1 dX8_leanOfPair_5 ?_
  refine v_aload_n (pc := 6) hC dX8_leanOfPair_6 rfl ?_
  refine v_gt (pc := 7) 4 (.ref (gad g 21)) hC s_19 rfl rfl rfl rfl fl_X8_29 dX8_leanOfPair_7 ?_
  refine v_iload_n (pc := 10) hC dX8_leanOfPair_10 rfl ?_
  obtain ⟨v2, hv2, h⟩ := obd_s h
  refine v_aI (pc := 11) hC s_21 hv2 dX8_leanOfPair_11 ?_
  obtain ⟨w3, hw3, h⟩ := obd_s h
  refine v_cS (pc := 12) [] [.int w3.1] gm_J6_compare_7cf53 hC (ct_J6_compare_7cf53  hw3) ml_X8_95 rfl rfl rfl rfl rfl rfl dX8_leanOfPair_12 ?_
  refine v_istore_n (pc := 15) (lv' := [some (.ref (gad g 19)), some (.int x0_), some (.int x1_), some (.int w3.1)]) hC dX8_leanOfPair_15 rfl rfl rfl rfl ?_
  refine v_aload_n (pc := 16) hC dX8_leanOfPair_16 rfl ?_
  refine v_gt (pc := 17) 0 (.ref (gad g 1)) hC s_19 rfl rfl rfl rfl fl_X8_9 dX8_leanOfPair_17 ?_
  refine v_gtN (pc := 20) 6 (.ref (gad g 6)) hC s_1 rfl rfl rfl rfl fl_X8_69 dX8_leanOfPair_20 ?_
  refine v_iload_n (pc := 23) hC dX8_leanOfPair_23 rfl ?_
  obtain ⟨v4, hv4, h⟩ := obd_s h
  refine v_aI (pc := 24) hC s_6 hv4 dX8_leanOfPair_24 ?_
  refine v_aload_n (pc := 25) hC dX8_leanOfPair_25 rfl ?_
  refine v_gt (pc := 26) 0 (.ref (gad g 1)) hC s_19 rfl rfl rfl rfl fl_X8_9 dX8_leanOfPair_26 ?_
  refine v_gtN (pc := 29) 6 (.ref (gad g 6)) hC s_1 rfl rfl rfl rfl fl_X8_69 dX8_leanOfPair_29 ?_
  refine v_iload_n (pc := 32) hC dX8_leanOfPair_32 rfl ?_
  obtain ⟨v5, hv5, h⟩ := obd_s h
  refine v_aI (pc := 33) hC s_6 hv5 dX8_leanOfPair_33 ?_
  refine v_ic_le (pc := 34) (tgt := 41) hC dX8_leanOfPair_34 rfl (fun c6 => ?_) (fun c6 => ?_)
  · replace h := (if_pos c6).symm.trans h
    refine v_iload_n (pc := 41) hC dX8_leanOfPair_41 rfl ?_
    refine v_ineg (pc := 42) hC dX8_leanOfPair_42 ?_
    obtain rfl := Option.some.inj h
    exact v_iret (pc := 43) hC rfl dX8_leanOfPair_43 hP
  · replace h := (if_neg c6).symm.trans h
    refine v_iload_n (pc := 37) hC dX8_leanOfPair_37 rfl ?_
    refine v_goto (pc := 38) (tgt := 43) hC dX8_leanOfPair_38 rfl ?_
    obtain rfl := Option.some.inj h
    exact v_iret (pc := 43) hC rfl dX8_leanOfPair_43 hP
theorem dX8_findRan_0 : decode cX8_findRan 0 = .ok (.aload_n 0, 1) := by decide +kernel
theorem dX8_findRan_1 : decode cX8_findRan 1 = .ok (.iconst 0, 1) := by decide +kernel
theorem dX8_findRan_2 : decode cX8_findRan 2 = .ok (.putfield 36, 3) := by decide +kernel
theorem dX8_findRan_5 : decode cX8_findRan 5 = .ok (.aload_n 0, 1) := by decide +kernel
theorem dX8_findRan_6 : decode cX8_findRan 6 = .ok (.iconst 0, 1) := by decide +kernel
theorem dX8_findRan_7 : decode cX8_findRan 7 = .ok (.putfield 40, 3) := by decide +kernel
theorem dX8_findRan_10 : decode cX8_findRan 10 = .ok (.aload_n 0, 1) := by decide +kernel
theorem dX8_findRan_11 : decode cX8_findRan 11 = .ok (.getfield 33, 3) := by decide +kernel
theorem dX8_findRan_14 : decode cX8_findRan 14 = .ok (.iconst 0, 1) := by decide +kernel
theorem dX8_findRan_15 : decode cX8_findRan 15 = .ok (.iaload, 1) := by decide +kernel
theorem dX8_findRan_16 : decode cX8_findRan 16 = .ok (.istore_n 1, 1) := by decide +kernel
theorem dX8_findRan_17 : decode cX8_findRan 17 = .ok (.iconst 0, 1) := by decide +kernel
theorem dX8_findRan_18 : decode cX8_findRan 18 = .ok (.istore_n 2, 1) := by decide +kernel
theorem dX8_findRan_19 : decode cX8_findRan 19 = .ok (.iload_n 2, 1) := by decide +kernel
theorem dX8_findRan_20 : decode cX8_findRan 20 = .ok (.bipush 10, 2) := by decide +kernel
theorem dX8_findRan_22 : decode cX8_findRan 22 = .ok (.if_icmp .ge 55, 3) := by decide +kernel
theorem dX8_findRan_25 : decode cX8_findRan 25 = .ok (.iconst 0, 1) := by decide +kernel
theorem dX8_findRan_26 : decode cX8_findRan 26 = .ok (.istore_n 3, 1) := by decide +kernel
theorem dX8_findRan_27 : decode cX8_findRan 27 = .ok (.iload_n 2, 1) := by decide +kernel
theorem dX8_findRan_28 : decode cX8_findRan 28 = .ok (.istore 4, 2) := by decide +kernel
theorem dX8_findRan_30 : decode cX8_findRan 30 = .ok (.iload 4, 2) := by decide +kernel
theorem dX8_findRan_32 : decode cX8_findRan 32 = .ok (.bipush 10, 2) := by decide +kernel
theorem dX8_findRan_34 : decode cX8_findRan 34 = .ok (.if_icmp .ge 37, 3) := by decide +kernel
theorem dX8_findRan_37 : decode cX8_findRan 37 = .ok (.iload_n 3, 1) := by decide +kernel
theorem dX8_findRan_38 : decode cX8_findRan 38 = .ok (.aload_n 0, 1) := by decide +kernel
theorem dX8_findRan_39 : decode cX8_findRan 39 = .ok (.getfield 33, 3) := by decide +kernel
theorem dX8_findRan_42 : decode cX8_findRan 42 = .ok (.iload 4, 2) := by decide +kernel
theorem dX8_findRan_44 : decode cX8_findRan 44 = .ok (.iaload, 1) := by decide +kernel
theorem dX8_findRan_45 : decode cX8_findRan 45 = .ok (.iadd, 1) := by decide +kernel
theorem dX8_findRan_46 : decode cX8_findRan 46 = .ok (.istore_n 3, 1) := by decide +kernel
theorem dX8_findRan_47 : decode cX8_findRan 47 = .ok (.iload_n 3, 1) := by decide +kernel
theorem dX8_findRan_48 : decode cX8_findRan 48 = .ok (.iload_n 1, 1) := by decide +kernel
theorem dX8_findRan_49 : decode cX8_findRan 49 = .ok (.if_icmp .le 16, 3) := by decide +kernel
theorem dX8_findRan_52 : decode cX8_findRan 52 = .ok (.iload_n 3, 1) := by decide +kernel
theorem dX8_findRan_53 : decode cX8_findRan 53 = .ok (.istore_n 1, 1) := by decide +kernel
theorem dX8_findRan_54 : decode cX8_findRan 54 = .ok (.aload_n 0, 1) := by decide +kernel
theorem dX8_findRan_55 : decode cX8_findRan 55 = .ok (.iload_n 2, 1) := by decide +kernel
theorem dX8_findRan_56 : decode cX8_findRan 56 = .ok (.putfield 36, 3) := by decide +kernel
theorem dX8_findRan_59 : decode cX8_findRan 59 = .ok (.aload_n 0, 1) := by decide +kernel
theorem dX8_findRan_60 : decode cX8_findRan 60 = .ok (.iload 4, 2) := by decide +kernel
theorem dX8_findRan_62 : decode cX8_findRan 62 = .ok (.putfield 40, 3) := by decide +kernel
theorem dX8_findRan_65 : decode cX8_findRan 65 = .ok (.iinc 4 1, 3) := by decide +kernel
theorem dX8_findRan_68 : decode cX8_findRan 68 = .ok (.goto (-38), 3) := by decide +kernel
theorem dX8_findRan_71 : decode cX8_findRan 71 = .ok (.iinc 2 1, 3) := by decide +kernel
theorem dX8_findRan_74 : decode cX8_findRan 74 = .ok (.goto (-55), 3) := by decide +kernel
theorem dX8_findRan_77 : decode cX8_findRan 77 = .ok (.return_, 1) := by decide +kernel
def fX8_findRan_L30 (p2 : Int32) (a : Int32 × Int32 × Int32) (s : Sg) : Option (((Int32 × Int32 × Int32) ⊕ (Int32)) × Sg) :=
  if (10 : Int32) ≤ a.2.2 then
  some (.inr a.1, s)
  else
  (aI s 22 10 a.2.2).bind fun v2 =>
  bnd (a.2.1 + v2) fun x3 =>
  ((if x3 ≤ a.1 then
  some (a.1, s)
  else
  bnd (sI s 19 6 p2) fun s8 =>
  bnd (sI s8 19 7 a.2.2) fun s9 =>
  some (x3, s9)) : Option (Int32 × Sg)).bind fun w4 =>
  bnd (a.2.2 + (1 : Int32)) fun x6 =>
  some (.inl (w4.1, x3, x6), w4.2)
def fX8_findRan_L19  (a : Int32 × Int32) (s : Sg) : Option (((Int32 × Int32) ⊕ (Unit)) × Sg) :=
  if (10 : Int32) ≤ a.2 then
  some (.inr (), s)
  else
  (lpG (fX8_findRan_L30 a.2) FU (a.1, (0 : Int32), a.2) s).bind fun w2 =>
  bnd (a.2 + (1 : Int32)) fun x3 =>
  some (.inl (w2.1, x3), w2.2)
def fX8_findRan  (s : Sg) : Option (Sg) :=
  bnd (sI s 19 6 (0 : Int32)) fun s1 =>
  bnd (sI s1 19 7 (0 : Int32)) fun s2 =>
  (aI s2 22 10 (0 : Int32)).bind fun v3 =>
  (lpG (fX8_findRan_L19) FU (v3, (0 : Int32)) s2).bind fun w4 =>
  some w4.2
theorem ct_X8_findRan {g : Gl}  {s : Sg} {w : Sg}  (h : fX8_findRan s = some w) : Ct SS g iX8_findRan 0 0 [.ref (gad g 19)] s (Dt none w) := by
  refine Ct.ofV (by decide +kernel) 4 (lv0 := [some (.ref (gad g 19)), none, none, none, none]) rfl rfl (fun M hC => ?_)
  have hP : (Dt none w) none w := ⟨rfl, rfl⟩
  generalize Dt none w = P at hP ⊢
  unfold fX8_findRan at h
  refine v_aload_n (pc := 0) hC dX8_findRan_0 rfl ?_
  refine v_iconst (pc := 1) (0 : Int32) rfl hC dX8_findRan_1 ?_
  obtain ⟨s1, hs1, h⟩ := bnd_s h
  refine v_pI (pc := 2) 6 hC s_19 rfl rfl rfl rfl rfl rfl fl_X8_36 hs1 dX8_findRan_2 ?_
  refine v_aload_n (pc := 5) hC dX8_findRan_5 rfl ?_
  refine v_iconst (pc := 6) (0 : Int32) rfl hC dX8_findRan_6 ?_
  obtain ⟨s2, hs2, h⟩ := bnd_s h
  refine v_pI (pc := 7) 7 hC s_19 rfl rfl rfl rfl rfl rfl fl_X8_40 hs2 dX8_findRan_7 ?_
  refine v_aload_n (pc := 10) hC dX8_findRan_10 rfl ?_
  refine v_gt (pc := 11) 5 (.ref (gad g 22)) hC s_19 rfl rfl rfl rfl fl_X8_33 dX8_findRan_11 ?_
  refine v_iconst (pc := 14) (0 : Int32) rfl hC dX8_findRan_14 ?_
  obtain ⟨v3, hv3, h⟩ := obd_s h
  refine v_aI (pc := 15) hC s_22 hv3 dX8_findRan_15 ?_
  refine v_istore_n (pc := 16) (lv' := [some (.ref (gad g 19)), some (.int v3), none, none, none]) hC dX8_findRan_16 rfl rfl rfl rfl ?_
  refine v_iconst (pc := 17) (0 : Int32) rfl hC dX8_findRan_17 ?_
  refine v_istore_n (pc := 18) (lv' := [some (.ref (gad g 19)), some (.int v3), some (.int (0 : Int32)), none, none]) hC dX8_findRan_18 rfl rfl rfl rfl ?_
  obtain ⟨w4, hw4, h⟩ := obd_s h
  have kx30 : V SS g M iX8_findRan (PQ SS g M P) 77 [none, none, none, none, none] [] w4.2 := by
    obtain rfl := Option.some.inj h
    exact v_vret (pc := 77) hC rfl dX8_findRan_77 hP
  refine V.ls (ls_some (ls_some (ls_some (ls_none (ls_none ls_nil))))) (v_loop (pc := 19) (fun a7 => [some (.ref (gad g 19)), some (.int a7.1), some (.int a7.2), none, none]) (fun z t => V SS g M iX8_findRan (PQ SS g M P) 77 [none, none, none, none, none] [] t) (fun a7 s5 u6 hu6 k8 k9 => ?_) _ _ _ _ hw4 kx30)
  unfold fX8_findRan_L19 at hu6
  refine v_iload_n (pc := 19) hC dX8_findRan_19 rfl ?_
  refine v_bipush (pc := 20) (10 : Int32) rfl hC dX8_findRan_20 ?_
  refine v_ic_ge (pc := 22) (tgt := 77) hC dX8_findRan_22 rfl (fun c11 => ?_) (fun c11 => ?_)
  · replace hu6 := (if_pos c11).symm.trans hu6
    obtain rfl := Option.some.inj hu6
    exact V.ls (ls_none (ls_none (ls_none (ls_none (ls_none ls_nil))))) (k9 _ rfl)
  · replace hu6 := (if_neg c11).symm.trans hu6
    refine v_iconst (pc := 25) (0 : Int32) rfl hC dX8_findRan_25 ?_
    refine v_istore_n (pc := 26) (lv' := [some (.ref (gad g 19)), some (.int a7.1), some (.int a7.2), some (.int (0 : Int32)), none]) hC dX8_findRan_26 rfl rfl rfl rfl ?_
    refine v_iload_n (pc := 27) hC dX8_findRan_27 rfl ?_
    refine v_istore (pc := 28) (lv' := [some (.ref (gad g 19)), some (.int a7.1), some (.int a7.2), some (.int (0 : Int32)), some (.int a7.2)]) hC dX8_findRan_28 rfl rfl rfl rfl ?_
    obtain ⟨w12, hw12, hu6⟩ := obd_s hu6
    have kx29 : V SS g M iX8_findRan (PQ SS g M P) 71 [some (.ref (gad g 19)), some (.int w12.1), some (.int a7.2), none, none] [] w12.2 := by
      obtain ⟨x13, hx13, hu6⟩ := bnd_s hu6
      refine v_iinc (pc := 71) (lv' := [some (.ref (gad g 19)), some (.int w12.1), some (.int x13), none, none]) (1 : Int32) rfl hx13 hC dX8_findRan_71 rfl rfl rfl rfl ?_
      refine v_goto (pc := 74) (tgt := 19) hC dX8_findRan_74 rfl ?_
      obtain rfl := Option.some.inj hu6
      exact V.ls (ls_some (ls_some (ls_some (ls_none (ls_none ls_nil))))) (k8 _ rfl)
    refine V.ls (ls_some (ls_some (ls_some (ls_some (ls_some ls_nil))))) (v_loop (pc := 30) (fun a16 => [some (.ref (gad g 19)), some (.int a16.1), some (.int a7.2), some (.int a16.2.1), some (.int a16.2.2)]) (fun z t => V SS g M iX8_findRan (PQ SS g M P) 71 [some (.ref (gad g 19)), some (.int z), some (.int a7.2), none, none] [] t) (fun a16 s14 u15 hu15 k17 k18 => ?_) _ _ _ _ hw12 kx29)
    unfold fX8_findRan_L30 at hu15
    refine v_iload (pc := 30) hC dX8_findRan_30 rfl ?_
    refine v_bipush (pc := 32) (10 : Int32) rfl hC dX8_findRan_32 ?_
    refine v_ic_ge (pc := 34) (tgt := 71) hC dX8_findRan_34 rfl (fun c20 => ?_) (fun c20 => ?_)
    · replace hu15 := (if_pos c20).symm.trans hu15
      obtain rfl := Option.some.inj hu15
      exact V.ls (ls_some (ls_some (ls_some (ls_none (ls_none ls_nil))))) (k18 _ rfl)
    · replace hu15 := (if_neg c20).symm.trans hu15
      refine v_iload_n (pc := 37) hC dX8_findRan_37 rfl ?_
      refine v_aload_n (pc := 38) hC dX8_findRan_38 rfl ?_
      refine v_gt (pc := 39) 5 (.ref (gad g 22)) hC s_19 rfl rfl rfl rfl fl_X8_33 dX8_findRan_39 ?_
      refine v_iload (pc := 42) hC dX8_findRan_42 rfl ?_
      obtain ⟨v21, hv21, hu15⟩ := obd_s hu15
      refine v_aI (pc := 44) hC s_22 hv21 dX8_findRan_44 ?_
      refine v_iadd (pc := 45) hC dX8_findRan_45 ?_
      obtain ⟨x22, hx22, hu15⟩ := bnd_s hu15
      refine v_istore_n (pc := 46) (lv' := [some (.ref (gad g 19)), some (.int a16.1), some (.int a7.2), some (.int x22), some (.int a16.2.2)]) hC dX8_findRan_46 hx22 rfl rfl rfl ?_
      refine v_iload_n (pc := 47) hC dX8_findRan_47 rfl ?_
      refine v_iload_n (pc := 48) hC dX8_findRan_48 rfl ?_
      obtain ⟨w23, hw23, hu15⟩ := obd_s hu15
      have kj24 : V SS g M iX8_findRan (PQ SS g M P) 65 [some (.ref (gad g 19)), some (.int w23.1), some (.int a7.2), some (.int x22), some (.int a16.2.2)] [] w23.2 := by
        obtain ⟨x25, hx25, hu15⟩ := bnd_s hu15
        refine v_iinc (pc := 65) (lv' := [some (.ref (gad g 19)), some (.int w23.1), some (.int a7.2), some (.int x22), some (.int x25)]) (1 : Int32) rfl hx25 hC dX8_findRan_65 rfl rfl rfl rfl ?_
        refine v_goto (pc := 68) (tgt := 30) hC dX8_findRan_68 rfl ?_
        obtain rfl := Option.some.inj hu15
        exact V.ls (ls_some (ls_some (ls_some (ls_some (ls_some ls_nil))))) (k17 _ rfl)
      refine v_ic_le (pc := 49) (tgt := 65) hC dX8_findRan_49 rfl (fun c26 => ?_) (fun c26 => ?_)
      · replace hw23 := (if_pos c26).symm.trans hw23
        obtain rfl := Option.some.inj hw23
        exact V.ls (ls_some (ls_some (ls_some (ls_some (ls_some ls_nil))))) kj24
      · replace hw23 := (if_neg c26).symm.trans hw23
        refine v_iload_n (pc := 52) hC dX8_findRan_52 rfl ?_
        refine v_istore_n (pc := 53) (lv' := [some (.ref (gad g 19)), some (.int x22), some (.int a7.2), some (.int x22), some (.int a16.2.2)]) hC dX8_findRan_53 rfl rfl rfl rfl ?_
        refine v_aload_n (pc := 54) hC dX8_findRan_54 rfl ?_
        refine v_iload_n (pc := 55) hC dX8_findRan_55 rfl ?_
        obtain ⟨s27, hs27, hw23⟩ := bnd_s hw23
        refine v_pI (pc := 56) 6 hC s_19 rfl rfl rfl rfl rfl rfl fl_X8_36 hs27 dX8_findRan_56 ?_
        refine v_aload_n (pc := 59) hC dX8_findRan_59 rfl ?_
        refine v_iload (pc := 60) hC dX8_findRan_60 rfl ?_
        obtain ⟨s28, hs28, hw23⟩ := bnd_s hw23
        refine v_pI (pc := 62) 7 hC s_19 rfl rfl rfl rfl rfl rfl fl_X8_40 hs28 dX8_findRan_62 ?_
        obtain rfl := Option.some.inj hw23
        exact V.ls (ls_some (ls_some (ls_some (ls_some (ls_some ls_nil))))) kj24
theorem dX8_surveyDays_0 : decode cX8_surveyDays 0 = .ok (.iconst 0, 1) := by decide +kernel
theorem dX8_surveyDays_1 : decode cX8_surveyDays 1 = .ok (.istore_n 1, 1) := by decide +kernel
theorem dX8_surveyDays_2 : decode cX8_surveyDays 2 = .ok (.iload_n 1, 1) := by decide +kernel
theorem dX8_surveyDays_3 : decode cX8_surveyDays 3 = .ok (.bipush 10, 2) := by decide +kernel
theorem dX8_surveyDays_5 : decode cX8_surveyDays 5 = .ok (.if_icmp .ge 16, 3) := by decide +kernel
theorem dX8_surveyDays_8 : decode cX8_surveyDays 8 = .ok (.aload_n 0, 1) := by decide +kernel
theorem dX8_surveyDays_9 : decode cX8_surveyDays 9 = .ok (.getfield 33, 3) := by decide +kernel
theorem dX8_surveyDays_12 : decode cX8_surveyDays 12 = .ok (.iload_n 1, 1) := by decide +kernel
theorem dX8_surveyDays_13 : decode cX8_surveyDays 13 = .ok (.iconst 0, 1) := by decide +kernel
theorem dX8_surveyDays_14 : decode cX8_surveyDays 14 = .ok (.iastore, 1) := by decide +kernel
theorem dX8_surveyDays_15 : decode cX8_surveyDays 15 = .ok (.iinc 1 1, 3) := by decide +kernel
theorem dX8_surveyDays_18 : decode cX8_surveyDays 18 = .ok (.goto (-16), 3) := by decide +kernel
theorem dX8_surveyDays_21 : decode cX8_surveyDays 21 = .ok (.iconst 0, 1) := by decide +kernel
theorem dX8_surveyDays_22 : decode cX8_surveyDays 22 = .ok (.istore_n 1, 1) := by decide +kernel
theorem dX8_surveyDays_23 : decode cX8_surveyDays 23 = .ok (.iload_n 1, 1) := by decide +kernel
theorem dX8_surveyDays_24 : decode cX8_surveyDays 24 = .ok (.aload_n 0, 1) := by decide +kernel
theorem dX8_surveyDays_25 : decode cX8_surveyDays 25 = .ok (.getfield 9, 3) := by decide +kernel
theorem dX8_surveyDays_28 : decode cX8_surveyDays 28 = .ok (.getfield 53, 3) := by decide +kernel
theorem dX8_surveyDays_31 : decode cX8_surveyDays 31 = .ok (.if_icmp .ge 100, 3) := by decide +kernel
theorem dX8_surveyDays_34 : decode cX8_surveyDays 34 = .ok (.iload_n 1, 1) := by decide +kernel
theorem dX8_surveyDays_35 : decode cX8_surveyDays 35 = .ok (.iconst 1, 1) := by decide +kernel
theorem dX8_surveyDays_36 : decode cX8_surveyDays 36 = .ok (.iadd, 1) := by decide +kernel
theorem dX8_surveyDays_37 : decode cX8_surveyDays 37 = .ok (.istore_n 2, 1) := by decide +kernel
theorem dX8_surveyDays_38 : decode cX8_surveyDays 38 = .ok (.iload_n 2, 1) := by decide +kernel
theorem dX8_surveyDays_39 : decode cX8_surveyDays 39 = .ok (.aload_n 0, 1) := by decide +kernel
theorem dX8_surveyDays_40 : decode cX8_surveyDays 40 = .ok (.getfield 9, 3) := by decide +kernel
theorem dX8_surveyDays_43 : decode cX8_surveyDays 43 = .ok (.getfield 53, 3) := by decide +kernel
theorem dX8_surveyDays_46 : decode cX8_surveyDays 46 = .ok (.if_icmp .ge 79, 3) := by decide +kernel
theorem dX8_surveyDays_49 : decode cX8_surveyDays 49 = .ok (.aload_n 0, 1) := by decide +kernel
theorem dX8_surveyDays_50 : decode cX8_surveyDays 50 = .ok (.getfield 25, 3) := by decide +kernel
theorem dX8_surveyDays_53 : decode cX8_surveyDays 53 = .ok (.iload_n 1, 1) := by decide +kernel
theorem dX8_surveyDays_54 : decode cX8_surveyDays 54 = .ok (.baload, 1) := by decide +kernel
theorem dX8_surveyDays_55 : decode cX8_surveyDays 55 = .ok (.ifCond .eq 70, 3) := by decide +kernel
theorem dX8_surveyDays_58 : decode cX8_surveyDays 58 = .ok (.aload_n 0, 1) := by decide +kernel
theorem dX8_surveyDays_59 : decode cX8_surveyDays 59 = .ok (.getfield 25, 3) := by decide +kernel
theorem dX8_surveyDays_62 : decode cX8_surveyDays 62 = .ok (.iload_n 2, 1) := by decide +kernel
theorem dX8_surveyDays_63 : decode cX8_surveyDays 63 = .ok (.baload, 1) := by decide +kernel
theorem dX8_surveyDays_64 : decode cX8_surveyDays 64 = .ok (.ifCond .eq 55, 3) := by decide +kernel
theorem dX8_surveyDays_67 : decode cX8_surveyDays 67 = .ok (.aload_n 0, 1) := by decide +kernel
theorem dX8_surveyDays_68 : decode cX8_surveyDays 68 = .ok (.getfield 9, 3) := by decide +kernel
theorem dX8_surveyDays_71 : decode cX8_surveyDays 71 = .ok (.getfield 82, 3) := by decide +kernel
theorem dX8_surveyDays_74 : decode cX8_surveyDays 74 = .ok (.iload_n 1, 1) := by decide +kernel
theorem dX8_surveyDays_75 : decode cX8_surveyDays 75 = .ok (.iaload, 1) := by decide +kernel
theorem dX8_surveyDays_76 : decode cX8_surveyDays 76 = .ok (.aload_n 0, 1) := by decide +kernel
theorem dX8_surveyDays_77 : decode cX8_surveyDays 77 = .ok (.getfield 9, 3) := by decide +kernel
theorem dX8_surveyDays_80 : decode cX8_surveyDays 80 = .ok (.getfield 82, 3) := by decide +kernel
theorem dX8_surveyDays_83 : decode cX8_surveyDays 83 = .ok (.iload_n 2, 1) := by decide +kernel
theorem dX8_surveyDays_84 : decode cX8_surveyDays 84 = .ok (.iaload, 1) := by decide +kernel
theorem dX8_surveyDays_85 : decode cX8_surveyDays 85 = .ok (.if_icmp .ne 34, 3) := by decide +kernel
theorem dX8_surveyDays_88 : decode cX8_surveyDays 88 = .ok (.aload_n 0, 1) := by decide +kernel
theorem dX8_surveyDays_89 : decode cX8_surveyDays 89 = .ok (.getfield 33, 3) := by decide +kernel
theorem dX8_surveyDays_92 : decode cX8_surveyDays 92 = .ok (.aload_n 0, 1) := by decide +kernel
theorem dX8_surveyDays_93 : decode cX8_surveyDays 93 = .ok (.getfield 9, 3) := by decide +kernel
theorem dX8_surveyDays_96 : decode cX8_surveyDays 96 = .ok (.getfield 85, 3) := by decide +kernel
theorem dX8_surveyDays_99 : decode cX8_surveyDays 99 = .ok (.aload_n 0, 1) := by decide +kernel
theorem dX8_surveyDays_100 : decode cX8_surveyDays 100 = .ok (.getfield 9, 3) := by decide +kernel
theorem dX8_surveyDays_103 : decode cX8_surveyDays 103 = .ok (.getfield 82, 3) := by decide +kernel
theorem dX8_surveyDays_106 : decode cX8_surveyDays 106 = .ok (.iload_n 1, 1) := by decide +kernel
theorem dX8_surveyDays_107 : decode cX8_surveyDays 107 = .ok (.iaload, 1) := by decide +kernel
theorem dX8_surveyDays_108 : decode cX8_surveyDays 108 = .ok (.iaload, 1) := by decide +kernel
theorem dX8_surveyDays_109 : decode cX8_surveyDays 109 = .ok (.dup2, 1) := by decide +kernel
theorem dX8_surveyDays_110 : decode cX8_surveyDays 110 = .ok (.iaload, 1) := by decide +kernel
theorem dX8_surveyDays_111 : decode cX8_surveyDays 111 = .ok (.aload_n 0, 1) := by decide +kernel
theorem dX8_surveyDays_112 : decode cX8_surveyDays 112 = .ok (.iload_n 1, 1) := by decide +kernel
theorem dX8_surveyDays_113 : decode cX8_surveyDays 113 = .ok (.iload_n 2, 1) := by decide +kernel
theorem dX8_surveyDays_114 : decode cX8_surveyDays 114 = .ok (.invokevirtual 88, 3) := by decide +kernel
theorem dX8_surveyDays_117 : decode cX8_surveyDays 117 = .ok (.iadd, 1) := by decide +kernel
theorem dX8_surveyDays_118 : decode cX8_surveyDays 118 = .ok (.iastore, 1) := by decide +kernel
theorem dX8_surveyDays_119 : decode cX8_surveyDays 119 = .ok (.iinc 2 1, 3) := by decide +kernel
theorem dX8_surveyDays_122 : decode cX8_surveyDays 122 = .ok (.goto (-84), 3) := by decide +kernel
theorem dX8_surveyDays_125 : decode cX8_surveyDays 125 = .ok (.iinc 1 1, 3) := by decide +kernel
theorem dX8_surveyDays_128 : decode cX8_surveyDays 128 = .ok (.goto (-105), 3) := by decide +kernel
theorem dX8_surveyDays_131 : decode cX8_surveyDays 131 = .ok (.aload_n 0, 1) := by decide +kernel
theorem dX8_surveyDays_132 : decode cX8_surveyDays 132 = .ok (.invokevirtual 92, 3) := by decide +kernel
theorem dX8_surveyDays_135 : decode cX8_surveyDays 135 = .ok (.return_, 1) := by decide +kernel
def fX8_surveyDays_L2  (a : Int32) (s : Sg) : Option (((Int32) ⊕ (Unit)) × Sg) :=
  if (10 : Int32) ≤ a then
  some (.inr (), s)
  else
  (wI s 22 10 a (0 : Int32)).bind fun s2 =>
  bnd (a + (1 : Int32)) fun x3 =>
  some (.inl x3, s2)
def fX8_surveyDays_L38 (p1 : Int32) (a : Int32) (s : Sg) : Option (((Int32) ⊕ (Unit)) × Sg) :=
  if (gI s 1 1) ≤ a then
  some (.inr (), s)
  else
  (aI s 20 64 p1).bind fun v2 =>
  if v2 = 0 then
  some (.inr (), s)
  else
  (aI s 20 64 a).bind fun v4 =>
  ((if v4 = 0 then
  some s
  else
  (aI s 4 64 p1).bind fun v9 =>
  (aI s 4 64 a).bind fun v10 =>
  if v9 = v10 then
  (aI s 4 64 p1).bind fun v12 =>
  (aI s 3 16 v12).bind fun v13 =>
  (aI s 22 10 v13).bind fun v14 =>
  (fX8_leanOfPair p1 a s).bind fun w15 =>
  (wI w15.2 22 10 v13 (v14 + w15.1)).bind fun s16 =>
  some s16
  else
  some s) : Option (Sg)).bind fun w5 =>
  bnd (a + (1 : Int32)) fun x7 =>
  some (.inl x7, w5)
def fX8_surveyDays_L23  (a : Int32) (s : Sg) : Option (((Int32) ⊕ (Unit)) × Sg) :=
  if (gI s 1 1) ≤ a then
  some (.inr (), s)
  else
  bnd (a + (1 : Int32)) fun x2 =>
  (lpG (fX8_surveyDays_L38 a) FU x2 s).bind fun w3 =>
  bnd (a + (1 : Int32)) fun x4 =>
  some (.inl x4, w3.2)
def fX8_surveyDays  (s : Sg) : Option (Sg) :=
  (lpG (fX8_surveyDays_L2) FU (0 : Int32) s).bind fun w1 =>
  (lpG (fX8_surveyDays_L23) FU (0 : Int32) w1.2).bind fun w2 =>
  (fX8_findRan w2.2).bind fun w3 =>
  some w3
theorem ct_X8_surveyDays {g : Gl}  {s : Sg} {w : Sg}  (h : fX8_surveyDays s = some w) : Ct SS g iX8_surveyDays 2 44 [.ref (gad g 19)] s (Dt none w) := by
  refine Ct.ofV (by decide +kernel) 2 (lv0 := [some (.ref (gad g 19)), none, none]) rfl rfl (fun M hC => ?_)
  have hP : (Dt none w) none w := ⟨rfl, rfl⟩
  generalize Dt none w = P at hP ⊢
  unfold fX8_surveyDays at h
  refine v_iconst (pc := 0) (0 : Int32) rfl hC dX8_surveyDays_0 ?_
  refine v_istore_n (pc := 1) (lv' := [some (.ref (gad g 19)), some (.int (0 : Int32)), none]) hC dX8_surveyDays_1 rfl rfl rfl rfl ?_
  obtain ⟨w1, hw1, h⟩ := obd_s h
  have kx47 : V SS g M iX8_surveyDays (PQ SS g M P) 21 [some (.ref (gad g 19)), none, none] [] w1.2 := by
    refine v_iconst (pc := 21) (0 : Int32) rfl hC dX8_surveyDays_21 ?_
    refine v_istore_n (pc := 22) (lv' := [some (.ref (gad g 19)), some (.int (0 : Int32)), none]) hC dX8_surveyDays_22 rfl rfl rfl rfl ?_
    obtain ⟨w2, hw2, h⟩ := obd_s h
    have kx37 : V SS g M iX8_surveyDays (PQ SS g M P) 131 [some (.ref (gad g 19)), none, none] [] w2.2 := by
      refine v_aload_n (pc := 131) hC dX8_surveyDays_131 rfl ?_
      obtain ⟨w3, hw3, h⟩ := obd_s h
      refine v_cV (pc := 132) [] [] gm_X8_findRan hC s_19 rfl rfl (ct_X8_findRan  hw3) ml_X8_92 rfl rfl rfl rfl rfl rfl dX8_surveyDays_132 ?_
      obtain rfl := Option.some.inj h
      exact v_vret (pc := 135) hC rfl dX8_surveyDays_135 hP
    refine V.ls (ls_some (ls_some (ls_none ls_nil))) (v_loop (pc := 23) (fun a6 => [some (.ref (gad g 19)), some (.int a6), none]) (fun z t => V SS g M iX8_surveyDays (PQ SS g M P) 131 [some (.ref (gad g 19)), none, none] [] t) (fun a6 s4 u5 hu5 k7 k8 => ?_) _ _ _ _ hw2 kx37)
    unfold fX8_surveyDays_L23 at hu5
    refine v_iload_n (pc := 23) hC dX8_surveyDays_23 rfl ?_
    refine v_aload_n (pc := 24) hC dX8_surveyDays_24 rfl ?_
    refine v_gt (pc := 25) 0 (.ref (gad g 1)) hC s_19 rfl rfl rfl rfl fl_X8_9 dX8_surveyDays_25 ?_
    refine v_gtN (pc := 28) 1 (.int (gI s4 1 1)) hC s_1 rfl rfl rfl rfl fl_X8_53 dX8_surveyDays_28 ?_
    refine v_ic_ge (pc := 31) (tgt := 131) hC dX8_surveyDays_31 rfl (fun c10 => ?_) (fun c10 => ?_)
    · replace hu5 := (if_pos c10).symm.trans hu5
      obtain rfl := Option.some.inj hu5
      exact V.ls (ls_some (ls_none (ls_none ls_nil))) (k8 _ rfl)
    · replace hu5 := (if_neg c10).symm.trans hu5
      refine v_iload_n (pc := 34) hC dX8_surveyDays_34 rfl ?_
      refine v_iconst (pc := 35) (1 : Int32) rfl hC dX8_surveyDays_35 ?_
      refine v_iadd (pc := 36) hC dX8_surveyDays_36 ?_
      obtain ⟨x11, hx11, hu5⟩ := bnd_s hu5
      refine v_istore_n (pc := 37) (lv' := [some (.ref (gad g 19)), some (.int a6), some (.int x11)]) hC dX8_surveyDays_37 hx11 rfl rfl rfl ?_
      obtain ⟨w12, hw12, hu5⟩ := obd_s hu5
      have kx36 : V SS g M iX8_surveyDays (PQ SS g M P) 125 [some (.ref (gad g 19)), some (.int a6), none] [] w12.2 := by
        obtain ⟨x13, hx13, hu5⟩ := bnd_s hu5
        refine v_iinc (pc := 125) (lv' := [some (.ref (gad g 19)), some (.int x13), none]) (1 : Int32) rfl hx13 hC dX8_surveyDays_125 rfl rfl rfl rfl ?_
        refine v_goto (pc := 128) (tgt := 23) hC dX8_surveyDays_128 rfl ?_
        obtain rfl := Option.some.inj hu5
        exact V.ls (ls_some (ls_some (ls_none ls_nil))) (k7 _ rfl)
      refine V.ls (ls_some (ls_some (ls_some ls_nil))) (v_loop (pc := 38) (fun a16 => [some (.ref (gad g 19)), some (.int a6), some (.int a16)]) (fun z t => V SS g M iX8_surveyDays (PQ SS g M P) 125 [some (.ref (gad g 19)), some (.int a6), none] [] t) (fun a16 s14 u15 hu15 k17 k18 => ?_) _ _ _ _ hw12 kx36)
      unfold fX8_surveyDays_L38 at hu15
      refine v_iload_n (pc := 38) hC dX8_surveyDays_38 rfl ?_
      refine v_aload_n (pc := 39) hC dX8_surveyDays_39 rfl ?_
      refine v_gt (pc := 40) 0 (.ref (gad g 1)) hC s_19 rfl rfl rfl rfl fl_X8_9 dX8_surveyDays_40 ?_
      refine v_gtN (pc := 43) 1 (.int (gI s14 1 1)) hC s_1 rfl rfl rfl rfl fl_X8_53 dX8_surveyDays_43 ?_
      refine v_ic_ge (pc := 46) (tgt := 125) hC dX8_surveyDays_46 rfl (fun c20 => ?_) (fun c20 => ?_)
      · replace hu15 := (if_pos c20).symm.trans hu15
        obtain rfl := Option.some.inj hu15
        exact V.ls (ls_some (ls_some (ls_none ls_nil))) (k18 _ rfl)
      · replace hu15 := (if_neg c20).symm.trans hu15
        refine v_aload_n (pc := 49) hC dX8_surveyDays_49 rfl ?_
        refine v_gt (pc := 50) 3 (.ref (gad g 20)) hC s_19 rfl rfl rfl rfl fl_X8_25 dX8_surveyDays_50 ?_
        refine v_iload_n (pc := 53) hC dX8_surveyDays_53 rfl ?_
        obtain ⟨v21, hv21, hu15⟩ := obd_s hu15
        refine v_aZ (pc := 54) hC s_20 hv21 dX8_surveyDays_54 ?_
        refine v_if_eq (pc := 55) (tgt := 125) hC dX8_surveyDays_55 rfl (fun c22 => ?_) (fun c22 => ?_)
        · replace hu15 := (if_pos c22).symm.trans hu15
          obtain rfl := Option.some.inj hu15
          exact V.ls (ls_some (ls_some (ls_none ls_nil))) (k18 _ rfl)
        · replace hu15 := (if_neg c22).symm.trans hu15
          refine v_aload_n (pc := 58) hC dX8_surveyDays_58 rfl ?_
          refine v_gt (pc := 59) 3 (.ref (gad g 20)) hC s_19 rfl rfl rfl rfl fl_X8_25 dX8_surveyDays_59 ?_
          refine v_iload_n (pc := 62) hC dX8_surveyDays_62 rfl ?_
          obtain ⟨v23, hv23, hu15⟩ := obd_s hu15
          refine v_aZ (pc := 63) hC s_20 hv23 dX8_surveyDays_63 ?_
          obtain ⟨w24, hw24, hu15⟩ := obd_s hu15
          have kj25 : V SS g M iX8_surveyDays (PQ SS g M P) 119 [some (.ref (gad g 19)), some (.int a6), some (.int a16)] [] w24 := by
            obtain ⟨x26, hx26, hu15⟩ := bnd_s hu15
            refine v_iinc (pc := 119) (lv' := [some (.ref (gad g 19)), some (.int a6), some (.int x26)]) (1 : Int32) rfl hx26 hC dX8_surveyDays_119 rfl rfl rfl rfl ?_
            refine v_goto (pc := 122) (tgt := 38) hC dX8_surveyDays_122 rfl ?_
            obtain rfl := Option.some.inj hu15
            exact V.ls (ls_some (ls_some (ls_some ls_nil))) (k17 _ rfl)
          refine v_if_eq (pc := 64) (tgt := 119) hC dX8_surveyDays_64 rfl (fun c27 => ?_) (fun c27 => ?_)
          · replace hw24 := (if_pos c27).symm.trans hw24
            obtain rfl := Option.some.inj hw24
            exact V.ls (ls_some (ls_some (ls_some ls_nil))) kj25
          · replace hw24 := (if_neg c27).symm.trans hw24
            refine v_aload_n (pc := 67) hC dX8_surveyDays_67 rfl ?_
            refine v_gt (pc := 68) 0 (.ref (gad g 1)) hC s_19 rfl rfl rfl rfl fl_X8_9 dX8_surveyDays_68 ?_
            refine v_gtN (pc := 71) 4 (.ref (gad g 4)) hC s_1 rfl rfl rfl rfl fl_X8_82 dX8_surveyDays_71 ?_
            refine v_iload_n (pc := 74) hC dX8_surveyDays_74 rfl ?_
            obtain ⟨v28, hv28, hw24⟩ := obd_s hw24
            refine v_aI (pc := 75) hC s_4 hv28 dX8_surveyDays_75 ?_
            refine v_aload_n (pc := 76) hC dX8_surveyDays_76 rfl ?_
            refine v_gt (pc := 77) 0 (.ref (gad g 1)) hC s_19 rfl rfl rfl rfl fl_X8_9 dX8_surveyDays_77 ?_
            refine v_gtN (pc := 80) 4 (.ref (gad g 4)) hC s_1 rfl rfl rfl rfl fl_X8_82 dX8_surveyDays_80 ?_
            refine v_iload_n (pc := 83) hC dX8_surveyDays_83 rfl ?_
            obtain ⟨v29, hv29, hw24⟩ := obd_s hw24
            refine v_aI (pc := 84) hC s_4 hv29 dX8_surveyDays_84 ?_
            refine v_ic_ne (pc := 85) (tgt := 119) hC dX8_surveyDays_85 rfl (fun c30 => ?_) (fun c30 => ?_)
            · replace hw24 := (if_neg c30).symm.trans hw24
              obtain rfl := Option.some.inj hw24
              exact V.ls (ls_some (ls_some (ls_some ls_nil))) kj25
            · replace hw24 := (if_pos c30).symm.trans hw24
              refine v_aload_n (pc := 88) hC dX8_surveyDays_88 rfl ?_
              refine v_gt (pc := 89) 5 (.ref (gad g 22)) hC s_19 rfl rfl rfl rfl fl_X8_33 dX8_surveyDays_89 ?_
              refine v_aload_n (pc := 92) hC dX8_surveyDays_92 rfl ?_
              refine v_gt (pc := 93) 0 (.ref (gad g 1)) hC s_19 rfl rfl rfl rfl fl_X8_9 dX8_surveyDays_93 ?_
              refine v_gtN (pc := 96) 3 (.ref (gad g 3)) hC s_1 rfl rfl rfl rfl fl_X8_85 dX8_surveyDays_96 ?_
              refine v_aload_n (pc := 99) hC dX8_surveyDays_99 rfl ?_
              refine v_gt (pc := 100) 0 (.ref (gad g 1)) hC s_19 rfl rfl rfl rfl fl_X8_9 dX8_surveyDays_100 ?_
              refine v_gtN (pc := 103) 4 (.ref (gad g 4)) hC s_1 rfl rfl rfl rfl fl_X8_82 dX8_surveyDays_103 ?_
              refine v_iload_n (pc := 106) hC dX8_surveyDays_106 rfl ?_
              obtain ⟨v31, hv31, hw24⟩ := obd_s hw24
              refine v_aI (pc := 107) hC s_4 hv31 dX8_surveyDays_107 ?_
              obtain ⟨v32, hv32, hw24⟩ := obd_s hw24
              refine v_aI (pc := 108) hC s_3 hv32 dX8_surveyDays_108 ?_
              refine v_dup2 (pc := 109) hC rfl rfl dX8_surveyDays_109 ?_
              obtain ⟨v33, hv33, hw24⟩ := obd_s hw24
              refine v_aI (pc := 110) hC s_22 hv33 dX8_surveyDays_110 ?_
              refine v_aload_n (pc := 111) hC dX8_surveyDays_111 rfl ?_
              refine v_iload_n (pc := 112) hC dX8_surveyDays_112 rfl ?_
              refine v_iload_n (pc := 113) hC dX8_surveyDays_113 rfl ?_
              obtain ⟨w34, hw34, hw24⟩ := obd_s hw24
              refine v_cV (pc := 114) [.int v33, .int v32, .ref (gad g 22)] [.int w34.1, .int v33, .int v32, .ref (gad g 22)] gm_X8_leanOfPair hC s_19 rfl rfl (ct_X8_leanOfPair  hw34) ml_X8_88 rfl rfl rfl rfl rfl rfl dX8_surveyDays_114 ?_
              refine v_iadd (pc := 117) hC dX8_surveyDays_117 ?_
              obtain ⟨s35, hs35, hw24⟩ := obd_s hw24
              refine v_wI (pc := 118) hC s_22 hs35 dX8_surveyDays_118 ?_
              obtain rfl := Option.some.inj hw24
              exact V.ls (ls_some (ls_some (ls_some ls_nil))) kj25
  refine V.ls (ls_some (ls_some (ls_none ls_nil))) (v_loop (pc := 2) (fun a40 => [some (.ref (gad g 19)), some (.int a40), none]) (fun z t => V SS g M iX8_surveyDays (PQ SS g M P) 21 [some (.ref (gad g 19)), none, none] [] t) (fun a40 s38 u39 hu39 k41 k42 => ?_) _ _ _ _ hw1 kx47)
  unfold fX8_surveyDays_L2 at hu39
  refine v_iload_n (pc := 2) hC dX8_surveyDays_2 rfl ?_
  refine v_bipush (pc := 3) (10 : Int32) rfl hC dX8_surveyDays_3 ?_
  refine v_ic_ge (pc := 5) (tgt := 21) hC dX8_surveyDays_5 rfl (fun c44 => ?_) (fun c44 => ?_)
  · replace hu39 := (if_pos c44).symm.trans hu39
    obtain rfl := Option.some.inj hu39
    exact V.ls (ls_some (ls_none (ls_none ls_nil))) (k42 _ rfl)
  · replace hu39 := (if_neg c44).symm.trans hu39
    refine v_aload_n (pc := 8) hC dX8_surveyDays_8 rfl ?_
    refine v_gt (pc := 9) 5 (.ref (gad g 22)) hC s_19 rfl rfl rfl rfl fl_X8_33 dX8_surveyDays_9 ?_
    refine v_iload_n (pc := 12) hC dX8_surveyDays_12 rfl ?_
    refine v_iconst (pc := 13) (0 : Int32) rfl hC dX8_surveyDays_13 ?_
    obtain ⟨s45, hs45, hu39⟩ := obd_s hu39
    refine v_wI (pc := 14) hC s_22 hs45 dX8_surveyDays_14 ?_
    obtain ⟨x46, hx46, hu39⟩ := bnd_s hu39
    refine v_iinc (pc := 15) (lv' := [some (.ref (gad g 19)), some (.int x46), none]) (1 : Int32) rfl hx46 hC dX8_surveyDays_15 rfl rfl rfl rfl ?_
    refine v_goto (pc := 18) (tgt := 2) hC dX8_surveyDays_18 rfl ?_
    obtain rfl := Option.some.inj hu39
    exact V.ls (ls_some (ls_some (ls_none ls_nil))) (k41 _ rfl)
theorem dX8_leanOf_0 : decode cX8_leanOf 0 = .ok (.iconst 0, 1) := by decide +kernel
theorem dX8_leanOf_1 : decode cX8_leanOf 1 = .ok (.istore_n 3, 1) := by decide +kernel
theorem dX8_leanOf_2 : decode cX8_leanOf 2 = .ok (.iload_n 1, 1) := by decide +kernel
theorem dX8_leanOf_3 : decode cX8_leanOf 3 = .ok (.istore 4, 2) := by decide +kernel
theorem dX8_leanOf_5 : decode cX8_leanOf 5 = .ok (.iload 4, 2) := by decide +kernel
theorem dX8_leanOf_7 : decode cX8_leanOf 7 = .ok (.iload_n 2, 1) := by decide +kernel
theorem dX8_leanOf_8 : decode cX8_leanOf 8 = .ok (.if_icmp .gt 19, 3) := by decide +kernel
theorem dX8_leanOf_11 : decode cX8_leanOf 11 = .ok (.iload_n 3, 1) := by decide +kernel
theorem dX8_leanOf_12 : decode cX8_leanOf 12 = .ok (.aload_n 0, 1) := by decide +kernel
theorem dX8_leanOf_13 : decode cX8_leanOf 13 = .ok (.getfield 33, 3) := by decide +kernel
theorem dX8_leanOf_16 : decode cX8_leanOf 16 = .ok (.iload 4, 2) := by decide +kernel
theorem dX8_leanOf_18 : decode cX8_leanOf 18 = .ok (.iaload, 1) := by decide +kernel
theorem dX8_leanOf_19 : decode cX8_leanOf 19 = .ok (.iadd, 1) := by decide +kernel
theorem dX8_leanOf_20 : decode cX8_leanOf 20 = .ok (.istore_n 3, 1) := by decide +kernel
theorem dX8_leanOf_21 : decode cX8_leanOf 21 = .ok (.iinc 4 1, 3) := by decide +kernel
theorem dX8_leanOf_24 : decode cX8_leanOf 24 = .ok (.goto (-19), 3) := by decide +kernel
theorem dX8_leanOf_27 : decode cX8_leanOf 27 = .ok (.iload_n 3, 1) := by decide +kernel
theorem dX8_leanOf_28 : decode cX8_leanOf 28 = .ok (.ireturn, 1) := by decide +kernel
def fX8_leanOf_L5 (p2 : Int32) (a : Int32 × Int32) (s : Sg) : Option (((Int32 × Int32) ⊕ (Int32)) × Sg) :=
  if p2 < a.2 then
  some (.inr a.1, s)
  else
  (aI s 22 10 a.2).bind fun v2 =>
  bnd (a.1 + v2) fun x3 =>
  bnd (a.2 + (1 : Int32)) fun x4 =>
  some (.inl (x3, x4), s)
def fX8_leanOf (x0_ : Int32) (x1_ : Int32) (s : Sg) : Option (Int32 × Sg) :=
  (lpG (fX8_leanOf_L5 x1_) FU ((0 : Int32), x0_) s).bind fun w1 =>
  some (w1.1, w1.2)
theorem ct_X8_leanOf {g : Gl} {x0_ : Int32} {x1_ : Int32} {s : Sg} {w : Int32 × Sg}  (h : fX8_leanOf x0_ x1_ s = some w) : Ct SS g iX8_leanOf 0 0 [.ref (gad g 19), .int x0_, .int x1_] s (Dt (some (.int w.1)) w.2) := by
  refine Ct.ofV (by decide +kernel) 2 (lv0 := [some (.ref (gad g 19)), some (.int x0_), some (.int x1_), none, none]) rfl rfl (fun M hC => ?_)
  have hP : (Dt (some (.int w.1)) w.2) (some (.int w.1)) w.2 := ⟨rfl, rfl⟩
  generalize Dt (some (.int w.1)) w.2 = P at hP ⊢
  unfold fX8_leanOf at h
  refine v_iconst (pc := 0) (0 : Int32) rfl hC dX8_leanOf_0 ?_
  refine v_istore_n (pc := 1) (lv' := [some (.ref (gad g 19)), some (.int x0_), some (.int x1_), some (.int (0 : Int32)), none]) hC dX8_leanOf_1 rfl rfl rfl rfl ?_
  refine v_iload_n (pc := 2) hC dX8_leanOf_2 rfl ?_
  refine v_istore (pc := 3) (lv' := [some (.ref (gad g 19)), some (.int x0_), some (.int x1_), some (.int (0 : Int32)), some (.int x0_)]) hC dX8_leanOf_3 rfl rfl rfl rfl ?_
  obtain ⟨w1, hw1, h⟩ := obd_s h
  have kx12 : V SS g M iX8_leanOf (PQ SS g M P) 27 [none, none, none, some (.int w1.1), none] [] w1.2 := by
    refine v_iload_n (pc := 27) hC dX8_leanOf_27 rfl ?_
    obtain rfl := Option.some.inj h
    exact v_iret (pc := 28) hC rfl dX8_leanOf_28 hP
  refine V.ls (ls_some (ls_none (ls_some (ls_some (ls_some ls_nil))))) (v_loop (pc := 5) (fun a4 => [some (.ref (gad g 19)), none, some (.int x1_), some (.int a4.1), some (.int a4.2)]) (fun z t => V SS g M iX8_leanOf (PQ SS g M P) 27 [none, none, none, some (.int z), none] [] t) (fun a4 s2 u3 hu3 k5 k6 => ?_) _ _ _ _ hw1 kx12)
  unfold fX8_leanOf_L5 at hu3
  refine v_iload (pc := 5) hC dX8_leanOf_5 rfl ?_
  refine v_iload_n (pc := 7) hC dX8_leanOf_7 rfl ?_
  refine v_ic_gt (pc := 8) (tgt := 27) hC dX8_leanOf_8 rfl (fun c8 => ?_) (fun c8 => ?_)
  · replace hu3 := (if_pos c8).symm.trans hu3
    obtain rfl := Option.some.inj hu3
    exact V.ls (ls_none (ls_none (ls_none (ls_some (ls_none ls_nil))))) (k6 _ rfl)
  · replace hu3 := (if_neg c8).symm.trans hu3
    refine v_iload_n (pc := 11) hC dX8_leanOf_11 rfl ?_
    refine v_aload_n (pc := 12) hC dX8_leanOf_12 rfl ?_
    refine v_gt (pc := 13) 5 (.ref (gad g 22)) hC s_19 rfl rfl rfl rfl fl_X8_33 dX8_leanOf_13 ?_
    refine v_iload (pc := 16) hC dX8_leanOf_16 rfl ?_
    obtain ⟨v9, hv9, hu3⟩ := obd_s hu3
    refine v_aI (pc := 18) hC s_22 hv9 dX8_leanOf_18 ?_
    refine v_iadd (pc := 19) hC dX8_leanOf_19 ?_
    obtain ⟨x10, hx10, hu3⟩ := bnd_s hu3
    refine v_istore_n (pc := 20) (lv' := [some (.ref (gad g 19)), none, some (.int x1_), some (.int x10), some (.int a4.2)]) hC dX8_leanOf_20 hx10 rfl rfl rfl ?_
    obtain ⟨x11, hx11, hu3⟩ := bnd_s hu3
    refine v_iinc (pc := 21) (lv' := [some (.ref (gad g 19)), none, some (.int x1_), some (.int x10), some (.int x11)]) (1 : Int32) rfl hx11 hC dX8_leanOf_21 rfl rfl rfl rfl ?_
    refine v_goto (pc := 24) (tgt := 5) hC dX8_leanOf_24 rfl ?_
    obtain rfl := Option.some.inj hu3
    exact V.ls (ls_some (ls_none (ls_some (ls_some (ls_some ls_nil))))) (k5 _ rfl)
theorem dX8_swap_0 : decode cX8_swap 0 = .ok (.aload_n 0, 1) := by decide +kernel
theorem dX8_swap_1 : decode cX8_swap 1 = .ok (.getfield 43, 3) := by decide +kernel
theorem dX8_swap_4 : decode cX8_swap 4 = .ok (.iload_n 1, 1) := by decide +kernel
theorem dX8_swap_5 : decode cX8_swap 5 = .ok (.laload, 1) := by decide +kernel
theorem dX8_swap_6 : decode cX8_swap 6 = .ok (.lstore_n 3, 1) := by decide +kernel
theorem dX8_swap_7 : decode cX8_swap 7 = .ok (.aload_n 0, 1) := by decide +kernel
theorem dX8_swap_8 : decode cX8_swap 8 = .ok (.getfield 43, 3) := by decide +kernel
theorem dX8_swap_11 : decode cX8_swap 11 = .ok (.iload_n 1, 1) := by decide +kernel
theorem dX8_swap_12 : decode cX8_swap 12 = .ok (.aload_n 0, 1) := by decide +kernel
theorem dX8_swap_13 : decode cX8_swap 13 = .ok (.getfield 43, 3) := by decide +kernel
theorem dX8_swap_16 : decode cX8_swap 16 = .ok (.iload_n 2, 1) := by decide +kernel
theorem dX8_swap_17 : decode cX8_swap 17 = .ok (.laload, 1) := by decide +kernel
theorem dX8_swap_18 : decode cX8_swap 18 = .ok (.lastore, 1) := by decide +kernel
theorem dX8_swap_19 : decode cX8_swap 19 = .ok (.aload_n 0, 1) := by decide +kernel
theorem dX8_swap_20 : decode cX8_swap 20 = .ok (.getfield 43, 3) := by decide +kernel
theorem dX8_swap_23 : decode cX8_swap 23 = .ok (.iload_n 2, 1) := by decide +kernel
theorem dX8_swap_24 : decode cX8_swap 24 = .ok (.lload_n 3, 1) := by decide +kernel
theorem dX8_swap_25 : decode cX8_swap 25 = .ok (.lastore, 1) := by decide +kernel
theorem dX8_swap_26 : decode cX8_swap 26 = .ok (.iload_n 2, 1) := by decide +kernel
theorem dX8_swap_27 : decode cX8_swap 27 = .ok (.iload_n 1, 1) := by decide +kernel
theorem dX8_swap_28 : decode cX8_swap 28 = .ok (.isub, 1) := by decide +kernel
theorem dX8_swap_29 : decode cX8_swap 29 = .ok (.i2l, 1) := by decide +kernel
theorem dX8_swap_30 : decode cX8_swap 30 = .ok (.aload_n 0, 1) := by decide +kernel
theorem dX8_swap_31 : decode cX8_swap 31 = .ok (.getfield 43, 3) := by decide +kernel
theorem dX8_swap_34 : decode cX8_swap 34 = .ok (.iload_n 2, 1) := by decide +kernel
theorem dX8_swap_35 : decode cX8_swap 35 = .ok (.laload, 1) := by decide +kernel
theorem dX8_swap_36 : decode cX8_swap 36 = .ok (.aload_n 0, 1) := by decide +kernel
theorem dX8_swap_37 : decode cX8_swap 37 = .ok (.getfield 43, 3) := by decide +kernel
theorem dX8_swap_40 : decode cX8_swap 40 = .ok (.iload_n 1, 1) := by decide +kernel
theorem dX8_swap_41 : decode cX8_swap 41 = .ok (.laload, 1) := by decide +kernel
theorem dX8_swap_42 : decode cX8_swap 42 = .ok (.lsub, 1) := by decide +kernel
theorem dX8_swap_43 : decode cX8_swap 43 = .ok (.lmul, 1) := by decide +kernel
theorem dX8_swap_44 : decode cX8_swap 44 = .ok (.lreturn, 1) := by decide +kernel
def fX8_swap (x0_ : Int32) (x1_ : Int32) (s : Sg) : Option (Int64 × Sg) :=
  (aL s 23 7 x0_).bind fun v1 =>
  (aL s 23 7 x1_).bind fun v2 =>
  (wL s 23 7 x0_ v2).bind fun s3 =>
  (wL s3 23 7 x1_ v1).bind fun s4 =>
  (aL s4 23 7 x1_).bind fun v5 =>
  (aL s4 23 7 x0_).bind fun v6 =>
  some (((((x1_ - x0_)).toInt64) * (v5 - v6)), s4)
theorem ct_X8_swap {g : Gl} {x0_ : Int32} {x1_ : Int32} {s : Sg} {w : Int64 × Sg}  (h : fX8_swap x0_ x1_ s = some w) : Ct SS g iX8_swap 0 0 [.ref (gad g 19), .int x0_, .int x1_] s (Dt (some (.long w.1)) w.2) := by
  refine Ct.ofV (by decide +kernel) 2 (lv0 := [some (.ref (gad g 19)), some (.int x0_), some (.int x1_), none, none]) rfl rfl (fun M hC => ?_)
  have hP : (Dt (some (.long w.1)) w.2) (some (.long w.1)) w.2 := ⟨rfl, rfl⟩
  generalize Dt (some (.long w.1)) w.2 = P at hP ⊢
  unfold fX8_swap at h
  refine v_aload_n (pc := 0) hC dX8_swap_0 rfl ?_
  refine v_gt (pc := 1) 8 (.ref (gad g 23)) hC s_19 rfl rfl rfl rfl fl_X8_43 dX8_swap_1 ?_
  refine v_iload_n (pc := 4) hC dX8_swap_4 rfl ?_
  obtain ⟨v1, hv1, h⟩ := obd_s h
  refine v_aL (pc := 5) hC s_23 hv1 dX8_swap_5 ?_
  refine v_lstore_n (pc := 6) (lv' := [some (.ref (gad g 19)), some (.int x0_), some (.int x1_), some (.long v1), none]) hC dX8_swap_6 rfl rfl rfl rfl ?_
  refine v_aload_n (pc := 7) hC dX8_swap_7 rfl ?_
  refine v_gt (pc := 8) 8 (.ref (gad g 23)) hC s_19 rfl rfl rfl rfl fl_X8_43 dX8_swap_8 ?_
  refine v_iload_n (pc := 11) hC dX8_swap_11 rfl ?_
  refine v_aload_n (pc := 12) hC dX8_swap_12 rfl ?_
  refine v_gt (pc := 13) 8 (.ref (gad g 23)) hC s_19 rfl rfl rfl rfl fl_X8_43 dX8_swap_13 ?_
  refine v_iload_n (pc := 16) hC dX8_swap_16 rfl ?_
  obtain ⟨v2, hv2, h⟩ := obd_s h
  refine v_aL (pc := 17) hC s_23 hv2 dX8_swap_17 ?_
  obtain ⟨s3, hs3, h⟩ := obd_s h
  refine v_wL (pc := 18) hC s_23 hs3 dX8_swap_18 ?_
  refine v_aload_n (pc := 19) hC dX8_swap_19 rfl ?_
  refine v_gt (pc := 20) 8 (.ref (gad g 23)) hC s_19 rfl rfl rfl rfl fl_X8_43 dX8_swap_20 ?_
  refine v_iload_n (pc := 23) hC dX8_swap_23 rfl ?_
  refine v_lload_n (pc := 24) hC dX8_swap_24 rfl ?_
  obtain ⟨s4, hs4, h⟩ := obd_s h
  refine v_wL (pc := 25) hC s_23 hs4 dX8_swap_25 ?_
  refine v_iload_n (pc := 26) hC dX8_swap_26 rfl ?_
  refine v_iload_n (pc := 27) hC dX8_swap_27 rfl ?_
  refine v_isub (pc := 28) hC dX8_swap_28 ?_
  refine v_i2l (pc := 29) hC dX8_swap_29 ?_
  refine v_aload_n (pc := 30) hC dX8_swap_30 rfl ?_
  refine v_gt (pc := 31) 8 (.ref (gad g 23)) hC s_19 rfl rfl rfl rfl fl_X8_43 dX8_swap_31 ?_
  refine v_iload_n (pc := 34) hC dX8_swap_34 rfl ?_
  obtain ⟨v5, hv5, h⟩ := obd_s h
  refine v_aL (pc := 35) hC s_23 hv5 dX8_swap_35 ?_
  refine v_aload_n (pc := 36) hC dX8_swap_36 rfl ?_
  refine v_gt (pc := 37) 8 (.ref (gad g 23)) hC s_19 rfl rfl rfl rfl fl_X8_43 dX8_swap_37 ?_
  refine v_iload_n (pc := 40) hC dX8_swap_40 rfl ?_
  obtain ⟨v6, hv6, h⟩ := obd_s h
  refine v_aL (pc := 41) hC s_23 hv6 dX8_swap_41 ?_
  refine v_lsub (pc := 42) hC dX8_swap_42 ?_
  refine v_lmul (pc := 43) hC dX8_swap_43 ?_
  obtain rfl := Option.some.inj h
  exact v_lret (pc := 44) hC rfl dX8_swap_44 hP
theorem dX8_shareOfOrders_0 : decode cX8_shareOfOrders 0 = .ok (.iconst 1, 1) := by decide +kernel
theorem dX8_shareOfOrders_1 : decode cX8_shareOfOrders 1 = .ok (.istore_n 2, 1) := by decide +kernel
theorem dX8_shareOfOrders_2 : decode cX8_shareOfOrders 2 = .ok (.iconst 1, 1) := by decide +kernel
theorem dX8_shareOfOrders_3 : decode cX8_shareOfOrders 3 = .ok (.istore_n 3, 1) := by decide +kernel
theorem dX8_shareOfOrders_4 : decode cX8_shareOfOrders 4 = .ok (.lconst 0, 1) := by decide +kernel
theorem dX8_shareOfOrders_5 : decode cX8_shareOfOrders 5 = .ok (.lstore 4, 2) := by decide +kernel
theorem dX8_shareOfOrders_7 : decode cX8_shareOfOrders 7 = .ok (.iconst 1, 1) := by decide +kernel
theorem dX8_shareOfOrders_8 : decode cX8_shareOfOrders 8 = .ok (.istore 6, 2) := by decide +kernel
theorem dX8_shareOfOrders_10 : decode cX8_shareOfOrders 10 = .ok (.iconst 0, 1) := by decide +kernel
theorem dX8_shareOfOrders_11 : decode cX8_shareOfOrders 11 = .ok (.istore 7, 2) := by decide +kernel
theorem dX8_shareOfOrders_13 : decode cX8_shareOfOrders 13 = .ok (.iload 7, 2) := by decide +kernel
theorem dX8_shareOfOrders_15 : decode cX8_shareOfOrders 15 = .ok (.sipush 20000, 3) := by decide +kernel
theorem dX8_shareOfOrders_18 : decode cX8_shareOfOrders 18 = .ok (.if_icmp .ge 97, 3) := by decide +kernel
theorem dX8_shareOfOrders_21 : decode cX8_shareOfOrders 21 = .ok (.iload 6, 2) := by decide +kernel
theorem dX8_shareOfOrders_23 : decode cX8_shareOfOrders 23 = .ok (.iload_n 1, 1) := by decide +kernel
theorem dX8_shareOfOrders_24 : decode cX8_shareOfOrders 24 = .ok (.if_icmp .ge 91, 3) := by decide +kernel
theorem dX8_shareOfOrders_27 : decode cX8_shareOfOrders 27 = .ok (.aload_n 0, 1) := by decide +kernel
theorem dX8_shareOfOrders_28 : decode cX8_shareOfOrders 28 = .ok (.getfield 47, 3) := by decide +kernel
theorem dX8_shareOfOrders_31 : decode cX8_shareOfOrders 31 = .ok (.iload 6, 2) := by decide +kernel
theorem dX8_shareOfOrders_33 : decode cX8_shareOfOrders 33 = .ok (.iaload, 1) := by decide +kernel
theorem dX8_shareOfOrders_34 : decode cX8_shareOfOrders 34 = .ok (.iload 6, 2) := by decide +kernel
theorem dX8_shareOfOrders_36 : decode cX8_shareOfOrders 36 = .ok (.if_icmp .ge 62, 3) := by decide +kernel
theorem dX8_shareOfOrders_39 : decode cX8_shareOfOrders 39 = .ok (.lload 4, 2) := by decide +kernel
theorem dX8_shareOfOrders_41 : decode cX8_shareOfOrders 41 = .ok (.aload_n 0, 1) := by decide +kernel
theorem dX8_shareOfOrders_42 : decode cX8_shareOfOrders 42 = .ok (.iload 6, 2) := by decide +kernel
theorem dX8_shareOfOrders_44 : decode cX8_shareOfOrders 44 = .ok (.iconst 2, 1) := by decide +kernel
theorem dX8_shareOfOrders_45 : decode cX8_shareOfOrders 45 = .ok (.irem, 1) := by decide +kernel
theorem dX8_shareOfOrders_46 : decode cX8_shareOfOrders 46 = .ok (.ifCond .ne 7, 3) := by decide +kernel
theorem dX8_shareOfOrders_49 : decode cX8_shareOfOrders 49 = .ok (.iconst 0, 1) := by decide +kernel
theorem dX8_shareOfOrders_50 : decode cX8_shareOfOrders 50 = .ok (.goto 10, 3) := by decide +kernel
theorem dX8_shareOfOrders_53 : decode cX8_shareOfOrders 53 = .ok (.aload_n 0, 1) := by decide +kernel
theorem dX8_shareOfOrders_54 : decode cX8_shareOfOrders 54 = .ok (.getfield 47, 3) := by decide +kernel
theorem dX8_shareOfOrders_57 : decode cX8_shareOfOrders 57 = .ok (.iload 6, 2) := by decide +kernel
theorem dX8_shareOfOrders_59 : decode cX8_shareOfOrders 59 = .ok (.iaload, 1) := by decide +kernel
theorem dX8_shareOfOrders_60 : decode cX8_shareOfOrders 60 = .ok (.iload 6, 2) := by decide +kernel
theorem dX8_shareOfOrders_62 : decode cX8_shareOfOrders 62 = .ok (.invokevirtual 109, 3) := by decide +kernel
theorem dX8_shareOfOrders_65 : decode cX8_shareOfOrders 65 = .ok (.ladd, 1) := by decide +kernel
theorem dX8_shareOfOrders_66 : decode cX8_shareOfOrders 66 = .ok (.lstore 4, 2) := by decide +kernel
theorem dX8_shareOfOrders_68 : decode cX8_shareOfOrders 68 = .ok (.iinc 2 1, 3) := by decide +kernel
theorem dX8_shareOfOrders_71 : decode cX8_shareOfOrders 71 = .ok (.lload 4, 2) := by decide +kernel
theorem dX8_shareOfOrders_73 : decode cX8_shareOfOrders 73 = .ok (.lconst 0, 1) := by decide +kernel
theorem dX8_shareOfOrders_74 : decode cX8_shareOfOrders 74 = .ok (.lcmp, 1) := by decide +kernel
theorem dX8_shareOfOrders_75 : decode cX8_shareOfOrders 75 = .ok (.ifCond .lt 6, 3) := by decide +kernel
theorem dX8_shareOfOrders_78 : decode cX8_shareOfOrders 78 = .ok (.iinc 3 1, 3) := by decide +kernel
theorem dX8_shareOfOrders_81 : decode cX8_shareOfOrders 81 = .ok (.aload_n 0, 1) := by decide +kernel
theorem dX8_shareOfOrders_82 : decode cX8_shareOfOrders 82 = .ok (.getfield 47, 3) := by decide +kernel
theorem dX8_shareOfOrders_85 : decode cX8_shareOfOrders 85 = .ok (.iload 6, 2) := by decide +kernel
theorem dX8_shareOfOrders_87 : decode cX8_shareOfOrders 87 = .ok (.dup2, 1) := by decide +kernel
theorem dX8_shareOfOrders_88 : decode cX8_shareOfOrders 88 = .ok (.iaload, 1) := by decide +kernel
theorem dX8_shareOfOrders_89 : decode cX8_shareOfOrders 89 = .ok (.iconst 1, 1) := by decide +kernel
theorem dX8_shareOfOrders_90 : decode cX8_shareOfOrders 90 = .ok (.iadd, 1) := by decide +kernel
theorem dX8_shareOfOrders_91 : decode cX8_shareOfOrders 91 = .ok (.iastore, 1) := by decide +kernel
theorem dX8_shareOfOrders_92 : decode cX8_shareOfOrders 92 = .ok (.iconst 1, 1) := by decide +kernel
theorem dX8_shareOfOrders_93 : decode cX8_shareOfOrders 93 = .ok (.istore 6, 2) := by decide +kernel
theorem dX8_shareOfOrders_95 : decode cX8_shareOfOrders 95 = .ok (.goto 14, 3) := by decide +kernel
theorem dX8_shareOfOrders_98 : decode cX8_shareOfOrders 98 = .ok (.aload_n 0, 1) := by decide +kernel
theorem dX8_shareOfOrders_99 : decode cX8_shareOfOrders 99 = .ok (.getfield 47, 3) := by decide +kernel
theorem dX8_shareOfOrders_102 : decode cX8_shareOfOrders 102 = .ok (.iload 6, 2) := by decide +kernel
theorem dX8_shareOfOrders_104 : decode cX8_shareOfOrders 104 = .ok (.iconst 0, 1) := by decide +kernel
theorem dX8_shareOfOrders_105 : decode cX8_shareOfOrders 105 = .ok (.iastore, 1) := by decide +kernel
theorem dX8_shareOfOrders_106 : decode cX8_shareOfOrders 106 = .ok (.iinc 6 1, 3) := by decide +kernel
theorem dX8_shareOfOrders_109 : decode cX8_shareOfOrders 109 = .ok (.iinc 7 1, 3) := by decide +kernel
theorem dX8_shareOfOrders_112 : decode cX8_shareOfOrders 112 = .ok (.goto (-99), 3) := by decide +kernel
theorem dX8_shareOfOrders_115 : decode cX8_shareOfOrders 115 = .ok (.iload_n 3, 1) := by decide +kernel
theorem dX8_shareOfOrders_116 : decode cX8_shareOfOrders 116 = .ok (.i2l, 1) := by decide +kernel
theorem dX8_shareOfOrders_117 : decode cX8_shareOfOrders 117 = .ok (.ldc2_w 113, 3) := by decide +kernel
theorem dX8_shareOfOrders_120 : decode cX8_shareOfOrders 120 = .ok (.lmul, 1) := by decide +kernel
theorem dX8_shareOfOrders_121 : decode cX8_shareOfOrders 121 = .ok (.iconst 1, 1) := by decide +kernel
theorem dX8_shareOfOrders_122 : decode cX8_shareOfOrders 122 = .ok (.iload_n 2, 1) := by decide +kernel
theorem dX8_shareOfOrders_123 : decode cX8_shareOfOrders 123 = .ok (.invokestatic 115, 3) := by decide +kernel
theorem dX8_shareOfOrders_126 : decode cX8_shareOfOrders 126 = .ok (.i2l, 1) := by decide +kernel
theorem dX8_shareOfOrders_127 : decode cX8_shareOfOrders 127 = .ok (.ldiv, 1) := by decide +kernel
theorem dX8_shareOfOrders_128 : decode cX8_shareOfOrders 128 = .ok (.l2i, 1) := by decide +kernel
theorem dX8_shareOfOrders_129 : decode cX8_shareOfOrders 129 = .ok (.ireturn, 1) := by decide +kernel
def fX8_shareOfOrders_L13 (p1 : Int32) (a : Int32 × Int32 × Int64 × Int32 × Int32) (s : Sg) : Option (((Int32 × Int32 × Int64 × Int32 × Int32) ⊕ (Int32 × Int32)) × Sg) :=
  if (20000 : Int32) ≤ a.2.2.2.2 then
  some (.inr (a.1, a.2.1), s)
  else
  if p1 ≤ a.2.2.2.1 then
  some (.inr (a.1, a.2.1), s)
  else
  (aI s 24 7 a.2.2.2.1).bind fun v3 =>
  ((if a.2.2.2.1 ≤ v3 then
  (wI s 24 7 a.2.2.2.1 (0 : Int32)).bind fun s7 =>
  bnd (a.2.2.2.1 + (1 : Int32)) fun x8 =>
  some (a.1, a.2.1, a.2.2.1, x8, s7)
  else
  (mI a.2.2.2.1 (2 : Int32)).bind fun v10 =>
  ((if v10 = 0 then
  some (0 : Int32)
  else
  (aI s 24 7 a.2.2.2.1).bind fun v22 =>
  some v22) : Option (Int32)).bind fun w11 =>
  (fX8_swap w11 a.2.2.2.1 s).bind fun w13 =>
  bnd (a.2.2.1 + w13.1) fun x14 =>
  bnd (a.1 + (1 : Int32)) fun x15 =>
  ((if (lg_cmp x14 (0 : Int64)) < 0 then
  some a.2.1
  else
  bnd (a.2.1 + (1 : Int32)) fun x21 =>
  some x21) : Option (Int32)).bind fun w16 =>
  (aI w13.2 24 7 a.2.2.2.1).bind fun v18 =>
  (wI w13.2 24 7 a.2.2.2.1 (v18 + (1 : Int32))).bind fun s19 =>
  some (x15, w16, x14, (1 : Int32), s19)) : Option (Int32 × Int32 × Int64 × Int32 × Sg)).bind fun w4 =>
  bnd (a.2.2.2.2 + (1 : Int32)) fun x6 =>
  some (.inl (w4.1, w4.2.1, w4.2.2.1, w4.2.2.2.1, x6), w4.2.2.2.2)
def fX8_shareOfOrders (x0_ : Int32) (s : Sg) : Option (Int32 × Sg) :=
  (lpG (fX8_shareOfOrders_L13 x0_) FU ((1 : Int32), (1 : Int32), (0 : Int64), (1 : Int32), (0 : Int32)) s).bind fun w1 =>
  (dL (((w1.1.2).toInt64) * (1000000 : Int64)) (((mxI (1 : Int32) w1.1.1)).toInt64)).bind fun v2 =>
  some (((v2).toInt32), w1.2)
theorem ct_X8_shareOfOrders {g : Gl} {x0_ : Int32} {s : Sg} {w : Int32 × Sg}  (h : fX8_shareOfOrders x0_ s = some w) : Ct SS g iX8_shareOfOrders 1 24 [.ref (gad g 19), .int x0_] s (Dt (some (.int w.1)) w.2) := by
  refine Ct.ofV (by decide +kernel) 6 (lv0 := [some (.ref (gad g 19)), some (.int x0_), none, none, none, none, none, none]) rfl rfl (fun M hC => ?_)
  have hP : (Dt (some (.int w.1)) w.2) (some (.int w.1)) w.2 := ⟨rfl, rfl⟩
  generalize Dt (some (.int w.1)) w.2 = P at hP ⊢
  unfold fX8_shareOfOrders at h
  refine v_iconst (pc := 0) (1 : Int32) rfl hC dX8_shareOfOrders_0 ?_
  refine v_istore_n (pc := 1) (lv' := [some (.ref (gad g 19)), some (.int x0_), some (.int (1 : Int32)), none, none, none, none, none]) hC dX8_shareOfOrders_1 rfl rfl rfl rfl ?_
  refine v_iconst (pc := 2) (1 : Int32) rfl hC dX8_shareOfOrders_2 ?_
  refine v_istore_n (pc := 3) (lv' := [some (.ref (gad g 19)), some (.int x0_), some (.int (1 : Int32)), some (.int (1 : Int32)), none, none, none, none]) hC dX8_shareOfOrders_3 rfl rfl rfl rfl ?_
  refine v_lconst (pc := 4) (0 : Int64) rfl hC dX8_shareOfOrders_4 ?_
  refine v_lstore (pc := 5) (lv' := [some (.ref (gad g 19)), some (.int x0_), some (.int (1 : Int32)), some (.int (1 : Int32)), some (.long (0 : Int64)), none, none, none]) hC dX8_shareOfOrders_5 rfl rfl rfl rfl ?_
  refine v_iconst (pc := 7) (1 : Int32) rfl hC dX8_shareOfOrders_7 ?_
  refine v_istore (pc := 8) (lv' := [some (.ref (gad g 19)), some (.int x0_), some (.int (1 : Int32)), some (.int (1 : Int32)), some (.long (0 : Int64)), none, some (.int (1 : Int32)), none]) hC dX8_shareOfOrders_8 rfl rfl rfl rfl ?_
  refine v_iconst (pc := 10) (0 : Int32) rfl hC dX8_shareOfOrders_10 ?_
  refine v_istore (pc := 11) (lv' := [some (.ref (gad g 19)), some (.int x0_), some (.int (1 : Int32)), some (.int (1 : Int32)), some (.long (0 : Int64)), none, some (.int (1 : Int32)), some (.int (0 : Int32))]) hC dX8_shareOfOrders_11 rfl rfl rfl rfl ?_
  obtain ⟨w1, hw1, h⟩ := obd_s h
  have kx32 : V SS g M iX8_shareOfOrders (PQ SS g M P) 115 [none, none, some (.int w1.1.1), some (.int w1.1.2), none, none, none, none] [] w1.2 := by
    refine v_iload_n (pc := 115) hC dX8_shareOfOrders_115 rfl ?_
    refine v_i2l (pc := 116) hC dX8_shareOfOrders_116 ?_
    refine v_ldc2 (pc := 117) (1000000 : Int64) kc_X8_113 hC dX8_shareOfOrders_117 ?_
    refine v_lmul (pc := 120) hC dX8_shareOfOrders_120 ?_
    refine v_iconst (pc := 121) (1 : Int32) rfl hC dX8_shareOfOrders_121 ?_
    refine v_iload_n (pc := 122) hC dX8_shareOfOrders_122 rfl ?_
    refine v_mx (pc := 123) hC mm_X8_115 rfl rfl dX8_shareOfOrders_123 ?_
    refine v_i2l (pc := 126) hC dX8_shareOfOrders_126 ?_
    obtain ⟨v2, hv2, h⟩ := obd_s h
    refine v_dL (pc := 127) hC hv2 dX8_shareOfOrders_127 ?_
    refine v_l2i (pc := 128) hC dX8_shareOfOrders_128 ?_
    obtain rfl := Option.some.inj h
    exact v_iret (pc := 129) hC rfl dX8_shareOfOrders_129 hP
  refine V.ls (ls_some (ls_some (ls_some (ls_some (ls_some (ls_none (ls_some (ls_some ls_nil)))))))) (v_loop (pc := 13) (fun a5 => [some (.ref (gad g 19)), some (.int x0_), some (.int a5.1), some (.int a5.2.1), some (.long a5.2.2.1), none, some (.int a5.2.2.2.1), some (.int a5.2.2.2.2)]) (fun z t => V SS g M iX8_shareOfOrders (PQ SS g M P) 115 [none, none, some (.int z.1), some (.int z.2), none, none, none, none] [] t) (fun a5 s3 u4 hu4 k6 k7 => ?_) _ _ _ _ hw1 kx32)
  unfold fX8_shareOfOrders_L13 at hu4
  refine v_iload (pc := 13) hC dX8_shareOfOrders_13 rfl ?_
  refine v_sipush (pc := 15) (20000 : Int32) rfl hC dX8_shareOfOrders_15 ?_
  refine v_ic_ge (pc := 18) (tgt := 115) hC dX8_shareOfOrders_18 rfl (fun c9 => ?_) (fun c9 => ?_)
  · replace hu4 := (if_pos c9).symm.trans hu4
    obtain rfl := Option.some.inj hu4
    exact V.ls (ls_none (ls_none (ls_some (ls_some (ls_none (ls_none (ls_none (ls_none ls_nil)))))))) (k7 _ rfl)
  · replace hu4 := (if_neg c9).symm.trans hu4
    refine v_iload (pc := 21) hC dX8_shareOfOrders_21 rfl ?_
    refine v_iload_n (pc := 23) hC dX8_shareOfOrders_23 rfl ?_
    refine v_ic_ge (pc := 24) (tgt := 115) hC dX8_shareOfOrders_24 rfl (fun c10 => ?_) (fun c10 => ?_)
    · replace hu4 := (if_pos c10).symm.trans hu4
      obtain rfl := Option.some.inj hu4
      exact V.ls (ls_none (ls_none (ls_some (ls_some (ls_none (ls_none (ls_none (ls_none ls_nil)))))))) (k7 _ rfl)
    · replace hu4 := (if_neg c10).symm.trans hu4
      refine v_aload_n (pc := 27) hC dX8_shareOfOrders_27 rfl ?_
      refine v_gt (pc := 28) 9 (.ref (gad g 24)) hC s_19 rfl rfl rfl rfl fl_X8_47 dX8_shareOfOrders_28 ?_
      refine v_iload (pc := 31) hC dX8_shareOfOrders_31 rfl ?_
      obtain ⟨v11, hv11, hu4⟩ := obd_s hu4
      refine v_aI (pc := 33) hC s_24 hv11 dX8_shareOfOrders_33 ?_
      refine v_iload (pc := 34) hC dX8_shareOfOrders_34 rfl ?_
      obtain ⟨w12, hw12, hu4⟩ := obd_s hu4
      have kj13 : V SS g M iX8_shareOfOrders (PQ SS g M P) 109 [some (.ref (gad g 19)), some (.int x0_), some (.int w12.1), some (.int w12.2.1), some (.long w12.2.2.1), none, some (.int w12.2.2.2.1), some (.int a5.2.2.2.2)] [] w12.2.2.2.2 := by
        obtain ⟨x14, hx14, hu4⟩ := bnd_s hu4
        refine v_iinc (pc := 109) (lv' := [some (.ref (gad g 19)), some (.int x0_), some (.int w12.1), some (.int w12.2.1), some (.long w12.2.2.1), none, some (.int w12.2.2.2.1), some (.int x14)]) (1 : Int32) rfl hx14 hC dX8_shareOfOrders_109 rfl rfl rfl rfl ?_
        refine v_goto (pc := 112) (tgt := 13) hC dX8_shareOfOrders_112 rfl ?_
        obtain rfl := Option.some.inj hu4
        exact V.ls (ls_some (ls_some (ls_some (ls_some (ls_some (ls_none (ls_some (ls_some ls_nil)))))))) (k6 _ rfl)
      refine v_ic_ge (pc := 36) (tgt := 98) hC dX8_shareOfOrders_36 rfl (fun c17 => ?_) (fun c17 => ?_)
      · replace hw12 := (if_pos c17).symm.trans hw12
        refine v_aload_n (pc := 98) hC dX8_shareOfOrders_98 rfl ?_
        refine v_gt (pc := 99) 9 (.ref (gad g 24)) hC s_19 rfl rfl rfl rfl fl_X8_47 dX8_shareOfOrders_99 ?_
        refine v_iload (pc := 102) hC dX8_shareOfOrders_102 rfl ?_
        refine v_iconst (pc := 104) (0 : Int32) rfl hC dX8_shareOfOrders_104 ?_
        obtain ⟨s15, hs15, hw12⟩ := obd_s hw12
        refine v_wI (pc := 105) hC s_24 hs15 dX8_shareOfOrders_105 ?_
        obtain ⟨x16, hx16, hw12⟩ := bnd_s hw12
        refine v_iinc (pc := 106) (lv' := [some (.ref (gad g 19)), some (.int x0_), some (.int a5.1), some (.int a5.2.1), some (.long a5.2.2.1), none, some (.int x16), some (.int a5.2.2.2.2)]) (1 : Int32) rfl hx16 hC dX8_shareOfOrders_106 rfl rfl rfl rfl ?_
        obtain rfl := Option.some.inj hw12
        exact V.ls (ls_some (ls_some (ls_some (ls_some (ls_some (ls_none (ls_some (ls_some ls_nil)))))))) kj13
      · replace hw12 := (if_neg c17).symm.trans hw12
        refine v_lload (pc := 39) hC dX8_shareOfOrders_39 rfl ?_
        refine v_aload_n (pc := 41) hC dX8_shareOfOrders_41 rfl ?_
        refine v_iload (pc := 42) hC dX8_shareOfOrders_42 rfl ?_
        refine v_iconst (pc := 44) (2 : Int32) rfl hC dX8_shareOfOrders_44 ?_
        obtain ⟨v18, hv18, hw12⟩ := obd_s hw12
        refine v_mI (pc := 45) hC hv18 dX8_shareOfOrders_45 ?_
        obtain ⟨w19, hw19, hw12⟩ := obd_s hw12
        have kj20 : V SS g M iX8_shareOfOrders (PQ SS g M P) 60 [some (.ref (gad g 19)), some (.int x0_), some (.int a5.1), some (.int a5.2.1), none, none, some (.int a5.2.2.2.1), some (.int a5.2.2.2.2)] [.int w19, .ref (gad g 19), .long a5.2.2.1] s3 := by
          refine v_iload (pc := 60) hC dX8_shareOfOrders_60 rfl ?_
          obtain ⟨w21, hw21, hw12⟩ := obd_s hw12
          refine v_cV (pc := 62) [.long a5.2.2.1] [.long w21.1, .long a5.2.2.1] gm_X8_swap hC s_19 rfl rfl (ct_X8_swap  hw21) ml_X8_109 rfl rfl rfl rfl rfl rfl dX8_shareOfOrders_62 ?_
          refine v_ladd (pc := 65) hC dX8_shareOfOrders_65 ?_
          obtain ⟨x22, hx22, hw12⟩ := bnd_s hw12
          refine v_lstore (pc := 66) (lv' := [some (.ref (gad g 19)), some (.int x0_), some (.int a5.1), some (.int a5.2.1), some (.long x22), none, some (.int a5.2.2.2.1), some (.int a5.2.2.2.2)]) hC dX8_shareOfOrders_66 hx22 rfl rfl rfl ?_
          obtain ⟨x23, hx23, hw12⟩ := bnd_s hw12
          refine v_iinc (pc := 68) (lv' := [some (.ref (gad g 19)), some (.int x0_), some (.int x23), some (.int a5.2.1), some (.long x22), none, some (.int a5.2.2.2.1), some (.int a5.2.2.2.2)]) (1 : Int32) rfl hx23 hC dX8_shareOfOrders_68 rfl rfl rfl rfl ?_
          refine v_lload (pc := 71) hC dX8_shareOfOrders_71 rfl ?_
          refine v_lconst (pc := 73) (0 : Int64) rfl hC dX8_shareOfOrders_73 ?_
          refine v_lcmp (pc := 74) hC dX8_shareOfOrders_74 ?_
          obtain ⟨w24, hw24, hw12⟩ := obd_s hw12
          have kj25 : V SS g M iX8_shareOfOrders (PQ SS g M P) 81 [some (.ref (gad g 19)), some (.int x0_), some (.int x23), some (.int w24), some (.long x22), none, some (.int a5.2.2.2.1), some (.int a5.2.2.2.2)] [] w21.2 := by
            refine v_aload_n (pc := 81) hC dX8_shareOfOrders_81 rfl ?_
            refine v_gt (pc := 82) 9 (.ref (gad g 24)) hC s_19 rfl rfl rfl rfl fl_X8_47 dX8_shareOfOrders_82 ?_
            refine v_iload (pc := 85) hC dX8_shareOfOrders_85 rfl ?_
            refine v_dup2 (pc := 87) hC rfl rfl dX8_shareOfOrders_87 ?_
            obtain ⟨v26, hv26, hw12⟩ := obd_s hw12
            refine v_aI (pc := 88) hC s_24 hv26 dX8_shareOfOrders_88 ?_
            refine v_iconst (pc := 89) (1 : Int32) rfl hC dX8_shareOfOrders_89 ?_
            refine v_iadd (pc := 90) hC dX8_shareOfOrders_90 ?_
            obtain ⟨s27, hs27, hw12⟩ := obd_s hw12
            refine v_wI (pc := 91) hC s_24 hs27 dX8_shareOfOrders_91 ?_
            refine v_iconst (pc := 92) (1 : Int32) rfl hC dX8_shareOfOrders_92 ?_
            refine v_istore (pc := 93) (lv' := [some (.ref (gad g 19)), some (.int x0_), some (.int x23), some (.int w24), some (.long x22), none, some (.int (1 : Int32)), some (.int a5.2.2.2.2)]) hC dX8_shareOfOrders_93 rfl rfl rfl rfl ?_
            refine v_goto (pc := 95) (tgt := 109) hC dX8_shareOfOrders_95 rfl ?_
            obtain rfl := Option.some.inj hw12
            exact V.ls (ls_some (ls_some (ls_some (ls_some (ls_some (ls_none (ls_some (ls_some ls_nil)))))))) kj13
          refine v_if_lt (pc := 75) (tgt := 81) hC dX8_shareOfOrders_75 rfl (fun c28 => ?_) (fun c28 => ?_)
          · replace hw24 := (if_pos c28).symm.trans hw24
            obtain rfl := Option.some.inj hw24
            exact V.ls (ls_some (ls_some (ls_some (ls_some (ls_some (ls_none (ls_some (ls_some ls_nil)))))))) kj25
          · replace hw24 := (if_neg c28).symm.trans hw24
            obtain ⟨x29, hx29, hw24⟩ := bnd_s hw24
            refine v_iinc (pc := 78) (lv' := [some (.ref (gad g 19)), some (.int x0_), some (.int x23), some (.int x29), some (.long x22), none, some (.int a5.2.2.2.1), some (.int a5.2.2.2.2)]) (1 : Int32) rfl hx29 hC dX8_shareOfOrders_78 rfl rfl rfl rfl ?_
            obtain rfl := Option.some.inj hw24
            exact V.ls (ls_some (ls_some (ls_some (ls_some (ls_some (ls_none (ls_some (ls_some ls_nil)))))))) kj25
        refine v_if_ne (pc := 46) (tgt := 53) hC dX8_shareOfOrders_46 rfl (fun c31 => ?_) (fun c31 => ?_)
        · replace hw19 := (if_neg c31).symm.trans hw19
          refine v_aload_n (pc := 53) hC dX8_shareOfOrders_53 rfl ?_
          refine v_gt (pc := 54) 9 (.ref (gad g 24)) hC s_19 rfl rfl rfl rfl fl_X8_47 dX8_shareOfOrders_54 ?_
          refine v_iload (pc := 57) hC dX8_shareOfOrders_57 rfl ?_
          obtain ⟨v30, hv30, hw19⟩ := obd_s hw19
          refine v_aI (pc := 59) hC s_24 hv30 dX8_shareOfOrders_59 ?_
          obtain rfl := Option.some.inj hw19
          exact V.ls (ls_some (ls_some (ls_some (ls_some (ls_none (ls_none (ls_some (ls_some ls_nil)))))))) kj20
        · replace hw19 := (if_pos c31).symm.trans hw19
          refine v_iconst (pc := 49) (0 : Int32) rfl hC dX8_shareOfOrders_49 ?_
          refine v_goto (pc := 50) (tgt := 60) hC dX8_shareOfOrders_50 rfl ?_
          obtain rfl := Option.some.inj hw19
          exact V.ls (ls_some (ls_some (ls_some (ls_some (ls_none (ls_none (ls_some (ls_some ls_nil)))))))) kj20
