/-! methods, printed by wip/whole/gen/meth.py: X8_chanceOfShape, X8_findOwn, X10_isDay, X10_mayBeRace, X10_race, X10_isSwimmer, X10_swim, X10_mayBeTime, X10_time, X10_isSheet, X10_found, X10_read, X10_seeds, X10_about, X10_isPart, X10_refusal, X10_diff, X10_ofLane, X10_lane, X10_counts -/
theorem dX8_chanceOfShape_0 : decode cX8_chanceOfShape 0 = .ok (.aload_n 0, 1) := by decide +kernel
theorem dX8_chanceOfShape_1 : decode cX8_chanceOfShape 1 = .ok (.getfield 18, 3) := by decide +kernel
theorem dX8_chanceOfShape_4 : decode cX8_chanceOfShape 4 = .ok (.getfield 100, 3) := by decide +kernel
theorem dX8_chanceOfShape_7 : decode cX8_chanceOfShape 7 = .ok (.iconst 2, 1) := by decide +kernel
theorem dX8_chanceOfShape_8 : decode cX8_chanceOfShape 8 = .ok (.if_icmp .ge 6, 3) := by decide +kernel
theorem dX8_chanceOfShape_11 : decode cX8_chanceOfShape 11 = .ok (.bipush (-3), 2) := by decide +kernel
theorem dX8_chanceOfShape_13 : decode cX8_chanceOfShape 13 = .ok (.ireturn, 1) := by decide +kernel
theorem dX8_chanceOfShape_14 : decode cX8_chanceOfShape 14 = .ok (.aload_n 0, 1) := by decide +kernel
theorem dX8_chanceOfShape_15 : decode cX8_chanceOfShape 15 = .ok (.getfield 18, 3) := by decide +kernel
theorem dX8_chanceOfShape_18 : decode cX8_chanceOfShape 18 = .ok (.getfield 100, 3) := by decide +kernel
theorem dX8_chanceOfShape_21 : decode cX8_chanceOfShape 21 = .ok (.bipush 7, 2) := by decide +kernel
theorem dX8_chanceOfShape_23 : decode cX8_chanceOfShape 23 = .ok (.if_icmp .le 6, 3) := by decide +kernel
theorem dX8_chanceOfShape_26 : decode cX8_chanceOfShape 26 = .ok (.bipush (-4), 2) := by decide +kernel
theorem dX8_chanceOfShape_28 : decode cX8_chanceOfShape 28 = .ok (.ireturn, 1) := by decide +kernel
theorem dX8_chanceOfShape_29 : decode cX8_chanceOfShape 29 = .ok (.iconst 0, 1) := by decide +kernel
theorem dX8_chanceOfShape_30 : decode cX8_chanceOfShape 30 = .ok (.istore_n 1, 1) := by decide +kernel
theorem dX8_chanceOfShape_31 : decode cX8_chanceOfShape 31 = .ok (.iconst 0, 1) := by decide +kernel
theorem dX8_chanceOfShape_32 : decode cX8_chanceOfShape 32 = .ok (.istore_n 2, 1) := by decide +kernel
theorem dX8_chanceOfShape_33 : decode cX8_chanceOfShape 33 = .ok (.iload_n 2, 1) := by decide +kernel
theorem dX8_chanceOfShape_34 : decode cX8_chanceOfShape 34 = .ok (.bipush 8, 2) := by decide +kernel
theorem dX8_chanceOfShape_36 : decode cX8_chanceOfShape 36 = .ok (.if_icmp .ge 52, 3) := by decide +kernel
theorem dX8_chanceOfShape_39 : decode cX8_chanceOfShape 39 = .ok (.aload_n 0, 1) := by decide +kernel
theorem dX8_chanceOfShape_40 : decode cX8_chanceOfShape 40 = .ok (.getfield 18, 3) := by decide +kernel
theorem dX8_chanceOfShape_43 : decode cX8_chanceOfShape 43 = .ok (.getfield 66, 3) := by decide +kernel
theorem dX8_chanceOfShape_46 : decode cX8_chanceOfShape 46 = .ok (.iload_n 2, 1) := by decide +kernel
theorem dX8_chanceOfShape_47 : decode cX8_chanceOfShape 47 = .ok (.iaload, 1) := by decide +kernel
theorem dX8_chanceOfShape_48 : decode cX8_chanceOfShape 48 = .ok (.ifCond .le 34, 3) := by decide +kernel
theorem dX8_chanceOfShape_51 : decode cX8_chanceOfShape 51 = .ok (.iload_n 1, 1) := by decide +kernel
theorem dX8_chanceOfShape_52 : decode cX8_chanceOfShape 52 = .ok (.bipush 7, 2) := by decide +kernel
theorem dX8_chanceOfShape_54 : decode cX8_chanceOfShape 54 = .ok (.if_icmp .ge 28, 3) := by decide +kernel
theorem dX8_chanceOfShape_57 : decode cX8_chanceOfShape 57 = .ok (.aload_n 0, 1) := by decide +kernel
theorem dX8_chanceOfShape_58 : decode cX8_chanceOfShape 58 = .ok (.getfield 43, 3) := by decide +kernel
theorem dX8_chanceOfShape_61 : decode cX8_chanceOfShape 61 = .ok (.iload_n 1, 1) := by decide +kernel
theorem dX8_chanceOfShape_62 : decode cX8_chanceOfShape 62 = .ok (.aload_n 0, 1) := by decide +kernel
theorem dX8_chanceOfShape_63 : decode cX8_chanceOfShape 63 = .ok (.getfield 18, 3) := by decide +kernel
theorem dX8_chanceOfShape_66 : decode cX8_chanceOfShape 66 = .ok (.getfield 103, 3) := by decide +kernel
theorem dX8_chanceOfShape_69 : decode cX8_chanceOfShape 69 = .ok (.iload_n 2, 1) := by decide +kernel
theorem dX8_chanceOfShape_70 : decode cX8_chanceOfShape 70 = .ok (.laload, 1) := by decide +kernel
theorem dX8_chanceOfShape_71 : decode cX8_chanceOfShape 71 = .ok (.lastore, 1) := by decide +kernel
theorem dX8_chanceOfShape_72 : decode cX8_chanceOfShape 72 = .ok (.aload_n 0, 1) := by decide +kernel
theorem dX8_chanceOfShape_73 : decode cX8_chanceOfShape 73 = .ok (.getfield 47, 3) := by decide +kernel
theorem dX8_chanceOfShape_76 : decode cX8_chanceOfShape 76 = .ok (.iload_n 1, 1) := by decide +kernel
theorem dX8_chanceOfShape_77 : decode cX8_chanceOfShape 77 = .ok (.iconst 0, 1) := by decide +kernel
theorem dX8_chanceOfShape_78 : decode cX8_chanceOfShape 78 = .ok (.iastore, 1) := by decide +kernel
theorem dX8_chanceOfShape_79 : decode cX8_chanceOfShape 79 = .ok (.iinc 1 1, 3) := by decide +kernel
theorem dX8_chanceOfShape_82 : decode cX8_chanceOfShape 82 = .ok (.iinc 2 1, 3) := by decide +kernel
theorem dX8_chanceOfShape_85 : decode cX8_chanceOfShape 85 = .ok (.goto (-52), 3) := by decide +kernel
theorem dX8_chanceOfShape_88 : decode cX8_chanceOfShape 88 = .ok (.aload_n 0, 1) := by decide +kernel
theorem dX8_chanceOfShape_89 : decode cX8_chanceOfShape 89 = .ok (.iload_n 1, 1) := by decide +kernel
theorem dX8_chanceOfShape_90 : decode cX8_chanceOfShape 90 = .ok (.invokevirtual 106, 3) := by decide +kernel
theorem dX8_chanceOfShape_93 : decode cX8_chanceOfShape 93 = .ok (.ireturn, 1) := by decide +kernel
def fX8_chanceOfShape_L33  (a : Int32 × Int32) (s : Sg) : Option (((Int32 × Int32) ⊕ (Int32)) × Sg) :=
  if (8 : Int32) ≤ a.2 then
  some (.inr a.1, s)
  else
  (aI s 10 8 a.2).bind fun v2 =>
  ((if v2 ≤ 0 then
  some (a.1, s)
  else
  if (7 : Int32) ≤ a.1 then
  some (a.1, s)
  else
  (aL s 12 8 a.2).bind fun v8 =>
  (wL s 23 7 a.1 v8).bind fun s9 =>
  (wI s9 24 7 a.1 (0 : Int32)).bind fun s10 =>
  bnd (a.1 + (1 : Int32)) fun x11 =>
  some (x11, s10)) : Option (Int32 × Sg)).bind fun w3 =>
  bnd (a.2 + (1 : Int32)) fun x5 =>
  some (.inl (w3.1, x5), w3.2)
def fX8_chanceOfShape  (s : Sg) : Option (Int32 × Sg) :=
  if (2 : Int32) ≤ (gI s 9 4) then
  if (gI s 9 4) ≤ (7 : Int32) then
  (lpG (fX8_chanceOfShape_L33) FU ((0 : Int32), (0 : Int32)) s).bind fun w1 =>
  (fX8_shareOfOrders w1.1 w1.2).bind fun w2 =>
  some (w2.1, w2.2)
  else
  some ((-4 : Int32), s)
  else
  some ((-3 : Int32), s)
theorem ct_X8_chanceOfShape {g : Gl}  {s : Sg} {w : Int32 × Sg}  (h : fX8_chanceOfShape s = some w) : Ct SS g iX8_chanceOfShape 2 51 [.ref (gad g 19)] s (Dt (some (.int w.1)) w.2) := by
  refine Ct.ofV (by decide +kernel) 2 (lv0 := [some (.ref (gad g 19)), none, none]) rfl rfl (fun M hC => ?_)
  have hP : (Dt (some (.int w.1)) w.2) (some (.int w.1)) w.2 := ⟨rfl, rfl⟩
  generalize Dt (some (.int w.1)) w.2 = P at hP ⊢
  unfold fX8_chanceOfShape at h
  refine v_aload_n (pc := 0) hC dX8_chanceOfShape_0 rfl ?_
  refine v_gt (pc := 1) 1 (.ref (gad g 9)) hC s_19 rfl rfl rfl rfl fl_X8_18 dX8_chanceOfShape_1 ?_
  refine v_gtN (pc := 4) 4 (.int (gI s 9 4)) hC s_9 rfl rfl rfl rfl fl_X8_100 dX8_chanceOfShape_4 ?_
  refine v_iconst (pc := 7) (2 : Int32) rfl hC dX8_chanceOfShape_7 ?_
  refine v_ic_ge (pc := 8) (tgt := 14) hC dX8_chanceOfShape_8 rfl (fun c22 => ?_) (fun c22 => ?_)
  · replace h := (if_pos c22).symm.trans h
    refine v_aload_n (pc := 14) hC dX8_chanceOfShape_14 rfl ?_
    refine v_gt (pc := 15) 1 (.ref (gad g 9)) hC s_19 rfl rfl rfl rfl fl_X8_18 dX8_chanceOfShape_15 ?_
    refine v_gtN (pc := 18) 4 (.int (gI s 9 4)) hC s_9 rfl rfl rfl rfl fl_X8_100 dX8_chanceOfShape_18 ?_
    refine v_bipush (pc := 21) (7 : Int32) rfl hC dX8_chanceOfShape_21 ?_
    refine v_ic_le (pc := 23) (tgt := 29) hC dX8_chanceOfShape_23 rfl (fun c21 => ?_) (fun c21 => ?_)
    · replace h := (if_pos c21).symm.trans h
      refine v_iconst (pc := 29) (0 : Int32) rfl hC dX8_chanceOfShape_29 ?_
      refine v_istore_n (pc := 30) (lv' := [some (.ref (gad g 19)), some (.int (0 : Int32)), none]) hC dX8_chanceOfShape_30 rfl rfl rfl rfl ?_
      refine v_iconst (pc := 31) (0 : Int32) rfl hC dX8_chanceOfShape_31 ?_
      refine v_istore_n (pc := 32) (lv' := [some (.ref (gad g 19)), some (.int (0 : Int32)), some (.int (0 : Int32))]) hC dX8_chanceOfShape_32 rfl rfl rfl rfl ?_
      obtain ⟨w1, hw1, h⟩ := obd_s h
      have kx20 : V SS g M iX8_chanceOfShape (PQ SS g M P) 88 [some (.ref (gad g 19)), some (.int w1.1), none] [] w1.2 := by
        refine v_aload_n (pc := 88) hC dX8_chanceOfShape_88 rfl ?_
        refine v_iload_n (pc := 89) hC dX8_chanceOfShape_89 rfl ?_
        obtain ⟨w2, hw2, h⟩ := obd_s h
        refine v_cV (pc := 90) [] [.int w2.1] gm_X8_shareOfOrders hC s_19 rfl rfl (ct_X8_shareOfOrders  hw2) ml_X8_106 rfl rfl rfl rfl rfl rfl dX8_chanceOfShape_90 ?_
        obtain rfl := Option.some.inj h
        exact v_iret (pc := 93) hC rfl dX8_chanceOfShape_93 hP
      refine V.ls (ls_some (ls_some (ls_some ls_nil))) (v_loop (pc := 33) (fun a5 => [some (.ref (gad g 19)), some (.int a5.1), some (.int a5.2)]) (fun z t => V SS g M iX8_chanceOfShape (PQ SS g M P) 88 [some (.ref (gad g 19)), some (.int z), none] [] t) (fun a5 s3 u4 hu4 k6 k7 => ?_) _ _ _ _ hw1 kx20)
      unfold fX8_chanceOfShape_L33 at hu4
      refine v_iload_n (pc := 33) hC dX8_chanceOfShape_33 rfl ?_
      refine v_bipush (pc := 34) (8 : Int32) rfl hC dX8_chanceOfShape_34 ?_
      refine v_ic_ge (pc := 36) (tgt := 88) hC dX8_chanceOfShape_36 rfl (fun c9 => ?_) (fun c9 => ?_)
      · replace hu4 := (if_pos c9).symm.trans hu4
        obtain rfl := Option.some.inj hu4
        exact V.ls (ls_some (ls_some (ls_none ls_nil))) (k7 _ rfl)
      · replace hu4 := (if_neg c9).symm.trans hu4
        refine v_aload_n (pc := 39) hC dX8_chanceOfShape_39 rfl ?_
        refine v_gt (pc := 40) 1 (.ref (gad g 9)) hC s_19 rfl rfl rfl rfl fl_X8_18 dX8_chanceOfShape_40 ?_
        refine v_gtN (pc := 43) 0 (.ref (gad g 10)) hC s_9 rfl rfl rfl rfl fl_X8_66 dX8_chanceOfShape_43 ?_
        refine v_iload_n (pc := 46) hC dX8_chanceOfShape_46 rfl ?_
        obtain ⟨v10, hv10, hu4⟩ := obd_s hu4
        refine v_aI (pc := 47) hC s_10 hv10 dX8_chanceOfShape_47 ?_
        obtain ⟨w11, hw11, hu4⟩ := obd_s hu4
        have kj12 : V SS g M iX8_chanceOfShape (PQ SS g M P) 82 [some (.ref (gad g 19)), some (.int w11.1), some (.int a5.2)] [] w11.2 := by
          obtain ⟨x13, hx13, hu4⟩ := bnd_s hu4
          refine v_iinc (pc := 82) (lv' := [some (.ref (gad g 19)), some (.int w11.1), some (.int x13)]) (1 : Int32) rfl hx13 hC dX8_chanceOfShape_82 rfl rfl rfl rfl ?_
          refine v_goto (pc := 85) (tgt := 33) hC dX8_chanceOfShape_85 rfl ?_
          obtain rfl := Option.some.inj hu4
          exact V.ls (ls_some (ls_some (ls_some ls_nil))) (k6 _ rfl)
        refine v_if_le (pc := 48) (tgt := 82) hC dX8_chanceOfShape_48 rfl (fun c14 => ?_) (fun c14 => ?_)
        · replace hw11 := (if_pos c14).symm.trans hw11
          obtain rfl := Option.some.inj hw11
          exact V.ls (ls_some (ls_some (ls_some ls_nil))) kj12
        · replace hw11 := (if_neg c14).symm.trans hw11
          refine v_iload_n (pc := 51) hC dX8_chanceOfShape_51 rfl ?_
          refine v_bipush (pc := 52) (7 : Int32) rfl hC dX8_chanceOfShape_52 ?_
          refine v_ic_ge (pc := 54) (tgt := 82) hC dX8_chanceOfShape_54 rfl (fun c15 => ?_) (fun c15 => ?_)
          · replace hw11 := (if_pos c15).symm.trans hw11
            obtain rfl := Option.some.inj hw11
            exact V.ls (ls_some (ls_some (ls_some ls_nil))) kj12
          · replace hw11 := (if_neg c15).symm.trans hw11
            refine v_aload_n (pc := 57) hC dX8_chanceOfShape_57 rfl ?_
            refine v_gt (pc := 58) 8 (.ref (gad g 23)) hC s_19 rfl rfl rfl rfl fl_X8_43 dX8_chanceOfShape_58 ?_
            refine v_iload_n (pc := 61) hC dX8_chanceOfShape_61 rfl ?_
            refine v_aload_n (pc := 62) hC dX8_chanceOfShape_62 rfl ?_
            refine v_gt (pc := 63) 1 (.ref (gad g 9)) hC s_19 rfl rfl rfl rfl fl_X8_18 dX8_chanceOfShape_63 ?_
            refine v_gtN (pc := 66) 2 (.ref (gad g 12)) hC s_9 rfl rfl rfl rfl fl_X8_103 dX8_chanceOfShape_66 ?_
            refine v_iload_n (pc := 69) hC dX8_chanceOfShape_69 rfl ?_
            obtain ⟨v16, hv16, hw11⟩ := obd_s hw11
            refine v_aL (pc := 70) hC s_12 hv16 dX8_chanceOfShape_70 ?_
            obtain ⟨s17, hs17, hw11⟩ := obd_s hw11
            refine v_wL (pc := 71) hC s_23 hs17 dX8_chanceOfShape_71 ?_
            refine v_aload_n (pc := 72) hC dX8_chanceOfShape_72 rfl ?_
            refine v_gt (pc := 73) 9 (.ref (gad g 24)) hC s_19 rfl rfl rfl rfl fl_X8_47 dX8_chanceOfShape_73 ?_
            refine v_iload_n (pc := 76) hC dX8_chanceOfShape_76 rfl ?_
            refine v_iconst (pc := 77) (0 : Int32) rfl hC dX8_chanceOfShape_77 ?_
            obtain ⟨s18, hs18, hw11⟩ := obd_s hw11
            refine v_wI (pc := 78) hC s_24 hs18 dX8_chanceOfShape_78 ?_
            obtain ⟨x19, hx19, hw11⟩ := bnd_s hw11
            refine v_iinc (pc := 79) (lv' := [some (.ref (gad g 19)), some (.int x19), some (.int a5.2)]) (1 : Int32) rfl hx19 hC dX8_chanceOfShape_79 rfl rfl rfl rfl ?_
            obtain rfl := Option.some.inj hw11
            exact V.ls (ls_some (ls_some (ls_some ls_nil))) kj12
    · replace h := (if_neg c21).symm.trans h
      refine v_bipush (pc := 26) (-4 : Int32) rfl hC dX8_chanceOfShape_26 ?_
      obtain rfl := Option.some.inj h
      exact v_iret (pc := 28) hC rfl dX8_chanceOfShape_28 hP
  · replace h := (if_neg c22).symm.trans h
    refine v_bipush (pc := 11) (-3 : Int32) rfl hC dX8_chanceOfShape_11 ?_
    obtain rfl := Option.some.inj h
    exact v_iret (pc := 13) hC rfl dX8_chanceOfShape_13 hP
theorem dX8_findOwn_0 : decode cX8_findOwn 0 = .ok (.lconst 0, 1) := by decide +kernel
theorem dX8_findOwn_1 : decode cX8_findOwn 1 = .ok (.lstore_n 3, 1) := by decide +kernel
theorem dX8_findOwn_2 : decode cX8_findOwn 2 = .ok (.iconst 0, 1) := by decide +kernel
theorem dX8_findOwn_3 : decode cX8_findOwn 3 = .ok (.istore 5, 2) := by decide +kernel
theorem dX8_findOwn_5 : decode cX8_findOwn 5 = .ok (.iconst 0, 1) := by decide +kernel
theorem dX8_findOwn_6 : decode cX8_findOwn 6 = .ok (.istore 6, 2) := by decide +kernel
theorem dX8_findOwn_8 : decode cX8_findOwn 8 = .ok (.iload 6, 2) := by decide +kernel
theorem dX8_findOwn_10 : decode cX8_findOwn 10 = .ok (.aload_n 0, 1) := by decide +kernel
theorem dX8_findOwn_11 : decode cX8_findOwn 11 = .ok (.getfield 9, 3) := by decide +kernel
theorem dX8_findOwn_14 : decode cX8_findOwn 14 = .ok (.getfield 53, 3) := by decide +kernel
theorem dX8_findOwn_17 : decode cX8_findOwn 17 = .ok (.if_icmp .ge 74, 3) := by decide +kernel
theorem dX8_findOwn_20 : decode cX8_findOwn 20 = .ok (.aload_n 0, 1) := by decide +kernel
theorem dX8_findOwn_21 : decode cX8_findOwn 21 = .ok (.getfield 25, 3) := by decide +kernel
theorem dX8_findOwn_24 : decode cX8_findOwn 24 = .ok (.iload 6, 2) := by decide +kernel
theorem dX8_findOwn_26 : decode cX8_findOwn 26 = .ok (.baload, 1) := by decide +kernel
theorem dX8_findOwn_27 : decode cX8_findOwn 27 = .ok (.ifCond .eq 58, 3) := by decide +kernel
theorem dX8_findOwn_30 : decode cX8_findOwn 30 = .ok (.aload_n 0, 1) := by decide +kernel
theorem dX8_findOwn_31 : decode cX8_findOwn 31 = .ok (.getfield 9, 3) := by decide +kernel
theorem dX8_findOwn_34 : decode cX8_findOwn 34 = .ok (.getfield 120, 3) := by decide +kernel
theorem dX8_findOwn_37 : decode cX8_findOwn 37 = .ok (.iload 6, 2) := by decide +kernel
theorem dX8_findOwn_39 : decode cX8_findOwn 39 = .ok (.iaload, 1) := by decide +kernel
theorem dX8_findOwn_40 : decode cX8_findOwn 40 = .ok (.iload_n 1, 1) := by decide +kernel
theorem dX8_findOwn_41 : decode cX8_findOwn 41 = .ok (.if_icmp .ne 44, 3) := by decide +kernel
theorem dX8_findOwn_44 : decode cX8_findOwn 44 = .ok (.lload_n 3, 1) := by decide +kernel
theorem dX8_findOwn_45 : decode cX8_findOwn 45 = .ok (.aload_n 0, 1) := by decide +kernel
theorem dX8_findOwn_46 : decode cX8_findOwn 46 = .ok (.getfield 29, 3) := by decide +kernel
theorem dX8_findOwn_49 : decode cX8_findOwn 49 = .ok (.iload 6, 2) := by decide +kernel
theorem dX8_findOwn_51 : decode cX8_findOwn 51 = .ok (.iaload, 1) := by decide +kernel
theorem dX8_findOwn_52 : decode cX8_findOwn 52 = .ok (.i2l, 1) := by decide +kernel
theorem dX8_findOwn_53 : decode cX8_findOwn 53 = .ok (.aload_n 0, 1) := by decide +kernel
theorem dX8_findOwn_54 : decode cX8_findOwn 54 = .ok (.getfield 18, 3) := by decide +kernel
theorem dX8_findOwn_57 : decode cX8_findOwn 57 = .ok (.getfield 123, 3) := by decide +kernel
theorem dX8_findOwn_60 : decode cX8_findOwn 60 = .ok (.lmul, 1) := by decide +kernel
theorem dX8_findOwn_61 : decode cX8_findOwn 61 = .ok (.aload_n 0, 1) := by decide +kernel
theorem dX8_findOwn_62 : decode cX8_findOwn 62 = .ok (.getfield 18, 3) := by decide +kernel
theorem dX8_findOwn_65 : decode cX8_findOwn 65 = .ok (.getfield 103, 3) := by decide +kernel
theorem dX8_findOwn_68 : decode cX8_findOwn 68 = .ok (.aload_n 0, 1) := by decide +kernel
theorem dX8_findOwn_69 : decode cX8_findOwn 69 = .ok (.getfield 9, 3) := by decide +kernel
theorem dX8_findOwn_72 : decode cX8_findOwn 72 = .ok (.getfield 69, 3) := by decide +kernel
theorem dX8_findOwn_75 : decode cX8_findOwn 75 = .ok (.iload 6, 2) := by decide +kernel
theorem dX8_findOwn_77 : decode cX8_findOwn 77 = .ok (.iaload, 1) := by decide +kernel
theorem dX8_findOwn_78 : decode cX8_findOwn 78 = .ok (.laload, 1) := by decide +kernel
theorem dX8_findOwn_79 : decode cX8_findOwn 79 = .ok (.lsub, 1) := by decide +kernel
theorem dX8_findOwn_80 : decode cX8_findOwn 80 = .ok (.ladd, 1) := by decide +kernel
theorem dX8_findOwn_81 : decode cX8_findOwn 81 = .ok (.lstore_n 3, 1) := by decide +kernel
theorem dX8_findOwn_82 : decode cX8_findOwn 82 = .ok (.iinc 5 1, 3) := by decide +kernel
theorem dX8_findOwn_85 : decode cX8_findOwn 85 = .ok (.iinc 6 1, 3) := by decide +kernel
theorem dX8_findOwn_88 : decode cX8_findOwn 88 = .ok (.goto (-80), 3) := by decide +kernel
theorem dX8_findOwn_91 : decode cX8_findOwn 91 = .ok (.iload 5, 2) := by decide +kernel
theorem dX8_findOwn_93 : decode cX8_findOwn 93 = .ok (.ifCond .le 23, 3) := by decide +kernel
theorem dX8_findOwn_96 : decode cX8_findOwn 96 = .ok (.aload_n 2, 1) := by decide +kernel
theorem dX8_findOwn_97 : decode cX8_findOwn 97 = .ok (.lload_n 3, 1) := by decide +kernel
theorem dX8_findOwn_98 : decode cX8_findOwn 98 = .ok (.ldc2_w 127, 3) := by decide +kernel
theorem dX8_findOwn_101 : decode cX8_findOwn 101 = .ok (.aload_n 0, 1) := by decide +kernel
theorem dX8_findOwn_102 : decode cX8_findOwn 102 = .ok (.getfield 18, 3) := by decide +kernel
theorem dX8_findOwn_105 : decode cX8_findOwn 105 = .ok (.getfield 123, 3) := by decide +kernel
theorem dX8_findOwn_108 : decode cX8_findOwn 108 = .ok (.lmul, 1) := by decide +kernel
theorem dX8_findOwn_109 : decode cX8_findOwn 109 = .ok (.iload 5, 2) := by decide +kernel
theorem dX8_findOwn_111 : decode cX8_findOwn 111 = .ok (.i2l, 1) := by decide +kernel
theorem dX8_findOwn_112 : decode cX8_findOwn 112 = .ok (.lmul, 1) := by decide +kernel
theorem dX8_findOwn_113 : decode cX8_findOwn 113 = .ok (.invokevirtual 129, 3) := by decide +kernel
theorem dX8_findOwn_116 : decode cX8_findOwn 116 = .ok (.iload 5, 2) := by decide +kernel
theorem dX8_findOwn_118 : decode cX8_findOwn 118 = .ok (.ifCond .le 7, 3) := by decide +kernel
theorem dX8_findOwn_121 : decode cX8_findOwn 121 = .ok (.iconst 1, 1) := by decide +kernel
theorem dX8_findOwn_122 : decode cX8_findOwn 122 = .ok (.goto 4, 3) := by decide +kernel
theorem dX8_findOwn_125 : decode cX8_findOwn 125 = .ok (.iconst 0, 1) := by decide +kernel
theorem dX8_findOwn_126 : decode cX8_findOwn 126 = .ok (.ireturn, 1) := by decide +kernel
def fX8_findOwn_L8 (p1 : Int32) (a : Int64 × Int32 × Int32) (s : Sg) : Option (((Int64 × Int32 × Int32) ⊕ (Int64 × Int32)) × Sg) :=
  if (gI s 1 1) ≤ a.2.2 then
  some (.inr (a.1, a.2.1), s)
  else
  (aI s 20 64 a.2.2).bind fun v2 =>
  ((if v2 = 0 then
  some (a.1, a.2.1)
  else
  (aI s 5 64 a.2.2).bind fun v7 =>
  if v7 = p1 then
  (aI s 21 64 a.2.2).bind fun v9 =>
  (aI s 6 64 a.2.2).bind fun v10 =>
  (aL s 12 8 v10).bind fun v11 =>
  bnd (a.1 + ((((v9).toInt64) * (gL s 9 5)) - v11)) fun x12 =>
  bnd (a.2.1 + (1 : Int32)) fun x13 =>
  some (x12, x13)
  else
  some (a.1, a.2.1)) : Option (Int64 × Int32)).bind fun w3 =>
  bnd (a.2.2 + (1 : Int32)) fun x5 =>
  some (.inl (w3.1, w3.2, x5), s)
def fX8_findOwn (x0_ : Int32) (s : Sg) : Option (Int32 × Sg) :=
  (lpG (fX8_findOwn_L8 x0_) FU ((0 : Int64), (0 : Int32), (0 : Int32)) s).bind fun w1 =>
  ((if w1.1.2 ≤ 0 then
  some w1.2
  else
  (fX0_set w1.1.1 (((2 : Int64) * (gL w1.2 9 5)) * ((w1.1.2).toInt64)) w1.2).bind fun w6 =>
  some w6) : Option (Sg)).bind fun w2 =>
  if w1.1.2 ≤ 0 then
  some ((0 : Int32), w2)
  else
  some ((1 : Int32), w2)
theorem ct_X8_findOwn {g : Gl} {x0_ : Int32} {s : Sg} {w : Int32 × Sg}  (h : fX8_findOwn x0_ s = some w) : Ct SS g iX8_findOwn 2 56 [.ref (gad g 19), .int x0_, .ref (gad g 48)] s (Dt (some (.int w.1)) w.2) := by
  refine Ct.ofV (by decide +kernel) 4 (lv0 := [some (.ref (gad g 19)), some (.int x0_), some (.ref (gad g 48)), none, none, none, none]) rfl rfl (fun M hC => ?_)
  have hP : (Dt (some (.int w.1)) w.2) (some (.int w.1)) w.2 := ⟨rfl, rfl⟩
  generalize Dt (some (.int w.1)) w.2 = P at hP ⊢
  unfold fX8_findOwn at h
  refine v_lconst (pc := 0) (0 : Int64) rfl hC dX8_findOwn_0 ?_
  refine v_lstore_n (pc := 1) (lv' := [some (.ref (gad g 19)), some (.int x0_), some (.ref (gad g 48)), some (.long (0 : Int64)), none, none, none]) hC dX8_findOwn_1 rfl rfl rfl rfl ?_
  refine v_iconst (pc := 2) (0 : Int32) rfl hC dX8_findOwn_2 ?_
  refine v_istore (pc := 3) (lv' := [some (.ref (gad g 19)), some (.int x0_), some (.ref (gad g 48)), some (.long (0 : Int64)), none, some (.int (0 : Int32)), none]) hC dX8_findOwn_3 rfl rfl rfl rfl ?_
  refine v_iconst (pc := 5) (0 : Int32) rfl hC dX8_findOwn_5 ?_
  refine v_istore (pc := 6) (lv' := [some (.ref (gad g 19)), some (.int x0_), some (.ref (gad g 48)), some (.long (0 : Int64)), none, some (.int (0 : Int32)), some (.int (0 : Int32))]) hC dX8_findOwn_6 rfl rfl rfl rfl ?_
  obtain ⟨w1, hw1, h⟩ := obd_s h
  have kx26 : V SS g M iX8_findOwn (PQ SS g M P) 91 [some (.ref (gad g 19)), none, some (.ref (gad g 48)), some (.long w1.1.1), none, some (.int w1.1.2), none] [] w1.2 := by
    refine v_iload (pc := 91) hC dX8_findOwn_91 rfl ?_
    obtain ⟨w2, hw2, h⟩ := obd_s h
    have kj3 : V SS g M iX8_findOwn (PQ SS g M P) 116 [none, none, none, none, none, some (.int w1.1.2), none] [] w2 := by
      refine v_iload (pc := 116) hC dX8_findOwn_116 rfl ?_
      refine v_if_le (pc := 118) (tgt := 125) hC dX8_findOwn_118 rfl (fun c4 => ?_) (fun c4 => ?_)
      · replace h := (if_pos c4).symm.trans h
        refine v_iconst (pc := 125) (0 : Int32) rfl hC dX8_findOwn_125 ?_
        obtain rfl := Option.some.inj h
        exact v_zret (pc := 126) hC rfl rfl dX8_findOwn_126 hP
      · replace h := (if_neg c4).symm.trans h
        refine v_iconst (pc := 121) (1 : Int32) rfl hC dX8_findOwn_121 ?_
        refine v_goto (pc := 122) (tgt := 126) hC dX8_findOwn_122 rfl ?_
        obtain rfl := Option.some.inj h
        exact v_zret (pc := 126) hC rfl rfl dX8_findOwn_126 hP
    refine v_if_le (pc := 93) (tgt := 116) hC dX8_findOwn_93 rfl (fun c5 => ?_) (fun c5 => ?_)
    · replace hw2 := (if_pos c5).symm.trans hw2
      obtain rfl := Option.some.inj hw2
      exact V.ls (ls_none (ls_none (ls_none (ls_none (ls_none (ls_some (ls_none ls_nil))))))) kj3
    · replace hw2 := (if_neg c5).symm.trans hw2
      refine v_aload_n (pc := 96) hC dX8_findOwn_96 rfl ?_
      refine v_lload_n (pc := 97) hC dX8_findOwn_97 rfl ?_
      refine v_ldc2 (pc := 98) (2 : Int64) kc_X8_127 hC dX8_findOwn_98 ?_
      refine v_aload_n (pc := 101) hC dX8_findOwn_101 rfl ?_
      refine v_gt (pc := 102) 1 (.ref (gad g 9)) hC s_19 rfl rfl rfl rfl fl_X8_18 dX8_findOwn_102 ?_
      refine v_gtN (pc := 105) 5 (.long (gL w1.2 9 5)) hC s_9 rfl rfl rfl rfl fl_X8_123 dX8_findOwn_105 ?_
      refine v_lmul (pc := 108) hC dX8_findOwn_108 ?_
      refine v_iload (pc := 109) hC dX8_findOwn_109 rfl ?_
      refine v_i2l (pc := 111) hC dX8_findOwn_111 ?_
      refine v_lmul (pc := 112) hC dX8_findOwn_112 ?_
      obtain ⟨w6, hw6, hw2⟩ := obd_s hw2
      refine v_cV (pc := 113) [] [] gm_X0_set hC s_48 rfl rfl (ct_X0_set  hw6) ml_X8_129 rfl rfl rfl rfl rfl rfl dX8_findOwn_113 ?_
      obtain rfl := Option.some.inj hw2
      exact V.ls (ls_none (ls_none (ls_none (ls_none (ls_none (ls_some (ls_none ls_nil))))))) kj3
  refine V.ls (ls_some (ls_some (ls_some (ls_some (ls_none (ls_some (ls_some ls_nil))))))) (v_loop (pc := 8) (fun a9 => [some (.ref (gad g 19)), some (.int x0_), some (.ref (gad g 48)), some (.long a9.1), none, some (.int a9.2.1), some (.int a9.2.2)]) (fun z t => V SS g M iX8_findOwn (PQ SS g M P) 91 [some (.ref (gad g 19)), none, some (.ref (gad g 48)), some (.long z.1), none, some (.int z.2), none] [] t) (fun a9 s7 u8 hu8 k10 k11 => ?_) _ _ _ _ hw1 kx26)
  unfold fX8_findOwn_L8 at hu8
  refine v_iload (pc := 8) hC dX8_findOwn_8 rfl ?_
  refine v_aload_n (pc := 10) hC dX8_findOwn_10 rfl ?_
  refine v_gt (pc := 11) 0 (.ref (gad g 1)) hC s_19 rfl rfl rfl rfl fl_X8_9 dX8_findOwn_11 ?_
  refine v_gtN (pc := 14) 1 (.int (gI s7 1 1)) hC s_1 rfl rfl rfl rfl fl_X8_53 dX8_findOwn_14 ?_
  refine v_ic_ge (pc := 17) (tgt := 91) hC dX8_findOwn_17 rfl (fun c13 => ?_) (fun c13 => ?_)
  · replace hu8 := (if_pos c13).symm.trans hu8
    obtain rfl := Option.some.inj hu8
    exact V.ls (ls_some (ls_none (ls_some (ls_some (ls_none (ls_some (ls_none ls_nil))))))) (k11 _ rfl)
  · replace hu8 := (if_neg c13).symm.trans hu8
    refine v_aload_n (pc := 20) hC dX8_findOwn_20 rfl ?_
    refine v_gt (pc := 21) 3 (.ref (gad g 20)) hC s_19 rfl rfl rfl rfl fl_X8_25 dX8_findOwn_21 ?_
    refine v_iload (pc := 24) hC dX8_findOwn_24 rfl ?_
    obtain ⟨v14, hv14, hu8⟩ := obd_s hu8
    refine v_aZ (pc := 26) hC s_20 hv14 dX8_findOwn_26 ?_
    obtain ⟨w15, hw15, hu8⟩ := obd_s hu8
    have kj16 : V SS g M iX8_findOwn (PQ SS g M P) 85 [some (.ref (gad g 19)), some (.int x0_), some (.ref (gad g 48)), some (.long w15.1), none, some (.int w15.2), some (.int a9.2.2)] [] s7 := by
      obtain ⟨x17, hx17, hu8⟩ := bnd_s hu8
      refine v_iinc (pc := 85) (lv' := [some (.ref (gad g 19)), some (.int x0_), some (.ref (gad g 48)), some (.long w15.1), none, some (.int w15.2), some (.int x17)]) (1 : Int32) rfl hx17 hC dX8_findOwn_85 rfl rfl rfl rfl ?_
      refine v_goto (pc := 88) (tgt := 8) hC dX8_findOwn_88 rfl ?_
      obtain rfl := Option.some.inj hu8
      exact V.ls (ls_some (ls_some (ls_some (ls_some (ls_none (ls_some (ls_some ls_nil))))))) (k10 _ rfl)
    refine v_if_eq (pc := 27) (tgt := 85) hC dX8_findOwn_27 rfl (fun c18 => ?_) (fun c18 => ?_)
    · replace hw15 := (if_pos c18).symm.trans hw15
      obtain rfl := Option.some.inj hw15
      exact V.ls (ls_some (ls_some (ls_some (ls_some (ls_none (ls_some (ls_some ls_nil))))))) kj16
    · replace hw15 := (if_neg c18).symm.trans hw15
      refine v_aload_n (pc := 30) hC dX8_findOwn_30 rfl ?_
      refine v_gt (pc := 31) 0 (.ref (gad g 1)) hC s_19 rfl rfl rfl rfl fl_X8_9 dX8_findOwn_31 ?_
      refine v_gtN (pc := 34) 5 (.ref (gad g 5)) hC s_1 rfl rfl rfl rfl fl_X8_120 dX8_findOwn_34 ?_
      refine v_iload (pc := 37) hC dX8_findOwn_37 rfl ?_
      obtain ⟨v19, hv19, hw15⟩ := obd_s hw15
      refine v_aI (pc := 39) hC s_5 hv19 dX8_findOwn_39 ?_
      refine v_iload_n (pc := 40) hC dX8_findOwn_40 rfl ?_
      refine v_ic_ne (pc := 41) (tgt := 85) hC dX8_findOwn_41 rfl (fun c20 => ?_) (fun c20 => ?_)
      · replace hw15 := (if_neg c20).symm.trans hw15
        obtain rfl := Option.some.inj hw15
        exact V.ls (ls_some (ls_some (ls_some (ls_some (ls_none (ls_some (ls_some ls_nil))))))) kj16
      · replace hw15 := (if_pos c20).symm.trans hw15
        refine v_lload_n (pc := 44) hC dX8_findOwn_44 rfl ?_
        refine v_aload_n (pc := 45) hC dX8_findOwn_45 rfl ?_
        refine v_gt (pc := 46) 4 (.ref (gad g 21)) hC s_19 rfl rfl rfl rfl fl_X8_29 dX8_findOwn_46 ?_
        refine v_iload (pc := 49) hC dX8_findOwn_49 rfl ?_
        obtain ⟨v21, hv21, hw15⟩ := obd_s hw15
        refine v_aI (pc := 51) hC s_21 hv21 dX8_findOwn_51 ?_
        refine v_i2l (pc := 52) hC dX8_findOwn_52 ?_
        refine v_aload_n (pc := 53) hC dX8_findOwn_53 rfl ?_
        refine v_gt (pc := 54) 1 (.ref (gad g 9)) hC s_19 rfl rfl rfl rfl fl_X8_18 dX8_findOwn_54 ?_
        refine v_gtN (pc := 57) 5 (.long (gL s7 9 5)) hC s_9 rfl rfl rfl rfl fl_X8_123 dX8_findOwn_57 ?_
        refine v_lmul (pc := 60) hC dX8_findOwn_60 ?_
        refine v_aload_n (pc := 61) hC dX8_findOwn_61 rfl ?_
        refine v_gt (pc := 62) 1 (.ref (gad g 9)) hC s_19 rfl rfl rfl rfl fl_X8_18 dX8_findOwn_62 ?_
        refine v_gtN (pc := 65) 2 (.ref (gad g 12)) hC s_9 rfl rfl rfl rfl fl_X8_103 dX8_findOwn_65 ?_
        refine v_aload_n (pc := 68) hC dX8_findOwn_68 rfl ?_
        refine v_gt (pc := 69) 0 (.ref (gad g 1)) hC s_19 rfl rfl rfl rfl fl_X8_9 dX8_findOwn_69 ?_
        refine v_gtN (pc := 72) 6 (.ref (gad g 6)) hC s_1 rfl rfl rfl rfl fl_X8_69 dX8_findOwn_72 ?_
        refine v_iload (pc := 75) hC dX8_findOwn_75 rfl ?_
        obtain ⟨v22, hv22, hw15⟩ := obd_s hw15
        refine v_aI (pc := 77) hC s_6 hv22 dX8_findOwn_77 ?_
        obtain ⟨v23, hv23, hw15⟩ := obd_s hw15
        refine v_aL (pc := 78) hC s_12 hv23 dX8_findOwn_78 ?_
        refine v_lsub (pc := 79) hC dX8_findOwn_79 ?_
        refine v_ladd (pc := 80) hC dX8_findOwn_80 ?_
        obtain ⟨x24, hx24, hw15⟩ := bnd_s hw15
        refine v_lstore_n (pc := 81) (lv' := [some (.ref (gad g 19)), some (.int x0_), some (.ref (gad g 48)), some (.long x24), none, some (.int a9.2.1), some (.int a9.2.2)]) hC dX8_findOwn_81 hx24 rfl rfl rfl ?_
        obtain ⟨x25, hx25, hw15⟩ := bnd_s hw15
        refine v_iinc (pc := 82) (lv' := [some (.ref (gad g 19)), some (.int x0_), some (.ref (gad g 48)), some (.long x24), none, some (.int x25), some (.int a9.2.2)]) (1 : Int32) rfl hx25 hC dX8_findOwn_82 rfl rfl rfl rfl ?_
        obtain rfl := Option.some.inj hw15
        exact V.ls (ls_some (ls_some (ls_some (ls_some (ls_none (ls_some (ls_some ls_nil))))))) kj16
theorem dX10_isDay_0 : decode cX10_isDay 0 = .ok (.iload_n 0, 1) := by decide +kernel
theorem dX10_isDay_1 : decode cX10_isDay 1 = .ok (.iconst 0, 1) := by decide +kernel
theorem dX10_isDay_2 : decode cX10_isDay 2 = .ok (.bipush 9, 2) := by decide +kernel
theorem dX10_isDay_4 : decode cX10_isDay 4 = .ok (.invokestatic 126, 3) := by decide +kernel
theorem dX10_isDay_7 : decode cX10_isDay 7 = .ok (.ireturn, 1) := by decide +kernel
def fX10_isDay (x0_ : Int32) (s : Sg) : Option (Int32 × Sg) :=
  (fX10_within x0_ (0 : Int32) (9 : Int32) s).bind fun w1 =>
  (zr w1.1).bind fun z2 =>
  some (z2, w1.2)
theorem ct_X10_isDay {g : Gl} {x0_ : Int32} {s : Sg} {w : Int32 × Sg}  (h : fX10_isDay x0_ s = some w) : Ct SS g iX10_isDay 1 22 [.int x0_] s (Dt (some (.int w.1)) w.2) := by
  refine Ct.ofV (by decide +kernel) 0 (lv0 := [some (.int x0_)]) rfl rfl (fun M hC => ?_)
  have hP : (Dt (some (.int w.1)) w.2) (some (.int w.1)) w.2 := ⟨rfl, rfl⟩
  generalize Dt (some (.int w.1)) w.2 = P at hP ⊢
  unfold fX10_isDay at h
  refine v_iload_n (pc := 0) hC dX10_isDay_0 rfl ?_
  refine v_iconst (pc := 1) (0 : Int32) rfl hC dX10_isDay_1 ?_
  refine v_bipush (pc := 2) (9 : Int32) rfl hC dX10_isDay_2 ?_
  obtain ⟨w1, hw1, h⟩ := obd_s h
  refine v_cS (pc := 4) [] [.int w1.1] gm_X10_within hC (ct_X10_within  hw1) ml_X10_126 rfl rfl rfl rfl rfl rfl dX10_isDay_4 ?_
  obtain ⟨z2, hz2, h⟩ := obd_s h
  obtain rfl := Option.some.inj h
  exact v_zr (pc := 7) hC rfl hz2 dX10_isDay_7 hP
theorem dX10_mayBeRace_0 : decode cX10_mayBeRace 0 = .ok (.iload_n 0, 1) := by decide +kernel
theorem dX10_mayBeRace_1 : decode cX10_mayBeRace 1 = .ok (.iconst 1, 1) := by decide +kernel
theorem dX10_mayBeRace_2 : decode cX10_mayBeRace 2 = .ok (.iconst 4, 1) := by decide +kernel
theorem dX10_mayBeRace_3 : decode cX10_mayBeRace 3 = .ok (.invokestatic 126, 3) := by decide +kernel
theorem dX10_mayBeRace_6 : decode cX10_mayBeRace 6 = .ok (.ifCond .eq 14, 3) := by decide +kernel
theorem dX10_mayBeRace_9 : decode cX10_mayBeRace 9 = .ok (.iload_n 1, 1) := by decide +kernel
theorem dX10_mayBeRace_10 : decode cX10_mayBeRace 10 = .ok (.invokestatic 218, 3) := by decide +kernel
theorem dX10_mayBeRace_13 : decode cX10_mayBeRace 13 = .ok (.ifCond .eq 7, 3) := by decide +kernel
theorem dX10_mayBeRace_16 : decode cX10_mayBeRace 16 = .ok (.iconst 1, 1) := by decide +kernel
theorem dX10_mayBeRace_17 : decode cX10_mayBeRace 17 = .ok (.goto 4, 3) := by decide +kernel
theorem dX10_mayBeRace_20 : decode cX10_mayBeRace 20 = .ok (.iconst 0, 1) := by decide +kernel
theorem dX10_mayBeRace_21 : decode cX10_mayBeRace 21 = .ok (.ireturn, 1) := by decide +kernel
def fX10_mayBeRace (x0_ : Int32) (x1_ : Int32) (s : Sg) : Option (Int32 × Sg) :=
  (fX10_within x0_ (1 : Int32) (4 : Int32) s).bind fun w1 =>
  if w1.1 = 0 then
  some ((0 : Int32), w1.2)
  else
  (fX10_isDay x1_ w1.2).bind fun w3 =>
  if w3.1 = 0 then
  some ((0 : Int32), w3.2)
  else
  some ((1 : Int32), w3.2)
theorem ct_X10_mayBeRace {g : Gl} {x0_ : Int32} {x1_ : Int32} {s : Sg} {w : Int32 × Sg}  (h : fX10_mayBeRace x0_ x1_ s = some w) : Ct SS g iX10_mayBeRace 2 42 [.int x0_, .int x1_] s (Dt (some (.int w.1)) w.2) := by
  refine Ct.ofV (by decide +kernel) 0 (lv0 := [some (.int x0_), some (.int x1_)]) rfl rfl (fun M hC => ?_)
  have hP : (Dt (some (.int w.1)) w.2) (some (.int w.1)) w.2 := ⟨rfl, rfl⟩
  generalize Dt (some (.int w.1)) w.2 = P at hP ⊢
  unfold fX10_mayBeRace at h
  refine v_iload_n (pc := 0) hC dX10_mayBeRace_0 rfl ?_
  refine v_iconst (pc := 1) (1 : Int32) rfl hC dX10_mayBeRace_1 ?_
  refine v_iconst (pc := 2) (4 : Int32) rfl hC dX10_mayBeRace_2 ?_
  obtain ⟨w1, hw1, h⟩ := obd_s h
  refine v_cS (pc := 3) [] [.int w1.1] gm_X10_within hC (ct_X10_within  hw1) ml_X10_126 rfl rfl rfl rfl rfl rfl dX10_mayBeRace_3 ?_
  refine v_if_eq (pc := 6) (tgt := 20) hC dX10_mayBeRace_6 rfl (fun c2 => ?_) (fun c2 => ?_)
  · replace h := (if_pos c2).symm.trans h
    refine v_iconst (pc := 20) (0 : Int32) rfl hC dX10_mayBeRace_20 ?_
    obtain rfl := Option.some.inj h
    exact v_zret (pc := 21) hC rfl rfl dX10_mayBeRace_21 hP
  · replace h := (if_neg c2).symm.trans h
    refine v_iload_n (pc := 9) hC dX10_mayBeRace_9 rfl ?_
    obtain ⟨w3, hw3, h⟩ := obd_s h
    refine v_cS (pc := 10) [] [.int w3.1] gm_X10_isDay hC (ct_X10_isDay  hw3) ml_X10_218 rfl rfl rfl rfl rfl rfl dX10_mayBeRace_10 ?_
    refine v_if_eq (pc := 13) (tgt := 20) hC dX10_mayBeRace_13 rfl (fun c4 => ?_) (fun c4 => ?_)
    · replace h := (if_pos c4).symm.trans h
      refine v_iconst (pc := 20) (0 : Int32) rfl hC dX10_mayBeRace_20 ?_
      obtain rfl := Option.some.inj h
      exact v_zret (pc := 21) hC rfl rfl dX10_mayBeRace_21 hP
    · replace h := (if_neg c4).symm.trans h
      refine v_iconst (pc := 16) (1 : Int32) rfl hC dX10_mayBeRace_16 ?_
      refine v_goto (pc := 17) (tgt := 21) hC dX10_mayBeRace_17 rfl ?_
      obtain rfl := Option.some.inj h
      exact v_zret (pc := 21) hC rfl rfl dX10_mayBeRace_21 hP
theorem dX10_race_0 : decode cX10_race 0 = .ok (.iload_n 1, 1) := by decide +kernel
theorem dX10_race_1 : decode cX10_race 1 = .ok (.iload_n 2, 1) := by decide +kernel
theorem dX10_race_2 : decode cX10_race 2 = .ok (.invokestatic 87, 3) := by decide +kernel
theorem dX10_race_5 : decode cX10_race 5 = .ok (.ifCond .ne 6, 3) := by decide +kernel
theorem dX10_race_8 : decode cX10_race 8 = .ok (.bipush (-2), 2) := by decide +kernel
theorem dX10_race_10 : decode cX10_race 10 = .ok (.ireturn, 1) := by decide +kernel
theorem dX10_race_11 : decode cX10_race 11 = .ok (.aload_n 0, 1) := by decide +kernel
theorem dX10_race_12 : decode cX10_race 12 = .ok (.getfield 28, 3) := by decide +kernel
theorem dX10_race_15 : decode cX10_race 15 = .ok (.getfield 91, 3) := by decide +kernel
theorem dX10_race_18 : decode cX10_race 18 = .ok (.bipush 16, 2) := by decide +kernel
theorem dX10_race_20 : decode cX10_race 20 = .ok (.if_icmp .lt 6, 3) := by decide +kernel
theorem dX10_race_23 : decode cX10_race 23 = .ok (.bipush (-4), 2) := by decide +kernel
theorem dX10_race_25 : decode cX10_race 25 = .ok (.ireturn, 1) := by decide +kernel
theorem dX10_race_26 : decode cX10_race 26 = .ok (.aload_n 0, 1) := by decide +kernel
theorem dX10_race_27 : decode cX10_race 27 = .ok (.getfield 28, 3) := by decide +kernel
theorem dX10_race_30 : decode cX10_race 30 = .ok (.iload_n 1, 1) := by decide +kernel
theorem dX10_race_31 : decode cX10_race 31 = .ok (.iload_n 2, 1) := by decide +kernel
theorem dX10_race_32 : decode cX10_race 32 = .ok (.invokevirtual 94, 3) := by decide +kernel
theorem dX10_race_35 : decode cX10_race 35 = .ok (.ireturn, 1) := by decide +kernel
def fX10_race (x0_ : Int32) (x1_ : Int32) (s : Sg) : Option (Int32 × Sg) :=
  (fX10_mayBeRace x0_ x1_ s).bind fun w1 =>
  if w1.1 = 0 then
  some ((-2 : Int32), w1.2)
  else
  if (gI w1.2 1 0) < (16 : Int32) then
  (fX3_addRace x0_ x1_ w1.2).bind fun w2 =>
  some (w2.1, w2.2)
  else
  some ((-4 : Int32), w1.2)
theorem ct_X10_race {g : Gl} {x0_ : Int32} {x1_ : Int32} {s : Sg} {w : Int32 × Sg}  (h : fX10_race x0_ x1_ s = some w) : Ct SS g iX10_race 3 63 [.ref (gad g 0), .int x0_, .int x1_] s (Dt (some (.int w.1)) w.2) := by
  refine Ct.ofV (by decide +kernel) 0 (lv0 := [some (.ref (gad g 0)), some (.int x0_), some (.int x1_)]) rfl rfl (fun M hC => ?_)
  have hP : (Dt (some (.int w.1)) w.2) (some (.int w.1)) w.2 := ⟨rfl, rfl⟩
  generalize Dt (some (.int w.1)) w.2 = P at hP ⊢
  unfold fX10_race at h
  refine v_iload_n (pc := 0) hC dX10_race_0 rfl ?_
  refine v_iload_n (pc := 1) hC dX10_race_1 rfl ?_
  obtain ⟨w1, hw1, h⟩ := obd_s h
  refine v_cS (pc := 2) [] [.int w1.1] gm_X10_mayBeRace hC (ct_X10_mayBeRace  hw1) ml_X10_87 rfl rfl rfl rfl rfl rfl dX10_race_2 ?_
  refine v_if_ne (pc := 5) (tgt := 11) hC dX10_race_5 rfl (fun c4 => ?_) (fun c4 => ?_)
  · replace h := (if_neg c4).symm.trans h
    refine v_aload_n (pc := 11) hC dX10_race_11 rfl ?_
    refine v_gt (pc := 12) 0 (.ref (gad g 1)) hC s_0 rfl rfl rfl rfl fl_X10_28 dX10_race_12 ?_
    refine v_gtN (pc := 15) 0 (.int (gI w1.2 1 0)) hC s_1 rfl rfl rfl rfl fl_X10_91 dX10_race_15 ?_
    refine v_bipush (pc := 18) (16 : Int32) rfl hC dX10_race_18 ?_
    refine v_ic_lt (pc := 20) (tgt := 26) hC dX10_race_20 rfl (fun c3 => ?_) (fun c3 => ?_)
    · replace h := (if_pos c3).symm.trans h
      refine v_aload_n (pc := 26) hC dX10_race_26 rfl ?_
      refine v_gt (pc := 27) 0 (.ref (gad g 1)) hC s_0 rfl rfl rfl rfl fl_X10_28 dX10_race_27 ?_
      refine v_iload_n (pc := 30) hC dX10_race_30 rfl ?_
      refine v_iload_n (pc := 31) hC dX10_race_31 rfl ?_
      obtain ⟨w2, hw2, h⟩ := obd_s h
      refine v_cV (pc := 32) [] [.int w2.1] gm_X3_addRace hC s_1 rfl rfl (ct_X3_addRace  hw2) ml_X10_94 rfl rfl rfl rfl rfl rfl dX10_race_32 ?_
      obtain rfl := Option.some.inj h
      exact v_iret (pc := 35) hC rfl dX10_race_35 hP
    · replace h := (if_neg c3).symm.trans h
      refine v_bipush (pc := 23) (-4 : Int32) rfl hC dX10_race_23 ?_
      obtain rfl := Option.some.inj h
      exact v_iret (pc := 25) hC rfl dX10_race_25 hP
  · replace h := (if_pos c4).symm.trans h
    refine v_bipush (pc := 8) (-2 : Int32) rfl hC dX10_race_8 ?_
    obtain rfl := Option.some.inj h
    exact v_iret (pc := 10) hC rfl dX10_race_10 hP
theorem dX10_isSwimmer_0 : decode cX10_isSwimmer 0 = .ok (.iload_n 0, 1) := by decide +kernel
theorem dX10_isSwimmer_1 : decode cX10_isSwimmer 1 = .ok (.iconst 0, 1) := by decide +kernel
theorem dX10_isSwimmer_2 : decode cX10_isSwimmer 2 = .ok (.bipush 23, 2) := by decide +kernel
theorem dX10_isSwimmer_4 : decode cX10_isSwimmer 4 = .ok (.invokestatic 126, 3) := by decide +kernel
theorem dX10_isSwimmer_7 : decode cX10_isSwimmer 7 = .ok (.ireturn, 1) := by decide +kernel
def fX10_isSwimmer (x0_ : Int32) (s : Sg) : Option (Int32 × Sg) :=
  (fX10_within x0_ (0 : Int32) (23 : Int32) s).bind fun w1 =>
  (zr w1.1).bind fun z2 =>
  some (z2, w1.2)
theorem ct_X10_isSwimmer {g : Gl} {x0_ : Int32} {s : Sg} {w : Int32 × Sg}  (h : fX10_isSwimmer x0_ s = some w) : Ct SS g iX10_isSwimmer 1 22 [.int x0_] s (Dt (some (.int w.1)) w.2) := by
  refine Ct.ofV (by decide +kernel) 0 (lv0 := [some (.int x0_)]) rfl rfl (fun M hC => ?_)
  have hP : (Dt (some (.int w.1)) w.2) (some (.int w.1)) w.2 := ⟨rfl, rfl⟩
  generalize Dt (some (.int w.1)) w.2 = P at hP ⊢
  unfold fX10_isSwimmer at h
  refine v_iload_n (pc := 0) hC dX10_isSwimmer_0 rfl ?_
  refine v_iconst (pc := 1) (0 : Int32) rfl hC dX10_isSwimmer_1 ?_
  refine v_bipush (pc := 2) (23 : Int32) rfl hC dX10_isSwimmer_2 ?_
  obtain ⟨w1, hw1, h⟩ := obd_s h
  refine v_cS (pc := 4) [] [.int w1.1] gm_X10_within hC (ct_X10_within  hw1) ml_X10_126 rfl rfl rfl rfl rfl rfl dX10_isSwimmer_4 ?_
  obtain ⟨z2, hz2, h⟩ := obd_s h
  obtain rfl := Option.some.inj h
  exact v_zr (pc := 7) hC rfl hz2 dX10_isSwimmer_7 hP
theorem dX10_swim_0 : decode cX10_swim 0 = .ok (.aload_n 0, 1) := by decide +kernel
theorem dX10_swim_1 : decode cX10_swim 1 = .ok (.getfield 28, 3) := by decide +kernel
theorem dX10_swim_4 : decode cX10_swim 4 = .ok (.iload_n 1, 1) := by decide +kernel
theorem dX10_swim_5 : decode cX10_swim 5 = .ok (.invokevirtual 98, 3) := by decide +kernel
theorem dX10_swim_8 : decode cX10_swim 8 = .ok (.ifCond .eq 30, 3) := by decide +kernel
theorem dX10_swim_11 : decode cX10_swim 11 = .ok (.iload_n 2, 1) := by decide +kernel
theorem dX10_swim_12 : decode cX10_swim 12 = .ok (.invokestatic 102, 3) := by decide +kernel
theorem dX10_swim_15 : decode cX10_swim 15 = .ok (.ifCond .eq 23, 3) := by decide +kernel
theorem dX10_swim_18 : decode cX10_swim 18 = .ok (.iload_n 3, 1) := by decide +kernel
theorem dX10_swim_19 : decode cX10_swim 19 = .ok (.invokestatic 105, 3) := by decide +kernel
theorem dX10_swim_22 : decode cX10_swim 22 = .ok (.ifCond .eq 16, 3) := by decide +kernel
theorem dX10_swim_25 : decode cX10_swim 25 = .ok (.aload_n 0, 1) := by decide +kernel
theorem dX10_swim_26 : decode cX10_swim 26 = .ok (.getfield 28, 3) := by decide +kernel
theorem dX10_swim_29 : decode cX10_swim 29 = .ok (.iload_n 1, 1) := by decide +kernel
theorem dX10_swim_30 : decode cX10_swim 30 = .ok (.iload_n 2, 1) := by decide +kernel
theorem dX10_swim_31 : decode cX10_swim 31 = .ok (.iload_n 3, 1) := by decide +kernel
theorem dX10_swim_32 : decode cX10_swim 32 = .ok (.invokevirtual 108, 3) := by decide +kernel
theorem dX10_swim_35 : decode cX10_swim 35 = .ok (.ifCond .eq 6, 3) := by decide +kernel
theorem dX10_swim_38 : decode cX10_swim 38 = .ok (.bipush (-2), 2) := by decide +kernel
theorem dX10_swim_40 : decode cX10_swim 40 = .ok (.ireturn, 1) := by decide +kernel
theorem dX10_swim_41 : decode cX10_swim 41 = .ok (.aload_n 0, 1) := by decide +kernel
theorem dX10_swim_42 : decode cX10_swim 42 = .ok (.getfield 28, 3) := by decide +kernel
theorem dX10_swim_45 : decode cX10_swim 45 = .ok (.getfield 112, 3) := by decide +kernel
theorem dX10_swim_48 : decode cX10_swim 48 = .ok (.bipush 64, 2) := by decide +kernel
theorem dX10_swim_50 : decode cX10_swim 50 = .ok (.if_icmp .lt 6, 3) := by decide +kernel
theorem dX10_swim_53 : decode cX10_swim 53 = .ok (.bipush (-4), 2) := by decide +kernel
theorem dX10_swim_55 : decode cX10_swim 55 = .ok (.ireturn, 1) := by decide +kernel
theorem dX10_swim_56 : decode cX10_swim 56 = .ok (.aload_n 0, 1) := by decide +kernel
theorem dX10_swim_57 : decode cX10_swim 57 = .ok (.getfield 28, 3) := by decide +kernel
theorem dX10_swim_60 : decode cX10_swim 60 = .ok (.iload_n 1, 1) := by decide +kernel
theorem dX10_swim_61 : decode cX10_swim 61 = .ok (.iload_n 2, 1) := by decide +kernel
theorem dX10_swim_62 : decode cX10_swim 62 = .ok (.iload_n 3, 1) := by decide +kernel
theorem dX10_swim_63 : decode cX10_swim 63 = .ok (.invokevirtual 115, 3) := by decide +kernel
theorem dX10_swim_66 : decode cX10_swim 66 = .ok (.ireturn, 1) := by decide +kernel
def fX10_swim (x0_ : Int32) (x1_ : Int32) (x2_ : Int32) (s : Sg) : Option (Int32 × Sg) :=
  (fX3_hasRace x0_ s).bind fun w1 =>
  if w1.1 = 0 then
  some ((-2 : Int32), w1.2)
  else
  (fX10_isSwimmer x1_ w1.2).bind fun w3 =>
  if w3.1 = 0 then
  some ((-2 : Int32), w3.2)
  else
  (fX10_isLane x2_ w3.2).bind fun w5 =>
  if w5.1 = 0 then
  some ((-2 : Int32), w5.2)
  else
  (fX3_isTaken x0_ x1_ x2_ w5.2).bind fun w7 =>
  if w7.1 = 0 then
  if (gI w7.2 1 1) < (64 : Int32) then
  (fX3_addSwim x0_ x1_ x2_ w7.2).bind fun w8 =>
  some (w8.1, w8.2)
  else
  some ((-4 : Int32), w7.2)
  else
  some ((-2 : Int32), w7.2)
theorem ct_X10_swim {g : Gl} {x0_ : Int32} {x1_ : Int32} {x2_ : Int32} {s : Sg} {w : Int32 × Sg}  (h : fX10_swim x0_ x1_ x2_ s = some w) : Ct SS g iX10_swim 2 42 [.ref (gad g 0), .int x0_, .int x1_, .int x2_] s (Dt (some (.int w.1)) w.2) := by
  refine Ct.ofV (by decide +kernel) 0 (lv0 := [some (.ref (gad g 0)), some (.int x0_), some (.int x1_), some (.int x2_)]) rfl rfl (fun M hC => ?_)
  have hP : (Dt (some (.int w.1)) w.2) (some (.int w.1)) w.2 := ⟨rfl, rfl⟩
  generalize Dt (some (.int w.1)) w.2 = P at hP ⊢
  unfold fX10_swim at h
  refine v_aload_n (pc := 0) hC dX10_swim_0 rfl ?_
  refine v_gt (pc := 1) 0 (.ref (gad g 1)) hC s_0 rfl rfl rfl rfl fl_X10_28 dX10_swim_1 ?_
  refine v_iload_n (pc := 4) hC dX10_swim_4 rfl ?_
  obtain ⟨w1, hw1, h⟩ := obd_s h
  refine v_cV (pc := 5) [] [.int w1.1] gm_X3_hasRace hC s_1 rfl rfl (ct_X3_hasRace  hw1) ml_X10_98 rfl rfl rfl rfl rfl rfl dX10_swim_5 ?_
  refine v_if_eq (pc := 8) (tgt := 38) hC dX10_swim_8 rfl (fun c2 => ?_) (fun c2 => ?_)
  · replace h := (if_pos c2).symm.trans h
    refine v_bipush (pc := 38) (-2 : Int32) rfl hC dX10_swim_38 ?_
    obtain rfl := Option.some.inj h
    exact v_iret (pc := 40) hC rfl dX10_swim_40 hP
  · replace h := (if_neg c2).symm.trans h
    refine v_iload_n (pc := 11) hC dX10_swim_11 rfl ?_
    obtain ⟨w3, hw3, h⟩ := obd_s h
    refine v_cS (pc := 12) [] [.int w3.1] gm_X10_isSwimmer hC (ct_X10_isSwimmer  hw3) ml_X10_102 rfl rfl rfl rfl rfl rfl dX10_swim_12 ?_
    refine v_if_eq (pc := 15) (tgt := 38) hC dX10_swim_15 rfl (fun c4 => ?_) (fun c4 => ?_)
    · replace h := (if_pos c4).symm.trans h
      refine v_bipush (pc := 38) (-2 : Int32) rfl hC dX10_swim_38 ?_
      obtain rfl := Option.some.inj h
      exact v_iret (pc := 40) hC rfl dX10_swim_40 hP
    · replace h := (if_neg c4).symm.trans h
      refine v_iload_n (pc := 18) hC dX10_swim_18 rfl ?_
      obtain ⟨w5, hw5, h⟩ := obd_s h
      refine v_cS (pc := 19) [] [.int w5.1] gm_X10_isLane hC (ct_X10_isLane  hw5) ml_X10_105 rfl rfl rfl rfl rfl rfl dX10_swim_19 ?_
      refine v_if_eq (pc := 22) (tgt := 38) hC dX10_swim_22 rfl (fun c6 => ?_) (fun c6 => ?_)
      · replace h := (if_pos c6).symm.trans h
        refine v_bipush (pc := 38) (-2 : Int32) rfl hC dX10_swim_38 ?_
        obtain rfl := Option.some.inj h
        exact v_iret (pc := 40) hC rfl dX10_swim_40 hP
      · replace h := (if_neg c6).symm.trans h
        refine v_aload_n (pc := 25) hC dX10_swim_25 rfl ?_
        refine v_gt (pc := 26) 0 (.ref (gad g 1)) hC s_0 rfl rfl rfl rfl fl_X10_28 dX10_swim_26 ?_
        refine v_iload_n (pc := 29) hC dX10_swim_29 rfl ?_
        refine v_iload_n (pc := 30) hC dX10_swim_30 rfl ?_
        refine v_iload_n (pc := 31) hC dX10_swim_31 rfl ?_
        obtain ⟨w7, hw7, h⟩ := obd_s h
        refine v_cV (pc := 32) [] [.int w7.1] gm_X3_isTaken hC s_1 rfl rfl (ct_X3_isTaken  hw7) ml_X10_108 rfl rfl rfl rfl rfl rfl dX10_swim_32 ?_
        refine v_if_eq (pc := 35) (tgt := 41) hC dX10_swim_35 rfl (fun c10 => ?_) (fun c10 => ?_)
        · replace h := (if_pos c10).symm.trans h
          refine v_aload_n (pc := 41) hC dX10_swim_41 rfl ?_
          refine v_gt (pc := 42) 0 (.ref (gad g 1)) hC s_0 rfl rfl rfl rfl fl_X10_28 dX10_swim_42 ?_
          refine v_gtN (pc := 45) 1 (.int (gI w7.2 1 1)) hC s_1 rfl rfl rfl rfl fl_X10_112 dX10_swim_45 ?_
          refine v_bipush (pc := 48) (64 : Int32) rfl hC dX10_swim_48 ?_
          refine v_ic_lt (pc := 50) (tgt := 56) hC dX10_swim_50 rfl (fun c9 => ?_) (fun c9 => ?_)
          · replace h := (if_pos c9).symm.trans h
            refine v_aload_n (pc := 56) hC dX10_swim_56 rfl ?_
            refine v_gt (pc := 57) 0 (.ref (gad g 1)) hC s_0 rfl rfl rfl rfl fl_X10_28 dX10_swim_57 ?_
            refine v_iload_n (pc := 60) hC dX10_swim_60 rfl ?_
            refine v_iload_n (pc := 61) hC dX10_swim_61 rfl ?_
            refine v_iload_n (pc := 62) hC dX10_swim_62 rfl ?_
            obtain ⟨w8, hw8, h⟩ := obd_s h
            refine v_cV (pc := 63) [] [.int w8.1] gm_X3_addSwim hC s_1 rfl rfl (ct_X3_addSwim  hw8) ml_X10_115 rfl rfl rfl rfl rfl rfl dX10_swim_63 ?_
            obtain rfl := Option.some.inj h
            exact v_iret (pc := 66) hC rfl dX10_swim_66 hP
          · replace h := (if_neg c9).symm.trans h
            refine v_bipush (pc := 53) (-4 : Int32) rfl hC dX10_swim_53 ?_
            obtain rfl := Option.some.inj h
            exact v_iret (pc := 55) hC rfl dX10_swim_55 hP
        · replace h := (if_neg c10).symm.trans h
          refine v_bipush (pc := 38) (-2 : Int32) rfl hC dX10_swim_38 ?_
          obtain rfl := Option.some.inj h
          exact v_iret (pc := 40) hC rfl dX10_swim_40 hP
theorem dX10_mayBeTime_0 : decode cX10_mayBeTime 0 = .ok (.iload_n 0, 1) := by decide +kernel
theorem dX10_mayBeTime_1 : decode cX10_mayBeTime 1 = .ok (.iconst (-1), 1) := by decide +kernel
theorem dX10_mayBeTime_2 : decode cX10_mayBeTime 2 = .ok (.if_icmp .eq 14, 3) := by decide +kernel
theorem dX10_mayBeTime_5 : decode cX10_mayBeTime 5 = .ok (.iload_n 0, 1) := by decide +kernel
theorem dX10_mayBeTime_6 : decode cX10_mayBeTime 6 = .ok (.iconst 1, 1) := by decide +kernel
theorem dX10_mayBeTime_7 : decode cX10_mayBeTime 7 = .ok (.sipush 9999, 3) := by decide +kernel
theorem dX10_mayBeTime_10 : decode cX10_mayBeTime 10 = .ok (.invokestatic 126, 3) := by decide +kernel
theorem dX10_mayBeTime_13 : decode cX10_mayBeTime 13 = .ok (.ifCond .eq 7, 3) := by decide +kernel
theorem dX10_mayBeTime_16 : decode cX10_mayBeTime 16 = .ok (.iconst 1, 1) := by decide +kernel
theorem dX10_mayBeTime_17 : decode cX10_mayBeTime 17 = .ok (.goto 4, 3) := by decide +kernel
theorem dX10_mayBeTime_20 : decode cX10_mayBeTime 20 = .ok (.iconst 0, 1) := by decide +kernel
theorem dX10_mayBeTime_21 : decode cX10_mayBeTime 21 = .ok (.ireturn, 1) := by decide +kernel
def fX10_mayBeTime (x0_ : Int32) (s : Sg) : Option (Int32 × Sg) :=
  if x0_ = (-1 : Int32) then
  some ((1 : Int32), s)
  else
  (fX10_within x0_ (1 : Int32) (9999 : Int32) s).bind fun w2 =>
  if w2.1 = 0 then
  some ((0 : Int32), w2.2)
  else
  some ((1 : Int32), w2.2)
theorem ct_X10_mayBeTime {g : Gl} {x0_ : Int32} {s : Sg} {w : Int32 × Sg}  (h : fX10_mayBeTime x0_ s = some w) : Ct SS g iX10_mayBeTime 1 22 [.int x0_] s (Dt (some (.int w.1)) w.2) := by
  refine Ct.ofV (by decide +kernel) 0 (lv0 := [some (.int x0_)]) rfl rfl (fun M hC => ?_)
  have hP : (Dt (some (.int w.1)) w.2) (some (.int w.1)) w.2 := ⟨rfl, rfl⟩
  generalize Dt (some (.int w.1)) w.2 = P at hP ⊢
  unfold fX10_mayBeTime at h
  refine v_iload_n (pc := 0) hC dX10_mayBeTime_0 rfl ?_
  refine v_iconst (pc := 1) (-1 : Int32) rfl hC dX10_mayBeTime_1 ?_
  refine v_ic_eq (pc := 2) (tgt := 16) hC dX10_mayBeTime_2 rfl (fun c1 => ?_) (fun c1 => ?_)
  · replace h := (if_pos c1).symm.trans h
    refine v_iconst (pc := 16) (1 : Int32) rfl hC dX10_mayBeTime_16 ?_
    refine v_goto (pc := 17) (tgt := 21) hC dX10_mayBeTime_17 rfl ?_
    obtain rfl := Option.some.inj h
    exact v_zret (pc := 21) hC rfl rfl dX10_mayBeTime_21 hP
  · replace h := (if_neg c1).symm.trans h
    refine v_iload_n (pc := 5) hC dX10_mayBeTime_5 rfl ?_
    refine v_iconst (pc := 6) (1 : Int32) rfl hC dX10_mayBeTime_6 ?_
    refine v_sipush (pc := 7) (9999 : Int32) rfl hC dX10_mayBeTime_7 ?_
    obtain ⟨w2, hw2, h⟩ := obd_s h
    refine v_cS (pc := 10) [] [.int w2.1] gm_X10_within hC (ct_X10_within  hw2) ml_X10_126 rfl rfl rfl rfl rfl rfl dX10_mayBeTime_10 ?_
    refine v_if_eq (pc := 13) (tgt := 20) hC dX10_mayBeTime_13 rfl (fun c3 => ?_) (fun c3 => ?_)
    · replace h := (if_pos c3).symm.trans h
      refine v_iconst (pc := 20) (0 : Int32) rfl hC dX10_mayBeTime_20 ?_
      obtain rfl := Option.some.inj h
      exact v_zret (pc := 21) hC rfl rfl dX10_mayBeTime_21 hP
    · replace h := (if_neg c3).symm.trans h
      refine v_iconst (pc := 16) (1 : Int32) rfl hC dX10_mayBeTime_16 ?_
      refine v_goto (pc := 17) (tgt := 21) hC dX10_mayBeTime_17 rfl ?_
      obtain rfl := Option.some.inj h
      exact v_zret (pc := 21) hC rfl rfl dX10_mayBeTime_21 hP
theorem dX10_time_0 : decode cX10_time 0 = .ok (.aload_n 0, 1) := by decide +kernel
theorem dX10_time_1 : decode cX10_time 1 = .ok (.getfield 28, 3) := by decide +kernel
theorem dX10_time_4 : decode cX10_time 4 = .ok (.iload_n 1, 1) := by decide +kernel
theorem dX10_time_5 : decode cX10_time 5 = .ok (.invokevirtual 119, 3) := by decide +kernel
theorem dX10_time_8 : decode cX10_time 8 = .ok (.ifCond .eq 28, 3) := by decide +kernel
theorem dX10_time_11 : decode cX10_time 11 = .ok (.iload_n 2, 1) := by decide +kernel
theorem dX10_time_12 : decode cX10_time 12 = .ok (.iconst 0, 1) := by decide +kernel
theorem dX10_time_13 : decode cX10_time 13 = .ok (.aload_n 0, 1) := by decide +kernel
theorem dX10_time_14 : decode cX10_time 14 = .ok (.getfield 28, 3) := by decide +kernel
theorem dX10_time_17 : decode cX10_time 17 = .ok (.iload_n 1, 1) := by decide +kernel
theorem dX10_time_18 : decode cX10_time 18 = .ok (.invokevirtual 122, 3) := by decide +kernel
theorem dX10_time_21 : decode cX10_time 21 = .ok (.iconst 1, 1) := by decide +kernel
theorem dX10_time_22 : decode cX10_time 22 = .ok (.isub, 1) := by decide +kernel
theorem dX10_time_23 : decode cX10_time 23 = .ok (.invokestatic 126, 3) := by decide +kernel
theorem dX10_time_26 : decode cX10_time 26 = .ok (.ifCond .eq 10, 3) := by decide +kernel
theorem dX10_time_29 : decode cX10_time 29 = .ok (.iload_n 3, 1) := by decide +kernel
theorem dX10_time_30 : decode cX10_time 30 = .ok (.invokestatic 129, 3) := by decide +kernel
theorem dX10_time_33 : decode cX10_time 33 = .ok (.ifCond .ne 6, 3) := by decide +kernel
theorem dX10_time_36 : decode cX10_time 36 = .ok (.bipush (-5), 2) := by decide +kernel
theorem dX10_time_38 : decode cX10_time 38 = .ok (.ireturn, 1) := by decide +kernel
theorem dX10_time_39 : decode cX10_time 39 = .ok (.aload_n 0, 1) := by decide +kernel
theorem dX10_time_40 : decode cX10_time 40 = .ok (.getfield 28, 3) := by decide +kernel
theorem dX10_time_43 : decode cX10_time 43 = .ok (.iload_n 1, 1) := by decide +kernel
theorem dX10_time_44 : decode cX10_time 44 = .ok (.iload_n 2, 1) := by decide +kernel
theorem dX10_time_45 : decode cX10_time 45 = .ok (.invokevirtual 132, 3) := by decide +kernel
theorem dX10_time_48 : decode cX10_time 48 = .ok (.istore 4, 2) := by decide +kernel
theorem dX10_time_50 : decode cX10_time 50 = .ok (.aload_n 0, 1) := by decide +kernel
theorem dX10_time_51 : decode cX10_time 51 = .ok (.getfield 28, 3) := by decide +kernel
theorem dX10_time_54 : decode cX10_time 54 = .ok (.iload_n 1, 1) := by decide +kernel
theorem dX10_time_55 : decode cX10_time 55 = .ok (.iload_n 2, 1) := by decide +kernel
theorem dX10_time_56 : decode cX10_time 56 = .ok (.iload_n 3, 1) := by decide +kernel
theorem dX10_time_57 : decode cX10_time 57 = .ok (.invokevirtual 135, 3) := by decide +kernel
theorem dX10_time_60 : decode cX10_time 60 = .ok (.iload 4, 2) := by decide +kernel
theorem dX10_time_62 : decode cX10_time 62 = .ok (.ireturn, 1) := by decide +kernel
def fX10_time (x0_ : Int32) (x1_ : Int32) (x2_ : Int32) (s : Sg) : Option (Int32 × Sg) :=
  (fX3_hasSwim x0_ s).bind fun w1 =>
  if w1.1 = 0 then
  some ((-5 : Int32), w1.2)
  else
  (fX3_lengthsOf x0_ w1.2).bind fun w3 =>
  (fX10_within x1_ (0 : Int32) (w3.1 - (1 : Int32)) w3.2).bind fun w4 =>
  if w4.1 = 0 then
  some ((-5 : Int32), w4.2)
  else
  (fX10_mayBeTime x2_ w4.2).bind fun w6 =>
  if w6.1 = 0 then
  some ((-5 : Int32), w6.2)
  else
  (fX3_timeOf x0_ x1_ w6.2).bind fun w7 =>
  (fX3_setTime x0_ x1_ x2_ w7.2).bind fun w8 =>
  some (w7.1, w8)
theorem ct_X10_time {g : Gl} {x0_ : Int32} {x1_ : Int32} {x2_ : Int32} {s : Sg} {w : Int32 × Sg}  (h : fX10_time x0_ x1_ x2_ s = some w) : Ct SS g iX10_time 2 42 [.ref (gad g 0), .int x0_, .int x1_, .int x2_] s (Dt (some (.int w.1)) w.2) := by
  refine Ct.ofV (by decide +kernel) 1 (lv0 := [some (.ref (gad g 0)), some (.int x0_), some (.int x1_), some (.int x2_), none]) rfl rfl (fun M hC => ?_)
  have hP : (Dt (some (.int w.1)) w.2) (some (.int w.1)) w.2 := ⟨rfl, rfl⟩
  generalize Dt (some (.int w.1)) w.2 = P at hP ⊢
  unfold fX10_time at h
  refine v_aload_n (pc := 0) hC dX10_time_0 rfl ?_
  refine v_gt (pc := 1) 0 (.ref (gad g 1)) hC s_0 rfl rfl rfl rfl fl_X10_28 dX10_time_1 ?_
  refine v_iload_n (pc := 4) hC dX10_time_4 rfl ?_
  obtain ⟨w1, hw1, h⟩ := obd_s h
  refine v_cV (pc := 5) [] [.int w1.1] gm_X3_hasSwim hC s_1 rfl rfl (ct_X3_hasSwim  hw1) ml_X10_119 rfl rfl rfl rfl rfl rfl dX10_time_5 ?_
  refine v_if_eq (pc := 8) (tgt := 36) hC dX10_time_8 rfl (fun c2 => ?_) (fun c2 => ?_)
  · replace h := (if_pos c2).symm.trans h
    refine v_bipush (pc := 36) (-5 : Int32) rfl hC dX10_time_36 ?_
    obtain rfl := Option.some.inj h
    exact v_iret (pc := 38) hC rfl dX10_time_38 hP
  · replace h := (if_neg c2).symm.trans h
    refine v_iload_n (pc := 11) hC dX10_time_11 rfl ?_
    refine v_iconst (pc := 12) (0 : Int32) rfl hC dX10_time_12 ?_
    refine v_aload_n (pc := 13) hC dX10_time_13 rfl ?_
    refine v_gt (pc := 14) 0 (.ref (gad g 1)) hC s_0 rfl rfl rfl rfl fl_X10_28 dX10_time_14 ?_
    refine v_iload_n (pc := 17) hC dX10_time_17 rfl ?_
    obtain ⟨w3, hw3, h⟩ := obd_s h
    refine v_cV (pc := 18) [.int (0 : Int32), .int x1_] [.int w3.1, .int (0 : Int32), .int x1_] gm_X3_lengthsOf hC s_1 rfl rfl (ct_X3_lengthsOf  hw3) ml_X10_122 rfl rfl rfl rfl rfl rfl dX10_time_18 ?_
    refine v_iconst (pc := 21) (1 : Int32) rfl hC dX10_time_21 ?_
    refine v_isub (pc := 22) hC dX10_time_22 ?_
    obtain ⟨w4, hw4, h⟩ := obd_s h
    refine v_cS (pc := 23) [] [.int w4.1] gm_X10_within hC (ct_X10_within  hw4) ml_X10_126 rfl rfl rfl rfl rfl rfl dX10_time_23 ?_
    refine v_if_eq (pc := 26) (tgt := 36) hC dX10_time_26 rfl (fun c5 => ?_) (fun c5 => ?_)
    · replace h := (if_pos c5).symm.trans h
      refine v_bipush (pc := 36) (-5 : Int32) rfl hC dX10_time_36 ?_
      obtain rfl := Option.some.inj h
      exact v_iret (pc := 38) hC rfl dX10_time_38 hP
    · replace h := (if_neg c5).symm.trans h
      refine v_iload_n (pc := 29) hC dX10_time_29 rfl ?_
      obtain ⟨w6, hw6, h⟩ := obd_s h
      refine v_cS (pc := 30) [] [.int w6.1] gm_X10_mayBeTime hC (ct_X10_mayBeTime  hw6) ml_X10_129 rfl rfl rfl rfl rfl rfl dX10_time_30 ?_
      refine v_if_ne (pc := 33) (tgt := 39) hC dX10_time_33 rfl (fun c9 => ?_) (fun c9 => ?_)
      · replace h := (if_neg c9).symm.trans h
        refine v_aload_n (pc := 39) hC dX10_time_39 rfl ?_
        refine v_gt (pc := 40) 0 (.ref (gad g 1)) hC s_0 rfl rfl rfl rfl fl_X10_28 dX10_time_40 ?_
        refine v_iload_n (pc := 43) hC dX10_time_43 rfl ?_
        refine v_iload_n (pc := 44) hC dX10_time_44 rfl ?_
        obtain ⟨w7, hw7, h⟩ := obd_s h
        refine v_cV (pc := 45) [] [.int w7.1] gm_X3_timeOf hC s_1 rfl rfl (ct_X3_timeOf  hw7) ml_X10_132 rfl rfl rfl rfl rfl rfl dX10_time_45 ?_
        refine v_istore (pc := 48) (lv' := [some (.ref (gad g 0)), some (.int x0_), some (.int x1_), some (.int x2_), some (.int w7.1)]) hC dX10_time_48 rfl rfl rfl rfl ?_
        refine v_aload_n (pc := 50) hC dX10_time_50 rfl ?_
        refine v_gt (pc := 51) 0 (.ref (gad g 1)) hC s_0 rfl rfl rfl rfl fl_X10_28 dX10_time_51 ?_
        refine v_iload_n (pc := 54) hC dX10_time_54 rfl ?_
        refine v_iload_n (pc := 55) hC dX10_time_55 rfl ?_
        refine v_iload_n (pc := 56) hC dX10_time_56 rfl ?_
        obtain ⟨w8, hw8, h⟩ := obd_s h
        refine v_cV (pc := 57) [] [] gm_X3_setTime hC s_1 rfl rfl (ct_X3_setTime  hw8) ml_X10_135 rfl rfl rfl rfl rfl rfl dX10_time_57 ?_
        refine v_iload (pc := 60) hC dX10_time_60 rfl ?_
        obtain rfl := Option.some.inj h
        exact v_iret (pc := 62) hC rfl dX10_time_62 hP
      · replace h := (if_pos c9).symm.trans h
        refine v_bipush (pc := 36) (-5 : Int32) rfl hC dX10_time_36 ?_
        obtain rfl := Option.some.inj h
        exact v_iret (pc := 38) hC rfl dX10_time_38 hP
theorem dX10_isSheet_0 : decode cX10_isSheet 0 = .ok (.iload_n 0, 1) := by decide +kernel
theorem dX10_isSheet_1 : decode cX10_isSheet 1 = .ok (.iconst 0, 1) := by decide +kernel
theorem dX10_isSheet_2 : decode cX10_isSheet 2 = .ok (.iconst 3, 1) := by decide +kernel
theorem dX10_isSheet_3 : decode cX10_isSheet 3 = .ok (.invokestatic 126, 3) := by decide +kernel
theorem dX10_isSheet_6 : decode cX10_isSheet 6 = .ok (.ireturn, 1) := by decide +kernel
def fX10_isSheet (x0_ : Int32) (s : Sg) : Option (Int32 × Sg) :=
  (fX10_within x0_ (0 : Int32) (3 : Int32) s).bind fun w1 =>
  (zr w1.1).bind fun z2 =>
  some (z2, w1.2)
theorem ct_X10_isSheet {g : Gl} {x0_ : Int32} {s : Sg} {w : Int32 × Sg}  (h : fX10_isSheet x0_ s = some w) : Ct SS g iX10_isSheet 1 22 [.int x0_] s (Dt (some (.int w.1)) w.2) := by
  refine Ct.ofV (by decide +kernel) 0 (lv0 := [some (.int x0_)]) rfl rfl (fun M hC => ?_)
  have hP : (Dt (some (.int w.1)) w.2) (some (.int w.1)) w.2 := ⟨rfl, rfl⟩
  generalize Dt (some (.int w.1)) w.2 = P at hP ⊢
  unfold fX10_isSheet at h
  refine v_iload_n (pc := 0) hC dX10_isSheet_0 rfl ?_
  refine v_iconst (pc := 1) (0 : Int32) rfl hC dX10_isSheet_1 ?_
  refine v_iconst (pc := 2) (3 : Int32) rfl hC dX10_isSheet_2 ?_
  obtain ⟨w1, hw1, h⟩ := obd_s h
  refine v_cS (pc := 3) [] [.int w1.1] gm_X10_within hC (ct_X10_within  hw1) ml_X10_126 rfl rfl rfl rfl rfl rfl dX10_isSheet_3 ?_
  obtain ⟨z2, hz2, h⟩ := obd_s h
  obtain rfl := Option.some.inj h
  exact v_zr (pc := 6) hC rfl hz2 dX10_isSheet_6 hP
theorem dX10_found_0 : decode cX10_found 0 = .ok (.aload_n 0, 1) := by decide +kernel
theorem dX10_found_1 : decode cX10_found 1 = .ok (.iload_n 1, 1) := by decide +kernel
theorem dX10_found_2 : decode cX10_found 2 = .ok (.putfield 83, 3) := by decide +kernel
theorem dX10_found_5 : decode cX10_found 5 = .ok (.bipush (-10), 2) := by decide +kernel
theorem dX10_found_7 : decode cX10_found 7 = .ok (.iload_n 1, 1) := by decide +kernel
theorem dX10_found_8 : decode cX10_found 8 = .ok (.isub, 1) := by decide +kernel
theorem dX10_found_9 : decode cX10_found 9 = .ok (.ireturn, 1) := by decide +kernel
def fX10_found (x0_ : Int32) (s : Sg) : Option (Int32 × Sg) :=
  bnd (sI s 0 9 x0_) fun s1 =>
  some (((-10 : Int32) - x0_), s1)
theorem ct_X10_found {g : Gl} {x0_ : Int32} {s : Sg} {w : Int32 × Sg}  (h : fX10_found x0_ s = some w) : Ct SS g iX10_found 0 0 [.ref (gad g 0), .int x0_] s (Dt (some (.int w.1)) w.2) := by
  refine Ct.ofV (by decide +kernel) 0 (lv0 := [some (.ref (gad g 0)), some (.int x0_)]) rfl rfl (fun M hC => ?_)
  have hP : (Dt (some (.int w.1)) w.2) (some (.int w.1)) w.2 := ⟨rfl, rfl⟩
  generalize Dt (some (.int w.1)) w.2 = P at hP ⊢
  unfold fX10_found at h
  refine v_aload_n (pc := 0) hC dX10_found_0 rfl ?_
  refine v_iload_n (pc := 1) hC dX10_found_1 rfl ?_
  obtain ⟨s1, hs1, h⟩ := bnd_s h
  refine v_pI (pc := 2) 9 hC s_0 rfl rfl rfl rfl rfl rfl fl_X10_83 hs1 dX10_found_2 ?_
  refine v_bipush (pc := 5) (-10 : Int32) rfl hC dX10_found_5 ?_
  refine v_iload_n (pc := 7) hC dX10_found_7 rfl ?_
  refine v_isub (pc := 8) hC dX10_found_8 ?_
  obtain rfl := Option.some.inj h
  exact v_iret (pc := 9) hC rfl dX10_found_9 hP
theorem dX10_read_0 : decode cX10_read 0 = .ok (.iload_n 1, 1) := by decide +kernel
theorem dX10_read_1 : decode cX10_read 1 = .ok (.invokestatic 139, 3) := by decide +kernel
theorem dX10_read_4 : decode cX10_read 4 = .ok (.ifCond .eq 14, 3) := by decide +kernel
theorem dX10_read_7 : decode cX10_read 7 = .ok (.aload_n 0, 1) := by decide +kernel
theorem dX10_read_8 : decode cX10_read 8 = .ok (.getfield 28, 3) := by decide +kernel
theorem dX10_read_11 : decode cX10_read 11 = .ok (.iload_n 2, 1) := by decide +kernel
theorem dX10_read_12 : decode cX10_read 12 = .ok (.invokevirtual 119, 3) := by decide +kernel
theorem dX10_read_15 : decode cX10_read 15 = .ok (.ifCond .ne 6, 3) := by decide +kernel
theorem dX10_read_18 : decode cX10_read 18 = .ok (.bipush (-2), 2) := by decide +kernel
theorem dX10_read_20 : decode cX10_read 20 = .ok (.ireturn, 1) := by decide +kernel
theorem dX10_read_21 : decode cX10_read 21 = .ok (.aload_n 0, 1) := by decide +kernel
theorem dX10_read_22 : decode cX10_read 22 = .ok (.getfield 71, 3) := by decide +kernel
theorem dX10_read_25 : decode cX10_read 25 = .ok (.iload_n 1, 1) := by decide +kernel
theorem dX10_read_26 : decode cX10_read 26 = .ok (.aaload, 1) := by decide +kernel
theorem dX10_read_27 : decode cX10_read 27 = .ok (.astore_n 3, 1) := by decide +kernel
theorem dX10_read_28 : decode cX10_read 28 = .ok (.aload_n 3, 1) := by decide +kernel
theorem dX10_read_29 : decode cX10_read 29 = .ok (.getfield 142, 3) := by decide +kernel
theorem dX10_read_32 : decode cX10_read 32 = .ok (.ifCond .eq 9, 3) := by decide +kernel
theorem dX10_read_35 : decode cX10_read 35 = .ok (.aload_n 0, 1) := by decide +kernel
theorem dX10_read_36 : decode cX10_read 36 = .ok (.iconst 1, 1) := by decide +kernel
theorem dX10_read_37 : decode cX10_read 37 = .ok (.invokevirtual 146, 3) := by decide +kernel
theorem dX10_read_40 : decode cX10_read 40 = .ok (.ireturn, 1) := by decide +kernel
theorem dX10_read_41 : decode cX10_read 41 = .ok (.aload_n 3, 1) := by decide +kernel
theorem dX10_read_42 : decode cX10_read 42 = .ok (.getfield 149, 3) := by decide +kernel
theorem dX10_read_45 : decode cX10_read 45 = .ok (.aload_n 0, 1) := by decide +kernel
theorem dX10_read_46 : decode cX10_read 46 = .ok (.getfield 28, 3) := by decide +kernel
theorem dX10_read_49 : decode cX10_read 49 = .ok (.iload_n 2, 1) := by decide +kernel
theorem dX10_read_50 : decode cX10_read 50 = .ok (.invokevirtual 122, 3) := by decide +kernel
theorem dX10_read_53 : decode cX10_read 53 = .ok (.invokestatic 152, 3) := by decide +kernel
theorem dX10_read_56 : decode cX10_read 56 = .ok (.istore 4, 2) := by decide +kernel
theorem dX10_read_58 : decode cX10_read 58 = .ok (.iconst 0, 1) := by decide +kernel
theorem dX10_read_59 : decode cX10_read 59 = .ok (.istore 5, 2) := by decide +kernel
theorem dX10_read_61 : decode cX10_read 61 = .ok (.iload 5, 2) := by decide +kernel
theorem dX10_read_63 : decode cX10_read 63 = .ok (.iload 4, 2) := by decide +kernel
theorem dX10_read_65 : decode cX10_read 65 = .ok (.if_icmp .ge 39, 3) := by decide +kernel
theorem dX10_read_68 : decode cX10_read 68 = .ok (.aload_n 3, 1) := by decide +kernel
theorem dX10_read_69 : decode cX10_read 69 = .ok (.getfield 157, 3) := by decide +kernel
theorem dX10_read_72 : decode cX10_read 72 = .ok (.iload 5, 2) := by decide +kernel
theorem dX10_read_74 : decode cX10_read 74 = .ok (.iaload, 1) := by decide +kernel
theorem dX10_read_75 : decode cX10_read 75 = .ok (.invokestatic 129, 3) := by decide +kernel
theorem dX10_read_78 : decode cX10_read 78 = .ok (.ifCond .eq 26, 3) := by decide +kernel
theorem dX10_read_81 : decode cX10_read 81 = .ok (.aload_n 0, 1) := by decide +kernel
theorem dX10_read_82 : decode cX10_read 82 = .ok (.getfield 28, 3) := by decide +kernel
theorem dX10_read_85 : decode cX10_read 85 = .ok (.iload_n 2, 1) := by decide +kernel
theorem dX10_read_86 : decode cX10_read 86 = .ok (.iload 5, 2) := by decide +kernel
theorem dX10_read_88 : decode cX10_read 88 = .ok (.aload_n 3, 1) := by decide +kernel
theorem dX10_read_89 : decode cX10_read 89 = .ok (.getfield 157, 3) := by decide +kernel
theorem dX10_read_92 : decode cX10_read 92 = .ok (.iload 5, 2) := by decide +kernel
theorem dX10_read_94 : decode cX10_read 94 = .ok (.iaload, 1) := by decide +kernel
theorem dX10_read_95 : decode cX10_read 95 = .ok (.invokevirtual 135, 3) := by decide +kernel
theorem dX10_read_98 : decode cX10_read 98 = .ok (.iinc 5 1, 3) := by decide +kernel
theorem dX10_read_101 : decode cX10_read 101 = .ok (.goto (-40), 3) := by decide +kernel
theorem dX10_read_104 : decode cX10_read 104 = .ok (.iload 5, 2) := by decide +kernel
theorem dX10_read_106 : decode cX10_read 106 = .ok (.ireturn, 1) := by decide +kernel
def fX10_read_L61 (p2 : Int32) (b3 : Nat) (p4 : Int32) (a : Int32) (s : Sg) : Option (((Int32) ⊕ (Int32)) × Sg) :=
  if p4 ≤ a then
  some (.inr a, s)
  else
  (aI s (b3 + 1) 48 a).bind fun v2 =>
  (fX10_mayBeTime v2 s).bind fun w3 =>
  if w3.1 = 0 then
  some (.inr a, w3.2)
  else
  (aI w3.2 (b3 + 1) 48 a).bind fun v5 =>
  (fX3_setTime p2 a v5 w3.2).bind fun w6 =>
  bnd (a + (1 : Int32)) fun x7 =>
  some (.inl x7, w6)
def fX10_read (x0_ : Int32) (x1_ : Int32) (s : Sg) : Option (Int32 × Sg) :=
  (fX10_isSheet x0_ s).bind fun w1 =>
  if w1.1 = 0 then
  some ((-2 : Int32), w1.2)
  else
  (fX3_hasSwim x1_ w1.2).bind fun w3 =>
  if w3.1 = 0 then
  some ((-2 : Int32), w3.2)
  else
  (aR 4 x0_).bind fun k4 =>
  if (gI w3.2 (rix 1 k4) 0) = 0 then
  (fX3_lengthsOf x1_ w3.2).bind fun w6 =>
  bnd (mnI (gI w3.2 (rix 1 k4) 2) w6.1) fun x7 =>
  (lpG (fX10_read_L61 x1_ (rix 1 k4) x7) FU (0 : Int32) w6.2).bind fun w8 =>
  some (w8.1, w8.2)
  else
  (fX10_found (1 : Int32) w3.2).bind fun w24 =>
  some (w24.1, w24.2)
theorem ct_X10_read {g : Gl} {x0_ : Int32} {x1_ : Int32} {s : Sg} {w : Int32 × Sg}  (h : fX10_read x0_ x1_ s = some w) : Ct SS g iX10_read 2 42 [.ref (gad g 0), .int x0_, .int x1_] s (Dt (some (.int w.1)) w.2) := by
  refine Ct.ofV (by decide +kernel) 3 (lv0 := [some (.ref (gad g 0)), some (.int x0_), some (.int x1_), none, none, none]) rfl rfl (fun M hC => ?_)
  have hP : (Dt (some (.int w.1)) w.2) (some (.int w.1)) w.2 := ⟨rfl, rfl⟩
  generalize Dt (some (.int w.1)) w.2 = P at hP ⊢
  unfold fX10_read at h
  refine v_iload_n (pc := 0) hC dX10_read_0 rfl ?_
  obtain ⟨w1, hw1, h⟩ := obd_s h
  refine v_cS (pc := 1) [] [.int w1.1] gm_X10_isSheet hC (ct_X10_isSheet  hw1) ml_X10_139 rfl rfl rfl rfl rfl rfl dX10_read_1 ?_
  refine v_if_eq (pc := 4) (tgt := 18) hC dX10_read_4 rfl (fun c2 => ?_) (fun c2 => ?_)
  · replace h := (if_pos c2).symm.trans h
    refine v_bipush (pc := 18) (-2 : Int32) rfl hC dX10_read_18 ?_
    obtain rfl := Option.some.inj h
    exact v_iret (pc := 20) hC rfl dX10_read_20 hP
  · replace h := (if_neg c2).symm.trans h
    refine v_aload_n (pc := 7) hC dX10_read_7 rfl ?_
    refine v_gt (pc := 8) 0 (.ref (gad g 1)) hC s_0 rfl rfl rfl rfl fl_X10_28 dX10_read_8 ?_
    refine v_iload_n (pc := 11) hC dX10_read_11 rfl ?_
    obtain ⟨w3, hw3, h⟩ := obd_s h
    refine v_cV (pc := 12) [] [.int w3.1] gm_X3_hasSwim hC s_1 rfl rfl (ct_X3_hasSwim  hw3) ml_X10_119 rfl rfl rfl rfl rfl rfl dX10_read_12 ?_
    refine v_if_ne (pc := 15) (tgt := 21) hC dX10_read_15 rfl (fun c25 => ?_) (fun c25 => ?_)
    · replace h := (if_neg c25).symm.trans h
      refine v_aload_n (pc := 21) hC dX10_read_21 rfl ?_
      refine v_gt (pc := 22) 7 (.ref (gad g 39)) hC s_0 rfl rfl rfl rfl fl_X10_71 dX10_read_22 ?_
      refine v_iload_n (pc := 25) hC dX10_read_25 rfl ?_
      obtain ⟨k4, hk4, h⟩ := obd_s h
      have hb5 := sh_of (aR_lt hk4)
      refine v_aR (pc := 26) (t := 1) (C := "LaneFour$Sheet") hC s_39 rfl hk4 dX10_read_26 ?_
      refine v_astore_n (pc := 27) (lv' := [some (.ref (gad g 0)), some (.int x0_), some (.int x1_), some (.ref (gad g (rix 1 k4))), none, none]) hC dX10_read_27 rfl rfl rfl rfl ?_
      refine v_aload_n (pc := 28) hC dX10_read_28 rfl ?_
      refine v_gtN (pc := 29) 0 (.int (gI w3.2 (rix 1 k4) 0)) hC hb5.1 rfl rfl rfl rfl fl_X10_142 dX10_read_29 ?_
      refine v_if_eq (pc := 32) (tgt := 41) hC dX10_read_32 rfl (fun c23 => ?_) (fun c23 => ?_)
      · replace h := (if_pos c23).symm.trans h
        refine v_aload_n (pc := 41) hC dX10_read_41 rfl ?_
        refine v_gtN (pc := 42) 2 (.int (gI w3.2 (rix 1 k4) 2)) hC hb5.1 rfl rfl rfl rfl fl_X10_149 dX10_read_42 ?_
        refine v_aload_n (pc := 45) hC dX10_read_45 rfl ?_
        refine v_gt (pc := 46) 0 (.ref (gad g 1)) hC s_0 rfl rfl rfl rfl fl_X10_28 dX10_read_46 ?_
        refine v_iload_n (pc := 49) hC dX10_read_49 rfl ?_
        obtain ⟨w6, hw6, h⟩ := obd_s h
        refine v_cV (pc := 50) [.int (gI w3.2 (rix 1 k4) 2)] [.int w6.1, .int (gI w3.2 (rix 1 k4) 2)] gm_X3_lengthsOf hC s_1 rfl rfl (ct_X3_lengthsOf  hw6) ml_X10_122 rfl rfl rfl rfl rfl rfl dX10_read_50 ?_
        refine v_mn (pc := 53) hC mm_X10_152 rfl rfl dX10_read_53 ?_
        obtain ⟨x7, hx7, h⟩ := bnd_s h
        refine v_istore (pc := 56) (lv' := [some (.ref (gad g 0)), some (.int x0_), some (.int x1_), some (.ref (gad g (rix 1 k4))), some (.int x7), none]) hC dX10_read_56 hx7 rfl rfl rfl ?_
        refine v_iconst (pc := 58) (0 : Int32) rfl hC dX10_read_58 ?_
        refine v_istore (pc := 59) (lv' := [some (.ref (gad g 0)), some (.int x0_), some (.int x1_), some (.ref (gad g (rix 1 k4))), some (.int x7), some (.int (0 : Int32))]) hC dX10_read_59 rfl rfl rfl rfl ?_
        obtain ⟨w8, hw8, h⟩ := obd_s h
        have kx22 : V SS g M iX10_read (PQ SS g M P) 104 [none, none, none, none, none, some (.int w8.1)] [] w8.2 := by
          refine v_iload (pc := 104) hC dX10_read_104 rfl ?_
          obtain rfl := Option.some.inj h
          exact v_iret (pc := 106) hC rfl dX10_read_106 hP
        refine V.ls (ls_some (ls_none (ls_some (ls_some (ls_some (ls_some ls_nil)))))) (v_loop (pc := 61) (fun a11 => [some (.ref (gad g 0)), none, some (.int x1_), some (.ref (gad g (rix 1 k4))), some (.int x7), some (.int a11)]) (fun z t => V SS g M iX10_read (PQ SS g M P) 104 [none, none, none, none, none, some (.int z)] [] t) (fun a11 s9 u10 hu10 k12 k13 => ?_) _ _ _ _ hw8 kx22)
        unfold fX10_read_L61 at hu10
        refine v_iload (pc := 61) hC dX10_read_61 rfl ?_
        refine v_iload (pc := 63) hC dX10_read_63 rfl ?_
        refine v_ic_ge (pc := 65) (tgt := 104) hC dX10_read_65 rfl (fun c15 => ?_) (fun c15 => ?_)
        · replace hu10 := (if_pos c15).symm.trans hu10
          obtain rfl := Option.some.inj hu10
          exact V.ls (ls_none (ls_none (ls_none (ls_none (ls_none (ls_some ls_nil)))))) (k13 _ rfl)
        · replace hu10 := (if_neg c15).symm.trans hu10
          refine v_aload_n (pc := 68) hC dX10_read_68 rfl ?_
          refine v_gtN (pc := 69) 3 (.ref (gad g ((rix 1 k4) + 1))) hC hb5.1 rfl rfl rfl rfl fl_X10_157 dX10_read_69 ?_
          refine v_iload (pc := 72) hC dX10_read_72 rfl ?_
          obtain ⟨v16, hv16, hu10⟩ := obd_s hu10
          refine v_aI (pc := 74) hC hb5.2 hv16 dX10_read_74 ?_
          obtain ⟨w17, hw17, hu10⟩ := obd_s hu10
          refine v_cS (pc := 75) [] [.int w17.1] gm_X10_mayBeTime hC (ct_X10_mayBeTime  hw17) ml_X10_129 rfl rfl rfl rfl rfl rfl dX10_read_75 ?_
          refine v_if_eq (pc := 78) (tgt := 104) hC dX10_read_78 rfl (fun c18 => ?_) (fun c18 => ?_)
          · replace hu10 := (if_pos c18).symm.trans hu10
            obtain rfl := Option.some.inj hu10
            exact V.ls (ls_none (ls_none (ls_none (ls_none (ls_none (ls_some ls_nil)))))) (k13 _ rfl)
          · replace hu10 := (if_neg c18).symm.trans hu10
            refine v_aload_n (pc := 81) hC dX10_read_81 rfl ?_
            refine v_gt (pc := 82) 0 (.ref (gad g 1)) hC s_0 rfl rfl rfl rfl fl_X10_28 dX10_read_82 ?_
            refine v_iload_n (pc := 85) hC dX10_read_85 rfl ?_
            refine v_iload (pc := 86) hC dX10_read_86 rfl ?_
            refine v_aload_n (pc := 88) hC dX10_read_88 rfl ?_
            refine v_gtN (pc := 89) 3 (.ref (gad g ((rix 1 k4) + 1))) hC hb5.1 rfl rfl rfl rfl fl_X10_157 dX10_read_89 ?_
            refine v_iload (pc := 92) hC dX10_read_92 rfl ?_
            obtain ⟨v19, hv19, hu10⟩ := obd_s hu10
            refine v_aI (pc := 94) hC hb5.2 hv19 dX10_read_94 ?_
            obtain ⟨w20, hw20, hu10⟩ := obd_s hu10
            refine v_cV (pc := 95) [] [] gm_X3_setTime hC s_1 rfl rfl (ct_X3_setTime  hw20) ml_X10_135 rfl rfl rfl rfl rfl rfl dX10_read_95 ?_
            obtain ⟨x21, hx21, hu10⟩ := bnd_s hu10
            refine v_iinc (pc := 98) (lv' := [some (.ref (gad g 0)), none, some (.int x1_), some (.ref (gad g (rix 1 k4))), some (.int x7), some (.int x21)]) (1 : Int32) rfl hx21 hC dX10_read_98 rfl rfl rfl rfl ?_
            refine v_goto (pc := 101) (tgt := 61) hC dX10_read_101 rfl ?_
            obtain rfl := Option.some.inj hu10
            exact V.ls (ls_some (ls_none (ls_some (ls_some (ls_some (ls_some ls_nil)))))) (k12 _ rfl)
      · replace h := (if_neg c23).symm.trans h
        refine v_aload_n (pc := 35) hC dX10_read_35 rfl ?_
        refine v_iconst (pc := 36) (1 : Int32) rfl hC dX10_read_36 ?_
        obtain ⟨w24, hw24, h⟩ := obd_s h
        refine v_cV (pc := 37) [] [.int w24.1] gm_X10_found hC s_0 rfl rfl (ct_X10_found  hw24) ml_X10_146 rfl rfl rfl rfl rfl rfl dX10_read_37 ?_
        obtain rfl := Option.some.inj h
        exact v_iret (pc := 40) hC rfl dX10_read_40 hP
    · replace h := (if_pos c25).symm.trans h
      refine v_bipush (pc := 18) (-2 : Int32) rfl hC dX10_read_18 ?_
      obtain rfl := Option.some.inj h
      exact v_iret (pc := 20) hC rfl dX10_read_20 hP
theorem dX10_seeds_0 : decode cX10_seeds 0 = .ok (.iload_n 1, 1) := by decide +kernel
theorem dX10_seeds_1 : decode cX10_seeds 1 = .ok (.invokestatic 102, 3) := by decide +kernel
theorem dX10_seeds_4 : decode cX10_seeds 4 = .ok (.ifCond .eq 14, 3) := by decide +kernel
theorem dX10_seeds_7 : decode cX10_seeds 7 = .ok (.iload_n 2, 1) := by decide +kernel
theorem dX10_seeds_8 : decode cX10_seeds 8 = .ok (.iconst 1, 1) := by decide +kernel
theorem dX10_seeds_9 : decode cX10_seeds 9 = .ok (.sipush 9999, 3) := by decide +kernel
theorem dX10_seeds_12 : decode cX10_seeds 12 = .ok (.invokestatic 126, 3) := by decide +kernel
theorem dX10_seeds_15 : decode cX10_seeds 15 = .ok (.ifCond .ne 6, 3) := by decide +kernel
theorem dX10_seeds_18 : decode cX10_seeds 18 = .ok (.bipush (-2), 2) := by decide +kernel
theorem dX10_seeds_20 : decode cX10_seeds 20 = .ok (.ireturn, 1) := by decide +kernel
theorem dX10_seeds_21 : decode cX10_seeds 21 = .ok (.aload_n 0, 1) := by decide +kernel
theorem dX10_seeds_22 : decode cX10_seeds 22 = .ok (.getfield 28, 3) := by decide +kernel
theorem dX10_seeds_25 : decode cX10_seeds 25 = .ok (.getfield 161, 3) := by decide +kernel
theorem dX10_seeds_28 : decode cX10_seeds 28 = .ok (.iload_n 1, 1) := by decide +kernel
theorem dX10_seeds_29 : decode cX10_seeds 29 = .ok (.iaload, 1) := by decide +kernel
theorem dX10_seeds_30 : decode cX10_seeds 30 = .ok (.istore_n 3, 1) := by decide +kernel
theorem dX10_seeds_31 : decode cX10_seeds 31 = .ok (.aload_n 0, 1) := by decide +kernel
theorem dX10_seeds_32 : decode cX10_seeds 32 = .ok (.getfield 28, 3) := by decide +kernel
theorem dX10_seeds_35 : decode cX10_seeds 35 = .ok (.getfield 161, 3) := by decide +kernel
theorem dX10_seeds_38 : decode cX10_seeds 38 = .ok (.iload_n 1, 1) := by decide +kernel
theorem dX10_seeds_39 : decode cX10_seeds 39 = .ok (.iload_n 2, 1) := by decide +kernel
theorem dX10_seeds_40 : decode cX10_seeds 40 = .ok (.iastore, 1) := by decide +kernel
theorem dX10_seeds_41 : decode cX10_seeds 41 = .ok (.iload_n 3, 1) := by decide +kernel
theorem dX10_seeds_42 : decode cX10_seeds 42 = .ok (.ireturn, 1) := by decide +kernel
def fX10_seeds (x0_ : Int32) (x1_ : Int32) (s : Sg) : Option (Int32 × Sg) :=
  (fX10_isSwimmer x0_ s).bind fun w1 =>
  if w1.1 = 0 then
  some ((-2 : Int32), w1.2)
  else
  (fX10_within x1_ (1 : Int32) (9999 : Int32) w1.2).bind fun w3 =>
  if w3.1 = 0 then
  some ((-2 : Int32), w3.2)
  else
  (aI w3.2 8 24 x0_).bind fun v4 =>
  (wI w3.2 8 24 x0_ x1_).bind fun s5 =>
  some (v4, s5)
theorem ct_X10_seeds {g : Gl} {x0_ : Int32} {x1_ : Int32} {s : Sg} {w : Int32 × Sg}  (h : fX10_seeds x0_ x1_ s = some w) : Ct SS g iX10_seeds 2 42 [.ref (gad g 0), .int x0_, .int x1_] s (Dt (some (.int w.1)) w.2) := by
  refine Ct.ofV (by decide +kernel) 1 (lv0 := [some (.ref (gad g 0)), some (.int x0_), some (.int x1_), none]) rfl rfl (fun M hC => ?_)
  have hP : (Dt (some (.int w.1)) w.2) (some (.int w.1)) w.2 := ⟨rfl, rfl⟩
  generalize Dt (some (.int w.1)) w.2 = P at hP ⊢
  unfold fX10_seeds at h
  refine v_iload_n (pc := 0) hC dX10_seeds_0 rfl ?_
  obtain ⟨w1, hw1, h⟩ := obd_s h
  refine v_cS (pc := 1) [] [.int w1.1] gm_X10_isSwimmer hC (ct_X10_isSwimmer  hw1) ml_X10_102 rfl rfl rfl rfl rfl rfl dX10_seeds_1 ?_
  refine v_if_eq (pc := 4) (tgt := 18) hC dX10_seeds_4 rfl (fun c2 => ?_) (fun c2 => ?_)
  · replace h := (if_pos c2).symm.trans h
    refine v_bipush (pc := 18) (-2 : Int32) rfl hC dX10_seeds_18 ?_
    obtain rfl := Option.some.inj h
    exact v_iret (pc := 20) hC rfl dX10_seeds_20 hP
  · replace h := (if_neg c2).symm.trans h
    refine v_iload_n (pc := 7) hC dX10_seeds_7 rfl ?_
    refine v_iconst (pc := 8) (1 : Int32) rfl hC dX10_seeds_8 ?_
    refine v_sipush (pc := 9) (9999 : Int32) rfl hC dX10_seeds_9 ?_
    obtain ⟨w3, hw3, h⟩ := obd_s h
    refine v_cS (pc := 12) [] [.int w3.1] gm_X10_within hC (ct_X10_within  hw3) ml_X10_126 rfl rfl rfl rfl rfl rfl dX10_seeds_12 ?_
    refine v_if_ne (pc := 15) (tgt := 21) hC dX10_seeds_15 rfl (fun c6 => ?_) (fun c6 => ?_)
    · replace h := (if_neg c6).symm.trans h
      refine v_aload_n (pc := 21) hC dX10_seeds_21 rfl ?_
      refine v_gt (pc := 22) 0 (.ref (gad g 1)) hC s_0 rfl rfl rfl rfl fl_X10_28 dX10_seeds_22 ?_
      refine v_gtN (pc := 25) 8 (.ref (gad g 8)) hC s_1 rfl rfl rfl rfl fl_X10_161 dX10_seeds_25 ?_
      refine v_iload_n (pc := 28) hC dX10_seeds_28 rfl ?_
      obtain ⟨v4, hv4, h⟩ := obd_s h
      refine v_aI (pc := 29) hC s_8 hv4 dX10_seeds_29 ?_
      refine v_istore_n (pc := 30) (lv' := [some (.ref (gad g 0)), some (.int x0_), some (.int x1_), some (.int v4)]) hC dX10_seeds_30 rfl rfl rfl rfl ?_
      refine v_aload_n (pc := 31) hC dX10_seeds_31 rfl ?_
      refine v_gt (pc := 32) 0 (.ref (gad g 1)) hC s_0 rfl rfl rfl rfl fl_X10_28 dX10_seeds_32 ?_
      refine v_gtN (pc := 35) 8 (.ref (gad g 8)) hC s_1 rfl rfl rfl rfl fl_X10_161 dX10_seeds_35 ?_
      refine v_iload_n (pc := 38) hC dX10_seeds_38 rfl ?_
      refine v_iload_n (pc := 39) hC dX10_seeds_39 rfl ?_
      obtain ⟨s5, hs5, h⟩ := obd_s h
      refine v_wI (pc := 40) hC s_8 hs5 dX10_seeds_40 ?_
      refine v_iload_n (pc := 41) hC dX10_seeds_41 rfl ?_
      obtain rfl := Option.some.inj h
      exact v_iret (pc := 42) hC rfl dX10_seeds_42 hP
    · replace h := (if_pos c6).symm.trans h
      refine v_bipush (pc := 18) (-2 : Int32) rfl hC dX10_seeds_18 ?_
      obtain rfl := Option.some.inj h
      exact v_iret (pc := 20) hC rfl dX10_seeds_20 hP
theorem dX10_about_0 : decode cX10_about 0 = .ok (.aload_n 0, 1) := by decide +kernel
theorem dX10_about_1 : decode cX10_about 1 = .ok (.getfield 28, 3) := by decide +kernel
theorem dX10_about_4 : decode cX10_about 4 = .ok (.iload_n 1, 1) := by decide +kernel
theorem dX10_about_5 : decode cX10_about 5 = .ok (.invokevirtual 119, 3) := by decide +kernel
theorem dX10_about_8 : decode cX10_about 8 = .ok (.ifCond .ne 6, 3) := by decide +kernel
theorem dX10_about_11 : decode cX10_about 11 = .ok (.bipush (-2), 2) := by decide +kernel
theorem dX10_about_13 : decode cX10_about 13 = .ok (.ireturn, 1) := by decide +kernel
theorem dX10_about_14 : decode cX10_about 14 = .ok (.aload_n 0, 1) := by decide +kernel
theorem dX10_about_15 : decode cX10_about 15 = .ok (.getfield 28, 3) := by decide +kernel
theorem dX10_about_18 : decode cX10_about 18 = .ok (.getfield 164, 3) := by decide +kernel
theorem dX10_about_21 : decode cX10_about 21 = .ok (.iload_n 1, 1) := by decide +kernel
theorem dX10_about_22 : decode cX10_about 22 = .ok (.iaload, 1) := by decide +kernel
theorem dX10_about_23 : decode cX10_about 23 = .ok (.istore_n 3, 1) := by decide +kernel
theorem dX10_about_24 : decode cX10_about 24 = .ok (.iload_n 2, 1) := by decide +kernel
theorem dX10_about_25 : decode cX10_about 25 = .ok (.tableswitch 125 0 6 #[43, 45, 55, 65, 75, 84, 93], 43) := by decide +kernel
theorem dX10_about_68 : decode cX10_about 68 = .ok (.iload_n 3, 1) := by decide +kernel
theorem dX10_about_69 : decode cX10_about 69 = .ok (.ireturn, 1) := by decide +kernel
theorem dX10_about_70 : decode cX10_about 70 = .ok (.aload_n 0, 1) := by decide +kernel
theorem dX10_about_71 : decode cX10_about 71 = .ok (.getfield 28, 3) := by decide +kernel
theorem dX10_about_74 : decode cX10_about 74 = .ok (.getfield 167, 3) := by decide +kernel
theorem dX10_about_77 : decode cX10_about 77 = .ok (.iload_n 1, 1) := by decide +kernel
theorem dX10_about_78 : decode cX10_about 78 = .ok (.iaload, 1) := by decide +kernel
theorem dX10_about_79 : decode cX10_about 79 = .ok (.ireturn, 1) := by decide +kernel
theorem dX10_about_80 : decode cX10_about 80 = .ok (.aload_n 0, 1) := by decide +kernel
theorem dX10_about_81 : decode cX10_about 81 = .ok (.getfield 28, 3) := by decide +kernel
theorem dX10_about_84 : decode cX10_about 84 = .ok (.getfield 170, 3) := by decide +kernel
theorem dX10_about_87 : decode cX10_about 87 = .ok (.iload_n 1, 1) := by decide +kernel
theorem dX10_about_88 : decode cX10_about 88 = .ok (.iaload, 1) := by decide +kernel
theorem dX10_about_89 : decode cX10_about 89 = .ok (.ireturn, 1) := by decide +kernel
theorem dX10_about_90 : decode cX10_about 90 = .ok (.aload_n 0, 1) := by decide +kernel
theorem dX10_about_91 : decode cX10_about 91 = .ok (.getfield 28, 3) := by decide +kernel
theorem dX10_about_94 : decode cX10_about 94 = .ok (.getfield 173, 3) := by decide +kernel
theorem dX10_about_97 : decode cX10_about 97 = .ok (.iload_n 3, 1) := by decide +kernel
theorem dX10_about_98 : decode cX10_about 98 = .ok (.iaload, 1) := by decide +kernel
theorem dX10_about_99 : decode cX10_about 99 = .ok (.ireturn, 1) := by decide +kernel
theorem dX10_about_100 : decode cX10_about 100 = .ok (.aload_n 0, 1) := by decide +kernel
theorem dX10_about_101 : decode cX10_about 101 = .ok (.getfield 28, 3) := by decide +kernel
theorem dX10_about_104 : decode cX10_about 104 = .ok (.iload_n 1, 1) := by decide +kernel
theorem dX10_about_105 : decode cX10_about 105 = .ok (.invokevirtual 122, 3) := by decide +kernel
theorem dX10_about_108 : decode cX10_about 108 = .ok (.ireturn, 1) := by decide +kernel
theorem dX10_about_109 : decode cX10_about 109 = .ok (.aload_n 0, 1) := by decide +kernel
theorem dX10_about_110 : decode cX10_about 110 = .ok (.getfield 28, 3) := by decide +kernel
theorem dX10_about_113 : decode cX10_about 113 = .ok (.iload_n 1, 1) := by decide +kernel
theorem dX10_about_114 : decode cX10_about 114 = .ok (.invokevirtual 176, 3) := by decide +kernel
theorem dX10_about_117 : decode cX10_about 117 = .ok (.ireturn, 1) := by decide +kernel
theorem dX10_about_118 : decode cX10_about 118 = .ok (.aload_n 0, 1) := by decide +kernel
theorem dX10_about_119 : decode cX10_about 119 = .ok (.getfield 28, 3) := by decide +kernel
theorem dX10_about_122 : decode cX10_about 122 = .ok (.iload_n 1, 1) := by decide +kernel
theorem dX10_about_123 : decode cX10_about 123 = .ok (.invokevirtual 176, 3) := by decide +kernel
theorem dX10_about_126 : decode cX10_about 126 = .ok (.aload_n 0, 1) := by decide +kernel
theorem dX10_about_127 : decode cX10_about 127 = .ok (.getfield 28, 3) := by decide +kernel
theorem dX10_about_130 : decode cX10_about 130 = .ok (.iload_n 1, 1) := by decide +kernel
theorem dX10_about_131 : decode cX10_about 131 = .ok (.invokevirtual 122, 3) := by decide +kernel
theorem dX10_about_134 : decode cX10_about 134 = .ok (.if_icmp .ne 14, 3) := by decide +kernel
theorem dX10_about_137 : decode cX10_about 137 = .ok (.aload_n 0, 1) := by decide +kernel
theorem dX10_about_138 : decode cX10_about 138 = .ok (.getfield 28, 3) := by decide +kernel
theorem dX10_about_141 : decode cX10_about 141 = .ok (.iload_n 1, 1) := by decide +kernel
theorem dX10_about_142 : decode cX10_about 142 = .ok (.invokevirtual 179, 3) := by decide +kernel
theorem dX10_about_145 : decode cX10_about 145 = .ok (.goto 4, 3) := by decide +kernel
theorem dX10_about_148 : decode cX10_about 148 = .ok (.iconst (-1), 1) := by decide +kernel
theorem dX10_about_149 : decode cX10_about 149 = .ok (.ireturn, 1) := by decide +kernel
theorem dX10_about_150 : decode cX10_about 150 = .ok (.bipush (-2), 2) := by decide +kernel
theorem dX10_about_152 : decode cX10_about 152 = .ok (.ireturn, 1) := by decide +kernel
def fX10_about (x0_ : Int32) (x1_ : Int32) (s : Sg) : Option (Int32 × Sg) :=
  (fX3_hasSwim x0_ s).bind fun w1 =>
  if w1.1 = 0 then
  some ((-2 : Int32), w1.2)
  else
  (aI w1.2 4 64 x0_).bind fun v2 =>
  if x1_ = (0 : Int32) then (some (v2, w1.2)) else if x1_ = (1 : Int32) then ((aI w1.2 5 64 x0_).bind fun v5 =>
  some (v5, w1.2)) else if x1_ = (2 : Int32) then ((aI w1.2 6 64 x0_).bind fun v7 =>
  some (v7, w1.2)) else if x1_ = (3 : Int32) then ((aI w1.2 3 16 v2).bind fun v9 =>
  some (v9, w1.2)) else if x1_ = (4 : Int32) then ((fX3_lengthsOf x0_ w1.2).bind fun w11 =>
  some (w11.1, w11.2)) else if x1_ = (5 : Int32) then ((fX3_feltIn x0_ w1.2).bind fun w13 =>
  some (w13.1, w13.2)) else if x1_ = (6 : Int32) then ((fX3_feltIn x0_ w1.2).bind fun w15 =>
  (fX3_lengthsOf x0_ w15.2).bind fun w16 =>
  if w15.1 = w16.1 then
  (fX3_togetherIn x0_ w16.2).bind fun w18 =>
  some (w18.1, w18.2)
  else
  some ((-1 : Int32), w16.2)) else (some ((-2 : Int32), w1.2))
theorem ct_X10_about {g : Gl} {x0_ : Int32} {x1_ : Int32} {s : Sg} {w : Int32 × Sg}  (h : fX10_about x0_ x1_ s = some w) : Ct SS g iX10_about 2 45 [.ref (gad g 0), .int x0_, .int x1_] s (Dt (some (.int w.1)) w.2) := by
  refine Ct.ofV (by decide +kernel) 1 (lv0 := [some (.ref (gad g 0)), some (.int x0_), some (.int x1_), none]) rfl rfl (fun M hC => ?_)
  have hP : (Dt (some (.int w.1)) w.2) (some (.int w.1)) w.2 := ⟨rfl, rfl⟩
  generalize Dt (some (.int w.1)) w.2 = P at hP ⊢
  unfold fX10_about at h
  refine v_aload_n (pc := 0) hC dX10_about_0 rfl ?_
  refine v_gt (pc := 1) 0 (.ref (gad g 1)) hC s_0 rfl rfl rfl rfl fl_X10_28 dX10_about_1 ?_
  refine v_iload_n (pc := 4) hC dX10_about_4 rfl ?_
  obtain ⟨w1, hw1, h⟩ := obd_s h
  refine v_cV (pc := 5) [] [.int w1.1] gm_X3_hasSwim hC s_1 rfl rfl (ct_X3_hasSwim  hw1) ml_X10_119 rfl rfl rfl rfl rfl rfl dX10_about_5 ?_
  refine v_if_ne (pc := 8) (tgt := 14) hC dX10_about_8 rfl (fun c19 => ?_) (fun c19 => ?_)
  · replace h := (if_neg c19).symm.trans h
    refine v_aload_n (pc := 14) hC dX10_about_14 rfl ?_
    refine v_gt (pc := 15) 0 (.ref (gad g 1)) hC s_0 rfl rfl rfl rfl fl_X10_28 dX10_about_15 ?_
    refine v_gtN (pc := 18) 4 (.ref (gad g 4)) hC s_1 rfl rfl rfl rfl fl_X10_164 dX10_about_18 ?_
    refine v_iload_n (pc := 21) hC dX10_about_21 rfl ?_
    obtain ⟨v2, hv2, h⟩ := obd_s h
    refine v_aI (pc := 22) hC s_4 hv2 dX10_about_22 ?_
    refine v_istore_n (pc := 23) (lv' := [some (.ref (gad g 0)), some (.int x0_), some (.int x1_), some (.int v2)]) hC dX10_about_23 rfl rfl rfl rfl ?_
    refine v_iload_n (pc := 24) hC dX10_about_24 rfl ?_
    by_cases c3 : x1_ = (0 : Int32)
    · replace h := (if_pos c3).symm.trans h
      refine v_tsIn (pc := 25) (tgt := 68) hC dX10_about_25 (by rw [c3]; decide) (by rw [c3]; decide) (by rw [c3]; rfl) rfl ?_
      refine v_iload_n (pc := 68) hC dX10_about_68 rfl ?_
      obtain rfl := Option.some.inj h
      exact v_iret (pc := 69) hC rfl dX10_about_69 hP
    replace h := (if_neg c3).symm.trans h
    by_cases c4 : x1_ = (1 : Int32)
    · replace h := (if_pos c4).symm.trans h
      refine v_tsIn (pc := 25) (tgt := 70) hC dX10_about_25 (by rw [c4]; decide) (by rw [c4]; decide) (by rw [c4]; rfl) rfl ?_
      refine v_aload_n (pc := 70) hC dX10_about_70 rfl ?_
      refine v_gt (pc := 71) 0 (.ref (gad g 1)) hC s_0 rfl rfl rfl rfl fl_X10_28 dX10_about_71 ?_
      refine v_gtN (pc := 74) 5 (.ref (gad g 5)) hC s_1 rfl rfl rfl rfl fl_X10_167 dX10_about_74 ?_
      refine v_iload_n (pc := 77) hC dX10_about_77 rfl ?_
      obtain ⟨v5, hv5, h⟩ := obd_s h
      refine v_aI (pc := 78) hC s_5 hv5 dX10_about_78 ?_
      obtain rfl := Option.some.inj h
      exact v_iret (pc := 79) hC rfl dX10_about_79 hP
    replace h := (if_neg c4).symm.trans h
    by_cases c6 : x1_ = (2 : Int32)
    · replace h := (if_pos c6).symm.trans h
      refine v_tsIn (pc := 25) (tgt := 80) hC dX10_about_25 (by rw [c6]; decide) (by rw [c6]; decide) (by rw [c6]; rfl) rfl ?_
      refine v_aload_n (pc := 80) hC dX10_about_80 rfl ?_
      refine v_gt (pc := 81) 0 (.ref (gad g 1)) hC s_0 rfl rfl rfl rfl fl_X10_28 dX10_about_81 ?_
      refine v_gtN (pc := 84) 6 (.ref (gad g 6)) hC s_1 rfl rfl rfl rfl fl_X10_170 dX10_about_84 ?_
      refine v_iload_n (pc := 87) hC dX10_about_87 rfl ?_
      obtain ⟨v7, hv7, h⟩ := obd_s h
      refine v_aI (pc := 88) hC s_6 hv7 dX10_about_88 ?_
      obtain rfl := Option.some.inj h
      exact v_iret (pc := 89) hC rfl dX10_about_89 hP
    replace h := (if_neg c6).symm.trans h
    by_cases c8 : x1_ = (3 : Int32)
    · replace h := (if_pos c8).symm.trans h
      refine v_tsIn (pc := 25) (tgt := 90) hC dX10_about_25 (by rw [c8]; decide) (by rw [c8]; decide) (by rw [c8]; rfl) rfl ?_
      refine v_aload_n (pc := 90) hC dX10_about_90 rfl ?_
      refine v_gt (pc := 91) 0 (.ref (gad g 1)) hC s_0 rfl rfl rfl rfl fl_X10_28 dX10_about_91 ?_
      refine v_gtN (pc := 94) 3 (.ref (gad g 3)) hC s_1 rfl rfl rfl rfl fl_X10_173 dX10_about_94 ?_
      refine v_iload_n (pc := 97) hC dX10_about_97 rfl ?_
      obtain ⟨v9, hv9, h⟩ := obd_s h
      refine v_aI (pc := 98) hC s_3 hv9 dX10_about_98 ?_
      obtain rfl := Option.some.inj h
      exact v_iret (pc := 99) hC rfl dX10_about_99 hP
    replace h := (if_neg c8).symm.trans h
    by_cases c10 : x1_ = (4 : Int32)
    · replace h := (if_pos c10).symm.trans h
      refine v_tsIn (pc := 25) (tgt := 100) hC dX10_about_25 (by rw [c10]; decide) (by rw [c10]; decide) (by rw [c10]; rfl) rfl ?_
      refine v_aload_n (pc := 100) hC dX10_about_100 rfl ?_
      refine v_gt (pc := 101) 0 (.ref (gad g 1)) hC s_0 rfl rfl rfl rfl fl_X10_28 dX10_about_101 ?_
      refine v_iload_n (pc := 104) hC dX10_about_104 rfl ?_
      obtain ⟨w11, hw11, h⟩ := obd_s h
      refine v_cV (pc := 105) [] [.int w11.1] gm_X3_lengthsOf hC s_1 rfl rfl (ct_X3_lengthsOf  hw11) ml_X10_122 rfl rfl rfl rfl rfl rfl dX10_about_105 ?_
      obtain rfl := Option.some.inj h
      exact v_iret (pc := 108) hC rfl dX10_about_108 hP
    replace h := (if_neg c10).symm.trans h
    by_cases c12 : x1_ = (5 : Int32)
    · replace h := (if_pos c12).symm.trans h
      refine v_tsIn (pc := 25) (tgt := 109) hC dX10_about_25 (by rw [c12]; decide) (by rw [c12]; decide) (by rw [c12]; rfl) rfl ?_
      refine v_aload_n (pc := 109) hC dX10_about_109 rfl ?_
      refine v_gt (pc := 110) 0 (.ref (gad g 1)) hC s_0 rfl rfl rfl rfl fl_X10_28 dX10_about_110 ?_
      refine v_iload_n (pc := 113) hC dX10_about_113 rfl ?_
      obtain ⟨w13, hw13, h⟩ := obd_s h
      refine v_cV (pc := 114) [] [.int w13.1] gm_X3_feltIn hC s_1 rfl rfl (ct_X3_feltIn  hw13) ml_X10_176 rfl rfl rfl rfl rfl rfl dX10_about_114 ?_
      obtain rfl := Option.some.inj h
      exact v_iret (pc := 117) hC rfl dX10_about_117 hP
    replace h := (if_neg c12).symm.trans h
    by_cases c14 : x1_ = (6 : Int32)
    · replace h := (if_pos c14).symm.trans h
      refine v_tsIn (pc := 25) (tgt := 118) hC dX10_about_25 (by rw [c14]; decide) (by rw [c14]; decide) (by rw [c14]; rfl) rfl ?_
      refine v_aload_n (pc := 118) hC dX10_about_118 rfl ?_
      refine v_gt (pc := 119) 0 (.ref (gad g 1)) hC s_0 rfl rfl rfl rfl fl_X10_28 dX10_about_119 ?_
      refine v_iload_n (pc := 122) hC dX10_about_122 rfl ?_
      obtain ⟨w15, hw15, h⟩ := obd_s h
      refine v_cV (pc := 123) [] [.int w15.1] gm_X3_feltIn hC s_1 rfl rfl (ct_X3_feltIn  hw15) ml_X10_176 rfl rfl rfl rfl rfl rfl dX10_about_123 ?_
      refine v_aload_n (pc := 126) hC dX10_about_126 rfl ?_
      refine v_gt (pc := 127) 0 (.ref (gad g 1)) hC s_0 rfl rfl rfl rfl fl_X10_28 dX10_about_127 ?_
      refine v_iload_n (pc := 130) hC dX10_about_130 rfl ?_
      obtain ⟨w16, hw16, h⟩ := obd_s h
      refine v_cV (pc := 131) [.int w15.1] [.int w16.1, .int w15.1] gm_X3_lengthsOf hC s_1 rfl rfl (ct_X3_lengthsOf  hw16) ml_X10_122 rfl rfl rfl rfl rfl rfl dX10_about_131 ?_
      refine v_ic_ne (pc := 134) (tgt := 148) hC dX10_about_134 rfl (fun c17 => ?_) (fun c17 => ?_)
      · replace h := (if_neg c17).symm.trans h
        refine v_iconst (pc := 148) (-1 : Int32) rfl hC dX10_about_148 ?_
        obtain rfl := Option.some.inj h
        exact v_iret (pc := 149) hC rfl dX10_about_149 hP
      · replace h := (if_pos c17).symm.trans h
        refine v_aload_n (pc := 137) hC dX10_about_137 rfl ?_
        refine v_gt (pc := 138) 0 (.ref (gad g 1)) hC s_0 rfl rfl rfl rfl fl_X10_28 dX10_about_138 ?_
        refine v_iload_n (pc := 141) hC dX10_about_141 rfl ?_
        obtain ⟨w18, hw18, h⟩ := obd_s h
        refine v_cV (pc := 142) [] [.int w18.1] gm_X3_togetherIn hC s_1 rfl rfl (ct_X3_togetherIn  hw18) ml_X10_179 rfl rfl rfl rfl rfl rfl dX10_about_142 ?_
        refine v_goto (pc := 145) (tgt := 149) hC dX10_about_145 rfl ?_
        obtain rfl := Option.some.inj h
        exact v_iret (pc := 149) hC rfl dX10_about_149 hP
    replace h := (if_neg c14).symm.trans h
    have ec3 : (x1_).toInt ≠ 0 := ne_toInt c3
    have ec4 : (x1_).toInt ≠ 1 := ne_toInt c4
    have ec6 : (x1_).toInt ≠ 2 := ne_toInt c6
    have ec8 : (x1_).toInt ≠ 3 := ne_toInt c8
    have ec10 : (x1_).toInt ≠ 4 := ne_toInt c10
    have ec12 : (x1_).toInt ≠ 5 := ne_toInt c12
    have ec14 : (x1_).toInt ≠ 6 := ne_toInt c14
    refine v_tsOut (pc := 25) (tgt := 150) hC dX10_about_25 (by omega) rfl ?_
    refine v_bipush (pc := 150) (-2 : Int32) rfl hC dX10_about_150 ?_
    obtain rfl := Option.some.inj h
    exact v_iret (pc := 152) hC rfl dX10_about_152 hP
  · replace h := (if_pos c19).symm.trans h
    refine v_bipush (pc := 11) (-2 : Int32) rfl hC dX10_about_11 ?_
    obtain rfl := Option.some.inj h
    exact v_iret (pc := 13) hC rfl dX10_about_13 hP
theorem dX10_isPart_0 : decode cX10_isPart 0 = .ok (.iload_n 0, 1) := by decide +kernel
theorem dX10_isPart_1 : decode cX10_isPart 1 = .ok (.iconst 0, 1) := by decide +kernel
theorem dX10_isPart_2 : decode cX10_isPart 2 = .ok (.iconst 1, 1) := by decide +kernel
theorem dX10_isPart_3 : decode cX10_isPart 3 = .ok (.invokestatic 126, 3) := by decide +kernel
theorem dX10_isPart_6 : decode cX10_isPart 6 = .ok (.ireturn, 1) := by decide +kernel
def fX10_isPart (x0_ : Int32) (s : Sg) : Option (Int32 × Sg) :=
  (fX10_within x0_ (0 : Int32) (1 : Int32) s).bind fun w1 =>
  (zr w1.1).bind fun z2 =>
  some (z2, w1.2)
theorem ct_X10_isPart {g : Gl} {x0_ : Int32} {s : Sg} {w : Int32 × Sg}  (h : fX10_isPart x0_ s = some w) : Ct SS g iX10_isPart 1 22 [.int x0_] s (Dt (some (.int w.1)) w.2) := by
  refine Ct.ofV (by decide +kernel) 0 (lv0 := [some (.int x0_)]) rfl rfl (fun M hC => ?_)
  have hP : (Dt (some (.int w.1)) w.2) (some (.int w.1)) w.2 := ⟨rfl, rfl⟩
  generalize Dt (some (.int w.1)) w.2 = P at hP ⊢
  unfold fX10_isPart at h
  refine v_iload_n (pc := 0) hC dX10_isPart_0 rfl ?_
  refine v_iconst (pc := 1) (0 : Int32) rfl hC dX10_isPart_1 ?_
  refine v_iconst (pc := 2) (1 : Int32) rfl hC dX10_isPart_2 ?_
  obtain ⟨w1, hw1, h⟩ := obd_s h
  refine v_cS (pc := 3) [] [.int w1.1] gm_X10_within hC (ct_X10_within  hw1) ml_X10_126 rfl rfl rfl rfl rfl rfl dX10_isPart_3 ?_
  obtain ⟨z2, hz2, h⟩ := obd_s h
  obtain rfl := Option.some.inj h
  exact v_zr (pc := 6) hC rfl hz2 dX10_isPart_6 hP
theorem dX10_refusal_0 : decode cX10_refusal 0 = .ok (.ldc2_w 408, 3) := by decide +kernel
theorem dX10_refusal_3 : decode cX10_refusal 3 = .ok (.iload_n 0, 1) := by decide +kernel
theorem dX10_refusal_4 : decode cX10_refusal 4 = .ok (.i2l, 1) := by decide +kernel
theorem dX10_refusal_5 : decode cX10_refusal 5 = .ok (.lsub, 1) := by decide +kernel
theorem dX10_refusal_6 : decode cX10_refusal 6 = .ok (.lreturn, 1) := by decide +kernel
def fX10_refusal (x0_ : Int32) (s : Sg) : Option (Int64 × Sg) :=
  some (((-9223372036854775808 : Int64) - ((x0_).toInt64)), s)
theorem ct_X10_refusal {g : Gl} {x0_ : Int32} {s : Sg} {w : Int64 × Sg}  (h : fX10_refusal x0_ s = some w) : Ct SS g iX10_refusal 0 0 [.int x0_] s (Dt (some (.long w.1)) w.2) := by
  refine Ct.ofV (by decide +kernel) 0 (lv0 := [some (.int x0_)]) rfl rfl (fun M hC => ?_)
  have hP : (Dt (some (.long w.1)) w.2) (some (.long w.1)) w.2 := ⟨rfl, rfl⟩
  generalize Dt (some (.long w.1)) w.2 = P at hP ⊢
  unfold fX10_refusal at h
  refine v_ldc2 (pc := 0) (-9223372036854775808 : Int64) kc_X10_408 hC dX10_refusal_0 ?_
  refine v_iload_n (pc := 3) hC dX10_refusal_3 rfl ?_
  refine v_i2l (pc := 4) hC dX10_refusal_4 ?_
  refine v_lsub (pc := 5) hC dX10_refusal_5 ?_
  obtain rfl := Option.some.inj h
  exact v_lret (pc := 6) hC rfl dX10_refusal_6 hP
theorem dX10_diff_0 : decode cX10_diff 0 = .ok (.aload_n 0, 1) := by decide +kernel
theorem dX10_diff_1 : decode cX10_diff 1 = .ok (.getfield 28, 3) := by decide +kernel
theorem dX10_diff_4 : decode cX10_diff 4 = .ok (.iload_n 1, 1) := by decide +kernel
theorem dX10_diff_5 : decode cX10_diff 5 = .ok (.invokevirtual 119, 3) := by decide +kernel
theorem dX10_diff_8 : decode cX10_diff 8 = .ok (.ifCond .eq 10, 3) := by decide +kernel
theorem dX10_diff_11 : decode cX10_diff 11 = .ok (.iload_n 2, 1) := by decide +kernel
theorem dX10_diff_12 : decode cX10_diff 12 = .ok (.invokestatic 182, 3) := by decide +kernel
theorem dX10_diff_15 : decode cX10_diff 15 = .ok (.ifCond .ne 9, 3) := by decide +kernel
theorem dX10_diff_18 : decode cX10_diff 18 = .ok (.bipush (-2), 2) := by decide +kernel
theorem dX10_diff_20 : decode cX10_diff 20 = .ok (.invokestatic 185, 3) := by decide +kernel
theorem dX10_diff_23 : decode cX10_diff 23 = .ok (.lreturn, 1) := by decide +kernel
theorem dX10_diff_24 : decode cX10_diff 24 = .ok (.aload_n 0, 1) := by decide +kernel
theorem dX10_diff_25 : decode cX10_diff 25 = .ok (.getfield 28, 3) := by decide +kernel
theorem dX10_diff_28 : decode cX10_diff 28 = .ok (.iload_n 1, 1) := by decide +kernel
theorem dX10_diff_29 : decode cX10_diff 29 = .ok (.invokevirtual 189, 3) := by decide +kernel
theorem dX10_diff_32 : decode cX10_diff 32 = .ok (.ifCond .ne 9, 3) := by decide +kernel
theorem dX10_diff_35 : decode cX10_diff 35 = .ok (.bipush (-3), 2) := by decide +kernel
theorem dX10_diff_37 : decode cX10_diff 37 = .ok (.invokestatic 185, 3) := by decide +kernel
theorem dX10_diff_40 : decode cX10_diff 40 = .ok (.lreturn, 1) := by decide +kernel
theorem dX10_diff_41 : decode cX10_diff 41 = .ok (.aload_n 0, 1) := by decide +kernel
theorem dX10_diff_42 : decode cX10_diff 42 = .ok (.getfield 79, 3) := by decide +kernel
theorem dX10_diff_45 : decode cX10_diff 45 = .ok (.aload_n 0, 1) := by decide +kernel
theorem dX10_diff_46 : decode cX10_diff 46 = .ok (.getfield 28, 3) := by decide +kernel
theorem dX10_diff_49 : decode cX10_diff 49 = .ok (.iload_n 1, 1) := by decide +kernel
theorem dX10_diff_50 : decode cX10_diff 50 = .ok (.invokevirtual 192, 3) := by decide +kernel
theorem dX10_diff_53 : decode cX10_diff 53 = .ok (.i2l, 1) := by decide +kernel
theorem dX10_diff_54 : decode cX10_diff 54 = .ok (.ldc2_w 195, 3) := by decide +kernel
theorem dX10_diff_57 : decode cX10_diff 57 = .ok (.invokevirtual 197, 3) := by decide +kernel
theorem dX10_diff_60 : decode cX10_diff 60 = .ok (.aload_n 0, 1) := by decide +kernel
theorem dX10_diff_61 : decode cX10_diff 61 = .ok (.getfield 79, 3) := by decide +kernel
theorem dX10_diff_64 : decode cX10_diff 64 = .ok (.iload_n 2, 1) := by decide +kernel
theorem dX10_diff_65 : decode cX10_diff 65 = .ok (.invokevirtual 201, 3) := by decide +kernel
theorem dX10_diff_68 : decode cX10_diff 68 = .ok (.lreturn, 1) := by decide +kernel
def fX10_diff (x0_ : Int32) (x1_ : Int32) (s : Sg) : Option (Int64 × Sg) :=
  (fX3_hasSwim x0_ s).bind fun w1 =>
  if w1.1 = 0 then
  (fX10_refusal (-2 : Int32) w1.2).bind fun w2 =>
  some (w2.1, w2.2)
  else
  (fX10_isPart x1_ w1.2).bind fun w4 =>
  if w4.1 = 0 then
  (fX10_refusal (-2 : Int32) w4.2).bind fun w12 =>
  some (w12.1, w12.2)
  else
  (fX3_hasDiff x0_ w4.2).bind fun w5 =>
  if w5.1 = 0 then
  (fX10_refusal (-3 : Int32) w5.2).bind fun w10 =>
  some (w10.1, w10.2)
  else
  (fX3_doubledDiff x0_ w5.2).bind fun w6 =>
  (fX0_set ((w6.1).toInt64) (2 : Int64) w6.2).bind fun w7 =>
  (fX0_part x1_ w7).bind fun w8 =>
  some (w8.1, w8.2)
theorem ct_X10_diff {g : Gl} {x0_ : Int32} {x1_ : Int32} {s : Sg} {w : Int64 × Sg}  (h : fX10_diff x0_ x1_ s = some w) : Ct SS g iX10_diff 3 67 [.ref (gad g 0), .int x0_, .int x1_] s (Dt (some (.long w.1)) w.2) := by
  refine Ct.ofV (by decide +kernel) 0 (lv0 := [some (.ref (gad g 0)), some (.int x0_), some (.int x1_)]) rfl rfl (fun M hC => ?_)
  have hP : (Dt (some (.long w.1)) w.2) (some (.long w.1)) w.2 := ⟨rfl, rfl⟩
  generalize Dt (some (.long w.1)) w.2 = P at hP ⊢
  unfold fX10_diff at h
  refine v_aload_n (pc := 0) hC dX10_diff_0 rfl ?_
  refine v_gt (pc := 1) 0 (.ref (gad g 1)) hC s_0 rfl rfl rfl rfl fl_X10_28 dX10_diff_1 ?_
  refine v_iload_n (pc := 4) hC dX10_diff_4 rfl ?_
  obtain ⟨w1, hw1, h⟩ := obd_s h
  refine v_cV (pc := 5) [] [.int w1.1] gm_X3_hasSwim hC s_1 rfl rfl (ct_X3_hasSwim  hw1) ml_X10_119 rfl rfl rfl rfl rfl rfl dX10_diff_5 ?_
  refine v_if_eq (pc := 8) (tgt := 18) hC dX10_diff_8 rfl (fun c3 => ?_) (fun c3 => ?_)
  · replace h := (if_pos c3).symm.trans h
    refine v_bipush (pc := 18) (-2 : Int32) rfl hC dX10_diff_18 ?_
    obtain ⟨w2, hw2, h⟩ := obd_s h
    refine v_cS (pc := 20) [] [.long w2.1] gm_X10_refusal hC (ct_X10_refusal  hw2) ml_X10_185 rfl rfl rfl rfl rfl rfl dX10_diff_20 ?_
    obtain rfl := Option.some.inj h
    exact v_lret (pc := 23) hC rfl dX10_diff_23 hP
  · replace h := (if_neg c3).symm.trans h
    refine v_iload_n (pc := 11) hC dX10_diff_11 rfl ?_
    obtain ⟨w4, hw4, h⟩ := obd_s h
    refine v_cS (pc := 12) [] [.int w4.1] gm_X10_isPart hC (ct_X10_isPart  hw4) ml_X10_182 rfl rfl rfl rfl rfl rfl dX10_diff_12 ?_
    refine v_if_ne (pc := 15) (tgt := 24) hC dX10_diff_15 rfl (fun c11 => ?_) (fun c11 => ?_)
    · replace h := (if_neg c11).symm.trans h
      refine v_aload_n (pc := 24) hC dX10_diff_24 rfl ?_
      refine v_gt (pc := 25) 0 (.ref (gad g 1)) hC s_0 rfl rfl rfl rfl fl_X10_28 dX10_diff_25 ?_
      refine v_iload_n (pc := 28) hC dX10_diff_28 rfl ?_
      obtain ⟨w5, hw5, h⟩ := obd_s h
      refine v_cV (pc := 29) [] [.int w5.1] gm_X3_hasDiff hC s_1 rfl rfl (ct_X3_hasDiff  hw5) ml_X10_189 rfl rfl rfl rfl rfl rfl dX10_diff_29 ?_
      refine v_if_ne (pc := 32) (tgt := 41) hC dX10_diff_32 rfl (fun c9 => ?_) (fun c9 => ?_)
      · replace h := (if_neg c9).symm.trans h
        refine v_aload_n (pc := 41) hC dX10_diff_41 rfl ?_
        refine v_gt (pc := 42) 8 (.ref (gad g 48)) hC s_0 rfl rfl rfl rfl fl_X10_79 dX10_diff_42 ?_
        refine v_aload_n (pc := 45) hC dX10_diff_45 rfl ?_
        refine v_gt (pc := 46) 0 (.ref (gad g 1)) hC s_0 rfl rfl rfl rfl fl_X10_28 dX10_diff_46 ?_
        refine v_iload_n (pc := 49) hC dX10_diff_49 rfl ?_
        obtain ⟨w6, hw6, h⟩ := obd_s h
        refine v_cV (pc := 50) [.ref (gad g 48)] [.int w6.1, .ref (gad g 48)] gm_X3_doubledDiff hC s_1 rfl rfl (ct_X3_doubledDiff  hw6) ml_X10_192 rfl rfl rfl rfl rfl rfl dX10_diff_50 ?_
        refine v_i2l (pc := 53) hC dX10_diff_53 ?_
        refine v_ldc2 (pc := 54) (2 : Int64) kc_X10_195 hC dX10_diff_54 ?_
        obtain ⟨w7, hw7, h⟩ := obd_s h
        refine v_cV (pc := 57) [] [] gm_X0_set hC s_48 rfl rfl (ct_X0_set  hw7) ml_X10_197 rfl rfl rfl rfl rfl rfl dX10_diff_57 ?_
        refine v_aload_n (pc := 60) hC dX10_diff_60 rfl ?_
        refine v_gt (pc := 61) 8 (.ref (gad g 48)) hC s_0 rfl rfl rfl rfl fl_X10_79 dX10_diff_61 ?_
        refine v_iload_n (pc := 64) hC dX10_diff_64 rfl ?_
        obtain ⟨w8, hw8, h⟩ := obd_s h
        refine v_cV (pc := 65) [] [.long w8.1] gm_X0_part hC s_48 rfl rfl (ct_X0_part  hw8) ml_X10_201 rfl rfl rfl rfl rfl rfl dX10_diff_65 ?_
        obtain rfl := Option.some.inj h
        exact v_lret (pc := 68) hC rfl dX10_diff_68 hP
      · replace h := (if_pos c9).symm.trans h
        refine v_bipush (pc := 35) (-3 : Int32) rfl hC dX10_diff_35 ?_
        obtain ⟨w10, hw10, h⟩ := obd_s h
        refine v_cS (pc := 37) [] [.long w10.1] gm_X10_refusal hC (ct_X10_refusal  hw10) ml_X10_185 rfl rfl rfl rfl rfl rfl dX10_diff_37 ?_
        obtain rfl := Option.some.inj h
        exact v_lret (pc := 40) hC rfl dX10_diff_40 hP
    · replace h := (if_pos c11).symm.trans h
      refine v_bipush (pc := 18) (-2 : Int32) rfl hC dX10_diff_18 ?_
      obtain ⟨w12, hw12, h⟩ := obd_s h
      refine v_cS (pc := 20) [] [.long w12.1] gm_X10_refusal hC (ct_X10_refusal  hw12) ml_X10_185 rfl rfl rfl rfl rfl rfl dX10_diff_20 ?_
      obtain rfl := Option.some.inj h
      exact v_lret (pc := 23) hC rfl dX10_diff_23 hP
theorem dX10_ofLane_0 : decode cX10_ofLane 0 = .ok (.aload_n 0, 1) := by decide +kernel
theorem dX10_ofLane_1 : decode cX10_ofLane 1 = .ok (.getfield 37, 3) := by decide +kernel
theorem dX10_ofLane_4 : decode cX10_ofLane 4 = .ok (.getfield 211, 3) := by decide +kernel
theorem dX10_ofLane_7 : decode cX10_ofLane 7 = .ok (.getfield 215, 3) := by decide +kernel
theorem dX10_ofLane_10 : decode cX10_ofLane 10 = .ok (.iload_n 1, 1) := by decide +kernel
theorem dX10_ofLane_11 : decode cX10_ofLane 11 = .ok (.iaload, 1) := by decide +kernel
theorem dX10_ofLane_12 : decode cX10_ofLane 12 = .ok (.ifCond .ne 9, 3) := by decide +kernel
theorem dX10_ofLane_15 : decode cX10_ofLane 15 = .ok (.bipush (-3), 2) := by decide +kernel
theorem dX10_ofLane_17 : decode cX10_ofLane 17 = .ok (.invokestatic 185, 3) := by decide +kernel
theorem dX10_ofLane_20 : decode cX10_ofLane 20 = .ok (.lreturn, 1) := by decide +kernel
theorem dX10_ofLane_21 : decode cX10_ofLane 21 = .ok (.iload_n 2, 1) := by decide +kernel
theorem dX10_ofLane_22 : decode cX10_ofLane 22 = .ok (.iconst 2, 1) := by decide +kernel
theorem dX10_ofLane_23 : decode cX10_ofLane 23 = .ok (.if_icmp .ne 13, 3) := by decide +kernel
theorem dX10_ofLane_26 : decode cX10_ofLane 26 = .ok (.aload_n 0, 1) := by decide +kernel
theorem dX10_ofLane_27 : decode cX10_ofLane 27 = .ok (.getfield 37, 3) := by decide +kernel
theorem dX10_ofLane_30 : decode cX10_ofLane 30 = .ok (.getfield 381, 3) := by decide +kernel
theorem dX10_ofLane_33 : decode cX10_ofLane 33 = .ok (.goto 10, 3) := by decide +kernel
theorem dX10_ofLane_36 : decode cX10_ofLane 36 = .ok (.aload_n 0, 1) := by decide +kernel
theorem dX10_ofLane_37 : decode cX10_ofLane 37 = .ok (.getfield 37, 3) := by decide +kernel
theorem dX10_ofLane_40 : decode cX10_ofLane 40 = .ok (.getfield 211, 3) := by decide +kernel
theorem dX10_ofLane_43 : decode cX10_ofLane 43 = .ok (.astore 4, 2) := by decide +kernel
theorem dX10_ofLane_45 : decode cX10_ofLane 45 = .ok (.iload_n 2, 1) := by decide +kernel
theorem dX10_ofLane_46 : decode cX10_ofLane 46 = .ok (.iconst 1, 1) := by decide +kernel
theorem dX10_ofLane_47 : decode cX10_ofLane 47 = .ok (.if_icmp .ne 35, 3) := by decide +kernel
theorem dX10_ofLane_50 : decode cX10_ofLane 50 = .ok (.aload_n 0, 1) := by decide +kernel
theorem dX10_ofLane_51 : decode cX10_ofLane 51 = .ok (.getfield 79, 3) := by decide +kernel
theorem dX10_ofLane_54 : decode cX10_ofLane 54 = .ok (.aload 4, 2) := by decide +kernel
theorem dX10_ofLane_56 : decode cX10_ofLane 56 = .ok (.iload_n 1, 1) := by decide +kernel
theorem dX10_ofLane_57 : decode cX10_ofLane 57 = .ok (.invokevirtual 384, 3) := by decide +kernel
theorem dX10_ofLane_60 : decode cX10_ofLane 60 = .ok (.ldc2_w 195, 3) := by decide +kernel
theorem dX10_ofLane_63 : decode cX10_ofLane 63 = .ok (.aload 4, 2) := by decide +kernel
theorem dX10_ofLane_65 : decode cX10_ofLane 65 = .ok (.getfield 387, 3) := by decide +kernel
theorem dX10_ofLane_68 : decode cX10_ofLane 68 = .ok (.lmul, 1) := by decide +kernel
theorem dX10_ofLane_69 : decode cX10_ofLane 69 = .ok (.aload 4, 2) := by decide +kernel
theorem dX10_ofLane_71 : decode cX10_ofLane 71 = .ok (.getfield 390, 3) := by decide +kernel
theorem dX10_ofLane_74 : decode cX10_ofLane 74 = .ok (.i2l, 1) := by decide +kernel
theorem dX10_ofLane_75 : decode cX10_ofLane 75 = .ok (.lmul, 1) := by decide +kernel
theorem dX10_ofLane_76 : decode cX10_ofLane 76 = .ok (.invokevirtual 197, 3) := by decide +kernel
theorem dX10_ofLane_79 : decode cX10_ofLane 79 = .ok (.goto 26, 3) := by decide +kernel
theorem dX10_ofLane_82 : decode cX10_ofLane 82 = .ok (.aload_n 0, 1) := by decide +kernel
theorem dX10_ofLane_83 : decode cX10_ofLane 83 = .ok (.getfield 79, 3) := by decide +kernel
theorem dX10_ofLane_86 : decode cX10_ofLane 86 = .ok (.aload 4, 2) := by decide +kernel
theorem dX10_ofLane_88 : decode cX10_ofLane 88 = .ok (.getfield 393, 3) := by decide +kernel
theorem dX10_ofLane_91 : decode cX10_ofLane 91 = .ok (.iload_n 1, 1) := by decide +kernel
theorem dX10_ofLane_92 : decode cX10_ofLane 92 = .ok (.laload, 1) := by decide +kernel
theorem dX10_ofLane_93 : decode cX10_ofLane 93 = .ok (.ldc2_w 195, 3) := by decide +kernel
theorem dX10_ofLane_96 : decode cX10_ofLane 96 = .ok (.aload 4, 2) := by decide +kernel
theorem dX10_ofLane_98 : decode cX10_ofLane 98 = .ok (.getfield 387, 3) := by decide +kernel
theorem dX10_ofLane_101 : decode cX10_ofLane 101 = .ok (.lmul, 1) := by decide +kernel
theorem dX10_ofLane_102 : decode cX10_ofLane 102 = .ok (.invokevirtual 197, 3) := by decide +kernel
theorem dX10_ofLane_105 : decode cX10_ofLane 105 = .ok (.aload_n 0, 1) := by decide +kernel
theorem dX10_ofLane_106 : decode cX10_ofLane 106 = .ok (.getfield 79, 3) := by decide +kernel
theorem dX10_ofLane_109 : decode cX10_ofLane 109 = .ok (.iload_n 3, 1) := by decide +kernel
theorem dX10_ofLane_110 : decode cX10_ofLane 110 = .ok (.invokevirtual 201, 3) := by decide +kernel
theorem dX10_ofLane_113 : decode cX10_ofLane 113 = .ok (.lreturn, 1) := by decide +kernel
def fX10_ofLane (x0_ : Int32) (x1_ : Int32) (x2_ : Int32) (s : Sg) : Option (Int64 × Sg) :=
  (aI s 10 8 x0_).bind fun v1 =>
  if v1 = 0 then
  (fX10_refusal (-3 : Int32) s).bind fun w20 =>
  some (w20.1, w20.2)
  else
  if x1_ = (2 : Int32) then
  ((if x1_ = (1 : Int32) then
  (fX1_aboveMean 14 x0_ s).bind fun w17 =>
  (fX0_set w17.1 (((2 : Int64) * (gL w17.2 14 5)) * (((gI w17.2 14 4)).toInt64)) w17.2).bind fun w18 =>
  some w18
  else
  (aL s 17 8 x0_).bind fun v14 =>
  (fX0_set v14 ((2 : Int64) * (gL s 14 5)) s).bind fun w15 =>
  some w15) : Option (Sg)).bind fun w11 =>
  (fX0_part x2_ w11).bind fun w13 =>
  some (w13.1, w13.2)
  else
  ((if x1_ = (1 : Int32) then
  (fX1_aboveMean 9 x0_ s).bind fun w8 =>
  (fX0_set w8.1 (((2 : Int64) * (gL w8.2 9 5)) * (((gI w8.2 9 4)).toInt64)) w8.2).bind fun w9 =>
  some w9
  else
  (aL s 12 8 x0_).bind fun v5 =>
  (fX0_set v5 ((2 : Int64) * (gL s 9 5)) s).bind fun w6 =>
  some w6) : Option (Sg)).bind fun w2 =>
  (fX0_part x2_ w2).bind fun w4 =>
  some (w4.1, w4.2)
theorem ct_X10_ofLane {g : Gl} {x0_ : Int32} {x1_ : Int32} {x2_ : Int32} {s : Sg} {w : Int64 × Sg}  (h : fX10_ofLane x0_ x1_ x2_ s = some w) : Ct SS g iX10_ofLane 2 56 [.ref (gad g 0), .int x0_, .int x1_, .int x2_] s (Dt (some (.long w.1)) w.2) := by
  refine Ct.ofV (by decide +kernel) 1 (lv0 := [some (.ref (gad g 0)), some (.int x0_), some (.int x1_), some (.int x2_), none]) rfl rfl (fun M hC => ?_)
  have hP : (Dt (some (.long w.1)) w.2) (some (.long w.1)) w.2 := ⟨rfl, rfl⟩
  generalize Dt (some (.long w.1)) w.2 = P at hP ⊢
  unfold fX10_ofLane at h
  refine v_aload_n (pc := 0) hC dX10_ofLane_0 rfl ?_
  refine v_gt (pc := 1) 1 (.ref (gad g 19)) hC s_0 rfl rfl rfl rfl fl_X10_37 dX10_ofLane_1 ?_
  refine v_gtN (pc := 4) 1 (.ref (gad g 9)) hC s_19 rfl rfl rfl rfl fl_X10_211 dX10_ofLane_4 ?_
  refine v_gtN (pc := 7) 0 (.ref (gad g 10)) hC s_9 rfl rfl rfl rfl fl_X10_215 dX10_ofLane_7 ?_
  refine v_iload_n (pc := 10) hC dX10_ofLane_10 rfl ?_
  obtain ⟨v1, hv1, h⟩ := obd_s h
  refine v_aI (pc := 11) hC s_10 hv1 dX10_ofLane_11 ?_
  refine v_if_ne (pc := 12) (tgt := 21) hC dX10_ofLane_12 rfl (fun c19 => ?_) (fun c19 => ?_)
  · replace h := (if_neg c19).symm.trans h
    refine v_iload_n (pc := 21) hC dX10_ofLane_21 rfl ?_
    refine v_iconst (pc := 22) (2 : Int32) rfl hC dX10_ofLane_22 ?_
    refine v_ic_ne (pc := 23) (tgt := 36) hC dX10_ofLane_23 rfl (fun c10 => ?_) (fun c10 => ?_)
    · replace h := (if_neg c10).symm.trans h
      refine v_aload_n (pc := 36) hC dX10_ofLane_36 rfl ?_
      refine v_gt (pc := 37) 1 (.ref (gad g 19)) hC s_0 rfl rfl rfl rfl fl_X10_37 dX10_ofLane_37 ?_
      refine v_gtN (pc := 40) 1 (.ref (gad g 9)) hC s_19 rfl rfl rfl rfl fl_X10_211 dX10_ofLane_40 ?_
      refine v_astore (pc := 43) (lv' := [some (.ref (gad g 0)), some (.int x0_), some (.int x1_), some (.int x2_), some (.ref (gad g 9))]) hC dX10_ofLane_43 rfl rfl rfl rfl ?_
      refine v_iload_n (pc := 45) hC dX10_ofLane_45 rfl ?_
      refine v_iconst (pc := 46) (1 : Int32) rfl hC dX10_ofLane_46 ?_
      obtain ⟨w2, hw2, h⟩ := obd_s h
      have kj3 : V SS g M iX10_ofLane (PQ SS g M P) 105 [some (.ref (gad g 0)), none, none, some (.int x2_), none] [] w2 := by
        refine v_aload_n (pc := 105) hC dX10_ofLane_105 rfl ?_
        refine v_gt (pc := 106) 8 (.ref (gad g 48)) hC s_0 rfl rfl rfl rfl fl_X10_79 dX10_ofLane_106 ?_
        refine v_iload_n (pc := 109) hC dX10_ofLane_109 rfl ?_
        obtain ⟨w4, hw4, h⟩ := obd_s h
        refine v_cV (pc := 110) [] [.long w4.1] gm_X0_part hC s_48 rfl rfl (ct_X0_part  hw4) ml_X10_201 rfl rfl rfl rfl rfl rfl dX10_ofLane_110 ?_
        obtain rfl := Option.some.inj h
        exact v_lret (pc := 113) hC rfl dX10_ofLane_113 hP
      refine v_ic_ne (pc := 47) (tgt := 82) hC dX10_ofLane_47 rfl (fun c7 => ?_) (fun c7 => ?_)
      · replace hw2 := (if_neg c7).symm.trans hw2
        refine v_aload_n (pc := 82) hC dX10_ofLane_82 rfl ?_
        refine v_gt (pc := 83) 8 (.ref (gad g 48)) hC s_0 rfl rfl rfl rfl fl_X10_79 dX10_ofLane_83 ?_
        refine v_aload (pc := 86) hC dX10_ofLane_86 rfl ?_
        refine v_gtN (pc := 88) 2 (.ref (gad g 12)) hC s_9 rfl rfl rfl rfl fl_X10_393 dX10_ofLane_88 ?_
        refine v_iload_n (pc := 91) hC dX10_ofLane_91 rfl ?_
        obtain ⟨v5, hv5, hw2⟩ := obd_s hw2
        refine v_aL (pc := 92) hC s_12 hv5 dX10_ofLane_92 ?_
        refine v_ldc2 (pc := 93) (2 : Int64) kc_X10_195 hC dX10_ofLane_93 ?_
        refine v_aload (pc := 96) hC dX10_ofLane_96 rfl ?_
        refine v_gtN (pc := 98) 5 (.long (gL s 9 5)) hC s_9 rfl rfl rfl rfl fl_X10_387 dX10_ofLane_98 ?_
        refine v_lmul (pc := 101) hC dX10_ofLane_101 ?_
        obtain ⟨w6, hw6, hw2⟩ := obd_s hw2
        refine v_cV (pc := 102) [] [] gm_X0_set hC s_48 rfl rfl (ct_X0_set  hw6) ml_X10_197 rfl rfl rfl rfl rfl rfl dX10_ofLane_102 ?_
        obtain rfl := Option.some.inj hw2
        exact V.ls (ls_some (ls_none (ls_none (ls_some (ls_none ls_nil))))) kj3
      · replace hw2 := (if_pos c7).symm.trans hw2
        refine v_aload_n (pc := 50) hC dX10_ofLane_50 rfl ?_
        refine v_gt (pc := 51) 8 (.ref (gad g 48)) hC s_0 rfl rfl rfl rfl fl_X10_79 dX10_ofLane_51 ?_
        refine v_aload (pc := 54) hC dX10_ofLane_54 rfl ?_
        refine v_iload_n (pc := 56) hC dX10_ofLane_56 rfl ?_
        obtain ⟨w8, hw8, hw2⟩ := obd_s hw2
        refine v_cV (pc := 57) [.ref (gad g 48)] [.long w8.1, .ref (gad g 48)] gm_X1_aboveMean hC s_9 rfl rfl (ct_X1_aboveMean lv_9 hw8) ml_X10_384 rfl rfl rfl rfl rfl rfl dX10_ofLane_57 ?_
        refine v_ldc2 (pc := 60) (2 : Int64) kc_X10_195 hC dX10_ofLane_60 ?_
        refine v_aload (pc := 63) hC dX10_ofLane_63 rfl ?_
        refine v_gtN (pc := 65) 5 (.long (gL w8.2 9 5)) hC s_9 rfl rfl rfl rfl fl_X10_387 dX10_ofLane_65 ?_
        refine v_lmul (pc := 68) hC dX10_ofLane_68 ?_
        refine v_aload (pc := 69) hC dX10_ofLane_69 rfl ?_
        refine v_gtN (pc := 71) 4 (.int (gI w8.2 9 4)) hC s_9 rfl rfl rfl rfl fl_X10_390 dX10_ofLane_71 ?_
        refine v_i2l (pc := 74) hC dX10_ofLane_74 ?_
        refine v_lmul (pc := 75) hC dX10_ofLane_75 ?_
        obtain ⟨w9, hw9, hw2⟩ := obd_s hw2
        refine v_cV (pc := 76) [] [] gm_X0_set hC s_48 rfl rfl (ct_X0_set  hw9) ml_X10_197 rfl rfl rfl rfl rfl rfl dX10_ofLane_76 ?_
        refine v_goto (pc := 79) (tgt := 105) hC dX10_ofLane_79 rfl ?_
        obtain rfl := Option.some.inj hw2
        exact V.ls (ls_some (ls_none (ls_none (ls_some (ls_none ls_nil))))) kj3
    · replace h := (if_pos c10).symm.trans h
      refine v_aload_n (pc := 26) hC dX10_ofLane_26 rfl ?_
      refine v_gt (pc := 27) 1 (.ref (gad g 19)) hC s_0 rfl rfl rfl rfl fl_X10_37 dX10_ofLane_27 ?_
      refine v_gtN (pc := 30) 2 (.ref (gad g 14)) hC s_19 rfl rfl rfl rfl fl_X10_381 dX10_ofLane_30 ?_
      refine v_goto (pc := 33) (tgt := 43) hC dX10_ofLane_33 rfl ?_
      refine v_astore (pc := 43) (lv' := [some (.ref (gad g 0)), some (.int x0_), some (.int x1_), some (.int x2_), some (.ref (gad g 14))]) hC dX10_ofLane_43 rfl rfl rfl rfl ?_
      refine v_iload_n (pc := 45) hC dX10_ofLane_45 rfl ?_
      refine v_iconst (pc := 46) (1 : Int32) rfl hC dX10_ofLane_46 ?_
      obtain ⟨w11, hw11, h⟩ := obd_s h
      have kj12 : V SS g M iX10_ofLane (PQ SS g M P) 105 [some (.ref (gad g 0)), none, none, some (.int x2_), none] [] w11 := by
        refine v_aload_n (pc := 105) hC dX10_ofLane_105 rfl ?_
        refine v_gt (pc := 106) 8 (.ref (gad g 48)) hC s_0 rfl rfl rfl rfl fl_X10_79 dX10_ofLane_106 ?_
        refine v_iload_n (pc := 109) hC dX10_ofLane_109 rfl ?_
        obtain ⟨w13, hw13, h⟩ := obd_s h
        refine v_cV (pc := 110) [] [.long w13.1] gm_X0_part hC s_48 rfl rfl (ct_X0_part  hw13) ml_X10_201 rfl rfl rfl rfl rfl rfl dX10_ofLane_110 ?_
        obtain rfl := Option.some.inj h
        exact v_lret (pc := 113) hC rfl dX10_ofLane_113 hP
      refine v_ic_ne (pc := 47) (tgt := 82) hC dX10_ofLane_47 rfl (fun c16 => ?_) (fun c16 => ?_)
      · replace hw11 := (if_neg c16).symm.trans hw11
        refine v_aload_n (pc := 82) hC dX10_ofLane_82 rfl ?_
        refine v_gt (pc := 83) 8 (.ref (gad g 48)) hC s_0 rfl rfl rfl rfl fl_X10_79 dX10_ofLane_83 ?_
        refine v_aload (pc := 86) hC dX10_ofLane_86 rfl ?_
        refine v_gtN (pc := 88) 2 (.ref (gad g 17)) hC s_14 rfl rfl rfl rfl fl_X10_393 dX10_ofLane_88 ?_
        refine v_iload_n (pc := 91) hC dX10_ofLane_91 rfl ?_
        obtain ⟨v14, hv14, hw11⟩ := obd_s hw11
        refine v_aL (pc := 92) hC s_17 hv14 dX10_ofLane_92 ?_
        refine v_ldc2 (pc := 93) (2 : Int64) kc_X10_195 hC dX10_ofLane_93 ?_
        refine v_aload (pc := 96) hC dX10_ofLane_96 rfl ?_
        refine v_gtN (pc := 98) 5 (.long (gL s 14 5)) hC s_14 rfl rfl rfl rfl fl_X10_387 dX10_ofLane_98 ?_
        refine v_lmul (pc := 101) hC dX10_ofLane_101 ?_
        obtain ⟨w15, hw15, hw11⟩ := obd_s hw11
        refine v_cV (pc := 102) [] [] gm_X0_set hC s_48 rfl rfl (ct_X0_set  hw15) ml_X10_197 rfl rfl rfl rfl rfl rfl dX10_ofLane_102 ?_
        obtain rfl := Option.some.inj hw11
        exact V.ls (ls_some (ls_none (ls_none (ls_some (ls_none ls_nil))))) kj12
      · replace hw11 := (if_pos c16).symm.trans hw11
        refine v_aload_n (pc := 50) hC dX10_ofLane_50 rfl ?_
        refine v_gt (pc := 51) 8 (.ref (gad g 48)) hC s_0 rfl rfl rfl rfl fl_X10_79 dX10_ofLane_51 ?_
        refine v_aload (pc := 54) hC dX10_ofLane_54 rfl ?_
        refine v_iload_n (pc := 56) hC dX10_ofLane_56 rfl ?_
        obtain ⟨w17, hw17, hw11⟩ := obd_s hw11
        refine v_cV (pc := 57) [.ref (gad g 48)] [.long w17.1, .ref (gad g 48)] gm_X1_aboveMean hC s_14 rfl rfl (ct_X1_aboveMean lv_14 hw17) ml_X10_384 rfl rfl rfl rfl rfl rfl dX10_ofLane_57 ?_
        refine v_ldc2 (pc := 60) (2 : Int64) kc_X10_195 hC dX10_ofLane_60 ?_
        refine v_aload (pc := 63) hC dX10_ofLane_63 rfl ?_
        refine v_gtN (pc := 65) 5 (.long (gL w17.2 14 5)) hC s_14 rfl rfl rfl rfl fl_X10_387 dX10_ofLane_65 ?_
        refine v_lmul (pc := 68) hC dX10_ofLane_68 ?_
        refine v_aload (pc := 69) hC dX10_ofLane_69 rfl ?_
        refine v_gtN (pc := 71) 4 (.int (gI w17.2 14 4)) hC s_14 rfl rfl rfl rfl fl_X10_390 dX10_ofLane_71 ?_
        refine v_i2l (pc := 74) hC dX10_ofLane_74 ?_
        refine v_lmul (pc := 75) hC dX10_ofLane_75 ?_
        obtain ⟨w18, hw18, hw11⟩ := obd_s hw11
        refine v_cV (pc := 76) [] [] gm_X0_set hC s_48 rfl rfl (ct_X0_set  hw18) ml_X10_197 rfl rfl rfl rfl rfl rfl dX10_ofLane_76 ?_
        refine v_goto (pc := 79) (tgt := 105) hC dX10_ofLane_79 rfl ?_
        obtain rfl := Option.some.inj hw11
        exact V.ls (ls_some (ls_none (ls_none (ls_some (ls_none ls_nil))))) kj12
  · replace h := (if_pos c19).symm.trans h
    refine v_bipush (pc := 15) (-3 : Int32) rfl hC dX10_ofLane_15 ?_
    obtain ⟨w20, hw20, h⟩ := obd_s h
    refine v_cS (pc := 17) [] [.long w20.1] gm_X10_refusal hC (ct_X10_refusal  hw20) ml_X10_185 rfl rfl rfl rfl rfl rfl dX10_ofLane_17 ?_
    obtain rfl := Option.some.inj h
    exact v_lret (pc := 20) hC rfl dX10_ofLane_20 hP
theorem dX10_lane_0 : decode cX10_lane 0 = .ok (.iload_n 1, 1) := by decide +kernel
theorem dX10_lane_1 : decode cX10_lane 1 = .ok (.invokestatic 105, 3) := by decide +kernel
theorem dX10_lane_4 : decode cX10_lane 4 = .ok (.ifCond .eq 19, 3) := by decide +kernel
theorem dX10_lane_7 : decode cX10_lane 7 = .ok (.iload_n 2, 1) := by decide +kernel
theorem dX10_lane_8 : decode cX10_lane 8 = .ok (.iconst 0, 1) := by decide +kernel
theorem dX10_lane_9 : decode cX10_lane 9 = .ok (.iconst 2, 1) := by decide +kernel
theorem dX10_lane_10 : decode cX10_lane 10 = .ok (.invokestatic 126, 3) := by decide +kernel
theorem dX10_lane_13 : decode cX10_lane 13 = .ok (.ifCond .eq 10, 3) := by decide +kernel
theorem dX10_lane_16 : decode cX10_lane 16 = .ok (.iload_n 3, 1) := by decide +kernel
theorem dX10_lane_17 : decode cX10_lane 17 = .ok (.invokestatic 182, 3) := by decide +kernel
theorem dX10_lane_20 : decode cX10_lane 20 = .ok (.ifCond .ne 9, 3) := by decide +kernel
theorem dX10_lane_23 : decode cX10_lane 23 = .ok (.bipush (-2), 2) := by decide +kernel
theorem dX10_lane_25 : decode cX10_lane 25 = .ok (.invokestatic 185, 3) := by decide +kernel
theorem dX10_lane_28 : decode cX10_lane 28 = .ok (.lreturn, 1) := by decide +kernel
theorem dX10_lane_29 : decode cX10_lane 29 = .ok (.aload_n 0, 1) := by decide +kernel
theorem dX10_lane_30 : decode cX10_lane 30 = .ok (.getfield 37, 3) := by decide +kernel
theorem dX10_lane_33 : decode cX10_lane 33 = .ok (.invokevirtual 204, 3) := by decide +kernel
theorem dX10_lane_36 : decode cX10_lane 36 = .ok (.aload_n 0, 1) := by decide +kernel
theorem dX10_lane_37 : decode cX10_lane 37 = .ok (.iload_n 1, 1) := by decide +kernel
theorem dX10_lane_38 : decode cX10_lane 38 = .ok (.iload_n 2, 1) := by decide +kernel
theorem dX10_lane_39 : decode cX10_lane 39 = .ok (.iload_n 3, 1) := by decide +kernel
theorem dX10_lane_40 : decode cX10_lane 40 = .ok (.invokevirtual 207, 3) := by decide +kernel
theorem dX10_lane_43 : decode cX10_lane 43 = .ok (.lreturn, 1) := by decide +kernel
def fX10_lane (x0_ : Int32) (x1_ : Int32) (x2_ : Int32) (s : Sg) : Option (Int64 × Sg) :=
  (fX10_isLane x0_ s).bind fun w1 =>
  if w1.1 = 0 then
  (fX10_refusal (-2 : Int32) w1.2).bind fun w2 =>
  some (w2.1, w2.2)
  else
  (fX10_within x1_ (0 : Int32) (2 : Int32) w1.2).bind fun w4 =>
  if w4.1 = 0 then
  (fX10_refusal (-2 : Int32) w4.2).bind fun w5 =>
  some (w5.1, w5.2)
  else
  (fX10_isPart x2_ w4.2).bind fun w7 =>
  if w7.1 = 0 then
  (fX10_refusal (-2 : Int32) w7.2).bind fun w11 =>
  some (w11.1, w11.2)
  else
  (fX8_survey w7.2).bind fun w8 =>
  (fX10_ofLane x0_ x1_ x2_ w8).bind fun w9 =>
  some (w9.1, w9.2)
theorem ct_X10_lane {g : Gl} {x0_ : Int32} {x1_ : Int32} {x2_ : Int32} {s : Sg} {w : Int64 × Sg}  (h : fX10_lane x0_ x1_ x2_ s = some w) : Ct SS g iX10_lane 5 120 [.ref (gad g 0), .int x0_, .int x1_, .int x2_] s (Dt (some (.long w.1)) w.2) := by
  refine Ct.ofV (by decide +kernel) 0 (lv0 := [some (.ref (gad g 0)), some (.int x0_), some (.int x1_), some (.int x2_)]) rfl rfl (fun M hC => ?_)
  have hP : (Dt (some (.long w.1)) w.2) (some (.long w.1)) w.2 := ⟨rfl, rfl⟩
  generalize Dt (some (.long w.1)) w.2 = P at hP ⊢
  unfold fX10_lane at h
  refine v_iload_n (pc := 0) hC dX10_lane_0 rfl ?_
  obtain ⟨w1, hw1, h⟩ := obd_s h
  refine v_cS (pc := 1) [] [.int w1.1] gm_X10_isLane hC (ct_X10_isLane  hw1) ml_X10_105 rfl rfl rfl rfl rfl rfl dX10_lane_1 ?_
  refine v_if_eq (pc := 4) (tgt := 23) hC dX10_lane_4 rfl (fun c3 => ?_) (fun c3 => ?_)
  · replace h := (if_pos c3).symm.trans h
    refine v_bipush (pc := 23) (-2 : Int32) rfl hC dX10_lane_23 ?_
    obtain ⟨w2, hw2, h⟩ := obd_s h
    refine v_cS (pc := 25) [] [.long w2.1] gm_X10_refusal hC (ct_X10_refusal  hw2) ml_X10_185 rfl rfl rfl rfl rfl rfl dX10_lane_25 ?_
    obtain rfl := Option.some.inj h
    exact v_lret (pc := 28) hC rfl dX10_lane_28 hP
  · replace h := (if_neg c3).symm.trans h
    refine v_iload_n (pc := 7) hC dX10_lane_7 rfl ?_
    refine v_iconst (pc := 8) (0 : Int32) rfl hC dX10_lane_8 ?_
    refine v_iconst (pc := 9) (2 : Int32) rfl hC dX10_lane_9 ?_
    obtain ⟨w4, hw4, h⟩ := obd_s h
    refine v_cS (pc := 10) [] [.int w4.1] gm_X10_within hC (ct_X10_within  hw4) ml_X10_126 rfl rfl rfl rfl rfl rfl dX10_lane_10 ?_
    refine v_if_eq (pc := 13) (tgt := 23) hC dX10_lane_13 rfl (fun c6 => ?_) (fun c6 => ?_)
    · replace h := (if_pos c6).symm.trans h
      refine v_bipush (pc := 23) (-2 : Int32) rfl hC dX10_lane_23 ?_
      obtain ⟨w5, hw5, h⟩ := obd_s h
      refine v_cS (pc := 25) [] [.long w5.1] gm_X10_refusal hC (ct_X10_refusal  hw5) ml_X10_185 rfl rfl rfl rfl rfl rfl dX10_lane_25 ?_
      obtain rfl := Option.some.inj h
      exact v_lret (pc := 28) hC rfl dX10_lane_28 hP
    · replace h := (if_neg c6).symm.trans h
      refine v_iload_n (pc := 16) hC dX10_lane_16 rfl ?_
      obtain ⟨w7, hw7, h⟩ := obd_s h
      refine v_cS (pc := 17) [] [.int w7.1] gm_X10_isPart hC (ct_X10_isPart  hw7) ml_X10_182 rfl rfl rfl rfl rfl rfl dX10_lane_17 ?_
      refine v_if_ne (pc := 20) (tgt := 29) hC dX10_lane_20 rfl (fun c10 => ?_) (fun c10 => ?_)
      · replace h := (if_neg c10).symm.trans h
        refine v_aload_n (pc := 29) hC dX10_lane_29 rfl ?_
        refine v_gt (pc := 30) 1 (.ref (gad g 19)) hC s_0 rfl rfl rfl rfl fl_X10_37 dX10_lane_30 ?_
        obtain ⟨w8, hw8, h⟩ := obd_s h
        refine v_cV (pc := 33) [] [] gm_X8_survey hC s_19 rfl rfl (ct_X8_survey  hw8) ml_X10_204 rfl rfl rfl rfl rfl rfl dX10_lane_33 ?_
        refine v_aload_n (pc := 36) hC dX10_lane_36 rfl ?_
        refine v_iload_n (pc := 37) hC dX10_lane_37 rfl ?_
        refine v_iload_n (pc := 38) hC dX10_lane_38 rfl ?_
        refine v_iload_n (pc := 39) hC dX10_lane_39 rfl ?_
        obtain ⟨w9, hw9, h⟩ := obd_s h
        refine v_cV (pc := 40) [] [.long w9.1] gm_X10_ofLane hC s_0 rfl rfl (ct_X10_ofLane  hw9) ml_X10_207 rfl rfl rfl rfl rfl rfl dX10_lane_40 ?_
        obtain rfl := Option.some.inj h
        exact v_lret (pc := 43) hC rfl dX10_lane_43 hP
      · replace h := (if_pos c10).symm.trans h
        refine v_bipush (pc := 23) (-2 : Int32) rfl hC dX10_lane_23 ?_
        obtain ⟨w11, hw11, h⟩ := obd_s h
        refine v_cS (pc := 25) [] [.long w11.1] gm_X10_refusal hC (ct_X10_refusal  hw11) ml_X10_185 rfl rfl rfl rfl rfl rfl dX10_lane_25 ?_
        obtain rfl := Option.some.inj h
        exact v_lret (pc := 28) hC rfl dX10_lane_28 hP
theorem dX10_counts_0 : decode cX10_counts 0 = .ok (.iload_n 1, 1) := by decide +kernel
theorem dX10_counts_1 : decode cX10_counts 1 = .ok (.invokestatic 105, 3) := by decide +kernel
theorem dX10_counts_4 : decode cX10_counts 4 = .ok (.ifCond .ne 6, 3) := by decide +kernel
theorem dX10_counts_7 : decode cX10_counts 7 = .ok (.bipush (-2), 2) := by decide +kernel
theorem dX10_counts_9 : decode cX10_counts 9 = .ok (.ireturn, 1) := by decide +kernel
theorem dX10_counts_10 : decode cX10_counts 10 = .ok (.aload_n 0, 1) := by decide +kernel
theorem dX10_counts_11 : decode cX10_counts 11 = .ok (.getfield 37, 3) := by decide +kernel
theorem dX10_counts_14 : decode cX10_counts 14 = .ok (.invokevirtual 204, 3) := by decide +kernel
theorem dX10_counts_17 : decode cX10_counts 17 = .ok (.aload_n 0, 1) := by decide +kernel
theorem dX10_counts_18 : decode cX10_counts 18 = .ok (.getfield 37, 3) := by decide +kernel
theorem dX10_counts_21 : decode cX10_counts 21 = .ok (.getfield 211, 3) := by decide +kernel
theorem dX10_counts_24 : decode cX10_counts 24 = .ok (.getfield 215, 3) := by decide +kernel
theorem dX10_counts_27 : decode cX10_counts 27 = .ok (.iload_n 1, 1) := by decide +kernel
theorem dX10_counts_28 : decode cX10_counts 28 = .ok (.iaload, 1) := by decide +kernel
theorem dX10_counts_29 : decode cX10_counts 29 = .ok (.ireturn, 1) := by decide +kernel
def fX10_counts (x0_ : Int32) (s : Sg) : Option (Int32 × Sg) :=
  (fX10_isLane x0_ s).bind fun w1 =>
  if w1.1 = 0 then
  some ((-2 : Int32), w1.2)
  else
  (fX8_survey w1.2).bind fun w2 =>
  (aI w2 10 8 x0_).bind fun v3 =>
  some (v3, w2)
theorem ct_X10_counts {g : Gl} {x0_ : Int32} {s : Sg} {w : Int32 × Sg}  (h : fX10_counts x0_ s = some w) : Ct SS g iX10_counts 5 120 [.ref (gad g 0), .int x0_] s (Dt (some (.int w.1)) w.2) := by
  refine Ct.ofV (by decide +kernel) 0 (lv0 := [some (.ref (gad g 0)), some (.int x0_)]) rfl rfl (fun M hC => ?_)
  have hP : (Dt (some (.int w.1)) w.2) (some (.int w.1)) w.2 := ⟨rfl, rfl⟩
  generalize Dt (some (.int w.1)) w.2 = P at hP ⊢
  unfold fX10_counts at h
  refine v_iload_n (pc := 0) hC dX10_counts_0 rfl ?_
  obtain ⟨w1, hw1, h⟩ := obd_s h
  refine v_cS (pc := 1) [] [.int w1.1] gm_X10_isLane hC (ct_X10_isLane  hw1) ml_X10_105 rfl rfl rfl rfl rfl rfl dX10_counts_1 ?_
  refine v_if_ne (pc := 4) (tgt := 10) hC dX10_counts_4 rfl (fun c4 => ?_) (fun c4 => ?_)
  · replace h := (if_neg c4).symm.trans h
    refine v_aload_n (pc := 10) hC dX10_counts_10 rfl ?_
    refine v_gt (pc := 11) 1 (.ref (gad g 19)) hC s_0 rfl rfl rfl rfl fl_X10_37 dX10_counts_11 ?_
    obtain ⟨w2, hw2, h⟩ := obd_s h
    refine v_cV (pc := 14) [] [] gm_X8_survey hC s_19 rfl rfl (ct_X8_survey  hw2) ml_X10_204 rfl rfl rfl rfl rfl rfl dX10_counts_14 ?_
    refine v_aload_n (pc := 17) hC dX10_counts_17 rfl ?_
    refine v_gt (pc := 18) 1 (.ref (gad g 19)) hC s_0 rfl rfl rfl rfl fl_X10_37 dX10_counts_18 ?_
    refine v_gtN (pc := 21) 1 (.ref (gad g 9)) hC s_19 rfl rfl rfl rfl fl_X10_211 dX10_counts_21 ?_
    refine v_gtN (pc := 24) 0 (.ref (gad g 10)) hC s_9 rfl rfl rfl rfl fl_X10_215 dX10_counts_24 ?_
    refine v_iload_n (pc := 27) hC dX10_counts_27 rfl ?_
    obtain ⟨v3, hv3, h⟩ := obd_s h
    refine v_aI (pc := 28) hC s_10 hv3 dX10_counts_28 ?_
    obtain rfl := Option.some.inj h
    exact v_iret (pc := 29) hC rfl dX10_counts_29 hP
  · replace h := (if_pos c4).symm.trans h
    refine v_bipush (pc := 7) (-2 : Int32) rfl hC dX10_counts_7 ?_
    obtain rfl := Option.some.inj h
    exact v_iret (pc := 9) hC rfl dX10_counts_9 hP
