/-! methods, printed by wip/whole/gen/meth.py: X10_isType, X10_sheet, X10_lose, X10_put, X10_get, X10_copy, X10_write, X10_count, X10_mix, X10_mixLanes, X10_mixDays, X10_mixOrder, X10_mixRaces, X10_mixSwims, X10_digest -/
theorem dX10_isType_0 : decode cX10_isType 0 = .ok (.iload_n 0, 1) := by decide +kernel
theorem dX10_isType_1 : decode cX10_isType 1 = .ok (.iconst 0, 1) := by decide +kernel
theorem dX10_isType_2 : decode cX10_isType 2 = .ok (.iconst 2, 1) := by decide +kernel
theorem dX10_isType_3 : decode cX10_isType 3 = .ok (.invokestatic 126, 3) := by decide +kernel
theorem dX10_isType_6 : decode cX10_isType 6 = .ok (.ireturn, 1) := by decide +kernel
def fX10_isType (x0_ : Int32) (s : Sg) : Option (Int32 × Sg) :=
  (fX10_within x0_ (0 : Int32) (2 : Int32) s).bind fun w1 =>
  (zr w1.1).bind fun z2 =>
  some (z2, w1.2)
theorem ct_X10_isType {g : Gl} {x0_ : Int32} {s : Sg} {w : Int32 × Sg}  (h : fX10_isType x0_ s = some w) : Ct SS g iX10_isType 1 22 [.int x0_] s (Dt (some (.int w.1)) w.2) := by
  refine Ct.ofV (by decide +kernel) 0 (lv0 := [some (.int x0_)]) rfl rfl (fun M hC => ?_)
  have hP : (Dt (some (.int w.1)) w.2) (some (.int w.1)) w.2 := ⟨rfl, rfl⟩
  generalize Dt (some (.int w.1)) w.2 = P at hP ⊢
  unfold fX10_isType at h
  refine v_iload_n (pc := 0) hC dX10_isType_0 rfl ?_
  refine v_iconst (pc := 1) (0 : Int32) rfl hC dX10_isType_1 ?_
  refine v_iconst (pc := 2) (2 : Int32) rfl hC dX10_isType_2 ?_
  obtain ⟨w1, hw1, h⟩ := obd_s h
  refine v_cS (pc := 3) [] [.int w1.1] gm_X10_within hC (ct_X10_within  hw1) ml_X10_126 rfl rfl rfl rfl rfl rfl dX10_isType_3 ?_
  obtain ⟨z2, hz2, h⟩ := obd_s h
  obtain rfl := Option.some.inj h
  exact v_zr (pc := 6) hC rfl hz2 dX10_isType_6 hP
theorem dX10_sheet_0 : decode cX10_sheet 0 = .ok (.iload_n 1, 1) := by decide +kernel
theorem dX10_sheet_1 : decode cX10_sheet 1 = .ok (.invokestatic 139, 3) := by decide +kernel
theorem dX10_sheet_4 : decode cX10_sheet 4 = .ok (.ifCond .eq 16, 3) := by decide +kernel
theorem dX10_sheet_7 : decode cX10_sheet 7 = .ok (.iload_n 2, 1) := by decide +kernel
theorem dX10_sheet_8 : decode cX10_sheet 8 = .ok (.invokestatic 318, 3) := by decide +kernel
theorem dX10_sheet_11 : decode cX10_sheet 11 = .ok (.ifCond .eq 9, 3) := by decide +kernel
theorem dX10_sheet_14 : decode cX10_sheet 14 = .ok (.iload_n 3, 1) := by decide +kernel
theorem dX10_sheet_15 : decode cX10_sheet 15 = .ok (.bipush 48, 2) := by decide +kernel
theorem dX10_sheet_17 : decode cX10_sheet 17 = .ok (.if_icmp .le 6, 3) := by decide +kernel
theorem dX10_sheet_20 : decode cX10_sheet 20 = .ok (.bipush (-2), 2) := by decide +kernel
theorem dX10_sheet_22 : decode cX10_sheet 22 = .ok (.ireturn, 1) := by decide +kernel
theorem dX10_sheet_23 : decode cX10_sheet 23 = .ok (.iload_n 3, 1) := by decide +kernel
theorem dX10_sheet_24 : decode cX10_sheet 24 = .ok (.ifCond .ge 9, 3) := by decide +kernel
theorem dX10_sheet_27 : decode cX10_sheet 27 = .ok (.aload_n 0, 1) := by decide +kernel
theorem dX10_sheet_28 : decode cX10_sheet 28 = .ok (.iconst 5, 1) := by decide +kernel
theorem dX10_sheet_29 : decode cX10_sheet 29 = .ok (.invokevirtual 146, 3) := by decide +kernel
theorem dX10_sheet_32 : decode cX10_sheet 32 = .ok (.ireturn, 1) := by decide +kernel
theorem dX10_sheet_33 : decode cX10_sheet 33 = .ok (.aload_n 0, 1) := by decide +kernel
theorem dX10_sheet_34 : decode cX10_sheet 34 = .ok (.getfield 71, 3) := by decide +kernel
theorem dX10_sheet_37 : decode cX10_sheet 37 = .ok (.iload_n 1, 1) := by decide +kernel
theorem dX10_sheet_38 : decode cX10_sheet 38 = .ok (.aaload, 1) := by decide +kernel
theorem dX10_sheet_39 : decode cX10_sheet 39 = .ok (.iload_n 2, 1) := by decide +kernel
theorem dX10_sheet_40 : decode cX10_sheet 40 = .ok (.iload_n 3, 1) := by decide +kernel
theorem dX10_sheet_41 : decode cX10_sheet 41 = .ok (.invokevirtual 321, 3) := by decide +kernel
theorem dX10_sheet_44 : decode cX10_sheet 44 = .ok (.iload_n 3, 1) := by decide +kernel
theorem dX10_sheet_45 : decode cX10_sheet 45 = .ok (.ireturn, 1) := by decide +kernel
def fX10_sheet (x0_ : Int32) (x1_ : Int32) (x2_ : Int32) (s : Sg) : Option (Int32 × Sg) :=
  (fX10_isSheet x0_ s).bind fun w1 =>
  if w1.1 = 0 then
  some ((-2 : Int32), w1.2)
  else
  (fX10_isType x1_ w1.2).bind fun w3 =>
  if w3.1 = 0 then
  some ((-2 : Int32), w3.2)
  else
  if x2_ ≤ (48 : Int32) then
  if 0 ≤ x2_ then
  (aR 4 x0_).bind fun k5 =>
  (fX5_renew (rix 1 k5) x1_ x2_ w3.2).bind fun w7 =>
  some (x2_, w7)
  else
  (fX10_found (5 : Int32) w3.2).bind fun w9 =>
  some (w9.1, w9.2)
  else
  some ((-2 : Int32), w3.2)
theorem ct_X10_sheet {g : Gl} {x0_ : Int32} {x1_ : Int32} {x2_ : Int32} {s : Sg} {w : Int32 × Sg}  (h : fX10_sheet x0_ x1_ x2_ s = some w) : Ct SS g iX10_sheet 2 42 [.ref (gad g 0), .int x0_, .int x1_, .int x2_] s (Dt (some (.int w.1)) w.2) := by
  refine Ct.ofV (by decide +kernel) 0 (lv0 := [some (.ref (gad g 0)), some (.int x0_), some (.int x1_), some (.int x2_)]) rfl rfl (fun M hC => ?_)
  have hP : (Dt (some (.int w.1)) w.2) (some (.int w.1)) w.2 := ⟨rfl, rfl⟩
  generalize Dt (some (.int w.1)) w.2 = P at hP ⊢
  unfold fX10_sheet at h
  refine v_iload_n (pc := 0) hC dX10_sheet_0 rfl ?_
  obtain ⟨w1, hw1, h⟩ := obd_s h
  refine v_cS (pc := 1) [] [.int w1.1] gm_X10_isSheet hC (ct_X10_isSheet  hw1) ml_X10_139 rfl rfl rfl rfl rfl rfl dX10_sheet_1 ?_
  refine v_if_eq (pc := 4) (tgt := 20) hC dX10_sheet_4 rfl (fun c2 => ?_) (fun c2 => ?_)
  · replace h := (if_pos c2).symm.trans h
    refine v_bipush (pc := 20) (-2 : Int32) rfl hC dX10_sheet_20 ?_
    obtain rfl := Option.some.inj h
    exact v_iret (pc := 22) hC rfl dX10_sheet_22 hP
  · replace h := (if_neg c2).symm.trans h
    refine v_iload_n (pc := 7) hC dX10_sheet_7 rfl ?_
    obtain ⟨w3, hw3, h⟩ := obd_s h
    refine v_cS (pc := 8) [] [.int w3.1] gm_X10_isType hC (ct_X10_isType  hw3) ml_X10_318 rfl rfl rfl rfl rfl rfl dX10_sheet_8 ?_
    refine v_if_eq (pc := 11) (tgt := 20) hC dX10_sheet_11 rfl (fun c4 => ?_) (fun c4 => ?_)
    · replace h := (if_pos c4).symm.trans h
      refine v_bipush (pc := 20) (-2 : Int32) rfl hC dX10_sheet_20 ?_
      obtain rfl := Option.some.inj h
      exact v_iret (pc := 22) hC rfl dX10_sheet_22 hP
    · replace h := (if_neg c4).symm.trans h
      refine v_iload_n (pc := 14) hC dX10_sheet_14 rfl ?_
      refine v_bipush (pc := 15) (48 : Int32) rfl hC dX10_sheet_15 ?_
      refine v_ic_le (pc := 17) (tgt := 23) hC dX10_sheet_17 rfl (fun c10 => ?_) (fun c10 => ?_)
      · replace h := (if_pos c10).symm.trans h
        refine v_iload_n (pc := 23) hC dX10_sheet_23 rfl ?_
        refine v_if_ge (pc := 24) (tgt := 33) hC dX10_sheet_24 rfl (fun c8 => ?_) (fun c8 => ?_)
        · replace h := (if_pos c8).symm.trans h
          refine v_aload_n (pc := 33) hC dX10_sheet_33 rfl ?_
          refine v_gt (pc := 34) 7 (.ref (gad g 39)) hC s_0 rfl rfl rfl rfl fl_X10_71 dX10_sheet_34 ?_
          refine v_iload_n (pc := 37) hC dX10_sheet_37 rfl ?_
          obtain ⟨k5, hk5, h⟩ := obd_s h
          have hb6 := sh_of (aR_lt hk5)
          refine v_aR (pc := 38) (t := 1) (C := "LaneFour$Sheet") hC s_39 rfl hk5 dX10_sheet_38 ?_
          refine v_iload_n (pc := 39) hC dX10_sheet_39 rfl ?_
          refine v_iload_n (pc := 40) hC dX10_sheet_40 rfl ?_
          obtain ⟨w7, hw7, h⟩ := obd_s h
          refine v_cV (pc := 41) [] [] gm_X5_renew hC hb6.1 rfl rfl (ct_X5_renew hb6 hw7) ml_X10_321 rfl rfl rfl rfl rfl rfl dX10_sheet_41 ?_
          refine v_iload_n (pc := 44) hC dX10_sheet_44 rfl ?_
          obtain rfl := Option.some.inj h
          exact v_iret (pc := 45) hC rfl dX10_sheet_45 hP
        · replace h := (if_neg c8).symm.trans h
          refine v_aload_n (pc := 27) hC dX10_sheet_27 rfl ?_
          refine v_iconst (pc := 28) (5 : Int32) rfl hC dX10_sheet_28 ?_
          obtain ⟨w9, hw9, h⟩ := obd_s h
          refine v_cV (pc := 29) [] [.int w9.1] gm_X10_found hC s_0 rfl rfl (ct_X10_found  hw9) ml_X10_146 rfl rfl rfl rfl rfl rfl dX10_sheet_29 ?_
          obtain rfl := Option.some.inj h
          exact v_iret (pc := 32) hC rfl dX10_sheet_32 hP
      · replace h := (if_neg c10).symm.trans h
        refine v_bipush (pc := 20) (-2 : Int32) rfl hC dX10_sheet_20 ?_
        obtain rfl := Option.some.inj h
        exact v_iret (pc := 22) hC rfl dX10_sheet_22 hP
theorem dX10_lose_0 : decode cX10_lose 0 = .ok (.iload_n 1, 1) := by decide +kernel
theorem dX10_lose_1 : decode cX10_lose 1 = .ok (.invokestatic 139, 3) := by decide +kernel
theorem dX10_lose_4 : decode cX10_lose 4 = .ok (.ifCond .ne 6, 3) := by decide +kernel
theorem dX10_lose_7 : decode cX10_lose 7 = .ok (.bipush (-2), 2) := by decide +kernel
theorem dX10_lose_9 : decode cX10_lose 9 = .ok (.ireturn, 1) := by decide +kernel
theorem dX10_lose_10 : decode cX10_lose 10 = .ok (.aload_n 0, 1) := by decide +kernel
theorem dX10_lose_11 : decode cX10_lose 11 = .ok (.getfield 71, 3) := by decide +kernel
theorem dX10_lose_14 : decode cX10_lose 14 = .ok (.iload_n 1, 1) := by decide +kernel
theorem dX10_lose_15 : decode cX10_lose 15 = .ok (.aaload, 1) := by decide +kernel
theorem dX10_lose_16 : decode cX10_lose 16 = .ok (.getfield 142, 3) := by decide +kernel
theorem dX10_lose_19 : decode cX10_lose 19 = .ok (.ifCond .eq 9, 3) := by decide +kernel
theorem dX10_lose_22 : decode cX10_lose 22 = .ok (.aload_n 0, 1) := by decide +kernel
theorem dX10_lose_23 : decode cX10_lose 23 = .ok (.iconst 1, 1) := by decide +kernel
theorem dX10_lose_24 : decode cX10_lose 24 = .ok (.invokevirtual 146, 3) := by decide +kernel
theorem dX10_lose_27 : decode cX10_lose 27 = .ok (.ireturn, 1) := by decide +kernel
theorem dX10_lose_28 : decode cX10_lose 28 = .ok (.aload_n 0, 1) := by decide +kernel
theorem dX10_lose_29 : decode cX10_lose 29 = .ok (.getfield 71, 3) := by decide +kernel
theorem dX10_lose_32 : decode cX10_lose 32 = .ok (.iload_n 1, 1) := by decide +kernel
theorem dX10_lose_33 : decode cX10_lose 33 = .ok (.aaload, 1) := by decide +kernel
theorem dX10_lose_34 : decode cX10_lose 34 = .ok (.iconst 1, 1) := by decide +kernel
theorem dX10_lose_35 : decode cX10_lose 35 = .ok (.putfield 142, 3) := by decide +kernel
theorem dX10_lose_38 : decode cX10_lose 38 = .ok (.aload_n 0, 1) := by decide +kernel
theorem dX10_lose_39 : decode cX10_lose 39 = .ok (.getfield 71, 3) := by decide +kernel
theorem dX10_lose_42 : decode cX10_lose 42 = .ok (.iload_n 1, 1) := by decide +kernel
theorem dX10_lose_43 : decode cX10_lose 43 = .ok (.aaload, 1) := by decide +kernel
theorem dX10_lose_44 : decode cX10_lose 44 = .ok (.getfield 149, 3) := by decide +kernel
theorem dX10_lose_47 : decode cX10_lose 47 = .ok (.ireturn, 1) := by decide +kernel
def fX10_lose (x0_ : Int32) (s : Sg) : Option (Int32 × Sg) :=
  (fX10_isSheet x0_ s).bind fun w1 =>
  if w1.1 = 0 then
  some ((-2 : Int32), w1.2)
  else
  (aR 4 x0_).bind fun k2 =>
  if (gI w1.2 (rix 1 k2) 0) = 0 then
  (aR 4 x0_).bind fun k4 =>
  bnd (sI w1.2 (rix 1 k4) 0 (1 : Int32)) fun s6 =>
  (aR 4 x0_).bind fun k7 =>
  some ((gI s6 (rix 1 k7) 2), s6)
  else
  (fX10_found (1 : Int32) w1.2).bind fun w10 =>
  some (w10.1, w10.2)
theorem ct_X10_lose {g : Gl} {x0_ : Int32} {s : Sg} {w : Int32 × Sg}  (h : fX10_lose x0_ s = some w) : Ct SS g iX10_lose 2 42 [.ref (gad g 0), .int x0_] s (Dt (some (.int w.1)) w.2) := by
  refine Ct.ofV (by decide +kernel) 0 (lv0 := [some (.ref (gad g 0)), some (.int x0_)]) rfl rfl (fun M hC => ?_)
  have hP : (Dt (some (.int w.1)) w.2) (some (.int w.1)) w.2 := ⟨rfl, rfl⟩
  generalize Dt (some (.int w.1)) w.2 = P at hP ⊢
  unfold fX10_lose at h
  refine v_iload_n (pc := 0) hC dX10_lose_0 rfl ?_
  obtain ⟨w1, hw1, h⟩ := obd_s h
  refine v_cS (pc := 1) [] [.int w1.1] gm_X10_isSheet hC (ct_X10_isSheet  hw1) ml_X10_139 rfl rfl rfl rfl rfl rfl dX10_lose_1 ?_
  refine v_if_ne (pc := 4) (tgt := 10) hC dX10_lose_4 rfl (fun c11 => ?_) (fun c11 => ?_)
  · replace h := (if_neg c11).symm.trans h
    refine v_aload_n (pc := 10) hC dX10_lose_10 rfl ?_
    refine v_gt (pc := 11) 7 (.ref (gad g 39)) hC s_0 rfl rfl rfl rfl fl_X10_71 dX10_lose_11 ?_
    refine v_iload_n (pc := 14) hC dX10_lose_14 rfl ?_
    obtain ⟨k2, hk2, h⟩ := obd_s h
    have hb3 := sh_of (aR_lt hk2)
    refine v_aR (pc := 15) (t := 1) (C := "LaneFour$Sheet") hC s_39 rfl hk2 dX10_lose_15 ?_
    refine v_gtN (pc := 16) 0 (.int (gI w1.2 (rix 1 k2) 0)) hC hb3.1 rfl rfl rfl rfl fl_X10_142 dX10_lose_16 ?_
    refine v_if_eq (pc := 19) (tgt := 28) hC dX10_lose_19 rfl (fun c9 => ?_) (fun c9 => ?_)
    · replace h := (if_pos c9).symm.trans h
      refine v_aload_n (pc := 28) hC dX10_lose_28 rfl ?_
      refine v_gt (pc := 29) 7 (.ref (gad g 39)) hC s_0 rfl rfl rfl rfl fl_X10_71 dX10_lose_29 ?_
      refine v_iload_n (pc := 32) hC dX10_lose_32 rfl ?_
      obtain ⟨k4, hk4, h⟩ := obd_s h
      have hb5 := sh_of (aR_lt hk4)
      refine v_aR (pc := 33) (t := 1) (C := "LaneFour$Sheet") hC s_39 rfl hk4 dX10_lose_33 ?_
      refine v_iconst (pc := 34) (1 : Int32) rfl hC dX10_lose_34 ?_
      obtain ⟨s6, hs6, h⟩ := bnd_s h
      refine v_pIN (pc := 35) 0 hC hb5.1 rfl rfl rfl rfl rfl rfl fl_X10_142 hs6 dX10_lose_35 ?_
      refine v_aload_n (pc := 38) hC dX10_lose_38 rfl ?_
      refine v_gt (pc := 39) 7 (.ref (gad g 39)) hC s_0 rfl rfl rfl rfl fl_X10_71 dX10_lose_39 ?_
      refine v_iload_n (pc := 42) hC dX10_lose_42 rfl ?_
      obtain ⟨k7, hk7, h⟩ := obd_s h
      have hb8 := sh_of (aR_lt hk7)
      refine v_aR (pc := 43) (t := 1) (C := "LaneFour$Sheet") hC s_39 rfl hk7 dX10_lose_43 ?_
      refine v_gtN (pc := 44) 2 (.int (gI s6 (rix 1 k7) 2)) hC hb8.1 rfl rfl rfl rfl fl_X10_149 dX10_lose_44 ?_
      obtain rfl := Option.some.inj h
      exact v_iret (pc := 47) hC rfl dX10_lose_47 hP
    · replace h := (if_neg c9).symm.trans h
      refine v_aload_n (pc := 22) hC dX10_lose_22 rfl ?_
      refine v_iconst (pc := 23) (1 : Int32) rfl hC dX10_lose_23 ?_
      obtain ⟨w10, hw10, h⟩ := obd_s h
      refine v_cV (pc := 24) [] [.int w10.1] gm_X10_found hC s_0 rfl rfl (ct_X10_found  hw10) ml_X10_146 rfl rfl rfl rfl rfl rfl dX10_lose_24 ?_
      obtain rfl := Option.some.inj h
      exact v_iret (pc := 27) hC rfl dX10_lose_27 hP
  · replace h := (if_pos c11).symm.trans h
    refine v_bipush (pc := 7) (-2 : Int32) rfl hC dX10_lose_7 ?_
    obtain rfl := Option.some.inj h
    exact v_iret (pc := 9) hC rfl dX10_lose_9 hP
theorem dX10_put_0 : decode cX10_put 0 = .ok (.iload_n 1, 1) := by decide +kernel
theorem dX10_put_1 : decode cX10_put 1 = .ok (.invokestatic 139, 3) := by decide +kernel
theorem dX10_put_4 : decode cX10_put 4 = .ok (.ifCond .eq 10, 3) := by decide +kernel
theorem dX10_put_7 : decode cX10_put 7 = .ok (.iload_n 2, 1) := by decide +kernel
theorem dX10_put_8 : decode cX10_put 8 = .ok (.invokestatic 318, 3) := by decide +kernel
theorem dX10_put_11 : decode cX10_put 11 = .ok (.ifCond .ne 6, 3) := by decide +kernel
theorem dX10_put_14 : decode cX10_put 14 = .ok (.bipush (-2), 2) := by decide +kernel
theorem dX10_put_16 : decode cX10_put 16 = .ok (.ireturn, 1) := by decide +kernel
theorem dX10_put_17 : decode cX10_put 17 = .ok (.aload_n 0, 1) := by decide +kernel
theorem dX10_put_18 : decode cX10_put 18 = .ok (.getfield 71, 3) := by decide +kernel
theorem dX10_put_21 : decode cX10_put 21 = .ok (.iload_n 1, 1) := by decide +kernel
theorem dX10_put_22 : decode cX10_put 22 = .ok (.aaload, 1) := by decide +kernel
theorem dX10_put_23 : decode cX10_put 23 = .ok (.iload_n 2, 1) := by decide +kernel
theorem dX10_put_24 : decode cX10_put 24 = .ok (.iload_n 3, 1) := by decide +kernel
theorem dX10_put_25 : decode cX10_put 25 = .ok (.invokevirtual 325, 3) := by decide +kernel
theorem dX10_put_28 : decode cX10_put 28 = .ok (.istore 5, 2) := by decide +kernel
theorem dX10_put_30 : decode cX10_put 30 = .ok (.iload 5, 2) := by decide +kernel
theorem dX10_put_32 : decode cX10_put 32 = .ok (.ifCond .eq 10, 3) := by decide +kernel
theorem dX10_put_35 : decode cX10_put 35 = .ok (.aload_n 0, 1) := by decide +kernel
theorem dX10_put_36 : decode cX10_put 36 = .ok (.iload 5, 2) := by decide +kernel
theorem dX10_put_38 : decode cX10_put 38 = .ok (.invokevirtual 146, 3) := by decide +kernel
theorem dX10_put_41 : decode cX10_put 41 = .ok (.ireturn, 1) := by decide +kernel
theorem dX10_put_42 : decode cX10_put 42 = .ok (.aload_n 0, 1) := by decide +kernel
theorem dX10_put_43 : decode cX10_put 43 = .ok (.getfield 71, 3) := by decide +kernel
theorem dX10_put_46 : decode cX10_put 46 = .ok (.iload_n 1, 1) := by decide +kernel
theorem dX10_put_47 : decode cX10_put 47 = .ok (.aaload, 1) := by decide +kernel
theorem dX10_put_48 : decode cX10_put 48 = .ok (.iload_n 3, 1) := by decide +kernel
theorem dX10_put_49 : decode cX10_put 49 = .ok (.iload 4, 2) := by decide +kernel
theorem dX10_put_51 : decode cX10_put 51 = .ok (.invokevirtual 328, 3) := by decide +kernel
theorem dX10_put_54 : decode cX10_put 54 = .ok (.iconst 1, 1) := by decide +kernel
theorem dX10_put_55 : decode cX10_put 55 = .ok (.ireturn, 1) := by decide +kernel
def fX10_put (x0_ : Int32) (x1_ : Int32) (x2_ : Int32) (x3_ : Int32) (s : Sg) : Option (Int32 × Sg) :=
  (fX10_isSheet x0_ s).bind fun w1 =>
  if w1.1 = 0 then
  some ((-2 : Int32), w1.2)
  else
  (fX10_isType x1_ w1.2).bind fun w3 =>
  if w3.1 = 0 then
  some ((-2 : Int32), w3.2)
  else
  (aR 4 x0_).bind fun k4 =>
  (fX5_findingAt (rix 1 k4) x1_ x2_ w3.2).bind fun w6 =>
  if w6.1 = 0 then
  (aR 4 x0_).bind fun k7 =>
  (fX5_setItem (rix 1 k7) x2_ x3_ w6.2).bind fun w9 =>
  some ((1 : Int32), w9)
  else
  (fX10_found w6.1 w6.2).bind fun w11 =>
  some (w11.1, w11.2)
theorem ct_X10_put {g : Gl} {x0_ : Int32} {x1_ : Int32} {x2_ : Int32} {x3_ : Int32} {s : Sg} {w : Int32 × Sg}  (h : fX10_put x0_ x1_ x2_ x3_ s = some w) : Ct SS g iX10_put 2 42 [.ref (gad g 0), .int x0_, .int x1_, .int x2_, .int x3_] s (Dt (some (.int w.1)) w.2) := by
  refine Ct.ofV (by decide +kernel) 1 (lv0 := [some (.ref (gad g 0)), some (.int x0_), some (.int x1_), some (.int x2_), some (.int x3_), none]) rfl rfl (fun M hC => ?_)
  have hP : (Dt (some (.int w.1)) w.2) (some (.int w.1)) w.2 := ⟨rfl, rfl⟩
  generalize Dt (some (.int w.1)) w.2 = P at hP ⊢
  unfold fX10_put at h
  refine v_iload_n (pc := 0) hC dX10_put_0 rfl ?_
  obtain ⟨w1, hw1, h⟩ := obd_s h
  refine v_cS (pc := 1) [] [.int w1.1] gm_X10_isSheet hC (ct_X10_isSheet  hw1) ml_X10_139 rfl rfl rfl rfl rfl rfl dX10_put_1 ?_
  refine v_if_eq (pc := 4) (tgt := 14) hC dX10_put_4 rfl (fun c2 => ?_) (fun c2 => ?_)
  · replace h := (if_pos c2).symm.trans h
    refine v_bipush (pc := 14) (-2 : Int32) rfl hC dX10_put_14 ?_
    obtain rfl := Option.some.inj h
    exact v_iret (pc := 16) hC rfl dX10_put_16 hP
  · replace h := (if_neg c2).symm.trans h
    refine v_iload_n (pc := 7) hC dX10_put_7 rfl ?_
    obtain ⟨w3, hw3, h⟩ := obd_s h
    refine v_cS (pc := 8) [] [.int w3.1] gm_X10_isType hC (ct_X10_isType  hw3) ml_X10_318 rfl rfl rfl rfl rfl rfl dX10_put_8 ?_
    refine v_if_ne (pc := 11) (tgt := 17) hC dX10_put_11 rfl (fun c12 => ?_) (fun c12 => ?_)
    · replace h := (if_neg c12).symm.trans h
      refine v_aload_n (pc := 17) hC dX10_put_17 rfl ?_
      refine v_gt (pc := 18) 7 (.ref (gad g 39)) hC s_0 rfl rfl rfl rfl fl_X10_71 dX10_put_18 ?_
      refine v_iload_n (pc := 21) hC dX10_put_21 rfl ?_
      obtain ⟨k4, hk4, h⟩ := obd_s h
      have hb5 := sh_of (aR_lt hk4)
      refine v_aR (pc := 22) (t := 1) (C := "LaneFour$Sheet") hC s_39 rfl hk4 dX10_put_22 ?_
      refine v_iload_n (pc := 23) hC dX10_put_23 rfl ?_
      refine v_iload_n (pc := 24) hC dX10_put_24 rfl ?_
      obtain ⟨w6, hw6, h⟩ := obd_s h
      refine v_cV (pc := 25) [] [.int w6.1] gm_X5_findingAt hC hb5.1 rfl rfl (ct_X5_findingAt hb5 hw6) ml_X10_325 rfl rfl rfl rfl rfl rfl dX10_put_25 ?_
      refine v_istore (pc := 28) (lv' := [some (.ref (gad g 0)), some (.int x0_), some (.int x1_), some (.int x2_), some (.int x3_), some (.int w6.1)]) hC dX10_put_28 rfl rfl rfl rfl ?_
      refine v_iload (pc := 30) hC dX10_put_30 rfl ?_
      refine v_if_eq (pc := 32) (tgt := 42) hC dX10_put_32 rfl (fun c10 => ?_) (fun c10 => ?_)
      · replace h := (if_pos c10).symm.trans h
        refine v_aload_n (pc := 42) hC dX10_put_42 rfl ?_
        refine v_gt (pc := 43) 7 (.ref (gad g 39)) hC s_0 rfl rfl rfl rfl fl_X10_71 dX10_put_43 ?_
        refine v_iload_n (pc := 46) hC dX10_put_46 rfl ?_
        obtain ⟨k7, hk7, h⟩ := obd_s h
        have hb8 := sh_of (aR_lt hk7)
        refine v_aR (pc := 47) (t := 1) (C := "LaneFour$Sheet") hC s_39 rfl hk7 dX10_put_47 ?_
        refine v_iload_n (pc := 48) hC dX10_put_48 rfl ?_
        refine v_iload (pc := 49) hC dX10_put_49 rfl ?_
        obtain ⟨w9, hw9, h⟩ := obd_s h
        refine v_cV (pc := 51) [] [] gm_X5_setItem hC hb8.1 rfl rfl (ct_X5_setItem hb8 hw9) ml_X10_328 rfl rfl rfl rfl rfl rfl dX10_put_51 ?_
        refine v_iconst (pc := 54) (1 : Int32) rfl hC dX10_put_54 ?_
        obtain rfl := Option.some.inj h
        exact v_iret (pc := 55) hC rfl dX10_put_55 hP
      · replace h := (if_neg c10).symm.trans h
        refine v_aload_n (pc := 35) hC dX10_put_35 rfl ?_
        refine v_iload (pc := 36) hC dX10_put_36 rfl ?_
        obtain ⟨w11, hw11, h⟩ := obd_s h
        refine v_cV (pc := 38) [] [.int w11.1] gm_X10_found hC s_0 rfl rfl (ct_X10_found  hw11) ml_X10_146 rfl rfl rfl rfl rfl rfl dX10_put_38 ?_
        obtain rfl := Option.some.inj h
        exact v_iret (pc := 41) hC rfl dX10_put_41 hP
    · replace h := (if_pos c12).symm.trans h
      refine v_bipush (pc := 14) (-2 : Int32) rfl hC dX10_put_14 ?_
      obtain rfl := Option.some.inj h
      exact v_iret (pc := 16) hC rfl dX10_put_16 hP
theorem dX10_get_0 : decode cX10_get 0 = .ok (.iload_n 1, 1) := by decide +kernel
theorem dX10_get_1 : decode cX10_get 1 = .ok (.invokestatic 139, 3) := by decide +kernel
theorem dX10_get_4 : decode cX10_get 4 = .ok (.ifCond .eq 10, 3) := by decide +kernel
theorem dX10_get_7 : decode cX10_get 7 = .ok (.iload_n 2, 1) := by decide +kernel
theorem dX10_get_8 : decode cX10_get 8 = .ok (.invokestatic 318, 3) := by decide +kernel
theorem dX10_get_11 : decode cX10_get 11 = .ok (.ifCond .ne 7, 3) := by decide +kernel
theorem dX10_get_14 : decode cX10_get 14 = .ok (.ldc_w 331, 3) := by decide +kernel
theorem dX10_get_17 : decode cX10_get 17 = .ok (.ireturn, 1) := by decide +kernel
theorem dX10_get_18 : decode cX10_get 18 = .ok (.aload_n 0, 1) := by decide +kernel
theorem dX10_get_19 : decode cX10_get 19 = .ok (.getfield 71, 3) := by decide +kernel
theorem dX10_get_22 : decode cX10_get 22 = .ok (.iload_n 1, 1) := by decide +kernel
theorem dX10_get_23 : decode cX10_get 23 = .ok (.aaload, 1) := by decide +kernel
theorem dX10_get_24 : decode cX10_get 24 = .ok (.iload_n 2, 1) := by decide +kernel
theorem dX10_get_25 : decode cX10_get 25 = .ok (.iload_n 3, 1) := by decide +kernel
theorem dX10_get_26 : decode cX10_get 26 = .ok (.invokevirtual 325, 3) := by decide +kernel
theorem dX10_get_29 : decode cX10_get 29 = .ok (.istore 4, 2) := by decide +kernel
theorem dX10_get_31 : decode cX10_get 31 = .ok (.iload 4, 2) := by decide +kernel
theorem dX10_get_33 : decode cX10_get 33 = .ok (.ifCond .eq 14, 3) := by decide +kernel
theorem dX10_get_36 : decode cX10_get 36 = .ok (.aload_n 0, 1) := by decide +kernel
theorem dX10_get_37 : decode cX10_get 37 = .ok (.iload 4, 2) := by decide +kernel
theorem dX10_get_39 : decode cX10_get 39 = .ok (.invokevirtual 146, 3) := by decide +kernel
theorem dX10_get_42 : decode cX10_get 42 = .ok (.pop, 1) := by decide +kernel
theorem dX10_get_43 : decode cX10_get 43 = .ok (.ldc_w 331, 3) := by decide +kernel
theorem dX10_get_46 : decode cX10_get 46 = .ok (.ireturn, 1) := by decide +kernel
theorem dX10_get_47 : decode cX10_get 47 = .ok (.aload_n 0, 1) := by decide +kernel
theorem dX10_get_48 : decode cX10_get 48 = .ok (.getfield 71, 3) := by decide +kernel
theorem dX10_get_51 : decode cX10_get 51 = .ok (.iload_n 1, 1) := by decide +kernel
theorem dX10_get_52 : decode cX10_get 52 = .ok (.aaload, 1) := by decide +kernel
theorem dX10_get_53 : decode cX10_get 53 = .ok (.getfield 157, 3) := by decide +kernel
theorem dX10_get_56 : decode cX10_get 56 = .ok (.iload_n 3, 1) := by decide +kernel
theorem dX10_get_57 : decode cX10_get 57 = .ok (.iaload, 1) := by decide +kernel
theorem dX10_get_58 : decode cX10_get 58 = .ok (.ireturn, 1) := by decide +kernel
def fX10_get (x0_ : Int32) (x1_ : Int32) (x2_ : Int32) (s : Sg) : Option (Int32 × Sg) :=
  (fX10_isSheet x0_ s).bind fun w1 =>
  if w1.1 = 0 then
  some ((-2147483648 : Int32), w1.2)
  else
  (fX10_isType x1_ w1.2).bind fun w3 =>
  if w3.1 = 0 then
  some ((-2147483648 : Int32), w3.2)
  else
  (aR 4 x0_).bind fun k4 =>
  (fX5_findingAt (rix 1 k4) x1_ x2_ w3.2).bind fun w6 =>
  if w6.1 = 0 then
  (aR 4 x0_).bind fun k7 =>
  (aI w6.2 ((rix 1 k7) + 1) 48 x2_).bind fun v9 =>
  some (v9, w6.2)
  else
  (fX10_found w6.1 w6.2).bind fun w11 =>
  some ((-2147483648 : Int32), w11.2)
theorem ct_X10_get {g : Gl} {x0_ : Int32} {x1_ : Int32} {x2_ : Int32} {s : Sg} {w : Int32 × Sg}  (h : fX10_get x0_ x1_ x2_ s = some w) : Ct SS g iX10_get 2 42 [.ref (gad g 0), .int x0_, .int x1_, .int x2_] s (Dt (some (.int w.1)) w.2) := by
  refine Ct.ofV (by decide +kernel) 1 (lv0 := [some (.ref (gad g 0)), some (.int x0_), some (.int x1_), some (.int x2_), none]) rfl rfl (fun M hC => ?_)
  have hP : (Dt (some (.int w.1)) w.2) (some (.int w.1)) w.2 := ⟨rfl, rfl⟩
  generalize Dt (some (.int w.1)) w.2 = P at hP ⊢
  unfold fX10_get at h
  refine v_iload_n (pc := 0) hC dX10_get_0 rfl ?_
  obtain ⟨w1, hw1, h⟩ := obd_s h
  refine v_cS (pc := 1) [] [.int w1.1] gm_X10_isSheet hC (ct_X10_isSheet  hw1) ml_X10_139 rfl rfl rfl rfl rfl rfl dX10_get_1 ?_
  refine v_if_eq (pc := 4) (tgt := 14) hC dX10_get_4 rfl (fun c2 => ?_) (fun c2 => ?_)
  · replace h := (if_pos c2).symm.trans h
    refine v_ldcw (pc := 14) (-2147483648 : Int32) kc_X10_331 hC dX10_get_14 ?_
    obtain rfl := Option.some.inj h
    exact v_iret (pc := 17) hC rfl dX10_get_17 hP
  · replace h := (if_neg c2).symm.trans h
    refine v_iload_n (pc := 7) hC dX10_get_7 rfl ?_
    obtain ⟨w3, hw3, h⟩ := obd_s h
    refine v_cS (pc := 8) [] [.int w3.1] gm_X10_isType hC (ct_X10_isType  hw3) ml_X10_318 rfl rfl rfl rfl rfl rfl dX10_get_8 ?_
    refine v_if_ne (pc := 11) (tgt := 18) hC dX10_get_11 rfl (fun c12 => ?_) (fun c12 => ?_)
    · replace h := (if_neg c12).symm.trans h
      refine v_aload_n (pc := 18) hC dX10_get_18 rfl ?_
      refine v_gt (pc := 19) 7 (.ref (gad g 39)) hC s_0 rfl rfl rfl rfl fl_X10_71 dX10_get_19 ?_
      refine v_iload_n (pc := 22) hC dX10_get_22 rfl ?_
      obtain ⟨k4, hk4, h⟩ := obd_s h
      have hb5 := sh_of (aR_lt hk4)
      refine v_aR (pc := 23) (t := 1) (C := "LaneFour$Sheet") hC s_39 rfl hk4 dX10_get_23 ?_
      refine v_iload_n (pc := 24) hC dX10_get_24 rfl ?_
      refine v_iload_n (pc := 25) hC dX10_get_25 rfl ?_
      obtain ⟨w6, hw6, h⟩ := obd_s h
      refine v_cV (pc := 26) [] [.int w6.1] gm_X5_findingAt hC hb5.1 rfl rfl (ct_X5_findingAt hb5 hw6) ml_X10_325 rfl rfl rfl rfl rfl rfl dX10_get_26 ?_
      refine v_istore (pc := 29) (lv' := [some (.ref (gad g 0)), some (.int x0_), some (.int x1_), some (.int x2_), some (.int w6.1)]) hC dX10_get_29 rfl rfl rfl rfl ?_
      refine v_iload (pc := 31) hC dX10_get_31 rfl ?_
      refine v_if_eq (pc := 33) (tgt := 47) hC dX10_get_33 rfl (fun c10 => ?_) (fun c10 => ?_)
      · replace h := (if_pos c10).symm.trans h
        refine v_aload_n (pc := 47) hC dX10_get_47 rfl ?_
        refine v_gt (pc := 48) 7 (.ref (gad g 39)) hC s_0 rfl rfl rfl rfl fl_X10_71 dX10_get_48 ?_
        refine v_iload_n (pc := 51) hC dX10_get_51 rfl ?_
        obtain ⟨k7, hk7, h⟩ := obd_s h
        have hb8 := sh_of (aR_lt hk7)
        refine v_aR (pc := 52) (t := 1) (C := "LaneFour$Sheet") hC s_39 rfl hk7 dX10_get_52 ?_
        refine v_gtN (pc := 53) 3 (.ref (gad g ((rix 1 k7) + 1))) hC hb8.1 rfl rfl rfl rfl fl_X10_157 dX10_get_53 ?_
        refine v_iload_n (pc := 56) hC dX10_get_56 rfl ?_
        obtain ⟨v9, hv9, h⟩ := obd_s h
        refine v_aI (pc := 57) hC hb8.2 hv9 dX10_get_57 ?_
        obtain rfl := Option.some.inj h
        exact v_iret (pc := 58) hC rfl dX10_get_58 hP
      · replace h := (if_neg c10).symm.trans h
        refine v_aload_n (pc := 36) hC dX10_get_36 rfl ?_
        refine v_iload (pc := 37) hC dX10_get_37 rfl ?_
        obtain ⟨w11, hw11, h⟩ := obd_s h
        refine v_cV (pc := 39) [] [.int w11.1] gm_X10_found hC s_0 rfl rfl (ct_X10_found  hw11) ml_X10_146 rfl rfl rfl rfl rfl rfl dX10_get_39 ?_
        refine v_pop (pc := 42) hC rfl dX10_get_42 ?_
        refine v_ldcw (pc := 43) (-2147483648 : Int32) kc_X10_331 hC dX10_get_43 ?_
        obtain rfl := Option.some.inj h
        exact v_iret (pc := 46) hC rfl dX10_get_46 hP
    · replace h := (if_pos c12).symm.trans h
      refine v_ldcw (pc := 14) (-2147483648 : Int32) kc_X10_331 hC dX10_get_14 ?_
      obtain rfl := Option.some.inj h
      exact v_iret (pc := 17) hC rfl dX10_get_17 hP
theorem dX10_copy_0 : decode cX10_copy 0 = .ok (.iload_n 1, 1) := by decide +kernel
theorem dX10_copy_1 : decode cX10_copy 1 = .ok (.invokestatic 139, 3) := by decide +kernel
theorem dX10_copy_4 : decode cX10_copy 4 = .ok (.ifCond .eq 10, 3) := by decide +kernel
theorem dX10_copy_7 : decode cX10_copy 7 = .ok (.iload_n 3, 1) := by decide +kernel
theorem dX10_copy_8 : decode cX10_copy 8 = .ok (.invokestatic 139, 3) := by decide +kernel
theorem dX10_copy_11 : decode cX10_copy 11 = .ok (.ifCond .ne 6, 3) := by decide +kernel
theorem dX10_copy_14 : decode cX10_copy 14 = .ok (.bipush (-2), 2) := by decide +kernel
theorem dX10_copy_16 : decode cX10_copy 16 = .ok (.ireturn, 1) := by decide +kernel
theorem dX10_copy_17 : decode cX10_copy 17 = .ok (.aload_n 0, 1) := by decide +kernel
theorem dX10_copy_18 : decode cX10_copy 18 = .ok (.getfield 71, 3) := by decide +kernel
theorem dX10_copy_21 : decode cX10_copy 21 = .ok (.iload_n 1, 1) := by decide +kernel
theorem dX10_copy_22 : decode cX10_copy 22 = .ok (.aaload, 1) := by decide +kernel
theorem dX10_copy_23 : decode cX10_copy 23 = .ok (.astore 6, 2) := by decide +kernel
theorem dX10_copy_25 : decode cX10_copy 25 = .ok (.aload_n 0, 1) := by decide +kernel
theorem dX10_copy_26 : decode cX10_copy 26 = .ok (.getfield 71, 3) := by decide +kernel
theorem dX10_copy_29 : decode cX10_copy 29 = .ok (.iload_n 3, 1) := by decide +kernel
theorem dX10_copy_30 : decode cX10_copy 30 = .ok (.aaload, 1) := by decide +kernel
theorem dX10_copy_31 : decode cX10_copy 31 = .ok (.astore 7, 2) := by decide +kernel
theorem dX10_copy_33 : decode cX10_copy 33 = .ok (.aload 6, 2) := by decide +kernel
theorem dX10_copy_35 : decode cX10_copy 35 = .ok (.getfield 142, 3) := by decide +kernel
theorem dX10_copy_38 : decode cX10_copy 38 = .ok (.ifCond .ne 11, 3) := by decide +kernel
theorem dX10_copy_41 : decode cX10_copy 41 = .ok (.aload 7, 2) := by decide +kernel
theorem dX10_copy_43 : decode cX10_copy 43 = .ok (.getfield 142, 3) := by decide +kernel
theorem dX10_copy_46 : decode cX10_copy 46 = .ok (.ifCond .eq 9, 3) := by decide +kernel
theorem dX10_copy_49 : decode cX10_copy 49 = .ok (.aload_n 0, 1) := by decide +kernel
theorem dX10_copy_50 : decode cX10_copy 50 = .ok (.iconst 1, 1) := by decide +kernel
theorem dX10_copy_51 : decode cX10_copy 51 = .ok (.invokevirtual 146, 3) := by decide +kernel
theorem dX10_copy_54 : decode cX10_copy 54 = .ok (.ireturn, 1) := by decide +kernel
theorem dX10_copy_55 : decode cX10_copy 55 = .ok (.aload 6, 2) := by decide +kernel
theorem dX10_copy_57 : decode cX10_copy 57 = .ok (.getfield 332, 3) := by decide +kernel
theorem dX10_copy_60 : decode cX10_copy 60 = .ok (.aload 7, 2) := by decide +kernel
theorem dX10_copy_62 : decode cX10_copy 62 = .ok (.getfield 332, 3) := by decide +kernel
theorem dX10_copy_65 : decode cX10_copy 65 = .ok (.if_icmp .eq 9, 3) := by decide +kernel
theorem dX10_copy_68 : decode cX10_copy 68 = .ok (.aload_n 0, 1) := by decide +kernel
theorem dX10_copy_69 : decode cX10_copy 69 = .ok (.iconst 4, 1) := by decide +kernel
theorem dX10_copy_70 : decode cX10_copy 70 = .ok (.invokevirtual 146, 3) := by decide +kernel
theorem dX10_copy_73 : decode cX10_copy 73 = .ok (.ireturn, 1) := by decide +kernel
theorem dX10_copy_74 : decode cX10_copy 74 = .ok (.aload 6, 2) := by decide +kernel
theorem dX10_copy_76 : decode cX10_copy 76 = .ok (.iload_n 2, 1) := by decide +kernel
theorem dX10_copy_77 : decode cX10_copy 77 = .ok (.iload 5, 2) := by decide +kernel
theorem dX10_copy_79 : decode cX10_copy 79 = .ok (.invokevirtual 335, 3) := by decide +kernel
theorem dX10_copy_82 : decode cX10_copy 82 = .ok (.ifCond .eq 15, 3) := by decide +kernel
theorem dX10_copy_85 : decode cX10_copy 85 = .ok (.aload 7, 2) := by decide +kernel
theorem dX10_copy_87 : decode cX10_copy 87 = .ok (.iload 4, 2) := by decide +kernel
theorem dX10_copy_89 : decode cX10_copy 89 = .ok (.iload 5, 2) := by decide +kernel
theorem dX10_copy_91 : decode cX10_copy 91 = .ok (.invokevirtual 335, 3) := by decide +kernel
theorem dX10_copy_94 : decode cX10_copy 94 = .ok (.ifCond .ne 9, 3) := by decide +kernel
theorem dX10_copy_97 : decode cX10_copy 97 = .ok (.aload_n 0, 1) := by decide +kernel
theorem dX10_copy_98 : decode cX10_copy 98 = .ok (.iconst 2, 1) := by decide +kernel
theorem dX10_copy_99 : decode cX10_copy 99 = .ok (.invokevirtual 146, 3) := by decide +kernel
theorem dX10_copy_102 : decode cX10_copy 102 = .ok (.ireturn, 1) := by decide +kernel
theorem dX10_copy_103 : decode cX10_copy 103 = .ok (.aload 6, 2) := by decide +kernel
theorem dX10_copy_105 : decode cX10_copy 105 = .ok (.getfield 157, 3) := by decide +kernel
theorem dX10_copy_108 : decode cX10_copy 108 = .ok (.iload_n 2, 1) := by decide +kernel
theorem dX10_copy_109 : decode cX10_copy 109 = .ok (.aload 7, 2) := by decide +kernel
theorem dX10_copy_111 : decode cX10_copy 111 = .ok (.getfield 157, 3) := by decide +kernel
theorem dX10_copy_114 : decode cX10_copy 114 = .ok (.iload 4, 2) := by decide +kernel
theorem dX10_copy_116 : decode cX10_copy 116 = .ok (.iload 5, 2) := by decide +kernel
theorem dX10_copy_118 : decode cX10_copy 118 = .ok (.invokestatic 338, 3) := by decide +kernel
theorem dX10_copy_121 : decode cX10_copy 121 = .ok (.iconst 1, 1) := by decide +kernel
theorem dX10_copy_122 : decode cX10_copy 122 = .ok (.ireturn, 1) := by decide +kernel
def fX10_copy (x0_ : Int32) (x1_ : Int32) (x2_ : Int32) (x3_ : Int32) (x4_ : Int32) (s : Sg) : Option (Int32 × Sg) :=
  (fX10_isSheet x0_ s).bind fun w1 =>
  if w1.1 = 0 then
  some ((-2 : Int32), w1.2)
  else
  (fX10_isSheet x2_ w1.2).bind fun w3 =>
  if w3.1 = 0 then
  some ((-2 : Int32), w3.2)
  else
  (aR 4 x0_).bind fun k4 =>
  (aR 4 x2_).bind fun k6 =>
  if (gI w3.2 (rix 1 k4) 0) = 0 then
  if (gI w3.2 (rix 1 k6) 0) = 0 then
  if (gI w3.2 (rix 1 k4) 1) = (gI w3.2 (rix 1 k6) 1) then
  (fX5_hasItems (rix 1 k4) x1_ x4_ w3.2).bind fun w10 =>
  if w10.1 = 0 then
  (fX10_found (2 : Int32) w10.2).bind fun w11 =>
  some (w11.1, w11.2)
  else
  (fX5_hasItems (rix 1 k6) x3_ x4_ w10.2).bind fun w13 =>
  if w13.1 = 0 then
  (fX10_found (2 : Int32) w13.2).bind fun w16 =>
  some (w16.1, w16.2)
  else
  (cpO w13.2 ((rix 1 k4) + 1) 48 ((rix 1 k6) + 1) 48 x1_ x3_ x4_).bind fun s14 =>
  some ((1 : Int32), s14)
  else
  (fX10_found (4 : Int32) w3.2).bind fun w18 =>
  some (w18.1, w18.2)
  else
  (fX10_found (1 : Int32) w3.2).bind fun w20 =>
  some (w20.1, w20.2)
  else
  (fX10_found (1 : Int32) w3.2).bind fun w8 =>
  some (w8.1, w8.2)
theorem ct_X10_copy {g : Gl} {x0_ : Int32} {x1_ : Int32} {x2_ : Int32} {x3_ : Int32} {x4_ : Int32} {s : Sg} {w : Int32 × Sg}  (h : fX10_copy x0_ x1_ x2_ x3_ x4_ s = some w) : Ct SS g iX10_copy 2 64 [.ref (gad g 0), .int x0_, .int x1_, .int x2_, .int x3_, .int x4_] s (Dt (some (.int w.1)) w.2) := by
  refine Ct.ofV (by decide +kernel) 2 (lv0 := [some (.ref (gad g 0)), some (.int x0_), some (.int x1_), some (.int x2_), some (.int x3_), some (.int x4_), none, none]) rfl rfl (fun M hC => ?_)
  have hP : (Dt (some (.int w.1)) w.2) (some (.int w.1)) w.2 := ⟨rfl, rfl⟩
  generalize Dt (some (.int w.1)) w.2 = P at hP ⊢
  unfold fX10_copy at h
  refine v_iload_n (pc := 0) hC dX10_copy_0 rfl ?_
  obtain ⟨w1, hw1, h⟩ := obd_s h
  refine v_cS (pc := 1) [] [.int w1.1] gm_X10_isSheet hC (ct_X10_isSheet  hw1) ml_X10_139 rfl rfl rfl rfl rfl rfl dX10_copy_1 ?_
  refine v_if_eq (pc := 4) (tgt := 14) hC dX10_copy_4 rfl (fun c2 => ?_) (fun c2 => ?_)
  · replace h := (if_pos c2).symm.trans h
    refine v_bipush (pc := 14) (-2 : Int32) rfl hC dX10_copy_14 ?_
    obtain rfl := Option.some.inj h
    exact v_iret (pc := 16) hC rfl dX10_copy_16 hP
  · replace h := (if_neg c2).symm.trans h
    refine v_iload_n (pc := 7) hC dX10_copy_7 rfl ?_
    obtain ⟨w3, hw3, h⟩ := obd_s h
    refine v_cS (pc := 8) [] [.int w3.1] gm_X10_isSheet hC (ct_X10_isSheet  hw3) ml_X10_139 rfl rfl rfl rfl rfl rfl dX10_copy_8 ?_
    refine v_if_ne (pc := 11) (tgt := 17) hC dX10_copy_11 rfl (fun c21 => ?_) (fun c21 => ?_)
    · replace h := (if_neg c21).symm.trans h
      refine v_aload_n (pc := 17) hC dX10_copy_17 rfl ?_
      refine v_gt (pc := 18) 7 (.ref (gad g 39)) hC s_0 rfl rfl rfl rfl fl_X10_71 dX10_copy_18 ?_
      refine v_iload_n (pc := 21) hC dX10_copy_21 rfl ?_
      obtain ⟨k4, hk4, h⟩ := obd_s h
      have hb5 := sh_of (aR_lt hk4)
      refine v_aR (pc := 22) (t := 1) (C := "LaneFour$Sheet") hC s_39 rfl hk4 dX10_copy_22 ?_
      refine v_astore (pc := 23) (lv' := [some (.ref (gad g 0)), some (.int x0_), some (.int x1_), some (.int x2_), some (.int x3_), some (.int x4_), some (.ref (gad g (rix 1 k4))), none]) hC dX10_copy_23 rfl rfl rfl rfl ?_
      refine v_aload_n (pc := 25) hC dX10_copy_25 rfl ?_
      refine v_gt (pc := 26) 7 (.ref (gad g 39)) hC s_0 rfl rfl rfl rfl fl_X10_71 dX10_copy_26 ?_
      refine v_iload_n (pc := 29) hC dX10_copy_29 rfl ?_
      obtain ⟨k6, hk6, h⟩ := obd_s h
      have hb7 := sh_of (aR_lt hk6)
      refine v_aR (pc := 30) (t := 1) (C := "LaneFour$Sheet") hC s_39 rfl hk6 dX10_copy_30 ?_
      refine v_astore (pc := 31) (lv' := [some (.ref (gad g 0)), some (.int x0_), some (.int x1_), some (.int x2_), some (.int x3_), some (.int x4_), some (.ref (gad g (rix 1 k4))), some (.ref (gad g (rix 1 k6)))]) hC dX10_copy_31 rfl rfl rfl rfl ?_
      refine v_aload (pc := 33) hC dX10_copy_33 rfl ?_
      refine v_gtN (pc := 35) 0 (.int (gI w3.2 (rix 1 k4) 0)) hC hb5.1 rfl rfl rfl rfl fl_X10_142 dX10_copy_35 ?_
      refine v_if_ne (pc := 38) (tgt := 49) hC dX10_copy_38 rfl (fun c9 => ?_) (fun c9 => ?_)
      · replace h := (if_neg c9).symm.trans h
        refine v_aload_n (pc := 49) hC dX10_copy_49 rfl ?_
        refine v_iconst (pc := 50) (1 : Int32) rfl hC dX10_copy_50 ?_
        obtain ⟨w8, hw8, h⟩ := obd_s h
        refine v_cV (pc := 51) [] [.int w8.1] gm_X10_found hC s_0 rfl rfl (ct_X10_found  hw8) ml_X10_146 rfl rfl rfl rfl rfl rfl dX10_copy_51 ?_
        obtain rfl := Option.some.inj h
        exact v_iret (pc := 54) hC rfl dX10_copy_54 hP
      · replace h := (if_pos c9).symm.trans h
        refine v_aload (pc := 41) hC dX10_copy_41 rfl ?_
        refine v_gtN (pc := 43) 0 (.int (gI w3.2 (rix 1 k6) 0)) hC hb7.1 rfl rfl rfl rfl fl_X10_142 dX10_copy_43 ?_
        refine v_if_eq (pc := 46) (tgt := 55) hC dX10_copy_46 rfl (fun c19 => ?_) (fun c19 => ?_)
        · replace h := (if_pos c19).symm.trans h
          refine v_aload (pc := 55) hC dX10_copy_55 rfl ?_
          refine v_gtN (pc := 57) 1 (.int (gI w3.2 (rix 1 k4) 1)) hC hb5.1 rfl rfl rfl rfl fl_X10_332 dX10_copy_57 ?_
          refine v_aload (pc := 60) hC dX10_copy_60 rfl ?_
          refine v_gtN (pc := 62) 1 (.int (gI w3.2 (rix 1 k6) 1)) hC hb7.1 rfl rfl rfl rfl fl_X10_332 dX10_copy_62 ?_
          refine v_ic_eq (pc := 65) (tgt := 74) hC dX10_copy_65 rfl (fun c17 => ?_) (fun c17 => ?_)
          · replace h := (if_pos c17).symm.trans h
            refine v_aload (pc := 74) hC dX10_copy_74 rfl ?_
            refine v_iload_n (pc := 76) hC dX10_copy_76 rfl ?_
            refine v_iload (pc := 77) hC dX10_copy_77 rfl ?_
            obtain ⟨w10, hw10, h⟩ := obd_s h
            refine v_cV (pc := 79) [] [.int w10.1] gm_X5_hasItems hC hb5.1 rfl rfl (ct_X5_hasItems hb5 hw10) ml_X10_335 rfl rfl rfl rfl rfl rfl dX10_copy_79 ?_
            refine v_if_eq (pc := 82) (tgt := 97) hC dX10_copy_82 rfl (fun c12 => ?_) (fun c12 => ?_)
            · replace h := (if_pos c12).symm.trans h
              refine v_aload_n (pc := 97) hC dX10_copy_97 rfl ?_
              refine v_iconst (pc := 98) (2 : Int32) rfl hC dX10_copy_98 ?_
              obtain ⟨w11, hw11, h⟩ := obd_s h
              refine v_cV (pc := 99) [] [.int w11.1] gm_X10_found hC s_0 rfl rfl (ct_X10_found  hw11) ml_X10_146 rfl rfl rfl rfl rfl rfl dX10_copy_99 ?_
              obtain rfl := Option.some.inj h
              exact v_iret (pc := 102) hC rfl dX10_copy_102 hP
            · replace h := (if_neg c12).symm.trans h
              refine v_aload (pc := 85) hC dX10_copy_85 rfl ?_
              refine v_iload (pc := 87) hC dX10_copy_87 rfl ?_
              refine v_iload (pc := 89) hC dX10_copy_89 rfl ?_
              obtain ⟨w13, hw13, h⟩ := obd_s h
              refine v_cV (pc := 91) [] [.int w13.1] gm_X5_hasItems hC hb7.1 rfl rfl (ct_X5_hasItems hb7 hw13) ml_X10_335 rfl rfl rfl rfl rfl rfl dX10_copy_91 ?_
              refine v_if_ne (pc := 94) (tgt := 103) hC dX10_copy_94 rfl (fun c15 => ?_) (fun c15 => ?_)
              · replace h := (if_neg c15).symm.trans h
                refine v_aload (pc := 103) hC dX10_copy_103 rfl ?_
                refine v_gtN (pc := 105) 3 (.ref (gad g ((rix 1 k4) + 1))) hC hb5.1 rfl rfl rfl rfl fl_X10_157 dX10_copy_105 ?_
                refine v_iload_n (pc := 108) hC dX10_copy_108 rfl ?_
                refine v_aload (pc := 109) hC dX10_copy_109 rfl ?_
                refine v_gtN (pc := 111) 3 (.ref (gad g ((rix 1 k6) + 1))) hC hb7.1 rfl rfl rfl rfl fl_X10_157 dX10_copy_111 ?_
                refine v_iload (pc := 114) hC dX10_copy_114 rfl ?_
                refine v_iload (pc := 116) hC dX10_copy_116 rfl ?_
                obtain ⟨s14, hs14, h⟩ := obd_s h
                refine v_cpO (pc := 118) hC hb5.2 hb7.2 hs14 ml_X10_338 z_acn z_acs z_aci rfl rfl dX10_copy_118 ?_
                refine v_iconst (pc := 121) (1 : Int32) rfl hC dX10_copy_121 ?_
                obtain rfl := Option.some.inj h
                exact v_iret (pc := 122) hC rfl dX10_copy_122 hP
              · replace h := (if_pos c15).symm.trans h
                refine v_aload_n (pc := 97) hC dX10_copy_97 rfl ?_
                refine v_iconst (pc := 98) (2 : Int32) rfl hC dX10_copy_98 ?_
                obtain ⟨w16, hw16, h⟩ := obd_s h
                refine v_cV (pc := 99) [] [.int w16.1] gm_X10_found hC s_0 rfl rfl (ct_X10_found  hw16) ml_X10_146 rfl rfl rfl rfl rfl rfl dX10_copy_99 ?_
                obtain rfl := Option.some.inj h
                exact v_iret (pc := 102) hC rfl dX10_copy_102 hP
          · replace h := (if_neg c17).symm.trans h
            refine v_aload_n (pc := 68) hC dX10_copy_68 rfl ?_
            refine v_iconst (pc := 69) (4 : Int32) rfl hC dX10_copy_69 ?_
            obtain ⟨w18, hw18, h⟩ := obd_s h
            refine v_cV (pc := 70) [] [.int w18.1] gm_X10_found hC s_0 rfl rfl (ct_X10_found  hw18) ml_X10_146 rfl rfl rfl rfl rfl rfl dX10_copy_70 ?_
            obtain rfl := Option.some.inj h
            exact v_iret (pc := 73) hC rfl dX10_copy_73 hP
        · replace h := (if_neg c19).symm.trans h
          refine v_aload_n (pc := 49) hC dX10_copy_49 rfl ?_
          refine v_iconst (pc := 50) (1 : Int32) rfl hC dX10_copy_50 ?_
          obtain ⟨w20, hw20, h⟩ := obd_s h
          refine v_cV (pc := 51) [] [.int w20.1] gm_X10_found hC s_0 rfl rfl (ct_X10_found  hw20) ml_X10_146 rfl rfl rfl rfl rfl rfl dX10_copy_51 ?_
          obtain rfl := Option.some.inj h
          exact v_iret (pc := 54) hC rfl dX10_copy_54 hP
    · replace h := (if_pos c21).symm.trans h
      refine v_bipush (pc := 14) (-2 : Int32) rfl hC dX10_copy_14 ?_
      obtain rfl := Option.some.inj h
      exact v_iret (pc := 16) hC rfl dX10_copy_16 hP
theorem dX10_write_0 : decode cX10_write 0 = .ok (.aload_n 0, 1) := by decide +kernel
theorem dX10_write_1 : decode cX10_write 1 = .ok (.getfield 28, 3) := by decide +kernel
theorem dX10_write_4 : decode cX10_write 4 = .ok (.iload_n 1, 1) := by decide +kernel
theorem dX10_write_5 : decode cX10_write 5 = .ok (.invokevirtual 119, 3) := by decide +kernel
theorem dX10_write_8 : decode cX10_write 8 = .ok (.ifCond .eq 10, 3) := by decide +kernel
theorem dX10_write_11 : decode cX10_write 11 = .ok (.iload_n 2, 1) := by decide +kernel
theorem dX10_write_12 : decode cX10_write 12 = .ok (.invokestatic 139, 3) := by decide +kernel
theorem dX10_write_15 : decode cX10_write 15 = .ok (.ifCond .ne 6, 3) := by decide +kernel
theorem dX10_write_18 : decode cX10_write 18 = .ok (.bipush (-2), 2) := by decide +kernel
theorem dX10_write_20 : decode cX10_write 20 = .ok (.ireturn, 1) := by decide +kernel
theorem dX10_write_21 : decode cX10_write 21 = .ok (.aload_n 0, 1) := by decide +kernel
theorem dX10_write_22 : decode cX10_write 22 = .ok (.getfield 71, 3) := by decide +kernel
theorem dX10_write_25 : decode cX10_write 25 = .ok (.iload_n 2, 1) := by decide +kernel
theorem dX10_write_26 : decode cX10_write 26 = .ok (.aaload, 1) := by decide +kernel
theorem dX10_write_27 : decode cX10_write 27 = .ok (.astore_n 3, 1) := by decide +kernel
theorem dX10_write_28 : decode cX10_write 28 = .ok (.aload_n 3, 1) := by decide +kernel
theorem dX10_write_29 : decode cX10_write 29 = .ok (.getfield 142, 3) := by decide +kernel
theorem dX10_write_32 : decode cX10_write 32 = .ok (.ifCond .eq 9, 3) := by decide +kernel
theorem dX10_write_35 : decode cX10_write 35 = .ok (.aload_n 0, 1) := by decide +kernel
theorem dX10_write_36 : decode cX10_write 36 = .ok (.iconst 1, 1) := by decide +kernel
theorem dX10_write_37 : decode cX10_write 37 = .ok (.invokevirtual 146, 3) := by decide +kernel
theorem dX10_write_40 : decode cX10_write 40 = .ok (.ireturn, 1) := by decide +kernel
theorem dX10_write_41 : decode cX10_write 41 = .ok (.aload_n 3, 1) := by decide +kernel
theorem dX10_write_42 : decode cX10_write 42 = .ok (.getfield 149, 3) := by decide +kernel
theorem dX10_write_45 : decode cX10_write 45 = .ok (.aload_n 0, 1) := by decide +kernel
theorem dX10_write_46 : decode cX10_write 46 = .ok (.getfield 28, 3) := by decide +kernel
theorem dX10_write_49 : decode cX10_write 49 = .ok (.iload_n 1, 1) := by decide +kernel
theorem dX10_write_50 : decode cX10_write 50 = .ok (.invokevirtual 122, 3) := by decide +kernel
theorem dX10_write_53 : decode cX10_write 53 = .ok (.invokestatic 152, 3) := by decide +kernel
theorem dX10_write_56 : decode cX10_write 56 = .ok (.istore 4, 2) := by decide +kernel
theorem dX10_write_58 : decode cX10_write 58 = .ok (.iconst 0, 1) := by decide +kernel
theorem dX10_write_59 : decode cX10_write 59 = .ok (.istore 5, 2) := by decide +kernel
theorem dX10_write_61 : decode cX10_write 61 = .ok (.iload 5, 2) := by decide +kernel
theorem dX10_write_63 : decode cX10_write 63 = .ok (.iload 4, 2) := by decide +kernel
theorem dX10_write_65 : decode cX10_write 65 = .ok (.if_icmp .ge 25, 3) := by decide +kernel
theorem dX10_write_68 : decode cX10_write 68 = .ok (.aload_n 3, 1) := by decide +kernel
theorem dX10_write_69 : decode cX10_write 69 = .ok (.iload 5, 2) := by decide +kernel
theorem dX10_write_71 : decode cX10_write 71 = .ok (.aload_n 0, 1) := by decide +kernel
theorem dX10_write_72 : decode cX10_write 72 = .ok (.getfield 28, 3) := by decide +kernel
theorem dX10_write_75 : decode cX10_write 75 = .ok (.iload_n 1, 1) := by decide +kernel
theorem dX10_write_76 : decode cX10_write 76 = .ok (.iload 5, 2) := by decide +kernel
theorem dX10_write_78 : decode cX10_write 78 = .ok (.invokevirtual 132, 3) := by decide +kernel
theorem dX10_write_81 : decode cX10_write 81 = .ok (.invokevirtual 328, 3) := by decide +kernel
theorem dX10_write_84 : decode cX10_write 84 = .ok (.iinc 5 1, 3) := by decide +kernel
theorem dX10_write_87 : decode cX10_write 87 = .ok (.goto (-26), 3) := by decide +kernel
theorem dX10_write_90 : decode cX10_write 90 = .ok (.iload 4, 2) := by decide +kernel
theorem dX10_write_92 : decode cX10_write 92 = .ok (.ireturn, 1) := by decide +kernel
def fX10_write_L61 (p1 : Int32) (b3 : Nat) (p4 : Int32) (a : Int32) (s : Sg) : Option (((Int32) ⊕ (Unit)) × Sg) :=
  if p4 ≤ a then
  some (.inr (), s)
  else
  (fX3_timeOf p1 a s).bind fun w2 =>
  (fX5_setItem b3 a w2.1 w2.2).bind fun w3 =>
  bnd (a + (1 : Int32)) fun x4 =>
  some (.inl x4, w3)
def fX10_write (x0_ : Int32) (x1_ : Int32) (s : Sg) : Option (Int32 × Sg) :=
  (fX3_hasSwim x0_ s).bind fun w1 =>
  if w1.1 = 0 then
  some ((-2 : Int32), w1.2)
  else
  (fX10_isSheet x1_ w1.2).bind fun w3 =>
  if w3.1 = 0 then
  some ((-2 : Int32), w3.2)
  else
  (aR 4 x1_).bind fun k4 =>
  if (gI w3.2 (rix 1 k4) 0) = 0 then
  (fX3_lengthsOf x0_ w3.2).bind fun w6 =>
  bnd (mnI (gI w3.2 (rix 1 k4) 2) w6.1) fun x7 =>
  (lpG (fX10_write_L61 x0_ (rix 1 k4) x7) FU (0 : Int32) w6.2).bind fun w8 =>
  some (x7, w8.2)
  else
  (fX10_found (1 : Int32) w3.2).bind fun w21 =>
  some (w21.1, w21.2)
theorem ct_X10_write {g : Gl} {x0_ : Int32} {x1_ : Int32} {s : Sg} {w : Int32 × Sg}  (h : fX10_write x0_ x1_ s = some w) : Ct SS g iX10_write 2 42 [.ref (gad g 0), .int x0_, .int x1_] s (Dt (some (.int w.1)) w.2) := by
  refine Ct.ofV (by decide +kernel) 3 (lv0 := [some (.ref (gad g 0)), some (.int x0_), some (.int x1_), none, none, none]) rfl rfl (fun M hC => ?_)
  have hP : (Dt (some (.int w.1)) w.2) (some (.int w.1)) w.2 := ⟨rfl, rfl⟩
  generalize Dt (some (.int w.1)) w.2 = P at hP ⊢
  unfold fX10_write at h
  refine v_aload_n (pc := 0) hC dX10_write_0 rfl ?_
  refine v_gt (pc := 1) 0 (.ref (gad g 1)) hC s_0 rfl rfl rfl rfl fl_X10_28 dX10_write_1 ?_
  refine v_iload_n (pc := 4) hC dX10_write_4 rfl ?_
  obtain ⟨w1, hw1, h⟩ := obd_s h
  refine v_cV (pc := 5) [] [.int w1.1] gm_X3_hasSwim hC s_1 rfl rfl (ct_X3_hasSwim  hw1) ml_X10_119 rfl rfl rfl rfl rfl rfl dX10_write_5 ?_
  refine v_if_eq (pc := 8) (tgt := 18) hC dX10_write_8 rfl (fun c2 => ?_) (fun c2 => ?_)
  · replace h := (if_pos c2).symm.trans h
    refine v_bipush (pc := 18) (-2 : Int32) rfl hC dX10_write_18 ?_
    obtain rfl := Option.some.inj h
    exact v_iret (pc := 20) hC rfl dX10_write_20 hP
  · replace h := (if_neg c2).symm.trans h
    refine v_iload_n (pc := 11) hC dX10_write_11 rfl ?_
    obtain ⟨w3, hw3, h⟩ := obd_s h
    refine v_cS (pc := 12) [] [.int w3.1] gm_X10_isSheet hC (ct_X10_isSheet  hw3) ml_X10_139 rfl rfl rfl rfl rfl rfl dX10_write_12 ?_
    refine v_if_ne (pc := 15) (tgt := 21) hC dX10_write_15 rfl (fun c22 => ?_) (fun c22 => ?_)
    · replace h := (if_neg c22).symm.trans h
      refine v_aload_n (pc := 21) hC dX10_write_21 rfl ?_
      refine v_gt (pc := 22) 7 (.ref (gad g 39)) hC s_0 rfl rfl rfl rfl fl_X10_71 dX10_write_22 ?_
      refine v_iload_n (pc := 25) hC dX10_write_25 rfl ?_
      obtain ⟨k4, hk4, h⟩ := obd_s h
      have hb5 := sh_of (aR_lt hk4)
      refine v_aR (pc := 26) (t := 1) (C := "LaneFour$Sheet") hC s_39 rfl hk4 dX10_write_26 ?_
      refine v_astore_n (pc := 27) (lv' := [some (.ref (gad g 0)), some (.int x0_), some (.int x1_), some (.ref (gad g (rix 1 k4))), none, none]) hC dX10_write_27 rfl rfl rfl rfl ?_
      refine v_aload_n (pc := 28) hC dX10_write_28 rfl ?_
      refine v_gtN (pc := 29) 0 (.int (gI w3.2 (rix 1 k4) 0)) hC hb5.1 rfl rfl rfl rfl fl_X10_142 dX10_write_29 ?_
      refine v_if_eq (pc := 32) (tgt := 41) hC dX10_write_32 rfl (fun c20 => ?_) (fun c20 => ?_)
      · replace h := (if_pos c20).symm.trans h
        refine v_aload_n (pc := 41) hC dX10_write_41 rfl ?_
        refine v_gtN (pc := 42) 2 (.int (gI w3.2 (rix 1 k4) 2)) hC hb5.1 rfl rfl rfl rfl fl_X10_149 dX10_write_42 ?_
        refine v_aload_n (pc := 45) hC dX10_write_45 rfl ?_
        refine v_gt (pc := 46) 0 (.ref (gad g 1)) hC s_0 rfl rfl rfl rfl fl_X10_28 dX10_write_46 ?_
        refine v_iload_n (pc := 49) hC dX10_write_49 rfl ?_
        obtain ⟨w6, hw6, h⟩ := obd_s h
        refine v_cV (pc := 50) [.int (gI w3.2 (rix 1 k4) 2)] [.int w6.1, .int (gI w3.2 (rix 1 k4) 2)] gm_X3_lengthsOf hC s_1 rfl rfl (ct_X3_lengthsOf  hw6) ml_X10_122 rfl rfl rfl rfl rfl rfl dX10_write_50 ?_
        refine v_mn (pc := 53) hC mm_X10_152 rfl rfl dX10_write_53 ?_
        obtain ⟨x7, hx7, h⟩ := bnd_s h
        refine v_istore (pc := 56) (lv' := [some (.ref (gad g 0)), some (.int x0_), some (.int x1_), some (.ref (gad g (rix 1 k4))), some (.int x7), none]) hC dX10_write_56 hx7 rfl rfl rfl ?_
        refine v_iconst (pc := 58) (0 : Int32) rfl hC dX10_write_58 ?_
        refine v_istore (pc := 59) (lv' := [some (.ref (gad g 0)), some (.int x0_), some (.int x1_), some (.ref (gad g (rix 1 k4))), some (.int x7), some (.int (0 : Int32))]) hC dX10_write_59 rfl rfl rfl rfl ?_
        obtain ⟨w8, hw8, h⟩ := obd_s h
        have kx19 : V SS g M iX10_write (PQ SS g M P) 90 [none, none, none, none, some (.int x7), none] [] w8.2 := by
          refine v_iload (pc := 90) hC dX10_write_90 rfl ?_
          obtain rfl := Option.some.inj h
          exact v_iret (pc := 92) hC rfl dX10_write_92 hP
        refine V.ls (ls_some (ls_some (ls_none (ls_some (ls_some (ls_some ls_nil)))))) (v_loop (pc := 61) (fun a11 => [some (.ref (gad g 0)), some (.int x0_), none, some (.ref (gad g (rix 1 k4))), some (.int x7), some (.int a11)]) (fun z t => V SS g M iX10_write (PQ SS g M P) 90 [none, none, none, none, some (.int x7), none] [] t) (fun a11 s9 u10 hu10 k12 k13 => ?_) _ _ _ _ hw8 kx19)
        unfold fX10_write_L61 at hu10
        refine v_iload (pc := 61) hC dX10_write_61 rfl ?_
        refine v_iload (pc := 63) hC dX10_write_63 rfl ?_
        refine v_ic_ge (pc := 65) (tgt := 90) hC dX10_write_65 rfl (fun c15 => ?_) (fun c15 => ?_)
        · replace hu10 := (if_pos c15).symm.trans hu10
          obtain rfl := Option.some.inj hu10
          exact V.ls (ls_none (ls_none (ls_none (ls_none (ls_some (ls_none ls_nil)))))) (k13 _ rfl)
        · replace hu10 := (if_neg c15).symm.trans hu10
          refine v_aload_n (pc := 68) hC dX10_write_68 rfl ?_
          refine v_iload (pc := 69) hC dX10_write_69 rfl ?_
          refine v_aload_n (pc := 71) hC dX10_write_71 rfl ?_
          refine v_gt (pc := 72) 0 (.ref (gad g 1)) hC s_0 rfl rfl rfl rfl fl_X10_28 dX10_write_72 ?_
          refine v_iload_n (pc := 75) hC dX10_write_75 rfl ?_
          refine v_iload (pc := 76) hC dX10_write_76 rfl ?_
          obtain ⟨w16, hw16, hu10⟩ := obd_s hu10
          refine v_cV (pc := 78) [.int a11, .ref (gad g (rix 1 k4))] [.int w16.1, .int a11, .ref (gad g (rix 1 k4))] gm_X3_timeOf hC s_1 rfl rfl (ct_X3_timeOf  hw16) ml_X10_132 rfl rfl rfl rfl rfl rfl dX10_write_78 ?_
          obtain ⟨w17, hw17, hu10⟩ := obd_s hu10
          refine v_cV (pc := 81) [] [] gm_X5_setItem hC hb5.1 rfl rfl (ct_X5_setItem hb5 hw17) ml_X10_328 rfl rfl rfl rfl rfl rfl dX10_write_81 ?_
          obtain ⟨x18, hx18, hu10⟩ := bnd_s hu10
          refine v_iinc (pc := 84) (lv' := [some (.ref (gad g 0)), some (.int x0_), none, some (.ref (gad g (rix 1 k4))), some (.int x7), some (.int x18)]) (1 : Int32) rfl hx18 hC dX10_write_84 rfl rfl rfl rfl ?_
          refine v_goto (pc := 87) (tgt := 61) hC dX10_write_87 rfl ?_
          obtain rfl := Option.some.inj hu10
          exact V.ls (ls_some (ls_some (ls_none (ls_some (ls_some (ls_some ls_nil)))))) (k12 _ rfl)
      · replace h := (if_neg c20).symm.trans h
        refine v_aload_n (pc := 35) hC dX10_write_35 rfl ?_
        refine v_iconst (pc := 36) (1 : Int32) rfl hC dX10_write_36 ?_
        obtain ⟨w21, hw21, h⟩ := obd_s h
        refine v_cV (pc := 37) [] [.int w21.1] gm_X10_found hC s_0 rfl rfl (ct_X10_found  hw21) ml_X10_146 rfl rfl rfl rfl rfl rfl dX10_write_37 ?_
        obtain rfl := Option.some.inj h
        exact v_iret (pc := 40) hC rfl dX10_write_40 hP
    · replace h := (if_pos c22).symm.trans h
      refine v_bipush (pc := 18) (-2 : Int32) rfl hC dX10_write_18 ?_
      obtain rfl := Option.some.inj h
      exact v_iret (pc := 20) hC rfl dX10_write_20 hP
theorem dX10_count_0 : decode cX10_count 0 = .ok (.iload_n 1, 1) := by decide +kernel
theorem dX10_count_1 : decode cX10_count 1 = .ok (.tableswitch 125 0 8 #[51, 59, 67, 75, 83, 92, 102, 112, 120], 51) := by decide +kernel
theorem dX10_count_52 : decode cX10_count 52 = .ok (.aload_n 0, 1) := by decide +kernel
theorem dX10_count_53 : decode cX10_count 53 = .ok (.getfield 28, 3) := by decide +kernel
theorem dX10_count_56 : decode cX10_count 56 = .ok (.getfield 91, 3) := by decide +kernel
theorem dX10_count_59 : decode cX10_count 59 = .ok (.ireturn, 1) := by decide +kernel
theorem dX10_count_60 : decode cX10_count 60 = .ok (.aload_n 0, 1) := by decide +kernel
theorem dX10_count_61 : decode cX10_count 61 = .ok (.getfield 28, 3) := by decide +kernel
theorem dX10_count_64 : decode cX10_count 64 = .ok (.getfield 112, 3) := by decide +kernel
theorem dX10_count_67 : decode cX10_count 67 = .ok (.ireturn, 1) := by decide +kernel
theorem dX10_count_68 : decode cX10_count 68 = .ok (.aload_n 0, 1) := by decide +kernel
theorem dX10_count_69 : decode cX10_count 69 = .ok (.getfield 28, 3) := by decide +kernel
theorem dX10_count_72 : decode cX10_count 72 = .ok (.invokevirtual 344, 3) := by decide +kernel
theorem dX10_count_75 : decode cX10_count 75 = .ok (.ireturn, 1) := by decide +kernel
theorem dX10_count_76 : decode cX10_count 76 = .ok (.aload_n 0, 1) := by decide +kernel
theorem dX10_count_77 : decode cX10_count 77 = .ok (.getfield 28, 3) := by decide +kernel
theorem dX10_count_80 : decode cX10_count 80 = .ok (.invokevirtual 347, 3) := by decide +kernel
theorem dX10_count_83 : decode cX10_count 83 = .ok (.ireturn, 1) := by decide +kernel
theorem dX10_count_84 : decode cX10_count 84 = .ok (.aload_n 0, 1) := by decide +kernel
theorem dX10_count_85 : decode cX10_count 85 = .ok (.getfield 28, 3) := by decide +kernel
theorem dX10_count_88 : decode cX10_count 88 = .ok (.iconst (-1), 1) := by decide +kernel
theorem dX10_count_89 : decode cX10_count 89 = .ok (.invokevirtual 302, 3) := by decide +kernel
theorem dX10_count_92 : decode cX10_count 92 = .ok (.ireturn, 1) := by decide +kernel
theorem dX10_count_93 : decode cX10_count 93 = .ok (.aload_n 0, 1) := by decide +kernel
theorem dX10_count_94 : decode cX10_count 94 = .ok (.getfield 48, 3) := by decide +kernel
theorem dX10_count_97 : decode cX10_count 97 = .ok (.iconst 0, 1) := by decide +kernel
theorem dX10_count_98 : decode cX10_count 98 = .ok (.aaload, 1) := by decide +kernel
theorem dX10_count_99 : decode cX10_count 99 = .ok (.getfield 350, 3) := by decide +kernel
theorem dX10_count_102 : decode cX10_count 102 = .ok (.ireturn, 1) := by decide +kernel
theorem dX10_count_103 : decode cX10_count 103 = .ok (.aload_n 0, 1) := by decide +kernel
theorem dX10_count_104 : decode cX10_count 104 = .ok (.getfield 48, 3) := by decide +kernel
theorem dX10_count_107 : decode cX10_count 107 = .ok (.iconst 1, 1) := by decide +kernel
theorem dX10_count_108 : decode cX10_count 108 = .ok (.aaload, 1) := by decide +kernel
theorem dX10_count_109 : decode cX10_count 109 = .ok (.getfield 350, 3) := by decide +kernel
theorem dX10_count_112 : decode cX10_count 112 = .ok (.ireturn, 1) := by decide +kernel
theorem dX10_count_113 : decode cX10_count 113 = .ok (.aload_n 0, 1) := by decide +kernel
theorem dX10_count_114 : decode cX10_count 114 = .ok (.getfield 28, 3) := by decide +kernel
theorem dX10_count_117 : decode cX10_count 117 = .ok (.invokevirtual 351, 3) := by decide +kernel
theorem dX10_count_120 : decode cX10_count 120 = .ok (.ireturn, 1) := by decide +kernel
theorem dX10_count_121 : decode cX10_count 121 = .ok (.aload_n 0, 1) := by decide +kernel
theorem dX10_count_122 : decode cX10_count 122 = .ok (.getfield 83, 3) := by decide +kernel
theorem dX10_count_125 : decode cX10_count 125 = .ok (.ireturn, 1) := by decide +kernel
theorem dX10_count_126 : decode cX10_count 126 = .ok (.bipush (-2), 2) := by decide +kernel
theorem dX10_count_128 : decode cX10_count 128 = .ok (.ireturn, 1) := by decide +kernel
def fX10_count (x0_ : Int32) (s : Sg) : Option (Int32 × Sg) :=
  if x0_ = (0 : Int32) then (some ((gI s 1 0), s)) else if x0_ = (1 : Int32) then (some ((gI s 1 1), s)) else if x0_ = (2 : Int32) then ((fX3_singlesInAll s).bind fun w4 =>
  some (w4.1, w4.2)) else if x0_ = (3 : Int32) then ((fX3_diffsInAll s).bind fun w6 =>
  some (w6.1, w6.2)) else if x0_ = (4 : Int32) then ((fX3_feltInRace (-1 : Int32) s).bind fun w8 =>
  some (w8.1, w8.2)) else if x0_ = (5 : Int32) then ((aR 2 (0 : Int32)).bind fun k10 =>
  some ((gI s (rix 0 k10) 1), s)) else if x0_ = (6 : Int32) then ((aR 2 (1 : Int32)).bind fun k13 =>
  some ((gI s (rix 0 k13) 1), s)) else if x0_ = (7 : Int32) then ((fX3_togetherInAll s).bind fun w16 =>
  some (w16.1, w16.2)) else if x0_ = (8 : Int32) then (some ((gI s 0 9), s)) else (some ((-2 : Int32), s))
theorem ct_X10_count {g : Gl} {x0_ : Int32} {s : Sg} {w : Int32 × Sg}  (h : fX10_count x0_ s = some w) : Ct SS g iX10_count 4 89 [.ref (gad g 0), .int x0_] s (Dt (some (.int w.1)) w.2) := by
  refine Ct.ofV (by decide +kernel) 0 (lv0 := [some (.ref (gad g 0)), some (.int x0_)]) rfl rfl (fun M hC => ?_)
  have hP : (Dt (some (.int w.1)) w.2) (some (.int w.1)) w.2 := ⟨rfl, rfl⟩
  generalize Dt (some (.int w.1)) w.2 = P at hP ⊢
  unfold fX10_count at h
  refine v_iload_n (pc := 0) hC dX10_count_0 rfl ?_
  by_cases c1 : x0_ = (0 : Int32)
  · replace h := (if_pos c1).symm.trans h
    refine v_tsIn (pc := 1) (tgt := 52) hC dX10_count_1 (by rw [c1]; decide) (by rw [c1]; decide) (by rw [c1]; rfl) rfl ?_
    refine v_aload_n (pc := 52) hC dX10_count_52 rfl ?_
    refine v_gt (pc := 53) 0 (.ref (gad g 1)) hC s_0 rfl rfl rfl rfl fl_X10_28 dX10_count_53 ?_
    refine v_gtN (pc := 56) 0 (.int (gI s 1 0)) hC s_1 rfl rfl rfl rfl fl_X10_91 dX10_count_56 ?_
    obtain rfl := Option.some.inj h
    exact v_iret (pc := 59) hC rfl dX10_count_59 hP
  replace h := (if_neg c1).symm.trans h
  by_cases c2 : x0_ = (1 : Int32)
  · replace h := (if_pos c2).symm.trans h
    refine v_tsIn (pc := 1) (tgt := 60) hC dX10_count_1 (by rw [c2]; decide) (by rw [c2]; decide) (by rw [c2]; rfl) rfl ?_
    refine v_aload_n (pc := 60) hC dX10_count_60 rfl ?_
    refine v_gt (pc := 61) 0 (.ref (gad g 1)) hC s_0 rfl rfl rfl rfl fl_X10_28 dX10_count_61 ?_
    refine v_gtN (pc := 64) 1 (.int (gI s 1 1)) hC s_1 rfl rfl rfl rfl fl_X10_112 dX10_count_64 ?_
    obtain rfl := Option.some.inj h
    exact v_iret (pc := 67) hC rfl dX10_count_67 hP
  replace h := (if_neg c2).symm.trans h
  by_cases c3 : x0_ = (2 : Int32)
  · replace h := (if_pos c3).symm.trans h
    refine v_tsIn (pc := 1) (tgt := 68) hC dX10_count_1 (by rw [c3]; decide) (by rw [c3]; decide) (by rw [c3]; rfl) rfl ?_
    refine v_aload_n (pc := 68) hC dX10_count_68 rfl ?_
    refine v_gt (pc := 69) 0 (.ref (gad g 1)) hC s_0 rfl rfl rfl rfl fl_X10_28 dX10_count_69 ?_
    obtain ⟨w4, hw4, h⟩ := obd_s h
    refine v_cV (pc := 72) [] [.int w4.1] gm_X3_singlesInAll hC s_1 rfl rfl (ct_X3_singlesInAll  hw4) ml_X10_344 rfl rfl rfl rfl rfl rfl dX10_count_72 ?_
    obtain rfl := Option.some.inj h
    exact v_iret (pc := 75) hC rfl dX10_count_75 hP
  replace h := (if_neg c3).symm.trans h
  by_cases c5 : x0_ = (3 : Int32)
  · replace h := (if_pos c5).symm.trans h
    refine v_tsIn (pc := 1) (tgt := 76) hC dX10_count_1 (by rw [c5]; decide) (by rw [c5]; decide) (by rw [c5]; rfl) rfl ?_
    refine v_aload_n (pc := 76) hC dX10_count_76 rfl ?_
    refine v_gt (pc := 77) 0 (.ref (gad g 1)) hC s_0 rfl rfl rfl rfl fl_X10_28 dX10_count_77 ?_
    obtain ⟨w6, hw6, h⟩ := obd_s h
    refine v_cV (pc := 80) [] [.int w6.1] gm_X3_diffsInAll hC s_1 rfl rfl (ct_X3_diffsInAll  hw6) ml_X10_347 rfl rfl rfl rfl rfl rfl dX10_count_80 ?_
    obtain rfl := Option.some.inj h
    exact v_iret (pc := 83) hC rfl dX10_count_83 hP
  replace h := (if_neg c5).symm.trans h
  by_cases c7 : x0_ = (4 : Int32)
  · replace h := (if_pos c7).symm.trans h
    refine v_tsIn (pc := 1) (tgt := 84) hC dX10_count_1 (by rw [c7]; decide) (by rw [c7]; decide) (by rw [c7]; rfl) rfl ?_
    refine v_aload_n (pc := 84) hC dX10_count_84 rfl ?_
    refine v_gt (pc := 85) 0 (.ref (gad g 1)) hC s_0 rfl rfl rfl rfl fl_X10_28 dX10_count_85 ?_
    refine v_iconst (pc := 88) (-1 : Int32) rfl hC dX10_count_88 ?_
    obtain ⟨w8, hw8, h⟩ := obd_s h
    refine v_cV (pc := 89) [] [.int w8.1] gm_X3_feltInRace hC s_1 rfl rfl (ct_X3_feltInRace  hw8) ml_X10_302 rfl rfl rfl rfl rfl rfl dX10_count_89 ?_
    obtain rfl := Option.some.inj h
    exact v_iret (pc := 92) hC rfl dX10_count_92 hP
  replace h := (if_neg c7).symm.trans h
  by_cases c9 : x0_ = (5 : Int32)
  · replace h := (if_pos c9).symm.trans h
    refine v_tsIn (pc := 1) (tgt := 93) hC dX10_count_1 (by rw [c9]; decide) (by rw [c9]; decide) (by rw [c9]; rfl) rfl ?_
    refine v_aload_n (pc := 93) hC dX10_count_93 rfl ?_
    refine v_gt (pc := 94) 3 (.ref (gad g 38)) hC s_0 rfl rfl rfl rfl fl_X10_48 dX10_count_94 ?_
    refine v_iconst (pc := 97) (0 : Int32) rfl hC dX10_count_97 ?_
    obtain ⟨k10, hk10, h⟩ := obd_s h
    have hb11 := tx_of (aR_lt hk10)
    refine v_aR (pc := 98) (t := 0) (C := "LaneFour$Text") hC s_38 rfl hk10 dX10_count_98 ?_
    refine v_gtN (pc := 99) 1 (.int (gI s (rix 0 k10) 1)) hC hb11.1 rfl rfl rfl rfl fl_X10_350 dX10_count_99 ?_
    obtain rfl := Option.some.inj h
    exact v_iret (pc := 102) hC rfl dX10_count_102 hP
  replace h := (if_neg c9).symm.trans h
  by_cases c12 : x0_ = (6 : Int32)
  · replace h := (if_pos c12).symm.trans h
    refine v_tsIn (pc := 1) (tgt := 103) hC dX10_count_1 (by rw [c12]; decide) (by rw [c12]; decide) (by rw [c12]; rfl) rfl ?_
    refine v_aload_n (pc := 103) hC dX10_count_103 rfl ?_
    refine v_gt (pc := 104) 3 (.ref (gad g 38)) hC s_0 rfl rfl rfl rfl fl_X10_48 dX10_count_104 ?_
    refine v_iconst (pc := 107) (1 : Int32) rfl hC dX10_count_107 ?_
    obtain ⟨k13, hk13, h⟩ := obd_s h
    have hb14 := tx_of (aR_lt hk13)
    refine v_aR (pc := 108) (t := 0) (C := "LaneFour$Text") hC s_38 rfl hk13 dX10_count_108 ?_
    refine v_gtN (pc := 109) 1 (.int (gI s (rix 0 k13) 1)) hC hb14.1 rfl rfl rfl rfl fl_X10_350 dX10_count_109 ?_
    obtain rfl := Option.some.inj h
    exact v_iret (pc := 112) hC rfl dX10_count_112 hP
  replace h := (if_neg c12).symm.trans h
  by_cases c15 : x0_ = (7 : Int32)
  · replace h := (if_pos c15).symm.trans h
    refine v_tsIn (pc := 1) (tgt := 113) hC dX10_count_1 (by rw [c15]; decide) (by rw [c15]; decide) (by rw [c15]; rfl) rfl ?_
    refine v_aload_n (pc := 113) hC dX10_count_113 rfl ?_
    refine v_gt (pc := 114) 0 (.ref (gad g 1)) hC s_0 rfl rfl rfl rfl fl_X10_28 dX10_count_114 ?_
    obtain ⟨w16, hw16, h⟩ := obd_s h
    refine v_cV (pc := 117) [] [.int w16.1] gm_X3_togetherInAll hC s_1 rfl rfl (ct_X3_togetherInAll  hw16) ml_X10_351 rfl rfl rfl rfl rfl rfl dX10_count_117 ?_
    obtain rfl := Option.some.inj h
    exact v_iret (pc := 120) hC rfl dX10_count_120 hP
  replace h := (if_neg c15).symm.trans h
  by_cases c17 : x0_ = (8 : Int32)
  · replace h := (if_pos c17).symm.trans h
    refine v_tsIn (pc := 1) (tgt := 121) hC dX10_count_1 (by rw [c17]; decide) (by rw [c17]; decide) (by rw [c17]; rfl) rfl ?_
    refine v_aload_n (pc := 121) hC dX10_count_121 rfl ?_
    refine v_gt (pc := 122) 9 (.int (gI s 0 9)) hC s_0 rfl rfl rfl rfl fl_X10_83 dX10_count_122 ?_
    obtain rfl := Option.some.inj h
    exact v_iret (pc := 125) hC rfl dX10_count_125 hP
  replace h := (if_neg c17).symm.trans h
  have ec1 : (x0_).toInt ≠ 0 := ne_toInt c1
  have ec2 : (x0_).toInt ≠ 1 := ne_toInt c2
  have ec3 : (x0_).toInt ≠ 2 := ne_toInt c3
  have ec5 : (x0_).toInt ≠ 3 := ne_toInt c5
  have ec7 : (x0_).toInt ≠ 4 := ne_toInt c7
  have ec9 : (x0_).toInt ≠ 5 := ne_toInt c9
  have ec12 : (x0_).toInt ≠ 6 := ne_toInt c12
  have ec15 : (x0_).toInt ≠ 7 := ne_toInt c15
  have ec17 : (x0_).toInt ≠ 8 := ne_toInt c17
  refine v_tsOut (pc := 1) (tgt := 126) hC dX10_count_1 (by omega) rfl ?_
  refine v_bipush (pc := 126) (-2 : Int32) rfl hC dX10_count_126 ?_
  obtain rfl := Option.some.inj h
  exact v_iret (pc := 128) hC rfl dX10_count_128 hP
theorem dX10_mix_0 : decode cX10_mix 0 = .ok (.ldc2_w 379, 3) := by decide +kernel
theorem dX10_mix_3 : decode cX10_mix 3 = .ok (.lload_n 0, 1) := by decide +kernel
theorem dX10_mix_4 : decode cX10_mix 4 = .ok (.lmul, 1) := by decide +kernel
theorem dX10_mix_5 : decode cX10_mix 5 = .ok (.lload_n 2, 1) := by decide +kernel
theorem dX10_mix_6 : decode cX10_mix 6 = .ok (.ladd, 1) := by decide +kernel
theorem dX10_mix_7 : decode cX10_mix 7 = .ok (.lreturn, 1) := by decide +kernel
def fX10_mix (x0_ : Int64) (x1_ : Int64) (s : Sg) : Option (Int64 × Sg) :=
  some ((((31 : Int64) * x0_) + x1_), s)
theorem ct_X10_mix {g : Gl} {x0_ : Int64} {x1_ : Int64} {s : Sg} {w : Int64 × Sg}  (h : fX10_mix x0_ x1_ s = some w) : Ct SS g iX10_mix 0 0 [.long x0_, .long x1_] s (Dt (some (.long w.1)) w.2) := by
  refine Ct.ofV (by decide +kernel) 0 (lv0 := [some (.long x0_), none, some (.long x1_), none]) rfl rfl (fun M hC => ?_)
  have hP : (Dt (some (.long w.1)) w.2) (some (.long w.1)) w.2 := ⟨rfl, rfl⟩
  generalize Dt (some (.long w.1)) w.2 = P at hP ⊢
  unfold fX10_mix at h
  refine v_ldc2 (pc := 0) (31 : Int64) kc_X10_379 hC dX10_mix_0 ?_
  refine v_lload_n (pc := 3) hC dX10_mix_3 rfl ?_
  refine v_lmul (pc := 4) hC dX10_mix_4 ?_
  refine v_lload_n (pc := 5) hC dX10_mix_5 rfl ?_
  refine v_ladd (pc := 6) hC dX10_mix_6 ?_
  obtain rfl := Option.some.inj h
  exact v_lret (pc := 7) hC rfl dX10_mix_7 hP
theorem dX10_mixLanes_0 : decode cX10_mixLanes 0 = .ok (.lload_n 1, 1) := by decide +kernel
theorem dX10_mixLanes_1 : decode cX10_mixLanes 1 = .ok (.lstore_n 3, 1) := by decide +kernel
theorem dX10_mixLanes_2 : decode cX10_mixLanes 2 = .ok (.iconst 0, 1) := by decide +kernel
theorem dX10_mixLanes_3 : decode cX10_mixLanes 3 = .ok (.istore 5, 2) := by decide +kernel
theorem dX10_mixLanes_5 : decode cX10_mixLanes 5 = .ok (.iload 5, 2) := by decide +kernel
theorem dX10_mixLanes_7 : decode cX10_mixLanes 7 = .ok (.bipush 8, 2) := by decide +kernel
theorem dX10_mixLanes_9 : decode cX10_mixLanes 9 = .ok (.if_icmp .ge 71, 3) := by decide +kernel
theorem dX10_mixLanes_12 : decode cX10_mixLanes 12 = .ok (.lload_n 3, 1) := by decide +kernel
theorem dX10_mixLanes_13 : decode cX10_mixLanes 13 = .ok (.aload_n 0, 1) := by decide +kernel
theorem dX10_mixLanes_14 : decode cX10_mixLanes 14 = .ok (.getfield 37, 3) := by decide +kernel
theorem dX10_mixLanes_17 : decode cX10_mixLanes 17 = .ok (.getfield 211, 3) := by decide +kernel
theorem dX10_mixLanes_20 : decode cX10_mixLanes 20 = .ok (.getfield 215, 3) := by decide +kernel
theorem dX10_mixLanes_23 : decode cX10_mixLanes 23 = .ok (.iload 5, 2) := by decide +kernel
theorem dX10_mixLanes_25 : decode cX10_mixLanes 25 = .ok (.iaload, 1) := by decide +kernel
theorem dX10_mixLanes_26 : decode cX10_mixLanes 26 = .ok (.i2l, 1) := by decide +kernel
theorem dX10_mixLanes_27 : decode cX10_mixLanes 27 = .ok (.invokestatic 359, 3) := by decide +kernel
theorem dX10_mixLanes_30 : decode cX10_mixLanes 30 = .ok (.lstore_n 3, 1) := by decide +kernel
theorem dX10_mixLanes_31 : decode cX10_mixLanes 31 = .ok (.iconst 0, 1) := by decide +kernel
theorem dX10_mixLanes_32 : decode cX10_mixLanes 32 = .ok (.istore 6, 2) := by decide +kernel
theorem dX10_mixLanes_34 : decode cX10_mixLanes 34 = .ok (.iload 6, 2) := by decide +kernel
theorem dX10_mixLanes_36 : decode cX10_mixLanes 36 = .ok (.iconst 2, 1) := by decide +kernel
theorem dX10_mixLanes_37 : decode cX10_mixLanes 37 = .ok (.if_icmp .gt 37, 3) := by decide +kernel
theorem dX10_mixLanes_40 : decode cX10_mixLanes 40 = .ok (.lload_n 3, 1) := by decide +kernel
theorem dX10_mixLanes_41 : decode cX10_mixLanes 41 = .ok (.aload_n 0, 1) := by decide +kernel
theorem dX10_mixLanes_42 : decode cX10_mixLanes 42 = .ok (.iload 5, 2) := by decide +kernel
theorem dX10_mixLanes_44 : decode cX10_mixLanes 44 = .ok (.iload 6, 2) := by decide +kernel
theorem dX10_mixLanes_46 : decode cX10_mixLanes 46 = .ok (.iconst 0, 1) := by decide +kernel
theorem dX10_mixLanes_47 : decode cX10_mixLanes 47 = .ok (.invokevirtual 207, 3) := by decide +kernel
theorem dX10_mixLanes_50 : decode cX10_mixLanes 50 = .ok (.invokestatic 359, 3) := by decide +kernel
theorem dX10_mixLanes_53 : decode cX10_mixLanes 53 = .ok (.lstore_n 3, 1) := by decide +kernel
theorem dX10_mixLanes_54 : decode cX10_mixLanes 54 = .ok (.lload_n 3, 1) := by decide +kernel
theorem dX10_mixLanes_55 : decode cX10_mixLanes 55 = .ok (.aload_n 0, 1) := by decide +kernel
theorem dX10_mixLanes_56 : decode cX10_mixLanes 56 = .ok (.iload 5, 2) := by decide +kernel
theorem dX10_mixLanes_58 : decode cX10_mixLanes 58 = .ok (.iload 6, 2) := by decide +kernel
theorem dX10_mixLanes_60 : decode cX10_mixLanes 60 = .ok (.iconst 1, 1) := by decide +kernel
theorem dX10_mixLanes_61 : decode cX10_mixLanes 61 = .ok (.invokevirtual 207, 3) := by decide +kernel
theorem dX10_mixLanes_64 : decode cX10_mixLanes 64 = .ok (.invokestatic 359, 3) := by decide +kernel
theorem dX10_mixLanes_67 : decode cX10_mixLanes 67 = .ok (.lstore_n 3, 1) := by decide +kernel
theorem dX10_mixLanes_68 : decode cX10_mixLanes 68 = .ok (.iinc 6 1, 3) := by decide +kernel
theorem dX10_mixLanes_71 : decode cX10_mixLanes 71 = .ok (.goto (-37), 3) := by decide +kernel
theorem dX10_mixLanes_74 : decode cX10_mixLanes 74 = .ok (.iinc 5 1, 3) := by decide +kernel
theorem dX10_mixLanes_77 : decode cX10_mixLanes 77 = .ok (.goto (-72), 3) := by decide +kernel
theorem dX10_mixLanes_80 : decode cX10_mixLanes 80 = .ok (.lload_n 3, 1) := by decide +kernel
theorem dX10_mixLanes_81 : decode cX10_mixLanes 81 = .ok (.lreturn, 1) := by decide +kernel
def fX10_mixLanes_L34 (p5 : Int32) (a : Int64 × Int32) (s : Sg) : Option (((Int64 × Int32) ⊕ (Int64)) × Sg) :=
  if (2 : Int32) < a.2 then
  some (.inr a.1, s)
  else
  (fX10_ofLane p5 a.2 (0 : Int32) s).bind fun w2 =>
  (fX10_mix a.1 w2.1 w2.2).bind fun w3 =>
  (fX10_ofLane p5 a.2 (1 : Int32) w3.2).bind fun w4 =>
  (fX10_mix w3.1 w4.1 w4.2).bind fun w5 =>
  bnd (a.2 + (1 : Int32)) fun x6 =>
  some (.inl (w5.1, x6), w5.2)
def fX10_mixLanes_L5  (a : Int64 × Int32) (s : Sg) : Option (((Int64 × Int32) ⊕ (Int64)) × Sg) :=
  if (8 : Int32) ≤ a.2 then
  some (.inr a.1, s)
  else
  (aI s 10 8 a.2).bind fun v2 =>
  (fX10_mix a.1 ((v2).toInt64) s).bind fun w3 =>
  (lpG (fX10_mixLanes_L34 a.2) FU (w3.1, (0 : Int32)) w3.2).bind fun w4 =>
  bnd (a.2 + (1 : Int32)) fun x5 =>
  some (.inl (w4.1, x5), w4.2)
def fX10_mixLanes (x0_ : Int64) (s : Sg) : Option (Int64 × Sg) :=
  (lpG (fX10_mixLanes_L5) FU (x0_, (0 : Int32)) s).bind fun w1 =>
  some (w1.1, w1.2)
theorem ct_X10_mixLanes {g : Gl} {x0_ : Int64} {s : Sg} {w : Int64 × Sg}  (h : fX10_mixLanes x0_ s = some w) : Ct SS g iX10_mixLanes 3 80 [.ref (gad g 0), .long x0_] s (Dt (some (.long w.1)) w.2) := by
  refine Ct.ofV (by decide +kernel) 4 (lv0 := [some (.ref (gad g 0)), some (.long x0_), none, none, none, none, none]) rfl rfl (fun M hC => ?_)
  have hP : (Dt (some (.long w.1)) w.2) (some (.long w.1)) w.2 := ⟨rfl, rfl⟩
  generalize Dt (some (.long w.1)) w.2 = P at hP ⊢
  unfold fX10_mixLanes at h
  refine v_lload_n (pc := 0) hC dX10_mixLanes_0 rfl ?_
  refine v_lstore_n (pc := 1) (lv' := [some (.ref (gad g 0)), some (.long x0_), none, some (.long x0_), none, none, none]) hC dX10_mixLanes_1 rfl rfl rfl rfl ?_
  refine v_iconst (pc := 2) (0 : Int32) rfl hC dX10_mixLanes_2 ?_
  refine v_istore (pc := 3) (lv' := [some (.ref (gad g 0)), some (.long x0_), none, some (.long x0_), none, some (.int (0 : Int32)), none]) hC dX10_mixLanes_3 rfl rfl rfl rfl ?_
  obtain ⟨w1, hw1, h⟩ := obd_s h
  have kx26 : V SS g M iX10_mixLanes (PQ SS g M P) 80 [none, none, none, some (.long w1.1), none, none, none] [] w1.2 := by
    refine v_lload_n (pc := 80) hC dX10_mixLanes_80 rfl ?_
    obtain rfl := Option.some.inj h
    exact v_lret (pc := 81) hC rfl dX10_mixLanes_81 hP
  refine V.ls (ls_some (ls_none (ls_none (ls_some (ls_none (ls_some (ls_none ls_nil))))))) (v_loop (pc := 5) (fun a4 => [some (.ref (gad g 0)), none, none, some (.long a4.1), none, some (.int a4.2), none]) (fun z t => V SS g M iX10_mixLanes (PQ SS g M P) 80 [none, none, none, some (.long z), none, none, none] [] t) (fun a4 s2 u3 hu3 k5 k6 => ?_) _ _ _ _ hw1 kx26)
  unfold fX10_mixLanes_L5 at hu3
  refine v_iload (pc := 5) hC dX10_mixLanes_5 rfl ?_
  refine v_bipush (pc := 7) (8 : Int32) rfl hC dX10_mixLanes_7 ?_
  refine v_ic_ge (pc := 9) (tgt := 80) hC dX10_mixLanes_9 rfl (fun c8 => ?_) (fun c8 => ?_)
  · replace hu3 := (if_pos c8).symm.trans hu3
    obtain rfl := Option.some.inj hu3
    exact V.ls (ls_none (ls_none (ls_none (ls_some (ls_none (ls_none (ls_none ls_nil))))))) (k6 _ rfl)
  · replace hu3 := (if_neg c8).symm.trans hu3
    refine v_lload_n (pc := 12) hC dX10_mixLanes_12 rfl ?_
    refine v_aload_n (pc := 13) hC dX10_mixLanes_13 rfl ?_
    refine v_gt (pc := 14) 1 (.ref (gad g 19)) hC s_0 rfl rfl rfl rfl fl_X10_37 dX10_mixLanes_14 ?_
    refine v_gtN (pc := 17) 1 (.ref (gad g 9)) hC s_19 rfl rfl rfl rfl fl_X10_211 dX10_mixLanes_17 ?_
    refine v_gtN (pc := 20) 0 (.ref (gad g 10)) hC s_9 rfl rfl rfl rfl fl_X10_215 dX10_mixLanes_20 ?_
    refine v_iload (pc := 23) hC dX10_mixLanes_23 rfl ?_
    obtain ⟨v9, hv9, hu3⟩ := obd_s hu3
    refine v_aI (pc := 25) hC s_10 hv9 dX10_mixLanes_25 ?_
    refine v_i2l (pc := 26) hC dX10_mixLanes_26 ?_
    obtain ⟨w10, hw10, hu3⟩ := obd_s hu3
    refine v_cS (pc := 27) [] [.long w10.1] gm_X10_mix hC (ct_X10_mix  hw10) ml_X10_359 rfl rfl rfl rfl rfl rfl dX10_mixLanes_27 ?_
    refine v_lstore_n (pc := 30) (lv' := [some (.ref (gad g 0)), none, none, some (.long w10.1), none, some (.int a4.2), none]) hC dX10_mixLanes_30 rfl rfl rfl rfl ?_
    refine v_iconst (pc := 31) (0 : Int32) rfl hC dX10_mixLanes_31 ?_
    refine v_istore (pc := 32) (lv' := [some (.ref (gad g 0)), none, none, some (.long w10.1), none, some (.int a4.2), some (.int (0 : Int32))]) hC dX10_mixLanes_32 rfl rfl rfl rfl ?_
    obtain ⟨w11, hw11, hu3⟩ := obd_s hu3
    have kx25 : V SS g M iX10_mixLanes (PQ SS g M P) 74 [some (.ref (gad g 0)), none, none, some (.long w11.1), none, some (.int a4.2), none] [] w11.2 := by
      obtain ⟨x12, hx12, hu3⟩ := bnd_s hu3
      refine v_iinc (pc := 74) (lv' := [some (.ref (gad g 0)), none, none, some (.long w11.1), none, some (.int x12), none]) (1 : Int32) rfl hx12 hC dX10_mixLanes_74 rfl rfl rfl rfl ?_
      refine v_goto (pc := 77) (tgt := 5) hC dX10_mixLanes_77 rfl ?_
      obtain rfl := Option.some.inj hu3
      exact V.ls (ls_some (ls_none (ls_none (ls_some (ls_none (ls_some (ls_none ls_nil))))))) (k5 _ rfl)
    refine V.ls (ls_some (ls_none (ls_none (ls_some (ls_none (ls_some (ls_some ls_nil))))))) (v_loop (pc := 34) (fun a15 => [some (.ref (gad g 0)), none, none, some (.long a15.1), none, some (.int a4.2), some (.int a15.2)]) (fun z t => V SS g M iX10_mixLanes (PQ SS g M P) 74 [some (.ref (gad g 0)), none, none, some (.long z), none, some (.int a4.2), none] [] t) (fun a15 s13 u14 hu14 k16 k17 => ?_) _ _ _ _ hw11 kx25)
    unfold fX10_mixLanes_L34 at hu14
    refine v_iload (pc := 34) hC dX10_mixLanes_34 rfl ?_
    refine v_iconst (pc := 36) (2 : Int32) rfl hC dX10_mixLanes_36 ?_
    refine v_ic_gt (pc := 37) (tgt := 74) hC dX10_mixLanes_37 rfl (fun c19 => ?_) (fun c19 => ?_)
    · replace hu14 := (if_pos c19).symm.trans hu14
      obtain rfl := Option.some.inj hu14
      exact V.ls (ls_some (ls_none (ls_none (ls_some (ls_none (ls_some (ls_none ls_nil))))))) (k17 _ rfl)
    · replace hu14 := (if_neg c19).symm.trans hu14
      refine v_lload_n (pc := 40) hC dX10_mixLanes_40 rfl ?_
      refine v_aload_n (pc := 41) hC dX10_mixLanes_41 rfl ?_
      refine v_iload (pc := 42) hC dX10_mixLanes_42 rfl ?_
      refine v_iload (pc := 44) hC dX10_mixLanes_44 rfl ?_
      refine v_iconst (pc := 46) (0 : Int32) rfl hC dX10_mixLanes_46 ?_
      obtain ⟨w20, hw20, hu14⟩ := obd_s hu14
      refine v_cV (pc := 47) [.long a15.1] [.long w20.1, .long a15.1] gm_X10_ofLane hC s_0 rfl rfl (ct_X10_ofLane  hw20) ml_X10_207 rfl rfl rfl rfl rfl rfl dX10_mixLanes_47 ?_
      obtain ⟨w21, hw21, hu14⟩ := obd_s hu14
      refine v_cS (pc := 50) [] [.long w21.1] gm_X10_mix hC (ct_X10_mix  hw21) ml_X10_359 rfl rfl rfl rfl rfl rfl dX10_mixLanes_50 ?_
      refine v_lstore_n (pc := 53) (lv' := [some (.ref (gad g 0)), none, none, some (.long w21.1), none, some (.int a4.2), some (.int a15.2)]) hC dX10_mixLanes_53 rfl rfl rfl rfl ?_
      refine v_lload_n (pc := 54) hC dX10_mixLanes_54 rfl ?_
      refine v_aload_n (pc := 55) hC dX10_mixLanes_55 rfl ?_
      refine v_iload (pc := 56) hC dX10_mixLanes_56 rfl ?_
      refine v_iload (pc := 58) hC dX10_mixLanes_58 rfl ?_
      refine v_iconst (pc := 60) (1 : Int32) rfl hC dX10_mixLanes_60 ?_
      obtain ⟨w22, hw22, hu14⟩ := obd_s hu14
      refine v_cV (pc := 61) [.long w21.1] [.long w22.1, .long w21.1] gm_X10_ofLane hC s_0 rfl rfl (ct_X10_ofLane  hw22) ml_X10_207 rfl rfl rfl rfl rfl rfl dX10_mixLanes_61 ?_
      obtain ⟨w23, hw23, hu14⟩ := obd_s hu14
      refine v_cS (pc := 64) [] [.long w23.1] gm_X10_mix hC (ct_X10_mix  hw23) ml_X10_359 rfl rfl rfl rfl rfl rfl dX10_mixLanes_64 ?_
      refine v_lstore_n (pc := 67) (lv' := [some (.ref (gad g 0)), none, none, some (.long w23.1), none, some (.int a4.2), some (.int a15.2)]) hC dX10_mixLanes_67 rfl rfl rfl rfl ?_
      obtain ⟨x24, hx24, hu14⟩ := bnd_s hu14
      refine v_iinc (pc := 68) (lv' := [some (.ref (gad g 0)), none, none, some (.long w23.1), none, some (.int a4.2), some (.int x24)]) (1 : Int32) rfl hx24 hC dX10_mixLanes_68 rfl rfl rfl rfl ?_
      refine v_goto (pc := 71) (tgt := 34) hC dX10_mixLanes_71 rfl ?_
      obtain rfl := Option.some.inj hu14
      exact V.ls (ls_some (ls_none (ls_none (ls_some (ls_none (ls_some (ls_some ls_nil))))))) (k16 _ rfl)
theorem dX10_mixDays_0 : decode cX10_mixDays 0 = .ok (.lload_n 1, 1) := by decide +kernel
theorem dX10_mixDays_1 : decode cX10_mixDays 1 = .ok (.aload_n 0, 1) := by decide +kernel
theorem dX10_mixDays_2 : decode cX10_mixDays 2 = .ok (.getfield 37, 3) := by decide +kernel
theorem dX10_mixDays_5 : decode cX10_mixDays 5 = .ok (.iconst 0, 1) := by decide +kernel
theorem dX10_mixDays_6 : decode cX10_mixDays 6 = .ok (.bipush 9, 2) := by decide +kernel
theorem dX10_mixDays_8 : decode cX10_mixDays 8 = .ok (.invokevirtual 224, 3) := by decide +kernel
theorem dX10_mixDays_11 : decode cX10_mixDays 11 = .ok (.i2l, 1) := by decide +kernel
theorem dX10_mixDays_12 : decode cX10_mixDays 12 = .ok (.invokestatic 359, 3) := by decide +kernel
theorem dX10_mixDays_15 : decode cX10_mixDays 15 = .ok (.lstore_n 3, 1) := by decide +kernel
theorem dX10_mixDays_16 : decode cX10_mixDays 16 = .ok (.lload_n 3, 1) := by decide +kernel
theorem dX10_mixDays_17 : decode cX10_mixDays 17 = .ok (.aload_n 0, 1) := by decide +kernel
theorem dX10_mixDays_18 : decode cX10_mixDays 18 = .ok (.getfield 37, 3) := by decide +kernel
theorem dX10_mixDays_21 : decode cX10_mixDays 21 = .ok (.invokevirtual 227, 3) := by decide +kernel
theorem dX10_mixDays_24 : decode cX10_mixDays 24 = .ok (.i2l, 1) := by decide +kernel
theorem dX10_mixDays_25 : decode cX10_mixDays 25 = .ok (.invokestatic 359, 3) := by decide +kernel
theorem dX10_mixDays_28 : decode cX10_mixDays 28 = .ok (.lstore_n 3, 1) := by decide +kernel
theorem dX10_mixDays_29 : decode cX10_mixDays 29 = .ok (.lload_n 3, 1) := by decide +kernel
theorem dX10_mixDays_30 : decode cX10_mixDays 30 = .ok (.aload_n 0, 1) := by decide +kernel
theorem dX10_mixDays_31 : decode cX10_mixDays 31 = .ok (.getfield 37, 3) := by decide +kernel
theorem dX10_mixDays_34 : decode cX10_mixDays 34 = .ok (.getfield 231, 3) := by decide +kernel
theorem dX10_mixDays_37 : decode cX10_mixDays 37 = .ok (.i2l, 1) := by decide +kernel
theorem dX10_mixDays_38 : decode cX10_mixDays 38 = .ok (.invokestatic 359, 3) := by decide +kernel
theorem dX10_mixDays_41 : decode cX10_mixDays 41 = .ok (.lstore_n 3, 1) := by decide +kernel
theorem dX10_mixDays_42 : decode cX10_mixDays 42 = .ok (.lload_n 3, 1) := by decide +kernel
theorem dX10_mixDays_43 : decode cX10_mixDays 43 = .ok (.aload_n 0, 1) := by decide +kernel
theorem dX10_mixDays_44 : decode cX10_mixDays 44 = .ok (.getfield 37, 3) := by decide +kernel
theorem dX10_mixDays_47 : decode cX10_mixDays 47 = .ok (.getfield 234, 3) := by decide +kernel
theorem dX10_mixDays_50 : decode cX10_mixDays 50 = .ok (.i2l, 1) := by decide +kernel
theorem dX10_mixDays_51 : decode cX10_mixDays 51 = .ok (.invokestatic 359, 3) := by decide +kernel
theorem dX10_mixDays_54 : decode cX10_mixDays 54 = .ok (.lreturn, 1) := by decide +kernel
def fX10_mixDays (x0_ : Int64) (s : Sg) : Option (Int64 × Sg) :=
  (fX8_leanOf (0 : Int32) (9 : Int32) s).bind fun w1 =>
  (fX10_mix x0_ ((w1.1).toInt64) w1.2).bind fun w2 =>
  (fX8_chanceOfShape w2.2).bind fun w3 =>
  (fX10_mix w2.1 ((w3.1).toInt64) w3.2).bind fun w4 =>
  (fX10_mix w4.1 (((gI w4.2 19 6)).toInt64) w4.2).bind fun w5 =>
  (fX10_mix w5.1 (((gI w5.2 19 7)).toInt64) w5.2).bind fun w6 =>
  some (w6.1, w6.2)
theorem ct_X10_mixDays {g : Gl} {x0_ : Int64} {s : Sg} {w : Int64 × Sg}  (h : fX10_mixDays x0_ s = some w) : Ct SS g iX10_mixDays 3 73 [.ref (gad g 0), .long x0_] s (Dt (some (.long w.1)) w.2) := by
  refine Ct.ofV (by decide +kernel) 2 (lv0 := [some (.ref (gad g 0)), some (.long x0_), none, none, none]) rfl rfl (fun M hC => ?_)
  have hP : (Dt (some (.long w.1)) w.2) (some (.long w.1)) w.2 := ⟨rfl, rfl⟩
  generalize Dt (some (.long w.1)) w.2 = P at hP ⊢
  unfold fX10_mixDays at h
  refine v_lload_n (pc := 0) hC dX10_mixDays_0 rfl ?_
  refine v_aload_n (pc := 1) hC dX10_mixDays_1 rfl ?_
  refine v_gt (pc := 2) 1 (.ref (gad g 19)) hC s_0 rfl rfl rfl rfl fl_X10_37 dX10_mixDays_2 ?_
  refine v_iconst (pc := 5) (0 : Int32) rfl hC dX10_mixDays_5 ?_
  refine v_bipush (pc := 6) (9 : Int32) rfl hC dX10_mixDays_6 ?_
  obtain ⟨w1, hw1, h⟩ := obd_s h
  refine v_cV (pc := 8) [.long x0_] [.int w1.1, .long x0_] gm_X8_leanOf hC s_19 rfl rfl (ct_X8_leanOf  hw1) ml_X10_224 rfl rfl rfl rfl rfl rfl dX10_mixDays_8 ?_
  refine v_i2l (pc := 11) hC dX10_mixDays_11 ?_
  obtain ⟨w2, hw2, h⟩ := obd_s h
  refine v_cS (pc := 12) [] [.long w2.1] gm_X10_mix hC (ct_X10_mix  hw2) ml_X10_359 rfl rfl rfl rfl rfl rfl dX10_mixDays_12 ?_
  refine v_lstore_n (pc := 15) (lv' := [some (.ref (gad g 0)), some (.long x0_), none, some (.long w2.1), none]) hC dX10_mixDays_15 rfl rfl rfl rfl ?_
  refine v_lload_n (pc := 16) hC dX10_mixDays_16 rfl ?_
  refine v_aload_n (pc := 17) hC dX10_mixDays_17 rfl ?_
  refine v_gt (pc := 18) 1 (.ref (gad g 19)) hC s_0 rfl rfl rfl rfl fl_X10_37 dX10_mixDays_18 ?_
  obtain ⟨w3, hw3, h⟩ := obd_s h
  refine v_cV (pc := 21) [.long w2.1] [.int w3.1, .long w2.1] gm_X8_chanceOfShape hC s_19 rfl rfl (ct_X8_chanceOfShape  hw3) ml_X10_227 rfl rfl rfl rfl rfl rfl dX10_mixDays_21 ?_
  refine v_i2l (pc := 24) hC dX10_mixDays_24 ?_
  obtain ⟨w4, hw4, h⟩ := obd_s h
  refine v_cS (pc := 25) [] [.long w4.1] gm_X10_mix hC (ct_X10_mix  hw4) ml_X10_359 rfl rfl rfl rfl rfl rfl dX10_mixDays_25 ?_
  refine v_lstore_n (pc := 28) (lv' := [some (.ref (gad g 0)), some (.long x0_), none, some (.long w4.1), none]) hC dX10_mixDays_28 rfl rfl rfl rfl ?_
  refine v_lload_n (pc := 29) hC dX10_mixDays_29 rfl ?_
  refine v_aload_n (pc := 30) hC dX10_mixDays_30 rfl ?_
  refine v_gt (pc := 31) 1 (.ref (gad g 19)) hC s_0 rfl rfl rfl rfl fl_X10_37 dX10_mixDays_31 ?_
  refine v_gtN (pc := 34) 6 (.int (gI w4.2 19 6)) hC s_19 rfl rfl rfl rfl fl_X10_231 dX10_mixDays_34 ?_
  refine v_i2l (pc := 37) hC dX10_mixDays_37 ?_
  obtain ⟨w5, hw5, h⟩ := obd_s h
  refine v_cS (pc := 38) [] [.long w5.1] gm_X10_mix hC (ct_X10_mix  hw5) ml_X10_359 rfl rfl rfl rfl rfl rfl dX10_mixDays_38 ?_
  refine v_lstore_n (pc := 41) (lv' := [some (.ref (gad g 0)), some (.long x0_), none, some (.long w5.1), none]) hC dX10_mixDays_41 rfl rfl rfl rfl ?_
  refine v_lload_n (pc := 42) hC dX10_mixDays_42 rfl ?_
  refine v_aload_n (pc := 43) hC dX10_mixDays_43 rfl ?_
  refine v_gt (pc := 44) 1 (.ref (gad g 19)) hC s_0 rfl rfl rfl rfl fl_X10_37 dX10_mixDays_44 ?_
  refine v_gtN (pc := 47) 7 (.int (gI w5.2 19 7)) hC s_19 rfl rfl rfl rfl fl_X10_234 dX10_mixDays_47 ?_
  refine v_i2l (pc := 50) hC dX10_mixDays_50 ?_
  obtain ⟨w6, hw6, h⟩ := obd_s h
  refine v_cS (pc := 51) [] [.long w6.1] gm_X10_mix hC (ct_X10_mix  hw6) ml_X10_359 rfl rfl rfl rfl rfl rfl dX10_mixDays_51 ?_
  obtain rfl := Option.some.inj h
  exact v_lret (pc := 54) hC rfl dX10_mixDays_54 hP
theorem dX10_mixOrder_0 : decode cX10_mixOrder 0 = .ok (.lload_n 1, 1) := by decide +kernel
theorem dX10_mixOrder_1 : decode cX10_mixOrder 1 = .ok (.aload_n 0, 1) := by decide +kernel
theorem dX10_mixOrder_2 : decode cX10_mixOrder 2 = .ok (.getfield 44, 3) := by decide +kernel
theorem dX10_mixOrder_5 : decode cX10_mixOrder 5 = .ok (.getfield 255, 3) := by decide +kernel
theorem dX10_mixOrder_8 : decode cX10_mixOrder 8 = .ok (.i2l, 1) := by decide +kernel
theorem dX10_mixOrder_9 : decode cX10_mixOrder 9 = .ok (.invokestatic 359, 3) := by decide +kernel
theorem dX10_mixOrder_12 : decode cX10_mixOrder 12 = .ok (.lstore_n 3, 1) := by decide +kernel
theorem dX10_mixOrder_13 : decode cX10_mixOrder 13 = .ok (.iconst 0, 1) := by decide +kernel
theorem dX10_mixOrder_14 : decode cX10_mixOrder 14 = .ok (.istore 5, 2) := by decide +kernel
theorem dX10_mixOrder_16 : decode cX10_mixOrder 16 = .ok (.iload 5, 2) := by decide +kernel
theorem dX10_mixOrder_18 : decode cX10_mixOrder 18 = .ok (.bipush 8, 2) := by decide +kernel
theorem dX10_mixOrder_20 : decode cX10_mixOrder 20 = .ok (.if_icmp .ge 25, 3) := by decide +kernel
theorem dX10_mixOrder_23 : decode cX10_mixOrder 23 = .ok (.lload_n 3, 1) := by decide +kernel
theorem dX10_mixOrder_24 : decode cX10_mixOrder 24 = .ok (.aload_n 0, 1) := by decide +kernel
theorem dX10_mixOrder_25 : decode cX10_mixOrder 25 = .ok (.getfield 44, 3) := by decide +kernel
theorem dX10_mixOrder_28 : decode cX10_mixOrder 28 = .ok (.getfield 258, 3) := by decide +kernel
theorem dX10_mixOrder_31 : decode cX10_mixOrder 31 = .ok (.iload 5, 2) := by decide +kernel
theorem dX10_mixOrder_33 : decode cX10_mixOrder 33 = .ok (.iaload, 1) := by decide +kernel
theorem dX10_mixOrder_34 : decode cX10_mixOrder 34 = .ok (.i2l, 1) := by decide +kernel
theorem dX10_mixOrder_35 : decode cX10_mixOrder 35 = .ok (.invokestatic 359, 3) := by decide +kernel
theorem dX10_mixOrder_38 : decode cX10_mixOrder 38 = .ok (.lstore_n 3, 1) := by decide +kernel
theorem dX10_mixOrder_39 : decode cX10_mixOrder 39 = .ok (.iinc 5 1, 3) := by decide +kernel
theorem dX10_mixOrder_42 : decode cX10_mixOrder 42 = .ok (.goto (-26), 3) := by decide +kernel
theorem dX10_mixOrder_45 : decode cX10_mixOrder 45 = .ok (.lload_n 3, 1) := by decide +kernel
theorem dX10_mixOrder_46 : decode cX10_mixOrder 46 = .ok (.lreturn, 1) := by decide +kernel
def fX10_mixOrder_L16  (a : Int64 × Int32) (s : Sg) : Option (((Int64 × Int32) ⊕ (Int64)) × Sg) :=
  if (8 : Int32) ≤ a.2 then
  some (.inr a.1, s)
  else
  (aI s 28 8 a.2).bind fun v2 =>
  (fX10_mix a.1 ((v2).toInt64) s).bind fun w3 =>
  bnd (a.2 + (1 : Int32)) fun x4 =>
  some (.inl (w3.1, x4), w3.2)
def fX10_mixOrder (x0_ : Int64) (s : Sg) : Option (Int64 × Sg) :=
  (fX10_mix x0_ (((gI s 25 5)).toInt64) s).bind fun w1 =>
  (lpG (fX10_mixOrder_L16) FU (w1.1, (0 : Int32)) w1.2).bind fun w2 =>
  some (w2.1, w2.2)
theorem ct_X10_mixOrder {g : Gl} {x0_ : Int64} {s : Sg} {w : Int64 × Sg}  (h : fX10_mixOrder x0_ s = some w) : Ct SS g iX10_mixOrder 1 23 [.ref (gad g 0), .long x0_] s (Dt (some (.long w.1)) w.2) := by
  refine Ct.ofV (by decide +kernel) 3 (lv0 := [some (.ref (gad g 0)), some (.long x0_), none, none, none, none]) rfl rfl (fun M hC => ?_)
  have hP : (Dt (some (.long w.1)) w.2) (some (.long w.1)) w.2 := ⟨rfl, rfl⟩
  generalize Dt (some (.long w.1)) w.2 = P at hP ⊢
  unfold fX10_mixOrder at h
  refine v_lload_n (pc := 0) hC dX10_mixOrder_0 rfl ?_
  refine v_aload_n (pc := 1) hC dX10_mixOrder_1 rfl ?_
  refine v_gt (pc := 2) 2 (.ref (gad g 25)) hC s_0 rfl rfl rfl rfl fl_X10_44 dX10_mixOrder_2 ?_
  refine v_gtN (pc := 5) 5 (.int (gI s 25 5)) hC s_25 rfl rfl rfl rfl fl_X10_255 dX10_mixOrder_5 ?_
  refine v_i2l (pc := 8) hC dX10_mixOrder_8 ?_
  obtain ⟨w1, hw1, h⟩ := obd_s h
  refine v_cS (pc := 9) [] [.long w1.1] gm_X10_mix hC (ct_X10_mix  hw1) ml_X10_359 rfl rfl rfl rfl rfl rfl dX10_mixOrder_9 ?_
  refine v_lstore_n (pc := 12) (lv' := [some (.ref (gad g 0)), some (.long x0_), none, some (.long w1.1), none, none]) hC dX10_mixOrder_12 rfl rfl rfl rfl ?_
  refine v_iconst (pc := 13) (0 : Int32) rfl hC dX10_mixOrder_13 ?_
  refine v_istore (pc := 14) (lv' := [some (.ref (gad g 0)), some (.long x0_), none, some (.long w1.1), none, some (.int (0 : Int32))]) hC dX10_mixOrder_14 rfl rfl rfl rfl ?_
  obtain ⟨w2, hw2, h⟩ := obd_s h
  have kx13 : V SS g M iX10_mixOrder (PQ SS g M P) 45 [none, none, none, some (.long w2.1), none, none] [] w2.2 := by
    refine v_lload_n (pc := 45) hC dX10_mixOrder_45 rfl ?_
    obtain rfl := Option.some.inj h
    exact v_lret (pc := 46) hC rfl dX10_mixOrder_46 hP
  refine V.ls (ls_some (ls_none (ls_none (ls_some (ls_none (ls_some ls_nil)))))) (v_loop (pc := 16) (fun a5 => [some (.ref (gad g 0)), none, none, some (.long a5.1), none, some (.int a5.2)]) (fun z t => V SS g M iX10_mixOrder (PQ SS g M P) 45 [none, none, none, some (.long z), none, none] [] t) (fun a5 s3 u4 hu4 k6 k7 => ?_) _ _ _ _ hw2 kx13)
  unfold fX10_mixOrder_L16 at hu4
  refine v_iload (pc := 16) hC dX10_mixOrder_16 rfl ?_
  refine v_bipush (pc := 18) (8 : Int32) rfl hC dX10_mixOrder_18 ?_
  refine v_ic_ge (pc := 20) (tgt := 45) hC dX10_mixOrder_20 rfl (fun c9 => ?_) (fun c9 => ?_)
  · replace hu4 := (if_pos c9).symm.trans hu4
    obtain rfl := Option.some.inj hu4
    exact V.ls (ls_none (ls_none (ls_none (ls_some (ls_none (ls_none ls_nil)))))) (k7 _ rfl)
  · replace hu4 := (if_neg c9).symm.trans hu4
    refine v_lload_n (pc := 23) hC dX10_mixOrder_23 rfl ?_
    refine v_aload_n (pc := 24) hC dX10_mixOrder_24 rfl ?_
    refine v_gt (pc := 25) 2 (.ref (gad g 25)) hC s_0 rfl rfl rfl rfl fl_X10_44 dX10_mixOrder_25 ?_
    refine v_gtN (pc := 28) 4 (.ref (gad g 28)) hC s_25 rfl rfl rfl rfl fl_X10_258 dX10_mixOrder_28 ?_
    refine v_iload (pc := 31) hC dX10_mixOrder_31 rfl ?_
    obtain ⟨v10, hv10, hu4⟩ := obd_s hu4
    refine v_aI (pc := 33) hC s_28 hv10 dX10_mixOrder_33 ?_
    refine v_i2l (pc := 34) hC dX10_mixOrder_34 ?_
    obtain ⟨w11, hw11, hu4⟩ := obd_s hu4
    refine v_cS (pc := 35) [] [.long w11.1] gm_X10_mix hC (ct_X10_mix  hw11) ml_X10_359 rfl rfl rfl rfl rfl rfl dX10_mixOrder_35 ?_
    refine v_lstore_n (pc := 38) (lv' := [some (.ref (gad g 0)), none, none, some (.long w11.1), none, some (.int a5.2)]) hC dX10_mixOrder_38 rfl rfl rfl rfl ?_
    obtain ⟨x12, hx12, hu4⟩ := bnd_s hu4
    refine v_iinc (pc := 39) (lv' := [some (.ref (gad g 0)), none, none, some (.long w11.1), none, some (.int x12)]) (1 : Int32) rfl hx12 hC dX10_mixOrder_39 rfl rfl rfl rfl ?_
    refine v_goto (pc := 42) (tgt := 16) hC dX10_mixOrder_42 rfl ?_
    obtain rfl := Option.some.inj hu4
    exact V.ls (ls_some (ls_none (ls_none (ls_some (ls_none (ls_some ls_nil)))))) (k6 _ rfl)
theorem dX10_mixRaces_0 : decode cX10_mixRaces 0 = .ok (.lload_n 1, 1) := by decide +kernel
theorem dX10_mixRaces_1 : decode cX10_mixRaces 1 = .ok (.lstore_n 3, 1) := by decide +kernel
theorem dX10_mixRaces_2 : decode cX10_mixRaces 2 = .ok (.iconst 0, 1) := by decide +kernel
theorem dX10_mixRaces_3 : decode cX10_mixRaces 3 = .ok (.istore 5, 2) := by decide +kernel
theorem dX10_mixRaces_5 : decode cX10_mixRaces 5 = .ok (.iload 5, 2) := by decide +kernel
theorem dX10_mixRaces_7 : decode cX10_mixRaces 7 = .ok (.aload_n 0, 1) := by decide +kernel
theorem dX10_mixRaces_8 : decode cX10_mixRaces 8 = .ok (.getfield 28, 3) := by decide +kernel
theorem dX10_mixRaces_11 : decode cX10_mixRaces 11 = .ok (.getfield 91, 3) := by decide +kernel
theorem dX10_mixRaces_14 : decode cX10_mixRaces 14 = .ok (.if_icmp .ge 66, 3) := by decide +kernel
theorem dX10_mixRaces_17 : decode cX10_mixRaces 17 = .ok (.lload_n 3, 1) := by decide +kernel
theorem dX10_mixRaces_18 : decode cX10_mixRaces 18 = .ok (.aload_n 0, 1) := by decide +kernel
theorem dX10_mixRaces_19 : decode cX10_mixRaces 19 = .ok (.getfield 28, 3) := by decide +kernel
theorem dX10_mixRaces_22 : decode cX10_mixRaces 22 = .ok (.iload 5, 2) := by decide +kernel
theorem dX10_mixRaces_24 : decode cX10_mixRaces 24 = .ok (.invokevirtual 302, 3) := by decide +kernel
theorem dX10_mixRaces_27 : decode cX10_mixRaces 27 = .ok (.i2l, 1) := by decide +kernel
theorem dX10_mixRaces_28 : decode cX10_mixRaces 28 = .ok (.invokestatic 359, 3) := by decide +kernel
theorem dX10_mixRaces_31 : decode cX10_mixRaces 31 = .ok (.lstore_n 3, 1) := by decide +kernel
theorem dX10_mixRaces_32 : decode cX10_mixRaces 32 = .ok (.lload_n 3, 1) := by decide +kernel
theorem dX10_mixRaces_33 : decode cX10_mixRaces 33 = .ok (.aload_n 0, 1) := by decide +kernel
theorem dX10_mixRaces_34 : decode cX10_mixRaces 34 = .ok (.getfield 28, 3) := by decide +kernel
theorem dX10_mixRaces_37 : decode cX10_mixRaces 37 = .ok (.iload 5, 2) := by decide +kernel
theorem dX10_mixRaces_39 : decode cX10_mixRaces 39 = .ok (.invokevirtual 305, 3) := by decide +kernel
theorem dX10_mixRaces_42 : decode cX10_mixRaces 42 = .ok (.i2l, 1) := by decide +kernel
theorem dX10_mixRaces_43 : decode cX10_mixRaces 43 = .ok (.invokestatic 359, 3) := by decide +kernel
theorem dX10_mixRaces_46 : decode cX10_mixRaces 46 = .ok (.lstore_n 3, 1) := by decide +kernel
theorem dX10_mixRaces_47 : decode cX10_mixRaces 47 = .ok (.lload_n 3, 1) := by decide +kernel
theorem dX10_mixRaces_48 : decode cX10_mixRaces 48 = .ok (.aload_n 0, 1) := by decide +kernel
theorem dX10_mixRaces_49 : decode cX10_mixRaces 49 = .ok (.iload 5, 2) := by decide +kernel
theorem dX10_mixRaces_51 : decode cX10_mixRaces 51 = .ok (.invokevirtual 299, 3) := by decide +kernel
theorem dX10_mixRaces_54 : decode cX10_mixRaces 54 = .ok (.i2l, 1) := by decide +kernel
theorem dX10_mixRaces_55 : decode cX10_mixRaces 55 = .ok (.invokestatic 359, 3) := by decide +kernel
theorem dX10_mixRaces_58 : decode cX10_mixRaces 58 = .ok (.lstore_n 3, 1) := by decide +kernel
theorem dX10_mixRaces_59 : decode cX10_mixRaces 59 = .ok (.lload_n 3, 1) := by decide +kernel
theorem dX10_mixRaces_60 : decode cX10_mixRaces 60 = .ok (.aload_n 0, 1) := by decide +kernel
theorem dX10_mixRaces_61 : decode cX10_mixRaces 61 = .ok (.getfield 44, 3) := by decide +kernel
theorem dX10_mixRaces_64 : decode cX10_mixRaces 64 = .ok (.iload 5, 2) := by decide +kernel
theorem dX10_mixRaces_66 : decode cX10_mixRaces 66 = .ok (.invokevirtual 277, 3) := by decide +kernel
theorem dX10_mixRaces_69 : decode cX10_mixRaces 69 = .ok (.i2l, 1) := by decide +kernel
theorem dX10_mixRaces_70 : decode cX10_mixRaces 70 = .ok (.invokestatic 359, 3) := by decide +kernel
theorem dX10_mixRaces_73 : decode cX10_mixRaces 73 = .ok (.lstore_n 3, 1) := by decide +kernel
theorem dX10_mixRaces_74 : decode cX10_mixRaces 74 = .ok (.iinc 5 1, 3) := by decide +kernel
theorem dX10_mixRaces_77 : decode cX10_mixRaces 77 = .ok (.goto (-72), 3) := by decide +kernel
theorem dX10_mixRaces_80 : decode cX10_mixRaces 80 = .ok (.lload_n 3, 1) := by decide +kernel
theorem dX10_mixRaces_81 : decode cX10_mixRaces 81 = .ok (.lreturn, 1) := by decide +kernel
def fX10_mixRaces_L5  (a : Int64 × Int32) (s : Sg) : Option (((Int64 × Int32) ⊕ (Int64)) × Sg) :=
  if (gI s 1 0) ≤ a.2 then
  some (.inr a.1, s)
  else
  (fX3_feltInRace a.2 s).bind fun w2 =>
  (fX10_mix a.1 ((w2.1).toInt64) w2.2).bind fun w3 =>
  (fX3_tenthsInRace a.2 w3.2).bind fun w4 =>
  (fX10_mix w3.1 ((w4.1).toInt64) w4.2).bind fun w5 =>
  (fX10_givenOf a.2 w5.2).bind fun w6 =>
  (fX10_mix w5.1 ((w6.1).toInt64) w6.2).bind fun w7 =>
  (fX6_changedMedals a.2 w7.2).bind fun w8 =>
  (fX10_mix w7.1 ((w8.1).toInt64) w8.2).bind fun w9 =>
  bnd (a.2 + (1 : Int32)) fun x10 =>
  some (.inl (w9.1, x10), w9.2)
def fX10_mixRaces (x0_ : Int64) (s : Sg) : Option (Int64 × Sg) :=
  (lpG (fX10_mixRaces_L5) FU (x0_, (0 : Int32)) s).bind fun w1 =>
  some (w1.1, w1.2)
theorem ct_X10_mixRaces {g : Gl} {x0_ : Int64} {s : Sg} {w : Int64 × Sg}  (h : fX10_mixRaces x0_ s = some w) : Ct SS g iX10_mixRaces 5 115 [.ref (gad g 0), .long x0_] s (Dt (some (.long w.1)) w.2) := by
  refine Ct.ofV (by decide +kernel) 3 (lv0 := [some (.ref (gad g 0)), some (.long x0_), none, none, none, none]) rfl rfl (fun M hC => ?_)
  have hP : (Dt (some (.long w.1)) w.2) (some (.long w.1)) w.2 := ⟨rfl, rfl⟩
  generalize Dt (some (.long w.1)) w.2 = P at hP ⊢
  unfold fX10_mixRaces at h
  refine v_lload_n (pc := 0) hC dX10_mixRaces_0 rfl ?_
  refine v_lstore_n (pc := 1) (lv' := [some (.ref (gad g 0)), some (.long x0_), none, some (.long x0_), none, none]) hC dX10_mixRaces_1 rfl rfl rfl rfl ?_
  refine v_iconst (pc := 2) (0 : Int32) rfl hC dX10_mixRaces_2 ?_
  refine v_istore (pc := 3) (lv' := [some (.ref (gad g 0)), some (.long x0_), none, some (.long x0_), none, some (.int (0 : Int32))]) hC dX10_mixRaces_3 rfl rfl rfl rfl ?_
  obtain ⟨w1, hw1, h⟩ := obd_s h
  have kx18 : V SS g M iX10_mixRaces (PQ SS g M P) 80 [none, none, none, some (.long w1.1), none, none] [] w1.2 := by
    refine v_lload_n (pc := 80) hC dX10_mixRaces_80 rfl ?_
    obtain rfl := Option.some.inj h
    exact v_lret (pc := 81) hC rfl dX10_mixRaces_81 hP
  refine V.ls (ls_some (ls_none (ls_none (ls_some (ls_none (ls_some ls_nil)))))) (v_loop (pc := 5) (fun a4 => [some (.ref (gad g 0)), none, none, some (.long a4.1), none, some (.int a4.2)]) (fun z t => V SS g M iX10_mixRaces (PQ SS g M P) 80 [none, none, none, some (.long z), none, none] [] t) (fun a4 s2 u3 hu3 k5 k6 => ?_) _ _ _ _ hw1 kx18)
  unfold fX10_mixRaces_L5 at hu3
  refine v_iload (pc := 5) hC dX10_mixRaces_5 rfl ?_
  refine v_aload_n (pc := 7) hC dX10_mixRaces_7 rfl ?_
  refine v_gt (pc := 8) 0 (.ref (gad g 1)) hC s_0 rfl rfl rfl rfl fl_X10_28 dX10_mixRaces_8 ?_
  refine v_gtN (pc := 11) 0 (.int (gI s2 1 0)) hC s_1 rfl rfl rfl rfl fl_X10_91 dX10_mixRaces_11 ?_
  refine v_ic_ge (pc := 14) (tgt := 80) hC dX10_mixRaces_14 rfl (fun c8 => ?_) (fun c8 => ?_)
  · replace hu3 := (if_pos c8).symm.trans hu3
    obtain rfl := Option.some.inj hu3
    exact V.ls (ls_none (ls_none (ls_none (ls_some (ls_none (ls_none ls_nil)))))) (k6 _ rfl)
  · replace hu3 := (if_neg c8).symm.trans hu3
    refine v_lload_n (pc := 17) hC dX10_mixRaces_17 rfl ?_
    refine v_aload_n (pc := 18) hC dX10_mixRaces_18 rfl ?_
    refine v_gt (pc := 19) 0 (.ref (gad g 1)) hC s_0 rfl rfl rfl rfl fl_X10_28 dX10_mixRaces_19 ?_
    refine v_iload (pc := 22) hC dX10_mixRaces_22 rfl ?_
    obtain ⟨w9, hw9, hu3⟩ := obd_s hu3
    refine v_cV (pc := 24) [.long a4.1] [.int w9.1, .long a4.1] gm_X3_feltInRace hC s_1 rfl rfl (ct_X3_feltInRace  hw9) ml_X10_302 rfl rfl rfl rfl rfl rfl dX10_mixRaces_24 ?_
    refine v_i2l (pc := 27) hC dX10_mixRaces_27 ?_
    obtain ⟨w10, hw10, hu3⟩ := obd_s hu3
    refine v_cS (pc := 28) [] [.long w10.1] gm_X10_mix hC (ct_X10_mix  hw10) ml_X10_359 rfl rfl rfl rfl rfl rfl dX10_mixRaces_28 ?_
    refine v_lstore_n (pc := 31) (lv' := [some (.ref (gad g 0)), none, none, some (.long w10.1), none, some (.int a4.2)]) hC dX10_mixRaces_31 rfl rfl rfl rfl ?_
    refine v_lload_n (pc := 32) hC dX10_mixRaces_32 rfl ?_
    refine v_aload_n (pc := 33) hC dX10_mixRaces_33 rfl ?_
    refine v_gt (pc := 34) 0 (.ref (gad g 1)) hC s_0 rfl rfl rfl rfl fl_X10_28 dX10_mixRaces_34 ?_
    refine v_iload (pc := 37) hC dX10_mixRaces_37 rfl ?_
    obtain ⟨w11, hw11, hu3⟩ := obd_s hu3
    refine v_cV (pc := 39) [.long w10.1] [.int w11.1, .long w10.1] gm_X3_tenthsInRace hC s_1 rfl rfl (ct_X3_tenthsInRace  hw11) ml_X10_305 rfl rfl rfl rfl rfl rfl dX10_mixRaces_39 ?_
    refine v_i2l (pc := 42) hC dX10_mixRaces_42 ?_
    obtain ⟨w12, hw12, hu3⟩ := obd_s hu3
    refine v_cS (pc := 43) [] [.long w12.1] gm_X10_mix hC (ct_X10_mix  hw12) ml_X10_359 rfl rfl rfl rfl rfl rfl dX10_mixRaces_43 ?_
    refine v_lstore_n (pc := 46) (lv' := [some (.ref (gad g 0)), none, none, some (.long w12.1), none, some (.int a4.2)]) hC dX10_mixRaces_46 rfl rfl rfl rfl ?_
    refine v_lload_n (pc := 47) hC dX10_mixRaces_47 rfl ?_
    refine v_aload_n (pc := 48) hC dX10_mixRaces_48 rfl ?_
    refine v_iload (pc := 49) hC dX10_mixRaces_49 rfl ?_
    obtain ⟨w13, hw13, hu3⟩ := obd_s hu3
    refine v_cV (pc := 51) [.long w12.1] [.int w13.1, .long w12.1] gm_X10_givenOf hC s_0 rfl rfl (ct_X10_givenOf  hw13) ml_X10_299 rfl rfl rfl rfl rfl rfl dX10_mixRaces_51 ?_
    refine v_i2l (pc := 54) hC dX10_mixRaces_54 ?_
    obtain ⟨w14, hw14, hu3⟩ := obd_s hu3
    refine v_cS (pc := 55) [] [.long w14.1] gm_X10_mix hC (ct_X10_mix  hw14) ml_X10_359 rfl rfl rfl rfl rfl rfl dX10_mixRaces_55 ?_
    refine v_lstore_n (pc := 58) (lv' := [some (.ref (gad g 0)), none, none, some (.long w14.1), none, some (.int a4.2)]) hC dX10_mixRaces_58 rfl rfl rfl rfl ?_
    refine v_lload_n (pc := 59) hC dX10_mixRaces_59 rfl ?_
    refine v_aload_n (pc := 60) hC dX10_mixRaces_60 rfl ?_
    refine v_gt (pc := 61) 2 (.ref (gad g 25)) hC s_0 rfl rfl rfl rfl fl_X10_44 dX10_mixRaces_61 ?_
    refine v_iload (pc := 64) hC dX10_mixRaces_64 rfl ?_
    obtain ⟨w15, hw15, hu3⟩ := obd_s hu3
    refine v_cV (pc := 66) [.long w14.1] [.int w15.1, .long w14.1] gm_X6_changedMedals hC s_25 rfl rfl (ct_X6_changedMedals  hw15) ml_X10_277 rfl rfl rfl rfl rfl rfl dX10_mixRaces_66 ?_
    refine v_i2l (pc := 69) hC dX10_mixRaces_69 ?_
    obtain ⟨w16, hw16, hu3⟩ := obd_s hu3
    refine v_cS (pc := 70) [] [.long w16.1] gm_X10_mix hC (ct_X10_mix  hw16) ml_X10_359 rfl rfl rfl rfl rfl rfl dX10_mixRaces_70 ?_
    refine v_lstore_n (pc := 73) (lv' := [some (.ref (gad g 0)), none, none, some (.long w16.1), none, some (.int a4.2)]) hC dX10_mixRaces_73 rfl rfl rfl rfl ?_
    obtain ⟨x17, hx17, hu3⟩ := bnd_s hu3
    refine v_iinc (pc := 74) (lv' := [some (.ref (gad g 0)), none, none, some (.long w16.1), none, some (.int x17)]) (1 : Int32) rfl hx17 hC dX10_mixRaces_74 rfl rfl rfl rfl ?_
    refine v_goto (pc := 77) (tgt := 5) hC dX10_mixRaces_77 rfl ?_
    obtain rfl := Option.some.inj hu3
    exact V.ls (ls_some (ls_none (ls_none (ls_some (ls_none (ls_some ls_nil)))))) (k5 _ rfl)
theorem dX10_mixSwims_0 : decode cX10_mixSwims 0 = .ok (.lload_n 1, 1) := by decide +kernel
theorem dX10_mixSwims_1 : decode cX10_mixSwims 1 = .ok (.lstore_n 3, 1) := by decide +kernel
theorem dX10_mixSwims_2 : decode cX10_mixSwims 2 = .ok (.iconst 0, 1) := by decide +kernel
theorem dX10_mixSwims_3 : decode cX10_mixSwims 3 = .ok (.istore 5, 2) := by decide +kernel
theorem dX10_mixSwims_5 : decode cX10_mixSwims 5 = .ok (.iload 5, 2) := by decide +kernel
theorem dX10_mixSwims_7 : decode cX10_mixSwims 7 = .ok (.aload_n 0, 1) := by decide +kernel
theorem dX10_mixSwims_8 : decode cX10_mixSwims 8 = .ok (.getfield 28, 3) := by decide +kernel
theorem dX10_mixSwims_11 : decode cX10_mixSwims 11 = .ok (.getfield 112, 3) := by decide +kernel
theorem dX10_mixSwims_14 : decode cX10_mixSwims 14 = .ok (.if_icmp .ge 49, 3) := by decide +kernel
theorem dX10_mixSwims_17 : decode cX10_mixSwims 17 = .ok (.iconst 0, 1) := by decide +kernel
theorem dX10_mixSwims_18 : decode cX10_mixSwims 18 = .ok (.istore 6, 2) := by decide +kernel
theorem dX10_mixSwims_20 : decode cX10_mixSwims 20 = .ok (.iload 6, 2) := by decide +kernel
theorem dX10_mixSwims_22 : decode cX10_mixSwims 22 = .ok (.aload_n 0, 1) := by decide +kernel
theorem dX10_mixSwims_23 : decode cX10_mixSwims 23 = .ok (.getfield 28, 3) := by decide +kernel
theorem dX10_mixSwims_26 : decode cX10_mixSwims 26 = .ok (.iload 5, 2) := by decide +kernel
theorem dX10_mixSwims_28 : decode cX10_mixSwims 28 = .ok (.invokevirtual 122, 3) := by decide +kernel
theorem dX10_mixSwims_31 : decode cX10_mixSwims 31 = .ok (.if_icmp .ge 26, 3) := by decide +kernel
theorem dX10_mixSwims_34 : decode cX10_mixSwims 34 = .ok (.lload_n 3, 1) := by decide +kernel
theorem dX10_mixSwims_35 : decode cX10_mixSwims 35 = .ok (.aload_n 0, 1) := by decide +kernel
theorem dX10_mixSwims_36 : decode cX10_mixSwims 36 = .ok (.getfield 28, 3) := by decide +kernel
theorem dX10_mixSwims_39 : decode cX10_mixSwims 39 = .ok (.iload 5, 2) := by decide +kernel
theorem dX10_mixSwims_41 : decode cX10_mixSwims 41 = .ok (.iload 6, 2) := by decide +kernel
theorem dX10_mixSwims_43 : decode cX10_mixSwims 43 = .ok (.invokevirtual 132, 3) := by decide +kernel
theorem dX10_mixSwims_46 : decode cX10_mixSwims 46 = .ok (.i2l, 1) := by decide +kernel
theorem dX10_mixSwims_47 : decode cX10_mixSwims 47 = .ok (.invokestatic 359, 3) := by decide +kernel
theorem dX10_mixSwims_50 : decode cX10_mixSwims 50 = .ok (.lstore_n 3, 1) := by decide +kernel
theorem dX10_mixSwims_51 : decode cX10_mixSwims 51 = .ok (.iinc 6 1, 3) := by decide +kernel
theorem dX10_mixSwims_54 : decode cX10_mixSwims 54 = .ok (.goto (-34), 3) := by decide +kernel
theorem dX10_mixSwims_57 : decode cX10_mixSwims 57 = .ok (.iinc 5 1, 3) := by decide +kernel
theorem dX10_mixSwims_60 : decode cX10_mixSwims 60 = .ok (.goto (-55), 3) := by decide +kernel
theorem dX10_mixSwims_63 : decode cX10_mixSwims 63 = .ok (.lload_n 3, 1) := by decide +kernel
theorem dX10_mixSwims_64 : decode cX10_mixSwims 64 = .ok (.lreturn, 1) := by decide +kernel
def fX10_mixSwims_L20 (p5 : Int32) (a : Int64 × Int32) (s : Sg) : Option (((Int64 × Int32) ⊕ (Int64)) × Sg) :=
  (fX3_lengthsOf p5 s).bind fun w1 =>
  if w1.1 ≤ a.2 then
  some (.inr a.1, w1.2)
  else
  (fX3_timeOf p5 a.2 w1.2).bind fun w3 =>
  (fX10_mix a.1 ((w3.1).toInt64) w3.2).bind fun w4 =>
  bnd (a.2 + (1 : Int32)) fun x5 =>
  some (.inl (w4.1, x5), w4.2)
def fX10_mixSwims_L5  (a : Int64 × Int32) (s : Sg) : Option (((Int64 × Int32) ⊕ (Int64)) × Sg) :=
  if (gI s 1 1) ≤ a.2 then
  some (.inr a.1, s)
  else
  (lpG (fX10_mixSwims_L20 a.2) FU (a.1, (0 : Int32)) s).bind fun w2 =>
  bnd (a.2 + (1 : Int32)) fun x3 =>
  some (.inl (w2.1, x3), w2.2)
def fX10_mixSwims (x0_ : Int64) (s : Sg) : Option (Int64 × Sg) :=
  (lpG (fX10_mixSwims_L5) FU (x0_, (0 : Int32)) s).bind fun w1 =>
  some (w1.1, w1.2)
theorem ct_X10_mixSwims {g : Gl} {x0_ : Int64} {s : Sg} {w : Int64 × Sg}  (h : fX10_mixSwims x0_ s = some w) : Ct SS g iX10_mixSwims 1 23 [.ref (gad g 0), .long x0_] s (Dt (some (.long w.1)) w.2) := by
  refine Ct.ofV (by decide +kernel) 4 (lv0 := [some (.ref (gad g 0)), some (.long x0_), none, none, none, none, none]) rfl rfl (fun M hC => ?_)
  have hP : (Dt (some (.long w.1)) w.2) (some (.long w.1)) w.2 := ⟨rfl, rfl⟩
  generalize Dt (some (.long w.1)) w.2 = P at hP ⊢
  unfold fX10_mixSwims at h
  refine v_lload_n (pc := 0) hC dX10_mixSwims_0 rfl ?_
  refine v_lstore_n (pc := 1) (lv' := [some (.ref (gad g 0)), some (.long x0_), none, some (.long x0_), none, none, none]) hC dX10_mixSwims_1 rfl rfl rfl rfl ?_
  refine v_iconst (pc := 2) (0 : Int32) rfl hC dX10_mixSwims_2 ?_
  refine v_istore (pc := 3) (lv' := [some (.ref (gad g 0)), some (.long x0_), none, some (.long x0_), none, some (.int (0 : Int32)), none]) hC dX10_mixSwims_3 rfl rfl rfl rfl ?_
  obtain ⟨w1, hw1, h⟩ := obd_s h
  have kx23 : V SS g M iX10_mixSwims (PQ SS g M P) 63 [none, none, none, some (.long w1.1), none, none, none] [] w1.2 := by
    refine v_lload_n (pc := 63) hC dX10_mixSwims_63 rfl ?_
    obtain rfl := Option.some.inj h
    exact v_lret (pc := 64) hC rfl dX10_mixSwims_64 hP
  refine V.ls (ls_some (ls_none (ls_none (ls_some (ls_none (ls_some (ls_none ls_nil))))))) (v_loop (pc := 5) (fun a4 => [some (.ref (gad g 0)), none, none, some (.long a4.1), none, some (.int a4.2), none]) (fun z t => V SS g M iX10_mixSwims (PQ SS g M P) 63 [none, none, none, some (.long z), none, none, none] [] t) (fun a4 s2 u3 hu3 k5 k6 => ?_) _ _ _ _ hw1 kx23)
  unfold fX10_mixSwims_L5 at hu3
  refine v_iload (pc := 5) hC dX10_mixSwims_5 rfl ?_
  refine v_aload_n (pc := 7) hC dX10_mixSwims_7 rfl ?_
  refine v_gt (pc := 8) 0 (.ref (gad g 1)) hC s_0 rfl rfl rfl rfl fl_X10_28 dX10_mixSwims_8 ?_
  refine v_gtN (pc := 11) 1 (.int (gI s2 1 1)) hC s_1 rfl rfl rfl rfl fl_X10_112 dX10_mixSwims_11 ?_
  refine v_ic_ge (pc := 14) (tgt := 63) hC dX10_mixSwims_14 rfl (fun c8 => ?_) (fun c8 => ?_)
  · replace hu3 := (if_pos c8).symm.trans hu3
    obtain rfl := Option.some.inj hu3
    exact V.ls (ls_none (ls_none (ls_none (ls_some (ls_none (ls_none (ls_none ls_nil))))))) (k6 _ rfl)
  · replace hu3 := (if_neg c8).symm.trans hu3
    refine v_iconst (pc := 17) (0 : Int32) rfl hC dX10_mixSwims_17 ?_
    refine v_istore (pc := 18) (lv' := [some (.ref (gad g 0)), none, none, some (.long a4.1), none, some (.int a4.2), some (.int (0 : Int32))]) hC dX10_mixSwims_18 rfl rfl rfl rfl ?_
    obtain ⟨w9, hw9, hu3⟩ := obd_s hu3
    have kx22 : V SS g M iX10_mixSwims (PQ SS g M P) 57 [some (.ref (gad g 0)), none, none, some (.long w9.1), none, some (.int a4.2), none] [] w9.2 := by
      obtain ⟨x10, hx10, hu3⟩ := bnd_s hu3
      refine v_iinc (pc := 57) (lv' := [some (.ref (gad g 0)), none, none, some (.long w9.1), none, some (.int x10), none]) (1 : Int32) rfl hx10 hC dX10_mixSwims_57 rfl rfl rfl rfl ?_
      refine v_goto (pc := 60) (tgt := 5) hC dX10_mixSwims_60 rfl ?_
      obtain rfl := Option.some.inj hu3
      exact V.ls (ls_some (ls_none (ls_none (ls_some (ls_none (ls_some (ls_none ls_nil))))))) (k5 _ rfl)
    refine V.ls (ls_some (ls_none (ls_none (ls_some (ls_none (ls_some (ls_some ls_nil))))))) (v_loop (pc := 20) (fun a13 => [some (.ref (gad g 0)), none, none, some (.long a13.1), none, some (.int a4.2), some (.int a13.2)]) (fun z t => V SS g M iX10_mixSwims (PQ SS g M P) 57 [some (.ref (gad g 0)), none, none, some (.long z), none, some (.int a4.2), none] [] t) (fun a13 s11 u12 hu12 k14 k15 => ?_) _ _ _ _ hw9 kx22)
    unfold fX10_mixSwims_L20 at hu12
    refine v_iload (pc := 20) hC dX10_mixSwims_20 rfl ?_
    refine v_aload_n (pc := 22) hC dX10_mixSwims_22 rfl ?_
    refine v_gt (pc := 23) 0 (.ref (gad g 1)) hC s_0 rfl rfl rfl rfl fl_X10_28 dX10_mixSwims_23 ?_
    refine v_iload (pc := 26) hC dX10_mixSwims_26 rfl ?_
    obtain ⟨w17, hw17, hu12⟩ := obd_s hu12
    refine v_cV (pc := 28) [.int a13.2] [.int w17.1, .int a13.2] gm_X3_lengthsOf hC s_1 rfl rfl (ct_X3_lengthsOf  hw17) ml_X10_122 rfl rfl rfl rfl rfl rfl dX10_mixSwims_28 ?_
    refine v_ic_ge (pc := 31) (tgt := 57) hC dX10_mixSwims_31 rfl (fun c18 => ?_) (fun c18 => ?_)
    · replace hu12 := (if_pos c18).symm.trans hu12
      obtain rfl := Option.some.inj hu12
      exact V.ls (ls_some (ls_none (ls_none (ls_some (ls_none (ls_some (ls_none ls_nil))))))) (k15 _ rfl)
    · replace hu12 := (if_neg c18).symm.trans hu12
      refine v_lload_n (pc := 34) hC dX10_mixSwims_34 rfl ?_
      refine v_aload_n (pc := 35) hC dX10_mixSwims_35 rfl ?_
      refine v_gt (pc := 36) 0 (.ref (gad g 1)) hC s_0 rfl rfl rfl rfl fl_X10_28 dX10_mixSwims_36 ?_
      refine v_iload (pc := 39) hC dX10_mixSwims_39 rfl ?_
      refine v_iload (pc := 41) hC dX10_mixSwims_41 rfl ?_
      obtain ⟨w19, hw19, hu12⟩ := obd_s hu12
      refine v_cV (pc := 43) [.long a13.1] [.int w19.1, .long a13.1] gm_X3_timeOf hC s_1 rfl rfl (ct_X3_timeOf  hw19) ml_X10_132 rfl rfl rfl rfl rfl rfl dX10_mixSwims_43 ?_
      refine v_i2l (pc := 46) hC dX10_mixSwims_46 ?_
      obtain ⟨w20, hw20, hu12⟩ := obd_s hu12
      refine v_cS (pc := 47) [] [.long w20.1] gm_X10_mix hC (ct_X10_mix  hw20) ml_X10_359 rfl rfl rfl rfl rfl rfl dX10_mixSwims_47 ?_
      refine v_lstore_n (pc := 50) (lv' := [some (.ref (gad g 0)), none, none, some (.long w20.1), none, some (.int a4.2), some (.int a13.2)]) hC dX10_mixSwims_50 rfl rfl rfl rfl ?_
      obtain ⟨x21, hx21, hu12⟩ := bnd_s hu12
      refine v_iinc (pc := 51) (lv' := [some (.ref (gad g 0)), none, none, some (.long w20.1), none, some (.int a4.2), some (.int x21)]) (1 : Int32) rfl hx21 hC dX10_mixSwims_51 rfl rfl rfl rfl ?_
      refine v_goto (pc := 54) (tgt := 20) hC dX10_mixSwims_54 rfl ?_
      obtain rfl := Option.some.inj hu12
      exact V.ls (ls_some (ls_none (ls_none (ls_some (ls_none (ls_some (ls_some ls_nil))))))) (k14 _ rfl)
theorem dX10_digest_0 : decode cX10_digest 0 = .ok (.aload_n 0, 1) := by decide +kernel
theorem dX10_digest_1 : decode cX10_digest 1 = .ok (.getfield 37, 3) := by decide +kernel
theorem dX10_digest_4 : decode cX10_digest 4 = .ok (.invokevirtual 204, 3) := by decide +kernel
theorem dX10_digest_7 : decode cX10_digest 7 = .ok (.aload_n 0, 1) := by decide +kernel
theorem dX10_digest_8 : decode cX10_digest 8 = .ok (.getfield 37, 3) := by decide +kernel
theorem dX10_digest_11 : decode cX10_digest 11 = .ok (.invokevirtual 221, 3) := by decide +kernel
theorem dX10_digest_14 : decode cX10_digest 14 = .ok (.aload_n 0, 1) := by decide +kernel
theorem dX10_digest_15 : decode cX10_digest 15 = .ok (.getfield 44, 3) := by decide +kernel
theorem dX10_digest_18 : decode cX10_digest 18 = .ok (.invokevirtual 248, 3) := by decide +kernel
theorem dX10_digest_21 : decode cX10_digest 21 = .ok (.aload_n 0, 1) := by decide +kernel
theorem dX10_digest_22 : decode cX10_digest 22 = .ok (.getfield 44, 3) := by decide +kernel
theorem dX10_digest_25 : decode cX10_digest 25 = .ok (.invokevirtual 252, 3) := by decide +kernel
theorem dX10_digest_28 : decode cX10_digest 28 = .ok (.aload_n 0, 1) := by decide +kernel
theorem dX10_digest_29 : decode cX10_digest 29 = .ok (.getfield 44, 3) := by decide +kernel
theorem dX10_digest_32 : decode cX10_digest 32 = .ok (.invokevirtual 264, 3) := by decide +kernel
theorem dX10_digest_35 : decode cX10_digest 35 = .ok (.ldc2_w 354, 3) := by decide +kernel
theorem dX10_digest_38 : decode cX10_digest 38 = .ok (.lstore_n 1, 1) := by decide +kernel
theorem dX10_digest_39 : decode cX10_digest 39 = .ok (.iconst 0, 1) := by decide +kernel
theorem dX10_digest_40 : decode cX10_digest 40 = .ok (.istore_n 3, 1) := by decide +kernel
theorem dX10_digest_41 : decode cX10_digest 41 = .ok (.iload_n 3, 1) := by decide +kernel
theorem dX10_digest_42 : decode cX10_digest 42 = .ok (.bipush 7, 2) := by decide +kernel
theorem dX10_digest_44 : decode cX10_digest 44 = .ok (.if_icmp .gt 20, 3) := by decide +kernel
theorem dX10_digest_47 : decode cX10_digest 47 = .ok (.lload_n 1, 1) := by decide +kernel
theorem dX10_digest_48 : decode cX10_digest 48 = .ok (.aload_n 0, 1) := by decide +kernel
theorem dX10_digest_49 : decode cX10_digest 49 = .ok (.iload_n 3, 1) := by decide +kernel
theorem dX10_digest_50 : decode cX10_digest 50 = .ok (.invokevirtual 356, 3) := by decide +kernel
theorem dX10_digest_53 : decode cX10_digest 53 = .ok (.i2l, 1) := by decide +kernel
theorem dX10_digest_54 : decode cX10_digest 54 = .ok (.invokestatic 359, 3) := by decide +kernel
theorem dX10_digest_57 : decode cX10_digest 57 = .ok (.lstore_n 1, 1) := by decide +kernel
theorem dX10_digest_58 : decode cX10_digest 58 = .ok (.iinc 3 1, 3) := by decide +kernel
theorem dX10_digest_61 : decode cX10_digest 61 = .ok (.goto (-20), 3) := by decide +kernel
theorem dX10_digest_64 : decode cX10_digest 64 = .ok (.aload_n 0, 1) := by decide +kernel
theorem dX10_digest_65 : decode cX10_digest 65 = .ok (.lload_n 1, 1) := by decide +kernel
theorem dX10_digest_66 : decode cX10_digest 66 = .ok (.invokevirtual 363, 3) := by decide +kernel
theorem dX10_digest_69 : decode cX10_digest 69 = .ok (.lstore_n 1, 1) := by decide +kernel
theorem dX10_digest_70 : decode cX10_digest 70 = .ok (.aload_n 0, 1) := by decide +kernel
theorem dX10_digest_71 : decode cX10_digest 71 = .ok (.lload_n 1, 1) := by decide +kernel
theorem dX10_digest_72 : decode cX10_digest 72 = .ok (.invokevirtual 367, 3) := by decide +kernel
theorem dX10_digest_75 : decode cX10_digest 75 = .ok (.lstore_n 1, 1) := by decide +kernel
theorem dX10_digest_76 : decode cX10_digest 76 = .ok (.aload_n 0, 1) := by decide +kernel
theorem dX10_digest_77 : decode cX10_digest 77 = .ok (.lload_n 1, 1) := by decide +kernel
theorem dX10_digest_78 : decode cX10_digest 78 = .ok (.invokevirtual 370, 3) := by decide +kernel
theorem dX10_digest_81 : decode cX10_digest 81 = .ok (.lstore_n 1, 1) := by decide +kernel
theorem dX10_digest_82 : decode cX10_digest 82 = .ok (.lload_n 1, 1) := by decide +kernel
theorem dX10_digest_83 : decode cX10_digest 83 = .ok (.aload_n 0, 1) := by decide +kernel
theorem dX10_digest_84 : decode cX10_digest 84 = .ok (.getfield 52, 3) := by decide +kernel
theorem dX10_digest_87 : decode cX10_digest 87 = .ok (.invokevirtual 293, 3) := by decide +kernel
theorem dX10_digest_90 : decode cX10_digest 90 = .ok (.i2l, 1) := by decide +kernel
theorem dX10_digest_91 : decode cX10_digest 91 = .ok (.invokestatic 359, 3) := by decide +kernel
theorem dX10_digest_94 : decode cX10_digest 94 = .ok (.lstore_n 1, 1) := by decide +kernel
theorem dX10_digest_95 : decode cX10_digest 95 = .ok (.lload_n 1, 1) := by decide +kernel
theorem dX10_digest_96 : decode cX10_digest 96 = .ok (.aload_n 0, 1) := by decide +kernel
theorem dX10_digest_97 : decode cX10_digest 97 = .ok (.getfield 56, 3) := by decide +kernel
theorem dX10_digest_100 : decode cX10_digest 100 = .ok (.invokevirtual 296, 3) := by decide +kernel
theorem dX10_digest_103 : decode cX10_digest 103 = .ok (.i2l, 1) := by decide +kernel
theorem dX10_digest_104 : decode cX10_digest 104 = .ok (.invokestatic 359, 3) := by decide +kernel
theorem dX10_digest_107 : decode cX10_digest 107 = .ok (.lstore_n 1, 1) := by decide +kernel
theorem dX10_digest_108 : decode cX10_digest 108 = .ok (.aload_n 0, 1) := by decide +kernel
theorem dX10_digest_109 : decode cX10_digest 109 = .ok (.lload_n 1, 1) := by decide +kernel
theorem dX10_digest_110 : decode cX10_digest 110 = .ok (.invokevirtual 373, 3) := by decide +kernel
theorem dX10_digest_113 : decode cX10_digest 113 = .ok (.lstore_n 1, 1) := by decide +kernel
theorem dX10_digest_114 : decode cX10_digest 114 = .ok (.aload_n 0, 1) := by decide +kernel
theorem dX10_digest_115 : decode cX10_digest 115 = .ok (.lload_n 1, 1) := by decide +kernel
theorem dX10_digest_116 : decode cX10_digest 116 = .ok (.invokevirtual 376, 3) := by decide +kernel
theorem dX10_digest_119 : decode cX10_digest 119 = .ok (.lstore_n 1, 1) := by decide +kernel
theorem dX10_digest_120 : decode cX10_digest 120 = .ok (.iconst 0, 1) := by decide +kernel
theorem dX10_digest_121 : decode cX10_digest 121 = .ok (.istore_n 3, 1) := by decide +kernel
theorem dX10_digest_122 : decode cX10_digest 122 = .ok (.iload_n 3, 1) := by decide +kernel
theorem dX10_digest_123 : decode cX10_digest 123 = .ok (.bipush 9, 2) := by decide +kernel
theorem dX10_digest_125 : decode cX10_digest 125 = .ok (.if_icmp .gt 24, 3) := by decide +kernel
theorem dX10_digest_128 : decode cX10_digest 128 = .ok (.lload_n 1, 1) := by decide +kernel
theorem dX10_digest_129 : decode cX10_digest 129 = .ok (.aload_n 0, 1) := by decide +kernel
theorem dX10_digest_130 : decode cX10_digest 130 = .ok (.getfield 56, 3) := by decide +kernel
theorem dX10_digest_133 : decode cX10_digest 133 = .ok (.getfield 311, 3) := by decide +kernel
theorem dX10_digest_136 : decode cX10_digest 136 = .ok (.iload_n 3, 1) := by decide +kernel
theorem dX10_digest_137 : decode cX10_digest 137 = .ok (.iaload, 1) := by decide +kernel
theorem dX10_digest_138 : decode cX10_digest 138 = .ok (.i2l, 1) := by decide +kernel
theorem dX10_digest_139 : decode cX10_digest 139 = .ok (.invokestatic 359, 3) := by decide +kernel
theorem dX10_digest_142 : decode cX10_digest 142 = .ok (.lstore_n 1, 1) := by decide +kernel
theorem dX10_digest_143 : decode cX10_digest 143 = .ok (.iinc 3 1, 3) := by decide +kernel
theorem dX10_digest_146 : decode cX10_digest 146 = .ok (.goto (-24), 3) := by decide +kernel
theorem dX10_digest_149 : decode cX10_digest 149 = .ok (.lload_n 1, 1) := by decide +kernel
theorem dX10_digest_150 : decode cX10_digest 150 = .ok (.lreturn, 1) := by decide +kernel
def fX10_digest_L41  (a : Int64 × Int32) (s : Sg) : Option (((Int64 × Int32) ⊕ (Int64)) × Sg) :=
  if (7 : Int32) < a.2 then
  some (.inr a.1, s)
  else
  (fX10_count a.2 s).bind fun w2 =>
  (fX10_mix a.1 ((w2.1).toInt64) w2.2).bind fun w3 =>
  bnd (a.2 + (1 : Int32)) fun x4 =>
  some (.inl (w3.1, x4), w3.2)
def fX10_digest_L122  (a : Int64 × Int32) (s : Sg) : Option (((Int64 × Int32) ⊕ (Int64)) × Sg) :=
  if (9 : Int32) < a.2 then
  some (.inr a.1, s)
  else
  (aI s 36 10 a.2).bind fun v2 =>
  (fX10_mix a.1 ((v2).toInt64) s).bind fun w3 =>
  bnd (a.2 + (1 : Int32)) fun x4 =>
  some (.inl (w3.1, x4), w3.2)
def fX10_digest  (s : Sg) : Option (Int64 × Sg) :=
  (fX8_survey s).bind fun w1 =>
  (fX8_surveyDays w1).bind fun w2 =>
  (fX6_survey w2).bind fun w3 =>
  (fX6_arrange w3).bind fun w4 =>
  (fX6_putRight w4).bind fun w5 =>
  (lpG (fX10_digest_L41) FU ((17 : Int64), (0 : Int32)) w5).bind fun w6 =>
  (fX10_mixLanes w6.1 w6.2).bind fun w7 =>
  (fX10_mixDays w7.1 w7.2).bind fun w8 =>
  (fX10_mixOrder w8.1 w8.2).bind fun w9 =>
  (fX4_faultAt w9.2).bind fun w10 =>
  (fX10_mix w9.1 ((w10.1).toInt64) w10.2).bind fun w11 =>
  (fX9_parse w11.2).bind fun w12 =>
  (fX10_mix w11.1 ((w12.1).toInt64) w12.2).bind fun w13 =>
  (fX10_mixRaces w13.1 w13.2).bind fun w14 =>
  (fX10_mixSwims w14.1 w14.2).bind fun w15 =>
  (lpG (fX10_digest_L122) FU (w15.1, (0 : Int32)) w15.2).bind fun w16 =>
  some (w16.1, w16.2)
theorem ct_X10_digest {g : Gl}  {s : Sg} {w : Int64 × Sg}  (h : fX10_digest s = some w) : Ct SS g iX10_digest 6 140 [.ref (gad g 0)] s (Dt (some (.long w.1)) w.2) := by
  refine Ct.ofV (by decide +kernel) 3 (lv0 := [some (.ref (gad g 0)), none, none, none]) rfl rfl (fun M hC => ?_)
  have hP : (Dt (some (.long w.1)) w.2) (some (.long w.1)) w.2 := ⟨rfl, rfl⟩
  generalize Dt (some (.long w.1)) w.2 = P at hP ⊢
  unfold fX10_digest at h
  refine v_aload_n (pc := 0) hC dX10_digest_0 rfl ?_
  refine v_gt (pc := 1) 1 (.ref (gad g 19)) hC s_0 rfl rfl rfl rfl fl_X10_37 dX10_digest_1 ?_
  obtain ⟨w1, hw1, h⟩ := obd_s h
  refine v_cV (pc := 4) [] [] gm_X8_survey hC s_19 rfl rfl (ct_X8_survey  hw1) ml_X10_204 rfl rfl rfl rfl rfl rfl dX10_digest_4 ?_
  refine v_aload_n (pc := 7) hC dX10_digest_7 rfl ?_
  refine v_gt (pc := 8) 1 (.ref (gad g 19)) hC s_0 rfl rfl rfl rfl fl_X10_37 dX10_digest_8 ?_
  obtain ⟨w2, hw2, h⟩ := obd_s h
  refine v_cV (pc := 11) [] [] gm_X8_surveyDays hC s_19 rfl rfl (ct_X8_surveyDays  hw2) ml_X10_221 rfl rfl rfl rfl rfl rfl dX10_digest_11 ?_
  refine v_aload_n (pc := 14) hC dX10_digest_14 rfl ?_
  refine v_gt (pc := 15) 2 (.ref (gad g 25)) hC s_0 rfl rfl rfl rfl fl_X10_44 dX10_digest_15 ?_
  obtain ⟨w3, hw3, h⟩ := obd_s h
  refine v_cV (pc := 18) [] [] gm_X6_survey hC s_25 rfl rfl (ct_X6_survey  hw3) ml_X10_248 rfl rfl rfl rfl rfl rfl dX10_digest_18 ?_
  refine v_aload_n (pc := 21) hC dX10_digest_21 rfl ?_
  refine v_gt (pc := 22) 2 (.ref (gad g 25)) hC s_0 rfl rfl rfl rfl fl_X10_44 dX10_digest_22 ?_
  obtain ⟨w4, hw4, h⟩ := obd_s h
  refine v_cV (pc := 25) [] [] gm_X6_arrange hC s_25 rfl rfl (ct_X6_arrange  hw4) ml_X10_252 rfl rfl rfl rfl rfl rfl dX10_digest_25 ?_
  refine v_aload_n (pc := 28) hC dX10_digest_28 rfl ?_
  refine v_gt (pc := 29) 2 (.ref (gad g 25)) hC s_0 rfl rfl rfl rfl fl_X10_44 dX10_digest_29 ?_
  obtain ⟨w5, hw5, h⟩ := obd_s h
  refine v_cV (pc := 32) [] [] gm_X6_putRight hC s_25 rfl rfl (ct_X6_putRight  hw5) ml_X10_264 rfl rfl rfl rfl rfl rfl dX10_digest_32 ?_
  refine v_ldc2 (pc := 35) (17 : Int64) kc_X10_354 hC dX10_digest_35 ?_
  refine v_lstore_n (pc := 38) (lv' := [some (.ref (gad g 0)), some (.long (17 : Int64)), none, none]) hC dX10_digest_38 rfl rfl rfl rfl ?_
  refine v_iconst (pc := 39) (0 : Int32) rfl hC dX10_digest_39 ?_
  refine v_istore_n (pc := 40) (lv' := [some (.ref (gad g 0)), some (.long (17 : Int64)), none, some (.int (0 : Int32))]) hC dX10_digest_40 rfl rfl rfl rfl ?_
  obtain ⟨w6, hw6, h⟩ := obd_s h
  have kx38 : V SS g M iX10_digest (PQ SS g M P) 64 [some (.ref (gad g 0)), some (.long w6.1), none, none] [] w6.2 := by
    refine v_aload_n (pc := 64) hC dX10_digest_64 rfl ?_
    refine v_lload_n (pc := 65) hC dX10_digest_65 rfl ?_
    obtain ⟨w7, hw7, h⟩ := obd_s h
    refine v_cV (pc := 66) [] [.long w7.1] gm_X10_mixLanes hC s_0 rfl rfl (ct_X10_mixLanes  hw7) ml_X10_363 rfl rfl rfl rfl rfl rfl dX10_digest_66 ?_
    refine v_lstore_n (pc := 69) (lv' := [some (.ref (gad g 0)), some (.long w7.1), none, none]) hC dX10_digest_69 rfl rfl rfl rfl ?_
    refine v_aload_n (pc := 70) hC dX10_digest_70 rfl ?_
    refine v_lload_n (pc := 71) hC dX10_digest_71 rfl ?_
    obtain ⟨w8, hw8, h⟩ := obd_s h
    refine v_cV (pc := 72) [] [.long w8.1] gm_X10_mixDays hC s_0 rfl rfl (ct_X10_mixDays  hw8) ml_X10_367 rfl rfl rfl rfl rfl rfl dX10_digest_72 ?_
    refine v_lstore_n (pc := 75) (lv' := [some (.ref (gad g 0)), some (.long w8.1), none, none]) hC dX10_digest_75 rfl rfl rfl rfl ?_
    refine v_aload_n (pc := 76) hC dX10_digest_76 rfl ?_
    refine v_lload_n (pc := 77) hC dX10_digest_77 rfl ?_
    obtain ⟨w9, hw9, h⟩ := obd_s h
    refine v_cV (pc := 78) [] [.long w9.1] gm_X10_mixOrder hC s_0 rfl rfl (ct_X10_mixOrder  hw9) ml_X10_370 rfl rfl rfl rfl rfl rfl dX10_digest_78 ?_
    refine v_lstore_n (pc := 81) (lv' := [some (.ref (gad g 0)), some (.long w9.1), none, none]) hC dX10_digest_81 rfl rfl rfl rfl ?_
    refine v_lload_n (pc := 82) hC dX10_digest_82 rfl ?_
    refine v_aload_n (pc := 83) hC dX10_digest_83 rfl ?_
    refine v_gt (pc := 84) 4 (.ref (gad g 34)) hC s_0 rfl rfl rfl rfl fl_X10_52 dX10_digest_84 ?_
    obtain ⟨w10, hw10, h⟩ := obd_s h
    refine v_cV (pc := 87) [.long w9.1] [.int w10.1, .long w9.1] gm_X4_faultAt hC s_34 rfl rfl (ct_X4_faultAt  hw10) ml_X10_293 rfl rfl rfl rfl rfl rfl dX10_digest_87 ?_
    refine v_i2l (pc := 90) hC dX10_digest_90 ?_
    obtain ⟨w11, hw11, h⟩ := obd_s h
    refine v_cS (pc := 91) [] [.long w11.1] gm_X10_mix hC (ct_X10_mix  hw11) ml_X10_359 rfl rfl rfl rfl rfl rfl dX10_digest_91 ?_
    refine v_lstore_n (pc := 94) (lv' := [some (.ref (gad g 0)), some (.long w11.1), none, none]) hC dX10_digest_94 rfl rfl rfl rfl ?_
    refine v_lload_n (pc := 95) hC dX10_digest_95 rfl ?_
    refine v_aload_n (pc := 96) hC dX10_digest_96 rfl ?_
    refine v_gt (pc := 97) 5 (.ref (gad g 35)) hC s_0 rfl rfl rfl rfl fl_X10_56 dX10_digest_97 ?_
    obtain ⟨w12, hw12, h⟩ := obd_s h
    refine v_cV (pc := 100) [.long w11.1] [.int w12.1, .long w11.1] gm_X9_parse hC s_35 rfl rfl (ct_X9_parse  hw12) ml_X10_296 rfl rfl rfl rfl rfl rfl dX10_digest_100 ?_
    refine v_i2l (pc := 103) hC dX10_digest_103 ?_
    obtain ⟨w13, hw13, h⟩ := obd_s h
    refine v_cS (pc := 104) [] [.long w13.1] gm_X10_mix hC (ct_X10_mix  hw13) ml_X10_359 rfl rfl rfl rfl rfl rfl dX10_digest_104 ?_
    refine v_lstore_n (pc := 107) (lv' := [some (.ref (gad g 0)), some (.long w13.1), none, none]) hC dX10_digest_107 rfl rfl rfl rfl ?_
    refine v_aload_n (pc := 108) hC dX10_digest_108 rfl ?_
    refine v_lload_n (pc := 109) hC dX10_digest_109 rfl ?_
    obtain ⟨w14, hw14, h⟩ := obd_s h
    refine v_cV (pc := 110) [] [.long w14.1] gm_X10_mixRaces hC s_0 rfl rfl (ct_X10_mixRaces  hw14) ml_X10_373 rfl rfl rfl rfl rfl rfl dX10_digest_110 ?_
    refine v_lstore_n (pc := 113) (lv' := [some (.ref (gad g 0)), some (.long w14.1), none, none]) hC dX10_digest_113 rfl rfl rfl rfl ?_
    refine v_aload_n (pc := 114) hC dX10_digest_114 rfl ?_
    refine v_lload_n (pc := 115) hC dX10_digest_115 rfl ?_
    obtain ⟨w15, hw15, h⟩ := obd_s h
    refine v_cV (pc := 116) [] [.long w15.1] gm_X10_mixSwims hC s_0 rfl rfl (ct_X10_mixSwims  hw15) ml_X10_376 rfl rfl rfl rfl rfl rfl dX10_digest_116 ?_
    refine v_lstore_n (pc := 119) (lv' := [some (.ref (gad g 0)), some (.long w15.1), none, none]) hC dX10_digest_119 rfl rfl rfl rfl ?_
    refine v_iconst (pc := 120) (0 : Int32) rfl hC dX10_digest_120 ?_
    refine v_istore_n (pc := 121) (lv' := [some (.ref (gad g 0)), some (.long w15.1), none, some (.int (0 : Int32))]) hC dX10_digest_121 rfl rfl rfl rfl ?_
    obtain ⟨w16, hw16, h⟩ := obd_s h
    have kx27 : V SS g M iX10_digest (PQ SS g M P) 149 [none, some (.long w16.1), none, none] [] w16.2 := by
      refine v_lload_n (pc := 149) hC dX10_digest_149 rfl ?_
      obtain rfl := Option.some.inj h
      exact v_lret (pc := 150) hC rfl dX10_digest_150 hP
    refine V.ls (ls_some (ls_some (ls_none (ls_some ls_nil)))) (v_loop (pc := 122) (fun a19 => [some (.ref (gad g 0)), some (.long a19.1), none, some (.int a19.2)]) (fun z t => V SS g M iX10_digest (PQ SS g M P) 149 [none, some (.long z), none, none] [] t) (fun a19 s17 u18 hu18 k20 k21 => ?_) _ _ _ _ hw16 kx27)
    unfold fX10_digest_L122 at hu18
    refine v_iload_n (pc := 122) hC dX10_digest_122 rfl ?_
    refine v_bipush (pc := 123) (9 : Int32) rfl hC dX10_digest_123 ?_
    refine v_ic_gt (pc := 125) (tgt := 149) hC dX10_digest_125 rfl (fun c23 => ?_) (fun c23 => ?_)
    · replace hu18 := (if_pos c23).symm.trans hu18
      obtain rfl := Option.some.inj hu18
      exact V.ls (ls_none (ls_some (ls_none (ls_none ls_nil)))) (k21 _ rfl)
    · replace hu18 := (if_neg c23).symm.trans hu18
      refine v_lload_n (pc := 128) hC dX10_digest_128 rfl ?_
      refine v_aload_n (pc := 129) hC dX10_digest_129 rfl ?_
      refine v_gt (pc := 130) 5 (.ref (gad g 35)) hC s_0 rfl rfl rfl rfl fl_X10_56 dX10_digest_130 ?_
      refine v_gtN (pc := 133) 1 (.ref (gad g 36)) hC s_35 rfl rfl rfl rfl fl_X10_311 dX10_digest_133 ?_
      refine v_iload_n (pc := 136) hC dX10_digest_136 rfl ?_
      obtain ⟨v24, hv24, hu18⟩ := obd_s hu18
      refine v_aI (pc := 137) hC s_36 hv24 dX10_digest_137 ?_
      refine v_i2l (pc := 138) hC dX10_digest_138 ?_
      obtain ⟨w25, hw25, hu18⟩ := obd_s hu18
      refine v_cS (pc := 139) [] [.long w25.1] gm_X10_mix hC (ct_X10_mix  hw25) ml_X10_359 rfl rfl rfl rfl rfl rfl dX10_digest_139 ?_
      refine v_lstore_n (pc := 142) (lv' := [some (.ref (gad g 0)), some (.long w25.1), none, some (.int a19.2)]) hC dX10_digest_142 rfl rfl rfl rfl ?_
      obtain ⟨x26, hx26, hu18⟩ := bnd_s hu18
      refine v_iinc (pc := 143) (lv' := [some (.ref (gad g 0)), some (.long w25.1), none, some (.int x26)]) (1 : Int32) rfl hx26 hC dX10_digest_143 rfl rfl rfl rfl ?_
      refine v_goto (pc := 146) (tgt := 122) hC dX10_digest_146 rfl ?_
      obtain rfl := Option.some.inj hu18
      exact V.ls (ls_some (ls_some (ls_none (ls_some ls_nil)))) (k20 _ rfl)
  refine V.ls (ls_some (ls_some (ls_none (ls_some ls_nil)))) (v_loop (pc := 41) (fun a30 => [some (.ref (gad g 0)), some (.long a30.1), none, some (.int a30.2)]) (fun z t => V SS g M iX10_digest (PQ SS g M P) 64 [some (.ref (gad g 0)), some (.long z), none, none] [] t) (fun a30 s28 u29 hu29 k31 k32 => ?_) _ _ _ _ hw6 kx38)
  unfold fX10_digest_L41 at hu29
  refine v_iload_n (pc := 41) hC dX10_digest_41 rfl ?_
  refine v_bipush (pc := 42) (7 : Int32) rfl hC dX10_digest_42 ?_
  refine v_ic_gt (pc := 44) (tgt := 64) hC dX10_digest_44 rfl (fun c34 => ?_) (fun c34 => ?_)
  · replace hu29 := (if_pos c34).symm.trans hu29
    obtain rfl := Option.some.inj hu29
    exact V.ls (ls_some (ls_some (ls_none (ls_none ls_nil)))) (k32 _ rfl)
  · replace hu29 := (if_neg c34).symm.trans hu29
    refine v_lload_n (pc := 47) hC dX10_digest_47 rfl ?_
    refine v_aload_n (pc := 48) hC dX10_digest_48 rfl ?_
    refine v_iload_n (pc := 49) hC dX10_digest_49 rfl ?_
    obtain ⟨w35, hw35, hu29⟩ := obd_s hu29
    refine v_cV (pc := 50) [.long a30.1] [.int w35.1, .long a30.1] gm_X10_count hC s_0 rfl rfl (ct_X10_count  hw35) ml_X10_356 rfl rfl rfl rfl rfl rfl dX10_digest_50 ?_
    refine v_i2l (pc := 53) hC dX10_digest_53 ?_
    obtain ⟨w36, hw36, hu29⟩ := obd_s hu29
    refine v_cS (pc := 54) [] [.long w36.1] gm_X10_mix hC (ct_X10_mix  hw36) ml_X10_359 rfl rfl rfl rfl rfl rfl dX10_digest_54 ?_
    refine v_lstore_n (pc := 57) (lv' := [some (.ref (gad g 0)), some (.long w36.1), none, some (.int a30.2)]) hC dX10_digest_57 rfl rfl rfl rfl ?_
    obtain ⟨x37, hx37, hu29⟩ := bnd_s hu29
    refine v_iinc (pc := 58) (lv' := [some (.ref (gad g 0)), some (.long w36.1), none, some (.int x37)]) (1 : Int32) rfl hx37 hC dX10_digest_58 rfl rfl rfl rfl ?_
    refine v_goto (pc := 61) (tgt := 41) hC dX10_digest_61 rfl ?_
    obtain rfl := Option.some.inj hu29
    exact V.ls (ls_some (ls_some (ls_none (ls_some ls_nil)))) (k31 _ rfl)
