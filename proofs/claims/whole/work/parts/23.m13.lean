/-! methods, printed by wip/whole/gen/meth.py: X11_lose, X11_lacks, X11_keep, X11_put, X11_get, X11_copy, X11_write, X11_countNow, X11_count, X11_digest -/
theorem dX11_lose_0 : decode cX11_lose 0 = .ok (.iload_n 1, 1) := by decide +kernel
theorem dX11_lose_1 : decode cX11_lose 1 = .ok (.invokestatic 125, 3) := by decide +kernel
theorem dX11_lose_4 : decode cX11_lose 4 = .ok (.ifCond .ne 6, 3) := by decide +kernel
theorem dX11_lose_7 : decode cX11_lose 7 = .ok (.bipush (-2), 2) := by decide +kernel
theorem dX11_lose_9 : decode cX11_lose 9 = .ok (.ireturn, 1) := by decide +kernel
theorem dX11_lose_10 : decode cX11_lose 10 = .ok (.aload_n 0, 1) := by decide +kernel
theorem dX11_lose_11 : decode cX11_lose 11 = .ok (.getfield 68, 3) := by decide +kernel
theorem dX11_lose_14 : decode cX11_lose 14 = .ok (.iload_n 1, 1) := by decide +kernel
theorem dX11_lose_15 : decode cX11_lose 15 = .ok (.baload, 1) := by decide +kernel
theorem dX11_lose_16 : decode cX11_lose 16 = .ok (.ifCond .ne 9, 3) := by decide +kernel
theorem dX11_lose_19 : decode cX11_lose 19 = .ok (.aload_n 0, 1) := by decide +kernel
theorem dX11_lose_20 : decode cX11_lose 20 = .ok (.iconst 1, 1) := by decide +kernel
theorem dX11_lose_21 : decode cX11_lose 21 = .ok (.invokevirtual 128, 3) := by decide +kernel
theorem dX11_lose_24 : decode cX11_lose 24 = .ok (.ireturn, 1) := by decide +kernel
theorem dX11_lose_25 : decode cX11_lose 25 = .ok (.aload_n 0, 1) := by decide +kernel
theorem dX11_lose_26 : decode cX11_lose 26 = .ok (.getfield 68, 3) := by decide +kernel
theorem dX11_lose_29 : decode cX11_lose 29 = .ok (.iload_n 1, 1) := by decide +kernel
theorem dX11_lose_30 : decode cX11_lose 30 = .ok (.iconst 0, 1) := by decide +kernel
theorem dX11_lose_31 : decode cX11_lose 31 = .ok (.bastore, 1) := by decide +kernel
theorem dX11_lose_32 : decode cX11_lose 32 = .ok (.aload_n 0, 1) := by decide +kernel
theorem dX11_lose_33 : decode cX11_lose 33 = .ok (.getfield 75, 3) := by decide +kernel
theorem dX11_lose_36 : decode cX11_lose 36 = .ok (.iload_n 1, 1) := by decide +kernel
theorem dX11_lose_37 : decode cX11_lose 37 = .ok (.iaload, 1) := by decide +kernel
theorem dX11_lose_38 : decode cX11_lose 38 = .ok (.ireturn, 1) := by decide +kernel
def fX11_lose (x0_ : Int32) (s : Sg) : Option (Int32 × Sg) :=
  (fX11_isSheet x0_ s).bind fun w1 =>
  if w1.1 = 0 then
  some ((-2 : Int32), w1.2)
  else
  (aI w1.2 69 4 x0_).bind fun v2 =>
  if v2 = 0 then
  (fX11_meets (1 : Int32) w1.2).bind fun w6 =>
  some (w6.1, w6.2)
  else
  (wZ w1.2 69 4 x0_ (0 : Int32)).bind fun s3 =>
  (aI s3 71 4 x0_).bind fun v4 =>
  some (v4, s3)
theorem ct_X11_lose {g : Gl} {x0_ : Int32} {s : Sg} {w : Int32 × Sg}  (h : fX11_lose x0_ s = some w) : Ct SS g iX11_lose 2 42 [.ref (gad g 49), .int x0_] s (Dt (some (.int w.1)) w.2) := by
  refine Ct.ofV (by decide +kernel) 0 (lv0 := [some (.ref (gad g 49)), some (.int x0_)]) rfl rfl (fun M hC => ?_)
  have hP : (Dt (some (.int w.1)) w.2) (some (.int w.1)) w.2 := ⟨rfl, rfl⟩
  generalize Dt (some (.int w.1)) w.2 = P at hP ⊢
  unfold fX11_lose at h
  refine v_iload_n (pc := 0) hC dX11_lose_0 rfl ?_
  obtain ⟨w1, hw1, h⟩ := obd_s h
  refine v_cS (pc := 1) [] [.int w1.1] gm_X11_isSheet hC (ct_X11_isSheet  hw1) ml_X11_125 rfl rfl rfl rfl rfl rfl dX11_lose_1 ?_
  refine v_if_ne (pc := 4) (tgt := 10) hC dX11_lose_4 rfl (fun c7 => ?_) (fun c7 => ?_)
  · replace h := (if_neg c7).symm.trans h
    refine v_aload_n (pc := 10) hC dX11_lose_10 rfl ?_
    refine v_gt (pc := 11) 28 (.ref (gad g 69)) hC s_49 rfl rfl rfl rfl fl_X11_68 dX11_lose_11 ?_
    refine v_iload_n (pc := 14) hC dX11_lose_14 rfl ?_
    obtain ⟨v2, hv2, h⟩ := obd_s h
    refine v_aZ (pc := 15) hC s_69 hv2 dX11_lose_15 ?_
    refine v_if_ne (pc := 16) (tgt := 25) hC dX11_lose_16 rfl (fun c5 => ?_) (fun c5 => ?_)
    · replace h := (if_neg c5).symm.trans h
      refine v_aload_n (pc := 25) hC dX11_lose_25 rfl ?_
      refine v_gt (pc := 26) 28 (.ref (gad g 69)) hC s_49 rfl rfl rfl rfl fl_X11_68 dX11_lose_26 ?_
      refine v_iload_n (pc := 29) hC dX11_lose_29 rfl ?_
      refine v_iconst (pc := 30) (0 : Int32) rfl hC dX11_lose_30 ?_
      obtain ⟨s3, hs3, h⟩ := obd_s h
      refine v_wZ (pc := 31) hC s_69 hs3 dX11_lose_31 ?_
      refine v_aload_n (pc := 32) hC dX11_lose_32 rfl ?_
      refine v_gt (pc := 33) 30 (.ref (gad g 71)) hC s_49 rfl rfl rfl rfl fl_X11_75 dX11_lose_33 ?_
      refine v_iload_n (pc := 36) hC dX11_lose_36 rfl ?_
      obtain ⟨v4, hv4, h⟩ := obd_s h
      refine v_aI (pc := 37) hC s_71 hv4 dX11_lose_37 ?_
      obtain rfl := Option.some.inj h
      exact v_iret (pc := 38) hC rfl dX11_lose_38 hP
    · replace h := (if_pos c5).symm.trans h
      refine v_aload_n (pc := 19) hC dX11_lose_19 rfl ?_
      refine v_iconst (pc := 20) (1 : Int32) rfl hC dX11_lose_20 ?_
      obtain ⟨w6, hw6, h⟩ := obd_s h
      refine v_cV (pc := 21) [] [.int w6.1] gm_X11_meets hC s_49 rfl rfl (ct_X11_meets  hw6) ml_X11_128 rfl rfl rfl rfl rfl rfl dX11_lose_21 ?_
      obtain rfl := Option.some.inj h
      exact v_iret (pc := 24) hC rfl dX11_lose_24 hP
  · replace h := (if_pos c7).symm.trans h
    refine v_bipush (pc := 7) (-2 : Int32) rfl hC dX11_lose_7 ?_
    obtain rfl := Option.some.inj h
    exact v_iret (pc := 9) hC rfl dX11_lose_9 hP
theorem dX11_lacks_0 : decode cX11_lacks 0 = .ok (.aload_n 0, 1) := by decide +kernel
theorem dX11_lacks_1 : decode cX11_lacks 1 = .ok (.getfield 68, 3) := by decide +kernel
theorem dX11_lacks_4 : decode cX11_lacks 4 = .ok (.iload_n 1, 1) := by decide +kernel
theorem dX11_lacks_5 : decode cX11_lacks 5 = .ok (.baload, 1) := by decide +kernel
theorem dX11_lacks_6 : decode cX11_lacks 6 = .ok (.ifCond .ne 7, 3) := by decide +kernel
theorem dX11_lacks_9 : decode cX11_lacks 9 = .ok (.iconst 1, 1) := by decide +kernel
theorem dX11_lacks_10 : decode cX11_lacks 10 = .ok (.goto 38, 3) := by decide +kernel
theorem dX11_lacks_13 : decode cX11_lacks 13 = .ok (.aload_n 0, 1) := by decide +kernel
theorem dX11_lacks_14 : decode cX11_lacks 14 = .ok (.getfield 72, 3) := by decide +kernel
theorem dX11_lacks_17 : decode cX11_lacks 17 = .ok (.iload_n 1, 1) := by decide +kernel
theorem dX11_lacks_18 : decode cX11_lacks 18 = .ok (.iaload, 1) := by decide +kernel
theorem dX11_lacks_19 : decode cX11_lacks 19 = .ok (.iload_n 2, 1) := by decide +kernel
theorem dX11_lacks_20 : decode cX11_lacks 20 = .ok (.if_icmp .eq 7, 3) := by decide +kernel
theorem dX11_lacks_23 : decode cX11_lacks 23 = .ok (.iconst 3, 1) := by decide +kernel
theorem dX11_lacks_24 : decode cX11_lacks 24 = .ok (.goto 24, 3) := by decide +kernel
theorem dX11_lacks_27 : decode cX11_lacks 27 = .ok (.iload_n 3, 1) := by decide +kernel
theorem dX11_lacks_28 : decode cX11_lacks 28 = .ok (.iconst 0, 1) := by decide +kernel
theorem dX11_lacks_29 : decode cX11_lacks 29 = .ok (.aload_n 0, 1) := by decide +kernel
theorem dX11_lacks_30 : decode cX11_lacks 30 = .ok (.getfield 75, 3) := by decide +kernel
theorem dX11_lacks_33 : decode cX11_lacks 33 = .ok (.iload_n 1, 1) := by decide +kernel
theorem dX11_lacks_34 : decode cX11_lacks 34 = .ok (.iaload, 1) := by decide +kernel
theorem dX11_lacks_35 : decode cX11_lacks 35 = .ok (.iconst 1, 1) := by decide +kernel
theorem dX11_lacks_36 : decode cX11_lacks 36 = .ok (.isub, 1) := by decide +kernel
theorem dX11_lacks_37 : decode cX11_lacks 37 = .ok (.invokestatic 94, 3) := by decide +kernel
theorem dX11_lacks_40 : decode cX11_lacks 40 = .ok (.ifCond .eq 7, 3) := by decide +kernel
theorem dX11_lacks_43 : decode cX11_lacks 43 = .ok (.iconst 0, 1) := by decide +kernel
theorem dX11_lacks_44 : decode cX11_lacks 44 = .ok (.goto 4, 3) := by decide +kernel
theorem dX11_lacks_47 : decode cX11_lacks 47 = .ok (.iconst 2, 1) := by decide +kernel
theorem dX11_lacks_48 : decode cX11_lacks 48 = .ok (.ireturn, 1) := by decide +kernel
def fX11_lacks (x0_ : Int32) (x1_ : Int32) (x2_ : Int32) (s : Sg) : Option (Int32 × Sg) :=
  (aI s 69 4 x0_).bind fun v1 =>
  if v1 = 0 then
  some ((1 : Int32), s)
  else
  (aI s 70 4 x0_).bind fun v2 =>
  if v2 = x1_ then
  (aI s 71 4 x0_).bind fun v3 =>
  (fX11_in x2_ (0 : Int32) (v3 - (1 : Int32)) s).bind fun w4 =>
  if w4.1 = 0 then
  some ((2 : Int32), w4.2)
  else
  some ((0 : Int32), w4.2)
  else
  some ((3 : Int32), s)
theorem ct_X11_lacks {g : Gl} {x0_ : Int32} {x1_ : Int32} {x2_ : Int32} {s : Sg} {w : Int32 × Sg}  (h : fX11_lacks x0_ x1_ x2_ s = some w) : Ct SS g iX11_lacks 1 22 [.ref (gad g 49), .int x0_, .int x1_, .int x2_] s (Dt (some (.int w.1)) w.2) := by
  refine Ct.ofV (by decide +kernel) 0 (lv0 := [some (.ref (gad g 49)), some (.int x0_), some (.int x1_), some (.int x2_)]) rfl rfl (fun M hC => ?_)
  have hP : (Dt (some (.int w.1)) w.2) (some (.int w.1)) w.2 := ⟨rfl, rfl⟩
  generalize Dt (some (.int w.1)) w.2 = P at hP ⊢
  unfold fX11_lacks at h
  refine v_aload_n (pc := 0) hC dX11_lacks_0 rfl ?_
  refine v_gt (pc := 1) 28 (.ref (gad g 69)) hC s_49 rfl rfl rfl rfl fl_X11_68 dX11_lacks_1 ?_
  refine v_iload_n (pc := 4) hC dX11_lacks_4 rfl ?_
  obtain ⟨v1, hv1, h⟩ := obd_s h
  refine v_aZ (pc := 5) hC s_69 hv1 dX11_lacks_5 ?_
  refine v_if_ne (pc := 6) (tgt := 13) hC dX11_lacks_6 rfl (fun c7 => ?_) (fun c7 => ?_)
  · replace h := (if_neg c7).symm.trans h
    refine v_aload_n (pc := 13) hC dX11_lacks_13 rfl ?_
    refine v_gt (pc := 14) 29 (.ref (gad g 70)) hC s_49 rfl rfl rfl rfl fl_X11_72 dX11_lacks_14 ?_
    refine v_iload_n (pc := 17) hC dX11_lacks_17 rfl ?_
    obtain ⟨v2, hv2, h⟩ := obd_s h
    refine v_aI (pc := 18) hC s_70 hv2 dX11_lacks_18 ?_
    refine v_iload_n (pc := 19) hC dX11_lacks_19 rfl ?_
    refine v_ic_eq (pc := 20) (tgt := 27) hC dX11_lacks_20 rfl (fun c6 => ?_) (fun c6 => ?_)
    · replace h := (if_pos c6).symm.trans h
      refine v_iload_n (pc := 27) hC dX11_lacks_27 rfl ?_
      refine v_iconst (pc := 28) (0 : Int32) rfl hC dX11_lacks_28 ?_
      refine v_aload_n (pc := 29) hC dX11_lacks_29 rfl ?_
      refine v_gt (pc := 30) 30 (.ref (gad g 71)) hC s_49 rfl rfl rfl rfl fl_X11_75 dX11_lacks_30 ?_
      refine v_iload_n (pc := 33) hC dX11_lacks_33 rfl ?_
      obtain ⟨v3, hv3, h⟩ := obd_s h
      refine v_aI (pc := 34) hC s_71 hv3 dX11_lacks_34 ?_
      refine v_iconst (pc := 35) (1 : Int32) rfl hC dX11_lacks_35 ?_
      refine v_isub (pc := 36) hC dX11_lacks_36 ?_
      obtain ⟨w4, hw4, h⟩ := obd_s h
      refine v_cS (pc := 37) [] [.int w4.1] gm_X11_in hC (ct_X11_in  hw4) ml_X11_94 rfl rfl rfl rfl rfl rfl dX11_lacks_37 ?_
      refine v_if_eq (pc := 40) (tgt := 47) hC dX11_lacks_40 rfl (fun c5 => ?_) (fun c5 => ?_)
      · replace h := (if_pos c5).symm.trans h
        refine v_iconst (pc := 47) (2 : Int32) rfl hC dX11_lacks_47 ?_
        obtain rfl := Option.some.inj h
        exact v_iret (pc := 48) hC rfl dX11_lacks_48 hP
      · replace h := (if_neg c5).symm.trans h
        refine v_iconst (pc := 43) (0 : Int32) rfl hC dX11_lacks_43 ?_
        refine v_goto (pc := 44) (tgt := 48) hC dX11_lacks_44 rfl ?_
        obtain rfl := Option.some.inj h
        exact v_iret (pc := 48) hC rfl dX11_lacks_48 hP
    · replace h := (if_neg c6).symm.trans h
      refine v_iconst (pc := 23) (3 : Int32) rfl hC dX11_lacks_23 ?_
      refine v_goto (pc := 24) (tgt := 48) hC dX11_lacks_24 rfl ?_
      obtain rfl := Option.some.inj h
      exact v_iret (pc := 48) hC rfl dX11_lacks_48 hP
  · replace h := (if_pos c7).symm.trans h
    refine v_iconst (pc := 9) (1 : Int32) rfl hC dX11_lacks_9 ?_
    refine v_goto (pc := 10) (tgt := 48) hC dX11_lacks_10 rfl ?_
    obtain rfl := Option.some.inj h
    exact v_iret (pc := 48) hC rfl dX11_lacks_48 hP
theorem dX11_keep_0 : decode cX11_keep 0 = .ok (.aload_n 0, 1) := by decide +kernel
theorem dX11_keep_1 : decode cX11_keep 1 = .ok (.getfield 78, 3) := by decide +kernel
theorem dX11_keep_4 : decode cX11_keep 4 = .ok (.bipush 48, 2) := by decide +kernel
theorem dX11_keep_6 : decode cX11_keep 6 = .ok (.iload_n 1, 1) := by decide +kernel
theorem dX11_keep_7 : decode cX11_keep 7 = .ok (.imul, 1) := by decide +kernel
theorem dX11_keep_8 : decode cX11_keep 8 = .ok (.iload_n 2, 1) := by decide +kernel
theorem dX11_keep_9 : decode cX11_keep 9 = .ok (.iadd, 1) := by decide +kernel
theorem dX11_keep_10 : decode cX11_keep 10 = .ok (.aload_n 0, 1) := by decide +kernel
theorem dX11_keep_11 : decode cX11_keep 11 = .ok (.getfield 72, 3) := by decide +kernel
theorem dX11_keep_14 : decode cX11_keep 14 = .ok (.iload_n 1, 1) := by decide +kernel
theorem dX11_keep_15 : decode cX11_keep 15 = .ok (.iaload, 1) := by decide +kernel
theorem dX11_keep_16 : decode cX11_keep 16 = .ok (.ifCond .ne 8, 3) := by decide +kernel
theorem dX11_keep_19 : decode cX11_keep 19 = .ok (.iload_n 3, 1) := by decide +kernel
theorem dX11_keep_20 : decode cX11_keep 20 = .ok (.i2b, 1) := by decide +kernel
theorem dX11_keep_21 : decode cX11_keep 21 = .ok (.goto 19, 3) := by decide +kernel
theorem dX11_keep_24 : decode cX11_keep 24 = .ok (.aload_n 0, 1) := by decide +kernel
theorem dX11_keep_25 : decode cX11_keep 25 = .ok (.getfield 72, 3) := by decide +kernel
theorem dX11_keep_28 : decode cX11_keep 28 = .ok (.iload_n 1, 1) := by decide +kernel
theorem dX11_keep_29 : decode cX11_keep 29 = .ok (.iaload, 1) := by decide +kernel
theorem dX11_keep_30 : decode cX11_keep 30 = .ok (.iconst 1, 1) := by decide +kernel
theorem dX11_keep_31 : decode cX11_keep 31 = .ok (.if_icmp .ne 8, 3) := by decide +kernel
theorem dX11_keep_34 : decode cX11_keep 34 = .ok (.iload_n 3, 1) := by decide +kernel
theorem dX11_keep_35 : decode cX11_keep 35 = .ok (.i2s, 1) := by decide +kernel
theorem dX11_keep_36 : decode cX11_keep 36 = .ok (.goto 4, 3) := by decide +kernel
theorem dX11_keep_39 : decode cX11_keep 39 = .ok (.iload_n 3, 1) := by decide +kernel
theorem dX11_keep_40 : decode cX11_keep 40 = .ok (.iastore, 1) := by decide +kernel
theorem dX11_keep_41 : decode cX11_keep 41 = .ok (.return_, 1) := by decide +kernel
def fX11_keep (x0_ : Int32) (x1_ : Int32) (x2_ : Int32) (s : Sg) : Option (Sg) :=
  (aI s 70 4 x0_).bind fun v1 =>
  if v1 = 0 then
  (wI s 72 192 (((48 : Int32) * x0_) + x1_) ((x2_).toInt8.toInt32)).bind fun s7 =>
  some s7
  else
  (aI s 70 4 x0_).bind fun v2 =>
  if v2 = (1 : Int32) then
  (wI s 72 192 (((48 : Int32) * x0_) + x1_) ((x2_).toInt16.toInt32)).bind fun s5 =>
  some s5
  else
  (wI s 72 192 (((48 : Int32) * x0_) + x1_) x2_).bind fun s3 =>
  some s3
theorem ct_X11_keep {g : Gl} {x0_ : Int32} {x1_ : Int32} {x2_ : Int32} {s : Sg} {w : Sg}  (h : fX11_keep x0_ x1_ x2_ s = some w) : Ct SS g iX11_keep 0 0 [.ref (gad g 49), .int x0_, .int x1_, .int x2_] s (Dt none w) := by
  refine Ct.ofV (by decide +kernel) 0 (lv0 := [some (.ref (gad g 49)), some (.int x0_), some (.int x1_), some (.int x2_)]) rfl rfl (fun M hC => ?_)
  have hP : (Dt none w) none w := ⟨rfl, rfl⟩
  generalize Dt none w = P at hP ⊢
  unfold fX11_keep at h
  refine v_aload_n (pc := 0) hC dX11_keep_0 rfl ?_
  refine v_gt (pc := 1) 31 (.ref (gad g 72)) hC s_49 rfl rfl rfl rfl fl_X11_78 dX11_keep_1 ?_
  refine v_bipush (pc := 4) (48 : Int32) rfl hC dX11_keep_4 ?_
  refine v_iload_n (pc := 6) hC dX11_keep_6 rfl ?_
  refine v_imul (pc := 7) hC dX11_keep_7 ?_
  refine v_iload_n (pc := 8) hC dX11_keep_8 rfl ?_
  refine v_iadd (pc := 9) hC dX11_keep_9 ?_
  refine v_aload_n (pc := 10) hC dX11_keep_10 rfl ?_
  refine v_gt (pc := 11) 29 (.ref (gad g 70)) hC s_49 rfl rfl rfl rfl fl_X11_72 dX11_keep_11 ?_
  refine v_iload_n (pc := 14) hC dX11_keep_14 rfl ?_
  obtain ⟨v1, hv1, h⟩ := obd_s h
  refine v_aI (pc := 15) hC s_70 hv1 dX11_keep_15 ?_
  refine v_if_ne (pc := 16) (tgt := 24) hC dX11_keep_16 rfl (fun c6 => ?_) (fun c6 => ?_)
  · replace h := (if_neg c6).symm.trans h
    refine v_aload_n (pc := 24) hC dX11_keep_24 rfl ?_
    refine v_gt (pc := 25) 29 (.ref (gad g 70)) hC s_49 rfl rfl rfl rfl fl_X11_72 dX11_keep_25 ?_
    refine v_iload_n (pc := 28) hC dX11_keep_28 rfl ?_
    obtain ⟨v2, hv2, h⟩ := obd_s h
    refine v_aI (pc := 29) hC s_70 hv2 dX11_keep_29 ?_
    refine v_iconst (pc := 30) (1 : Int32) rfl hC dX11_keep_30 ?_
    refine v_ic_ne (pc := 31) (tgt := 39) hC dX11_keep_31 rfl (fun c4 => ?_) (fun c4 => ?_)
    · replace h := (if_neg c4).symm.trans h
      refine v_iload_n (pc := 39) hC dX11_keep_39 rfl ?_
      obtain ⟨s3, hs3, h⟩ := obd_s h
      refine v_wI (pc := 40) hC s_72 hs3 dX11_keep_40 ?_
      obtain rfl := Option.some.inj h
      exact v_vret (pc := 41) hC rfl dX11_keep_41 hP
    · replace h := (if_pos c4).symm.trans h
      refine v_iload_n (pc := 34) hC dX11_keep_34 rfl ?_
      refine v_i2s (pc := 35) hC dX11_keep_35 ?_
      refine v_goto (pc := 36) (tgt := 40) hC dX11_keep_36 rfl ?_
      obtain ⟨s5, hs5, h⟩ := obd_s h
      refine v_wI (pc := 40) hC s_72 hs5 dX11_keep_40 ?_
      obtain rfl := Option.some.inj h
      exact v_vret (pc := 41) hC rfl dX11_keep_41 hP
  · replace h := (if_pos c6).symm.trans h
    refine v_iload_n (pc := 19) hC dX11_keep_19 rfl ?_
    refine v_i2b (pc := 20) hC dX11_keep_20 ?_
    refine v_goto (pc := 21) (tgt := 40) hC dX11_keep_21 rfl ?_
    obtain ⟨s7, hs7, h⟩ := obd_s h
    refine v_wI (pc := 40) hC s_72 hs7 dX11_keep_40 ?_
    obtain rfl := Option.some.inj h
    exact v_vret (pc := 41) hC rfl dX11_keep_41 hP
theorem dX11_put_0 : decode cX11_put 0 = .ok (.iload_n 1, 1) := by decide +kernel
theorem dX11_put_1 : decode cX11_put 1 = .ok (.invokestatic 125, 3) := by decide +kernel
theorem dX11_put_4 : decode cX11_put 4 = .ok (.ifCond .eq 12, 3) := by decide +kernel
theorem dX11_put_7 : decode cX11_put 7 = .ok (.iload_n 2, 1) := by decide +kernel
theorem dX11_put_8 : decode cX11_put 8 = .ok (.iconst 0, 1) := by decide +kernel
theorem dX11_put_9 : decode cX11_put 9 = .ok (.iconst 2, 1) := by decide +kernel
theorem dX11_put_10 : decode cX11_put 10 = .ok (.invokestatic 94, 3) := by decide +kernel
theorem dX11_put_13 : decode cX11_put 13 = .ok (.ifCond .ne 6, 3) := by decide +kernel
theorem dX11_put_16 : decode cX11_put 16 = .ok (.bipush (-2), 2) := by decide +kernel
theorem dX11_put_18 : decode cX11_put 18 = .ok (.ireturn, 1) := by decide +kernel
theorem dX11_put_19 : decode cX11_put 19 = .ok (.aload_n 0, 1) := by decide +kernel
theorem dX11_put_20 : decode cX11_put 20 = .ok (.iload_n 1, 1) := by decide +kernel
theorem dX11_put_21 : decode cX11_put 21 = .ok (.iload_n 2, 1) := by decide +kernel
theorem dX11_put_22 : decode cX11_put 22 = .ok (.iload_n 3, 1) := by decide +kernel
theorem dX11_put_23 : decode cX11_put 23 = .ok (.invokevirtual 311, 3) := by decide +kernel
theorem dX11_put_26 : decode cX11_put 26 = .ok (.istore 5, 2) := by decide +kernel
theorem dX11_put_28 : decode cX11_put 28 = .ok (.iload 5, 2) := by decide +kernel
theorem dX11_put_30 : decode cX11_put 30 = .ok (.ifCond .le 10, 3) := by decide +kernel
theorem dX11_put_33 : decode cX11_put 33 = .ok (.aload_n 0, 1) := by decide +kernel
theorem dX11_put_34 : decode cX11_put 34 = .ok (.iload 5, 2) := by decide +kernel
theorem dX11_put_36 : decode cX11_put 36 = .ok (.invokevirtual 128, 3) := by decide +kernel
theorem dX11_put_39 : decode cX11_put 39 = .ok (.ireturn, 1) := by decide +kernel
theorem dX11_put_40 : decode cX11_put 40 = .ok (.aload_n 0, 1) := by decide +kernel
theorem dX11_put_41 : decode cX11_put 41 = .ok (.iload_n 1, 1) := by decide +kernel
theorem dX11_put_42 : decode cX11_put 42 = .ok (.iload_n 3, 1) := by decide +kernel
theorem dX11_put_43 : decode cX11_put 43 = .ok (.iload 4, 2) := by decide +kernel
theorem dX11_put_45 : decode cX11_put 45 = .ok (.invokevirtual 314, 3) := by decide +kernel
theorem dX11_put_48 : decode cX11_put 48 = .ok (.iconst 1, 1) := by decide +kernel
theorem dX11_put_49 : decode cX11_put 49 = .ok (.ireturn, 1) := by decide +kernel
def fX11_put (x0_ : Int32) (x1_ : Int32) (x2_ : Int32) (x3_ : Int32) (s : Sg) : Option (Int32 × Sg) :=
  (fX11_isSheet x0_ s).bind fun w1 =>
  if w1.1 = 0 then
  some ((-2 : Int32), w1.2)
  else
  (fX11_in x1_ (0 : Int32) (2 : Int32) w1.2).bind fun w3 =>
  if w3.1 = 0 then
  some ((-2 : Int32), w3.2)
  else
  (fX11_lacks x0_ x1_ x2_ w3.2).bind fun w4 =>
  if w4.1 ≤ 0 then
  (fX11_keep x0_ x2_ x3_ w4.2).bind fun w5 =>
  some ((1 : Int32), w5)
  else
  (fX11_meets w4.1 w4.2).bind fun w7 =>
  some (w7.1, w7.2)
theorem ct_X11_put {g : Gl} {x0_ : Int32} {x1_ : Int32} {x2_ : Int32} {x3_ : Int32} {s : Sg} {w : Int32 × Sg}  (h : fX11_put x0_ x1_ x2_ x3_ s = some w) : Ct SS g iX11_put 2 45 [.ref (gad g 49), .int x0_, .int x1_, .int x2_, .int x3_] s (Dt (some (.int w.1)) w.2) := by
  refine Ct.ofV (by decide +kernel) 1 (lv0 := [some (.ref (gad g 49)), some (.int x0_), some (.int x1_), some (.int x2_), some (.int x3_), none]) rfl rfl (fun M hC => ?_)
  have hP : (Dt (some (.int w.1)) w.2) (some (.int w.1)) w.2 := ⟨rfl, rfl⟩
  generalize Dt (some (.int w.1)) w.2 = P at hP ⊢
  unfold fX11_put at h
  refine v_iload_n (pc := 0) hC dX11_put_0 rfl ?_
  obtain ⟨w1, hw1, h⟩ := obd_s h
  refine v_cS (pc := 1) [] [.int w1.1] gm_X11_isSheet hC (ct_X11_isSheet  hw1) ml_X11_125 rfl rfl rfl rfl rfl rfl dX11_put_1 ?_
  refine v_if_eq (pc := 4) (tgt := 16) hC dX11_put_4 rfl (fun c2 => ?_) (fun c2 => ?_)
  · replace h := (if_pos c2).symm.trans h
    refine v_bipush (pc := 16) (-2 : Int32) rfl hC dX11_put_16 ?_
    obtain rfl := Option.some.inj h
    exact v_iret (pc := 18) hC rfl dX11_put_18 hP
  · replace h := (if_neg c2).symm.trans h
    refine v_iload_n (pc := 7) hC dX11_put_7 rfl ?_
    refine v_iconst (pc := 8) (0 : Int32) rfl hC dX11_put_8 ?_
    refine v_iconst (pc := 9) (2 : Int32) rfl hC dX11_put_9 ?_
    obtain ⟨w3, hw3, h⟩ := obd_s h
    refine v_cS (pc := 10) [] [.int w3.1] gm_X11_in hC (ct_X11_in  hw3) ml_X11_94 rfl rfl rfl rfl rfl rfl dX11_put_10 ?_
    refine v_if_ne (pc := 13) (tgt := 19) hC dX11_put_13 rfl (fun c8 => ?_) (fun c8 => ?_)
    · replace h := (if_neg c8).symm.trans h
      refine v_aload_n (pc := 19) hC dX11_put_19 rfl ?_
      refine v_iload_n (pc := 20) hC dX11_put_20 rfl ?_
      refine v_iload_n (pc := 21) hC dX11_put_21 rfl ?_
      refine v_iload_n (pc := 22) hC dX11_put_22 rfl ?_
      obtain ⟨w4, hw4, h⟩ := obd_s h
      refine v_cV (pc := 23) [] [.int w4.1] gm_X11_lacks hC s_49 rfl rfl (ct_X11_lacks  hw4) ml_X11_311 rfl rfl rfl rfl rfl rfl dX11_put_23 ?_
      refine v_istore (pc := 26) (lv' := [some (.ref (gad g 49)), some (.int x0_), some (.int x1_), some (.int x2_), some (.int x3_), some (.int w4.1)]) hC dX11_put_26 rfl rfl rfl rfl ?_
      refine v_iload (pc := 28) hC dX11_put_28 rfl ?_
      refine v_if_le (pc := 30) (tgt := 40) hC dX11_put_30 rfl (fun c6 => ?_) (fun c6 => ?_)
      · replace h := (if_pos c6).symm.trans h
        refine v_aload_n (pc := 40) hC dX11_put_40 rfl ?_
        refine v_iload_n (pc := 41) hC dX11_put_41 rfl ?_
        refine v_iload_n (pc := 42) hC dX11_put_42 rfl ?_
        refine v_iload (pc := 43) hC dX11_put_43 rfl ?_
        obtain ⟨w5, hw5, h⟩ := obd_s h
        refine v_cV (pc := 45) [] [] gm_X11_keep hC s_49 rfl rfl (ct_X11_keep  hw5) ml_X11_314 rfl rfl rfl rfl rfl rfl dX11_put_45 ?_
        refine v_iconst (pc := 48) (1 : Int32) rfl hC dX11_put_48 ?_
        obtain rfl := Option.some.inj h
        exact v_iret (pc := 49) hC rfl dX11_put_49 hP
      · replace h := (if_neg c6).symm.trans h
        refine v_aload_n (pc := 33) hC dX11_put_33 rfl ?_
        refine v_iload (pc := 34) hC dX11_put_34 rfl ?_
        obtain ⟨w7, hw7, h⟩ := obd_s h
        refine v_cV (pc := 36) [] [.int w7.1] gm_X11_meets hC s_49 rfl rfl (ct_X11_meets  hw7) ml_X11_128 rfl rfl rfl rfl rfl rfl dX11_put_36 ?_
        obtain rfl := Option.some.inj h
        exact v_iret (pc := 39) hC rfl dX11_put_39 hP
    · replace h := (if_pos c8).symm.trans h
      refine v_bipush (pc := 16) (-2 : Int32) rfl hC dX11_put_16 ?_
      obtain rfl := Option.some.inj h
      exact v_iret (pc := 18) hC rfl dX11_put_18 hP
theorem dX11_get_0 : decode cX11_get 0 = .ok (.iload_n 1, 1) := by decide +kernel
theorem dX11_get_1 : decode cX11_get 1 = .ok (.invokestatic 125, 3) := by decide +kernel
theorem dX11_get_4 : decode cX11_get 4 = .ok (.ifCond .eq 12, 3) := by decide +kernel
theorem dX11_get_7 : decode cX11_get 7 = .ok (.iload_n 2, 1) := by decide +kernel
theorem dX11_get_8 : decode cX11_get 8 = .ok (.iconst 0, 1) := by decide +kernel
theorem dX11_get_9 : decode cX11_get 9 = .ok (.iconst 2, 1) := by decide +kernel
theorem dX11_get_10 : decode cX11_get 10 = .ok (.invokestatic 94, 3) := by decide +kernel
theorem dX11_get_13 : decode cX11_get 13 = .ok (.ifCond .ne 7, 3) := by decide +kernel
theorem dX11_get_16 : decode cX11_get 16 = .ok (.ldc_w 318, 3) := by decide +kernel
theorem dX11_get_19 : decode cX11_get 19 = .ok (.ireturn, 1) := by decide +kernel
theorem dX11_get_20 : decode cX11_get 20 = .ok (.aload_n 0, 1) := by decide +kernel
theorem dX11_get_21 : decode cX11_get 21 = .ok (.iload_n 1, 1) := by decide +kernel
theorem dX11_get_22 : decode cX11_get 22 = .ok (.iload_n 2, 1) := by decide +kernel
theorem dX11_get_23 : decode cX11_get 23 = .ok (.iload_n 3, 1) := by decide +kernel
theorem dX11_get_24 : decode cX11_get 24 = .ok (.invokevirtual 311, 3) := by decide +kernel
theorem dX11_get_27 : decode cX11_get 27 = .ok (.istore 4, 2) := by decide +kernel
theorem dX11_get_29 : decode cX11_get 29 = .ok (.iload 4, 2) := by decide +kernel
theorem dX11_get_31 : decode cX11_get 31 = .ok (.ifCond .le 13, 3) := by decide +kernel
theorem dX11_get_34 : decode cX11_get 34 = .ok (.aload_n 0, 1) := by decide +kernel
theorem dX11_get_35 : decode cX11_get 35 = .ok (.iload 4, 2) := by decide +kernel
theorem dX11_get_37 : decode cX11_get 37 = .ok (.putfield 308, 3) := by decide +kernel
theorem dX11_get_40 : decode cX11_get 40 = .ok (.ldc_w 318, 3) := by decide +kernel
theorem dX11_get_43 : decode cX11_get 43 = .ok (.ireturn, 1) := by decide +kernel
theorem dX11_get_44 : decode cX11_get 44 = .ok (.aload_n 0, 1) := by decide +kernel
theorem dX11_get_45 : decode cX11_get 45 = .ok (.getfield 78, 3) := by decide +kernel
theorem dX11_get_48 : decode cX11_get 48 = .ok (.bipush 48, 2) := by decide +kernel
theorem dX11_get_50 : decode cX11_get 50 = .ok (.iload_n 1, 1) := by decide +kernel
theorem dX11_get_51 : decode cX11_get 51 = .ok (.imul, 1) := by decide +kernel
theorem dX11_get_52 : decode cX11_get 52 = .ok (.iload_n 3, 1) := by decide +kernel
theorem dX11_get_53 : decode cX11_get 53 = .ok (.iadd, 1) := by decide +kernel
theorem dX11_get_54 : decode cX11_get 54 = .ok (.iaload, 1) := by decide +kernel
theorem dX11_get_55 : decode cX11_get 55 = .ok (.ireturn, 1) := by decide +kernel
def fX11_get (x0_ : Int32) (x1_ : Int32) (x2_ : Int32) (s : Sg) : Option (Int32 × Sg) :=
  (fX11_isSheet x0_ s).bind fun w1 =>
  if w1.1 = 0 then
  some ((-2147483648 : Int32), w1.2)
  else
  (fX11_in x1_ (0 : Int32) (2 : Int32) w1.2).bind fun w3 =>
  if w3.1 = 0 then
  some ((-2147483648 : Int32), w3.2)
  else
  (fX11_lacks x0_ x1_ x2_ w3.2).bind fun w4 =>
  if w4.1 ≤ 0 then
  (aI w4.2 72 192 (((48 : Int32) * x0_) + x2_)).bind fun v5 =>
  some (v5, w4.2)
  else
  bnd (sI w4.2 49 33 w4.1) fun s7 =>
  some ((-2147483648 : Int32), s7)
theorem ct_X11_get {g : Gl} {x0_ : Int32} {x1_ : Int32} {x2_ : Int32} {s : Sg} {w : Int32 × Sg}  (h : fX11_get x0_ x1_ x2_ s = some w) : Ct SS g iX11_get 2 45 [.ref (gad g 49), .int x0_, .int x1_, .int x2_] s (Dt (some (.int w.1)) w.2) := by
  refine Ct.ofV (by decide +kernel) 1 (lv0 := [some (.ref (gad g 49)), some (.int x0_), some (.int x1_), some (.int x2_), none]) rfl rfl (fun M hC => ?_)
  have hP : (Dt (some (.int w.1)) w.2) (some (.int w.1)) w.2 := ⟨rfl, rfl⟩
  generalize Dt (some (.int w.1)) w.2 = P at hP ⊢
  unfold fX11_get at h
  refine v_iload_n (pc := 0) hC dX11_get_0 rfl ?_
  obtain ⟨w1, hw1, h⟩ := obd_s h
  refine v_cS (pc := 1) [] [.int w1.1] gm_X11_isSheet hC (ct_X11_isSheet  hw1) ml_X11_125 rfl rfl rfl rfl rfl rfl dX11_get_1 ?_
  refine v_if_eq (pc := 4) (tgt := 16) hC dX11_get_4 rfl (fun c2 => ?_) (fun c2 => ?_)
  · replace h := (if_pos c2).symm.trans h
    refine v_ldcw (pc := 16) (-2147483648 : Int32) kc_X11_318 hC dX11_get_16 ?_
    obtain rfl := Option.some.inj h
    exact v_iret (pc := 19) hC rfl dX11_get_19 hP
  · replace h := (if_neg c2).symm.trans h
    refine v_iload_n (pc := 7) hC dX11_get_7 rfl ?_
    refine v_iconst (pc := 8) (0 : Int32) rfl hC dX11_get_8 ?_
    refine v_iconst (pc := 9) (2 : Int32) rfl hC dX11_get_9 ?_
    obtain ⟨w3, hw3, h⟩ := obd_s h
    refine v_cS (pc := 10) [] [.int w3.1] gm_X11_in hC (ct_X11_in  hw3) ml_X11_94 rfl rfl rfl rfl rfl rfl dX11_get_10 ?_
    refine v_if_ne (pc := 13) (tgt := 20) hC dX11_get_13 rfl (fun c8 => ?_) (fun c8 => ?_)
    · replace h := (if_neg c8).symm.trans h
      refine v_aload_n (pc := 20) hC dX11_get_20 rfl ?_
      refine v_iload_n (pc := 21) hC dX11_get_21 rfl ?_
      refine v_iload_n (pc := 22) hC dX11_get_22 rfl ?_
      refine v_iload_n (pc := 23) hC dX11_get_23 rfl ?_
      obtain ⟨w4, hw4, h⟩ := obd_s h
      refine v_cV (pc := 24) [] [.int w4.1] gm_X11_lacks hC s_49 rfl rfl (ct_X11_lacks  hw4) ml_X11_311 rfl rfl rfl rfl rfl rfl dX11_get_24 ?_
      refine v_istore (pc := 27) (lv' := [some (.ref (gad g 49)), some (.int x0_), some (.int x1_), some (.int x2_), some (.int w4.1)]) hC dX11_get_27 rfl rfl rfl rfl ?_
      refine v_iload (pc := 29) hC dX11_get_29 rfl ?_
      refine v_if_le (pc := 31) (tgt := 44) hC dX11_get_31 rfl (fun c6 => ?_) (fun c6 => ?_)
      · replace h := (if_pos c6).symm.trans h
        refine v_aload_n (pc := 44) hC dX11_get_44 rfl ?_
        refine v_gt (pc := 45) 31 (.ref (gad g 72)) hC s_49 rfl rfl rfl rfl fl_X11_78 dX11_get_45 ?_
        refine v_bipush (pc := 48) (48 : Int32) rfl hC dX11_get_48 ?_
        refine v_iload_n (pc := 50) hC dX11_get_50 rfl ?_
        refine v_imul (pc := 51) hC dX11_get_51 ?_
        refine v_iload_n (pc := 52) hC dX11_get_52 rfl ?_
        refine v_iadd (pc := 53) hC dX11_get_53 ?_
        obtain ⟨v5, hv5, h⟩ := obd_s h
        refine v_aI (pc := 54) hC s_72 hv5 dX11_get_54 ?_
        obtain rfl := Option.some.inj h
        exact v_iret (pc := 55) hC rfl dX11_get_55 hP
      · replace h := (if_neg c6).symm.trans h
        refine v_aload_n (pc := 34) hC dX11_get_34 rfl ?_
        refine v_iload (pc := 35) hC dX11_get_35 rfl ?_
        obtain ⟨s7, hs7, h⟩ := bnd_s h
        refine v_pI (pc := 37) 33 hC s_49 rfl rfl rfl rfl rfl rfl fl_X11_308 hs7 dX11_get_37 ?_
        refine v_ldcw (pc := 40) (-2147483648 : Int32) kc_X11_318 hC dX11_get_40 ?_
        obtain rfl := Option.some.inj h
        exact v_iret (pc := 43) hC rfl dX11_get_43 hP
    · replace h := (if_pos c8).symm.trans h
      refine v_ldcw (pc := 16) (-2147483648 : Int32) kc_X11_318 hC dX11_get_16 ?_
      obtain rfl := Option.some.inj h
      exact v_iret (pc := 19) hC rfl dX11_get_19 hP
theorem dX11_copy_0 : decode cX11_copy 0 = .ok (.iload_n 1, 1) := by decide +kernel
theorem dX11_copy_1 : decode cX11_copy 1 = .ok (.invokestatic 125, 3) := by decide +kernel
theorem dX11_copy_4 : decode cX11_copy 4 = .ok (.ifCond .eq 10, 3) := by decide +kernel
theorem dX11_copy_7 : decode cX11_copy 7 = .ok (.iload_n 3, 1) := by decide +kernel
theorem dX11_copy_8 : decode cX11_copy 8 = .ok (.invokestatic 125, 3) := by decide +kernel
theorem dX11_copy_11 : decode cX11_copy 11 = .ok (.ifCond .ne 6, 3) := by decide +kernel
theorem dX11_copy_14 : decode cX11_copy 14 = .ok (.bipush (-2), 2) := by decide +kernel
theorem dX11_copy_16 : decode cX11_copy 16 = .ok (.ireturn, 1) := by decide +kernel
theorem dX11_copy_17 : decode cX11_copy 17 = .ok (.aload_n 0, 1) := by decide +kernel
theorem dX11_copy_18 : decode cX11_copy 18 = .ok (.getfield 68, 3) := by decide +kernel
theorem dX11_copy_21 : decode cX11_copy 21 = .ok (.iload_n 1, 1) := by decide +kernel
theorem dX11_copy_22 : decode cX11_copy 22 = .ok (.baload, 1) := by decide +kernel
theorem dX11_copy_23 : decode cX11_copy 23 = .ok (.ifCond .eq 12, 3) := by decide +kernel
theorem dX11_copy_26 : decode cX11_copy 26 = .ok (.aload_n 0, 1) := by decide +kernel
theorem dX11_copy_27 : decode cX11_copy 27 = .ok (.getfield 68, 3) := by decide +kernel
theorem dX11_copy_30 : decode cX11_copy 30 = .ok (.iload_n 3, 1) := by decide +kernel
theorem dX11_copy_31 : decode cX11_copy 31 = .ok (.baload, 1) := by decide +kernel
theorem dX11_copy_32 : decode cX11_copy 32 = .ok (.ifCond .ne 9, 3) := by decide +kernel
theorem dX11_copy_35 : decode cX11_copy 35 = .ok (.aload_n 0, 1) := by decide +kernel
theorem dX11_copy_36 : decode cX11_copy 36 = .ok (.iconst 1, 1) := by decide +kernel
theorem dX11_copy_37 : decode cX11_copy 37 = .ok (.invokevirtual 128, 3) := by decide +kernel
theorem dX11_copy_40 : decode cX11_copy 40 = .ok (.ireturn, 1) := by decide +kernel
theorem dX11_copy_41 : decode cX11_copy 41 = .ok (.aload_n 0, 1) := by decide +kernel
theorem dX11_copy_42 : decode cX11_copy 42 = .ok (.getfield 72, 3) := by decide +kernel
theorem dX11_copy_45 : decode cX11_copy 45 = .ok (.iload_n 1, 1) := by decide +kernel
theorem dX11_copy_46 : decode cX11_copy 46 = .ok (.iaload, 1) := by decide +kernel
theorem dX11_copy_47 : decode cX11_copy 47 = .ok (.aload_n 0, 1) := by decide +kernel
theorem dX11_copy_48 : decode cX11_copy 48 = .ok (.getfield 72, 3) := by decide +kernel
theorem dX11_copy_51 : decode cX11_copy 51 = .ok (.iload_n 3, 1) := by decide +kernel
theorem dX11_copy_52 : decode cX11_copy 52 = .ok (.iaload, 1) := by decide +kernel
theorem dX11_copy_53 : decode cX11_copy 53 = .ok (.if_icmp .eq 9, 3) := by decide +kernel
theorem dX11_copy_56 : decode cX11_copy 56 = .ok (.aload_n 0, 1) := by decide +kernel
theorem dX11_copy_57 : decode cX11_copy 57 = .ok (.iconst 4, 1) := by decide +kernel
theorem dX11_copy_58 : decode cX11_copy 58 = .ok (.invokevirtual 128, 3) := by decide +kernel
theorem dX11_copy_61 : decode cX11_copy 61 = .ok (.ireturn, 1) := by decide +kernel
theorem dX11_copy_62 : decode cX11_copy 62 = .ok (.iload_n 2, 1) := by decide +kernel
theorem dX11_copy_63 : decode cX11_copy 63 = .ok (.ifCond .lt 48, 3) := by decide +kernel
theorem dX11_copy_66 : decode cX11_copy 66 = .ok (.iload 4, 2) := by decide +kernel
theorem dX11_copy_68 : decode cX11_copy 68 = .ok (.ifCond .lt 43, 3) := by decide +kernel
theorem dX11_copy_71 : decode cX11_copy 71 = .ok (.iload 5, 2) := by decide +kernel
theorem dX11_copy_73 : decode cX11_copy 73 = .ok (.ifCond .lt 38, 3) := by decide +kernel
theorem dX11_copy_76 : decode cX11_copy 76 = .ok (.iload_n 2, 1) := by decide +kernel
theorem dX11_copy_77 : decode cX11_copy 77 = .ok (.i2l, 1) := by decide +kernel
theorem dX11_copy_78 : decode cX11_copy 78 = .ok (.iload 5, 2) := by decide +kernel
theorem dX11_copy_80 : decode cX11_copy 80 = .ok (.i2l, 1) := by decide +kernel
theorem dX11_copy_81 : decode cX11_copy 81 = .ok (.ladd, 1) := by decide +kernel
theorem dX11_copy_82 : decode cX11_copy 82 = .ok (.aload_n 0, 1) := by decide +kernel
theorem dX11_copy_83 : decode cX11_copy 83 = .ok (.getfield 75, 3) := by decide +kernel
theorem dX11_copy_86 : decode cX11_copy 86 = .ok (.iload_n 1, 1) := by decide +kernel
theorem dX11_copy_87 : decode cX11_copy 87 = .ok (.iaload, 1) := by decide +kernel
theorem dX11_copy_88 : decode cX11_copy 88 = .ok (.i2l, 1) := by decide +kernel
theorem dX11_copy_89 : decode cX11_copy 89 = .ok (.lcmp, 1) := by decide +kernel
theorem dX11_copy_90 : decode cX11_copy 90 = .ok (.ifCond .gt 21, 3) := by decide +kernel
theorem dX11_copy_93 : decode cX11_copy 93 = .ok (.iload 4, 2) := by decide +kernel
theorem dX11_copy_95 : decode cX11_copy 95 = .ok (.i2l, 1) := by decide +kernel
theorem dX11_copy_96 : decode cX11_copy 96 = .ok (.iload 5, 2) := by decide +kernel
theorem dX11_copy_98 : decode cX11_copy 98 = .ok (.i2l, 1) := by decide +kernel
theorem dX11_copy_99 : decode cX11_copy 99 = .ok (.ladd, 1) := by decide +kernel
theorem dX11_copy_100 : decode cX11_copy 100 = .ok (.aload_n 0, 1) := by decide +kernel
theorem dX11_copy_101 : decode cX11_copy 101 = .ok (.getfield 75, 3) := by decide +kernel
theorem dX11_copy_104 : decode cX11_copy 104 = .ok (.iload_n 3, 1) := by decide +kernel
theorem dX11_copy_105 : decode cX11_copy 105 = .ok (.iaload, 1) := by decide +kernel
theorem dX11_copy_106 : decode cX11_copy 106 = .ok (.i2l, 1) := by decide +kernel
theorem dX11_copy_107 : decode cX11_copy 107 = .ok (.lcmp, 1) := by decide +kernel
theorem dX11_copy_108 : decode cX11_copy 108 = .ok (.ifCond .le 9, 3) := by decide +kernel
theorem dX11_copy_111 : decode cX11_copy 111 = .ok (.aload_n 0, 1) := by decide +kernel
theorem dX11_copy_112 : decode cX11_copy 112 = .ok (.iconst 2, 1) := by decide +kernel
theorem dX11_copy_113 : decode cX11_copy 113 = .ok (.invokevirtual 128, 3) := by decide +kernel
theorem dX11_copy_116 : decode cX11_copy 116 = .ok (.ireturn, 1) := by decide +kernel
theorem dX11_copy_117 : decode cX11_copy 117 = .ok (.iconst 0, 1) := by decide +kernel
theorem dX11_copy_118 : decode cX11_copy 118 = .ok (.istore 6, 2) := by decide +kernel
theorem dX11_copy_120 : decode cX11_copy 120 = .ok (.iload 6, 2) := by decide +kernel
theorem dX11_copy_122 : decode cX11_copy 122 = .ok (.iload 5, 2) := by decide +kernel
theorem dX11_copy_124 : decode cX11_copy 124 = .ok (.if_icmp .ge 30, 3) := by decide +kernel
theorem dX11_copy_127 : decode cX11_copy 127 = .ok (.aload_n 0, 1) := by decide +kernel
theorem dX11_copy_128 : decode cX11_copy 128 = .ok (.getfield 81, 3) := by decide +kernel
theorem dX11_copy_131 : decode cX11_copy 131 = .ok (.iload 6, 2) := by decide +kernel
theorem dX11_copy_133 : decode cX11_copy 133 = .ok (.aload_n 0, 1) := by decide +kernel
theorem dX11_copy_134 : decode cX11_copy 134 = .ok (.getfield 78, 3) := by decide +kernel
theorem dX11_copy_137 : decode cX11_copy 137 = .ok (.bipush 48, 2) := by decide +kernel
theorem dX11_copy_139 : decode cX11_copy 139 = .ok (.iload_n 1, 1) := by decide +kernel
theorem dX11_copy_140 : decode cX11_copy 140 = .ok (.imul, 1) := by decide +kernel
theorem dX11_copy_141 : decode cX11_copy 141 = .ok (.iload_n 2, 1) := by decide +kernel
theorem dX11_copy_142 : decode cX11_copy 142 = .ok (.iadd, 1) := by decide +kernel
theorem dX11_copy_143 : decode cX11_copy 143 = .ok (.iload 6, 2) := by decide +kernel
theorem dX11_copy_145 : decode cX11_copy 145 = .ok (.iadd, 1) := by decide +kernel
theorem dX11_copy_146 : decode cX11_copy 146 = .ok (.iaload, 1) := by decide +kernel
theorem dX11_copy_147 : decode cX11_copy 147 = .ok (.iastore, 1) := by decide +kernel
theorem dX11_copy_148 : decode cX11_copy 148 = .ok (.iinc 6 1, 3) := by decide +kernel
theorem dX11_copy_151 : decode cX11_copy 151 = .ok (.goto (-31), 3) := by decide +kernel
theorem dX11_copy_154 : decode cX11_copy 154 = .ok (.iconst 0, 1) := by decide +kernel
theorem dX11_copy_155 : decode cX11_copy 155 = .ok (.istore 6, 2) := by decide +kernel
theorem dX11_copy_157 : decode cX11_copy 157 = .ok (.iload 6, 2) := by decide +kernel
theorem dX11_copy_159 : decode cX11_copy 159 = .ok (.iload 5, 2) := by decide +kernel
theorem dX11_copy_161 : decode cX11_copy 161 = .ok (.if_icmp .ge 31, 3) := by decide +kernel
theorem dX11_copy_164 : decode cX11_copy 164 = .ok (.aload_n 0, 1) := by decide +kernel
theorem dX11_copy_165 : decode cX11_copy 165 = .ok (.getfield 78, 3) := by decide +kernel
theorem dX11_copy_168 : decode cX11_copy 168 = .ok (.bipush 48, 2) := by decide +kernel
theorem dX11_copy_170 : decode cX11_copy 170 = .ok (.iload_n 3, 1) := by decide +kernel
theorem dX11_copy_171 : decode cX11_copy 171 = .ok (.imul, 1) := by decide +kernel
theorem dX11_copy_172 : decode cX11_copy 172 = .ok (.iload 4, 2) := by decide +kernel
theorem dX11_copy_174 : decode cX11_copy 174 = .ok (.iadd, 1) := by decide +kernel
theorem dX11_copy_175 : decode cX11_copy 175 = .ok (.iload 6, 2) := by decide +kernel
theorem dX11_copy_177 : decode cX11_copy 177 = .ok (.iadd, 1) := by decide +kernel
theorem dX11_copy_178 : decode cX11_copy 178 = .ok (.aload_n 0, 1) := by decide +kernel
theorem dX11_copy_179 : decode cX11_copy 179 = .ok (.getfield 81, 3) := by decide +kernel
theorem dX11_copy_182 : decode cX11_copy 182 = .ok (.iload 6, 2) := by decide +kernel
theorem dX11_copy_184 : decode cX11_copy 184 = .ok (.iaload, 1) := by decide +kernel
theorem dX11_copy_185 : decode cX11_copy 185 = .ok (.iastore, 1) := by decide +kernel
theorem dX11_copy_186 : decode cX11_copy 186 = .ok (.iinc 6 1, 3) := by decide +kernel
theorem dX11_copy_189 : decode cX11_copy 189 = .ok (.goto (-32), 3) := by decide +kernel
theorem dX11_copy_192 : decode cX11_copy 192 = .ok (.iconst 1, 1) := by decide +kernel
theorem dX11_copy_193 : decode cX11_copy 193 = .ok (.ireturn, 1) := by decide +kernel
def fX11_copy_L120 (p1 : Int32) (p2 : Int32) (p3 : Int32) (p4 : Int32) (p5 : Int32) (a : Int32) (s : Sg) : Option (((Int32) ⊕ (Unit)) × Sg) :=
  if p5 ≤ a then
  some (.inr (), s)
  else
  (aI s 72 192 ((((48 : Int32) * p1) + p2) + a)).bind fun v2 =>
  (wI s 73 48 a v2).bind fun s3 =>
  bnd (a + (1 : Int32)) fun x4 =>
  some (.inl x4, s3)
def fX11_copy_L157 (p3 : Int32) (p4 : Int32) (p5 : Int32) (a : Int32) (s : Sg) : Option (((Int32) ⊕ (Unit)) × Sg) :=
  if p5 ≤ a then
  some (.inr (), s)
  else
  (aI s 73 48 a).bind fun v2 =>
  (wI s 72 192 ((((48 : Int32) * p3) + p4) + a) v2).bind fun s3 =>
  bnd (a + (1 : Int32)) fun x4 =>
  some (.inl x4, s3)
def fX11_copy (x0_ : Int32) (x1_ : Int32) (x2_ : Int32) (x3_ : Int32) (x4_ : Int32) (s : Sg) : Option (Int32 × Sg) :=
  (fX11_isSheet x0_ s).bind fun w1 =>
  if w1.1 = 0 then
  some ((-2 : Int32), w1.2)
  else
  (fX11_isSheet x2_ w1.2).bind fun w3 =>
  if w3.1 = 0 then
  some ((-2 : Int32), w3.2)
  else
  (aI w3.2 69 4 x0_).bind fun v4 =>
  if v4 = 0 then
  (fX11_meets (1 : Int32) w3.2).bind fun w5 =>
  some (w5.1, w5.2)
  else
  (aI w3.2 69 4 x2_).bind fun v7 =>
  if v7 = 0 then
  (fX11_meets (1 : Int32) w3.2).bind fun w49 =>
  some (w49.1, w49.2)
  else
  (aI w3.2 70 4 x0_).bind fun v8 =>
  (aI w3.2 70 4 x2_).bind fun v9 =>
  if v8 = v9 then
  if x1_ < 0 then
  (fX11_meets (2 : Int32) w3.2).bind fun w10 =>
  some (w10.1, w10.2)
  else
  if x3_ < 0 then
  (fX11_meets (2 : Int32) w3.2).bind fun w12 =>
  some (w12.1, w12.2)
  else
  if x4_ < 0 then
  (fX11_meets (2 : Int32) w3.2).bind fun w14 =>
  some (w14.1, w14.2)
  else
  (aI w3.2 71 4 x0_).bind fun v16 =>
  if 0 < (lg_cmp (((x1_).toInt64) + ((x4_).toInt64)) ((v16).toInt64)) then
  (fX11_meets (2 : Int32) w3.2).bind fun w17 =>
  some (w17.1, w17.2)
  else
  (aI w3.2 71 4 x2_).bind fun v19 =>
  if (lg_cmp (((x3_).toInt64) + ((x4_).toInt64)) ((v19).toInt64)) ≤ 0 then
  (lpG (fX11_copy_L120 x0_ x1_ x2_ x3_ x4_) FU (0 : Int32) w3.2).bind fun w20 =>
  (lpG (fX11_copy_L157 x2_ x3_ x4_) FU (0 : Int32) w20.2).bind fun w21 =>
  some ((1 : Int32), w21.2)
  else
  (fX11_meets (2 : Int32) w3.2).bind fun w45 =>
  some (w45.1, w45.2)
  else
  (fX11_meets (4 : Int32) w3.2).bind fun w47 =>
  some (w47.1, w47.2)
theorem ct_X11_copy {g : Gl} {x0_ : Int32} {x1_ : Int32} {x2_ : Int32} {x3_ : Int32} {x4_ : Int32} {s : Sg} {w : Int32 × Sg}  (h : fX11_copy x0_ x1_ x2_ x3_ x4_ s = some w) : Ct SS g iX11_copy 2 42 [.ref (gad g 49), .int x0_, .int x1_, .int x2_, .int x3_, .int x4_] s (Dt (some (.int w.1)) w.2) := by
  refine Ct.ofV (by decide +kernel) 1 (lv0 := [some (.ref (gad g 49)), some (.int x0_), some (.int x1_), some (.int x2_), some (.int x3_), some (.int x4_), none]) rfl rfl (fun M hC => ?_)
  have hP : (Dt (some (.int w.1)) w.2) (some (.int w.1)) w.2 := ⟨rfl, rfl⟩
  generalize Dt (some (.int w.1)) w.2 = P at hP ⊢
  unfold fX11_copy at h
  refine v_iload_n (pc := 0) hC dX11_copy_0 rfl ?_
  obtain ⟨w1, hw1, h⟩ := obd_s h
  refine v_cS (pc := 1) [] [.int w1.1] gm_X11_isSheet hC (ct_X11_isSheet  hw1) ml_X11_125 rfl rfl rfl rfl rfl rfl dX11_copy_1 ?_
  refine v_if_eq (pc := 4) (tgt := 14) hC dX11_copy_4 rfl (fun c2 => ?_) (fun c2 => ?_)
  · replace h := (if_pos c2).symm.trans h
    refine v_bipush (pc := 14) (-2 : Int32) rfl hC dX11_copy_14 ?_
    obtain rfl := Option.some.inj h
    exact v_iret (pc := 16) hC rfl dX11_copy_16 hP
  · replace h := (if_neg c2).symm.trans h
    refine v_iload_n (pc := 7) hC dX11_copy_7 rfl ?_
    obtain ⟨w3, hw3, h⟩ := obd_s h
    refine v_cS (pc := 8) [] [.int w3.1] gm_X11_isSheet hC (ct_X11_isSheet  hw3) ml_X11_125 rfl rfl rfl rfl rfl rfl dX11_copy_8 ?_
    refine v_if_ne (pc := 11) (tgt := 17) hC dX11_copy_11 rfl (fun c50 => ?_) (fun c50 => ?_)
    · replace h := (if_neg c50).symm.trans h
      refine v_aload_n (pc := 17) hC dX11_copy_17 rfl ?_
      refine v_gt (pc := 18) 28 (.ref (gad g 69)) hC s_49 rfl rfl rfl rfl fl_X11_68 dX11_copy_18 ?_
      refine v_iload_n (pc := 21) hC dX11_copy_21 rfl ?_
      obtain ⟨v4, hv4, h⟩ := obd_s h
      refine v_aZ (pc := 22) hC s_69 hv4 dX11_copy_22 ?_
      refine v_if_eq (pc := 23) (tgt := 35) hC dX11_copy_23 rfl (fun c6 => ?_) (fun c6 => ?_)
      · replace h := (if_pos c6).symm.trans h
        refine v_aload_n (pc := 35) hC dX11_copy_35 rfl ?_
        refine v_iconst (pc := 36) (1 : Int32) rfl hC dX11_copy_36 ?_
        obtain ⟨w5, hw5, h⟩ := obd_s h
        refine v_cV (pc := 37) [] [.int w5.1] gm_X11_meets hC s_49 rfl rfl (ct_X11_meets  hw5) ml_X11_128 rfl rfl rfl rfl rfl rfl dX11_copy_37 ?_
        obtain rfl := Option.some.inj h
        exact v_iret (pc := 40) hC rfl dX11_copy_40 hP
      · replace h := (if_neg c6).symm.trans h
        refine v_aload_n (pc := 26) hC dX11_copy_26 rfl ?_
        refine v_gt (pc := 27) 28 (.ref (gad g 69)) hC s_49 rfl rfl rfl rfl fl_X11_68 dX11_copy_27 ?_
        refine v_iload_n (pc := 30) hC dX11_copy_30 rfl ?_
        obtain ⟨v7, hv7, h⟩ := obd_s h
        refine v_aZ (pc := 31) hC s_69 hv7 dX11_copy_31 ?_
        refine v_if_ne (pc := 32) (tgt := 41) hC dX11_copy_32 rfl (fun c48 => ?_) (fun c48 => ?_)
        · replace h := (if_neg c48).symm.trans h
          refine v_aload_n (pc := 41) hC dX11_copy_41 rfl ?_
          refine v_gt (pc := 42) 29 (.ref (gad g 70)) hC s_49 rfl rfl rfl rfl fl_X11_72 dX11_copy_42 ?_
          refine v_iload_n (pc := 45) hC dX11_copy_45 rfl ?_
          obtain ⟨v8, hv8, h⟩ := obd_s h
          refine v_aI (pc := 46) hC s_70 hv8 dX11_copy_46 ?_
          refine v_aload_n (pc := 47) hC dX11_copy_47 rfl ?_
          refine v_gt (pc := 48) 29 (.ref (gad g 70)) hC s_49 rfl rfl rfl rfl fl_X11_72 dX11_copy_48 ?_
          refine v_iload_n (pc := 51) hC dX11_copy_51 rfl ?_
          obtain ⟨v9, hv9, h⟩ := obd_s h
          refine v_aI (pc := 52) hC s_70 hv9 dX11_copy_52 ?_
          refine v_ic_eq (pc := 53) (tgt := 62) hC dX11_copy_53 rfl (fun c46 => ?_) (fun c46 => ?_)
          · replace h := (if_pos c46).symm.trans h
            refine v_iload_n (pc := 62) hC dX11_copy_62 rfl ?_
            refine v_if_lt (pc := 63) (tgt := 111) hC dX11_copy_63 rfl (fun c11 => ?_) (fun c11 => ?_)
            · replace h := (if_pos c11).symm.trans h
              refine v_aload_n (pc := 111) hC dX11_copy_111 rfl ?_
              refine v_iconst (pc := 112) (2 : Int32) rfl hC dX11_copy_112 ?_
              obtain ⟨w10, hw10, h⟩ := obd_s h
              refine v_cV (pc := 113) [] [.int w10.1] gm_X11_meets hC s_49 rfl rfl (ct_X11_meets  hw10) ml_X11_128 rfl rfl rfl rfl rfl rfl dX11_copy_113 ?_
              obtain rfl := Option.some.inj h
              exact v_iret (pc := 116) hC rfl dX11_copy_116 hP
            · replace h := (if_neg c11).symm.trans h
              refine v_iload (pc := 66) hC dX11_copy_66 rfl ?_
              refine v_if_lt (pc := 68) (tgt := 111) hC dX11_copy_68 rfl (fun c13 => ?_) (fun c13 => ?_)
              · replace h := (if_pos c13).symm.trans h
                refine v_aload_n (pc := 111) hC dX11_copy_111 rfl ?_
                refine v_iconst (pc := 112) (2 : Int32) rfl hC dX11_copy_112 ?_
                obtain ⟨w12, hw12, h⟩ := obd_s h
                refine v_cV (pc := 113) [] [.int w12.1] gm_X11_meets hC s_49 rfl rfl (ct_X11_meets  hw12) ml_X11_128 rfl rfl rfl rfl rfl rfl dX11_copy_113 ?_
                obtain rfl := Option.some.inj h
                exact v_iret (pc := 116) hC rfl dX11_copy_116 hP
              · replace h := (if_neg c13).symm.trans h
                refine v_iload (pc := 71) hC dX11_copy_71 rfl ?_
                refine v_if_lt (pc := 73) (tgt := 111) hC dX11_copy_73 rfl (fun c15 => ?_) (fun c15 => ?_)
                · replace h := (if_pos c15).symm.trans h
                  refine v_aload_n (pc := 111) hC dX11_copy_111 rfl ?_
                  refine v_iconst (pc := 112) (2 : Int32) rfl hC dX11_copy_112 ?_
                  obtain ⟨w14, hw14, h⟩ := obd_s h
                  refine v_cV (pc := 113) [] [.int w14.1] gm_X11_meets hC s_49 rfl rfl (ct_X11_meets  hw14) ml_X11_128 rfl rfl rfl rfl rfl rfl dX11_copy_113 ?_
                  obtain rfl := Option.some.inj h
                  exact v_iret (pc := 116) hC rfl dX11_copy_116 hP
                · replace h := (if_neg c15).symm.trans h
                  refine v_iload_n (pc := 76) hC dX11_copy_76 rfl ?_
                  refine v_i2l (pc := 77) hC dX11_copy_77 ?_
                  refine v_iload (pc := 78) hC dX11_copy_78 rfl ?_
                  refine v_i2l (pc := 80) hC dX11_copy_80 ?_
                  refine v_ladd (pc := 81) hC dX11_copy_81 ?_
                  refine v_aload_n (pc := 82) hC dX11_copy_82 rfl ?_
                  refine v_gt (pc := 83) 30 (.ref (gad g 71)) hC s_49 rfl rfl rfl rfl fl_X11_75 dX11_copy_83 ?_
                  refine v_iload_n (pc := 86) hC dX11_copy_86 rfl ?_
                  obtain ⟨v16, hv16, h⟩ := obd_s h
                  refine v_aI (pc := 87) hC s_71 hv16 dX11_copy_87 ?_
                  refine v_i2l (pc := 88) hC dX11_copy_88 ?_
                  refine v_lcmp (pc := 89) hC dX11_copy_89 ?_
                  refine v_if_gt (pc := 90) (tgt := 111) hC dX11_copy_90 rfl (fun c18 => ?_) (fun c18 => ?_)
                  · replace h := (if_pos c18).symm.trans h
                    refine v_aload_n (pc := 111) hC dX11_copy_111 rfl ?_
                    refine v_iconst (pc := 112) (2 : Int32) rfl hC dX11_copy_112 ?_
                    obtain ⟨w17, hw17, h⟩ := obd_s h
                    refine v_cV (pc := 113) [] [.int w17.1] gm_X11_meets hC s_49 rfl rfl (ct_X11_meets  hw17) ml_X11_128 rfl rfl rfl rfl rfl rfl dX11_copy_113 ?_
                    obtain rfl := Option.some.inj h
                    exact v_iret (pc := 116) hC rfl dX11_copy_116 hP
                  · replace h := (if_neg c18).symm.trans h
                    refine v_iload (pc := 93) hC dX11_copy_93 rfl ?_
                    refine v_i2l (pc := 95) hC dX11_copy_95 ?_
                    refine v_iload (pc := 96) hC dX11_copy_96 rfl ?_
                    refine v_i2l (pc := 98) hC dX11_copy_98 ?_
                    refine v_ladd (pc := 99) hC dX11_copy_99 ?_
                    refine v_aload_n (pc := 100) hC dX11_copy_100 rfl ?_
                    refine v_gt (pc := 101) 30 (.ref (gad g 71)) hC s_49 rfl rfl rfl rfl fl_X11_75 dX11_copy_101 ?_
                    refine v_iload_n (pc := 104) hC dX11_copy_104 rfl ?_
                    obtain ⟨v19, hv19, h⟩ := obd_s h
                    refine v_aI (pc := 105) hC s_71 hv19 dX11_copy_105 ?_
                    refine v_i2l (pc := 106) hC dX11_copy_106 ?_
                    refine v_lcmp (pc := 107) hC dX11_copy_107 ?_
                    refine v_if_le (pc := 108) (tgt := 117) hC dX11_copy_108 rfl (fun c44 => ?_) (fun c44 => ?_)
                    · replace h := (if_pos c44).symm.trans h
                      refine v_iconst (pc := 117) (0 : Int32) rfl hC dX11_copy_117 ?_
                      refine v_istore (pc := 118) (lv' := [some (.ref (gad g 49)), some (.int x0_), some (.int x1_), some (.int x2_), some (.int x3_), some (.int x4_), some (.int (0 : Int32))]) hC dX11_copy_118 rfl rfl rfl rfl ?_
                      obtain ⟨w20, hw20, h⟩ := obd_s h
                      have kx43 : V SS g M iX11_copy (PQ SS g M P) 154 [some (.ref (gad g 49)), none, none, some (.int x2_), some (.int x3_), some (.int x4_), none] [] w20.2 := by
                        refine v_iconst (pc := 154) (0 : Int32) rfl hC dX11_copy_154 ?_
                        refine v_istore (pc := 155) (lv' := [some (.ref (gad g 49)), none, none, some (.int x2_), some (.int x3_), some (.int x4_), some (.int (0 : Int32))]) hC dX11_copy_155 rfl rfl rfl rfl ?_
                        obtain ⟨w21, hw21, h⟩ := obd_s h
                        have kx32 : V SS g M iX11_copy (PQ SS g M P) 192 [none, none, none, none, none, none, none] [] w21.2 := by
                          refine v_iconst (pc := 192) (1 : Int32) rfl hC dX11_copy_192 ?_
                          obtain rfl := Option.some.inj h
                          exact v_iret (pc := 193) hC rfl dX11_copy_193 hP
                        refine V.ls (ls_some (ls_none (ls_none (ls_some (ls_some (ls_some (ls_some ls_nil))))))) (v_loop (pc := 157) (fun a24 => [some (.ref (gad g 49)), none, none, some (.int x2_), some (.int x3_), some (.int x4_), some (.int a24)]) (fun z t => V SS g M iX11_copy (PQ SS g M P) 192 [none, none, none, none, none, none, none] [] t) (fun a24 s22 u23 hu23 k25 k26 => ?_) _ _ _ _ hw21 kx32)
                        unfold fX11_copy_L157 at hu23
                        refine v_iload (pc := 157) hC dX11_copy_157 rfl ?_
                        refine v_iload (pc := 159) hC dX11_copy_159 rfl ?_
                        refine v_ic_ge (pc := 161) (tgt := 192) hC dX11_copy_161 rfl (fun c28 => ?_) (fun c28 => ?_)
                        · replace hu23 := (if_pos c28).symm.trans hu23
                          obtain rfl := Option.some.inj hu23
                          exact V.ls (ls_none (ls_none (ls_none (ls_none (ls_none (ls_none (ls_none ls_nil))))))) (k26 _ rfl)
                        · replace hu23 := (if_neg c28).symm.trans hu23
                          refine v_aload_n (pc := 164) hC dX11_copy_164 rfl ?_
                          refine v_gt (pc := 165) 31 (.ref (gad g 72)) hC s_49 rfl rfl rfl rfl fl_X11_78 dX11_copy_165 ?_
                          refine v_bipush (pc := 168) (48 : Int32) rfl hC dX11_copy_168 ?_
                          refine v_iload_n (pc := 170) hC dX11_copy_170 rfl ?_
                          refine v_imul (pc := 171) hC dX11_copy_171 ?_
                          refine v_iload (pc := 172) hC dX11_copy_172 rfl ?_
                          refine v_iadd (pc := 174) hC dX11_copy_174 ?_
                          refine v_iload (pc := 175) hC dX11_copy_175 rfl ?_
                          refine v_iadd (pc := 177) hC dX11_copy_177 ?_
                          refine v_aload_n (pc := 178) hC dX11_copy_178 rfl ?_
                          refine v_gt (pc := 179) 32 (.ref (gad g 73)) hC s_49 rfl rfl rfl rfl fl_X11_81 dX11_copy_179 ?_
                          refine v_iload (pc := 182) hC dX11_copy_182 rfl ?_
                          obtain ⟨v29, hv29, hu23⟩ := obd_s hu23
                          refine v_aI (pc := 184) hC s_73 hv29 dX11_copy_184 ?_
                          obtain ⟨s30, hs30, hu23⟩ := obd_s hu23
                          refine v_wI (pc := 185) hC s_72 hs30 dX11_copy_185 ?_
                          obtain ⟨x31, hx31, hu23⟩ := bnd_s hu23
                          refine v_iinc (pc := 186) (lv' := [some (.ref (gad g 49)), none, none, some (.int x2_), some (.int x3_), some (.int x4_), some (.int x31)]) (1 : Int32) rfl hx31 hC dX11_copy_186 rfl rfl rfl rfl ?_
                          refine v_goto (pc := 189) (tgt := 157) hC dX11_copy_189 rfl ?_
                          obtain rfl := Option.some.inj hu23
                          exact V.ls (ls_some (ls_none (ls_none (ls_some (ls_some (ls_some (ls_some ls_nil))))))) (k25 _ rfl)
                      refine V.ls (ls_some (ls_some (ls_some (ls_some (ls_some (ls_some (ls_some ls_nil))))))) (v_loop (pc := 120) (fun a35 => [some (.ref (gad g 49)), some (.int x0_), some (.int x1_), some (.int x2_), some (.int x3_), some (.int x4_), some (.int a35)]) (fun z t => V SS g M iX11_copy (PQ SS g M P) 154 [some (.ref (gad g 49)), none, none, some (.int x2_), some (.int x3_), some (.int x4_), none] [] t) (fun a35 s33 u34 hu34 k36 k37 => ?_) _ _ _ _ hw20 kx43)
                      unfold fX11_copy_L120 at hu34
                      refine v_iload (pc := 120) hC dX11_copy_120 rfl ?_
                      refine v_iload (pc := 122) hC dX11_copy_122 rfl ?_
                      refine v_ic_ge (pc := 124) (tgt := 154) hC dX11_copy_124 rfl (fun c39 => ?_) (fun c39 => ?_)
                      · replace hu34 := (if_pos c39).symm.trans hu34
                        obtain rfl := Option.some.inj hu34
                        exact V.ls (ls_some (ls_none (ls_none (ls_some (ls_some (ls_some (ls_none ls_nil))))))) (k37 _ rfl)
                      · replace hu34 := (if_neg c39).symm.trans hu34
                        refine v_aload_n (pc := 127) hC dX11_copy_127 rfl ?_
                        refine v_gt (pc := 128) 32 (.ref (gad g 73)) hC s_49 rfl rfl rfl rfl fl_X11_81 dX11_copy_128 ?_
                        refine v_iload (pc := 131) hC dX11_copy_131 rfl ?_
                        refine v_aload_n (pc := 133) hC dX11_copy_133 rfl ?_
                        refine v_gt (pc := 134) 31 (.ref (gad g 72)) hC s_49 rfl rfl rfl rfl fl_X11_78 dX11_copy_134 ?_
                        refine v_bipush (pc := 137) (48 : Int32) rfl hC dX11_copy_137 ?_
                        refine v_iload_n (pc := 139) hC dX11_copy_139 rfl ?_
                        refine v_imul (pc := 140) hC dX11_copy_140 ?_
                        refine v_iload_n (pc := 141) hC dX11_copy_141 rfl ?_
                        refine v_iadd (pc := 142) hC dX11_copy_142 ?_
                        refine v_iload (pc := 143) hC dX11_copy_143 rfl ?_
                        refine v_iadd (pc := 145) hC dX11_copy_145 ?_
                        obtain ⟨v40, hv40, hu34⟩ := obd_s hu34
                        refine v_aI (pc := 146) hC s_72 hv40 dX11_copy_146 ?_
                        obtain ⟨s41, hs41, hu34⟩ := obd_s hu34
                        refine v_wI (pc := 147) hC s_73 hs41 dX11_copy_147 ?_
                        obtain ⟨x42, hx42, hu34⟩ := bnd_s hu34
                        refine v_iinc (pc := 148) (lv' := [some (.ref (gad g 49)), some (.int x0_), some (.int x1_), some (.int x2_), some (.int x3_), some (.int x4_), some (.int x42)]) (1 : Int32) rfl hx42 hC dX11_copy_148 rfl rfl rfl rfl ?_
                        refine v_goto (pc := 151) (tgt := 120) hC dX11_copy_151 rfl ?_
                        obtain rfl := Option.some.inj hu34
                        exact V.ls (ls_some (ls_some (ls_some (ls_some (ls_some (ls_some (ls_some ls_nil))))))) (k36 _ rfl)
                    · replace h := (if_neg c44).symm.trans h
                      refine v_aload_n (pc := 111) hC dX11_copy_111 rfl ?_
                      refine v_iconst (pc := 112) (2 : Int32) rfl hC dX11_copy_112 ?_
                      obtain ⟨w45, hw45, h⟩ := obd_s h
                      refine v_cV (pc := 113) [] [.int w45.1] gm_X11_meets hC s_49 rfl rfl (ct_X11_meets  hw45) ml_X11_128 rfl rfl rfl rfl rfl rfl dX11_copy_113 ?_
                      obtain rfl := Option.some.inj h
                      exact v_iret (pc := 116) hC rfl dX11_copy_116 hP
          · replace h := (if_neg c46).symm.trans h
            refine v_aload_n (pc := 56) hC dX11_copy_56 rfl ?_
            refine v_iconst (pc := 57) (4 : Int32) rfl hC dX11_copy_57 ?_
            obtain ⟨w47, hw47, h⟩ := obd_s h
            refine v_cV (pc := 58) [] [.int w47.1] gm_X11_meets hC s_49 rfl rfl (ct_X11_meets  hw47) ml_X11_128 rfl rfl rfl rfl rfl rfl dX11_copy_58 ?_
            obtain rfl := Option.some.inj h
            exact v_iret (pc := 61) hC rfl dX11_copy_61 hP
        · replace h := (if_pos c48).symm.trans h
          refine v_aload_n (pc := 35) hC dX11_copy_35 rfl ?_
          refine v_iconst (pc := 36) (1 : Int32) rfl hC dX11_copy_36 ?_
          obtain ⟨w49, hw49, h⟩ := obd_s h
          refine v_cV (pc := 37) [] [.int w49.1] gm_X11_meets hC s_49 rfl rfl (ct_X11_meets  hw49) ml_X11_128 rfl rfl rfl rfl rfl rfl dX11_copy_37 ?_
          obtain rfl := Option.some.inj h
          exact v_iret (pc := 40) hC rfl dX11_copy_40 hP
    · replace h := (if_pos c50).symm.trans h
      refine v_bipush (pc := 14) (-2 : Int32) rfl hC dX11_copy_14 ?_
      obtain rfl := Option.some.inj h
      exact v_iret (pc := 16) hC rfl dX11_copy_16 hP
theorem dX11_write_0 : decode cX11_write 0 = .ok (.aload_n 0, 1) := by decide +kernel
theorem dX11_write_1 : decode cX11_write 1 = .ok (.iload_n 1, 1) := by decide +kernel
theorem dX11_write_2 : decode cX11_write 2 = .ok (.invokevirtual 119, 3) := by decide +kernel
theorem dX11_write_5 : decode cX11_write 5 = .ok (.ifCond .eq 10, 3) := by decide +kernel
theorem dX11_write_8 : decode cX11_write 8 = .ok (.iload_n 2, 1) := by decide +kernel
theorem dX11_write_9 : decode cX11_write 9 = .ok (.invokestatic 125, 3) := by decide +kernel
theorem dX11_write_12 : decode cX11_write 12 = .ok (.ifCond .ne 6, 3) := by decide +kernel
theorem dX11_write_15 : decode cX11_write 15 = .ok (.bipush (-2), 2) := by decide +kernel
theorem dX11_write_17 : decode cX11_write 17 = .ok (.ireturn, 1) := by decide +kernel
theorem dX11_write_18 : decode cX11_write 18 = .ok (.aload_n 0, 1) := by decide +kernel
theorem dX11_write_19 : decode cX11_write 19 = .ok (.getfield 68, 3) := by decide +kernel
theorem dX11_write_22 : decode cX11_write 22 = .ok (.iload_n 2, 1) := by decide +kernel
theorem dX11_write_23 : decode cX11_write 23 = .ok (.baload, 1) := by decide +kernel
theorem dX11_write_24 : decode cX11_write 24 = .ok (.ifCond .ne 9, 3) := by decide +kernel
theorem dX11_write_27 : decode cX11_write 27 = .ok (.aload_n 0, 1) := by decide +kernel
theorem dX11_write_28 : decode cX11_write 28 = .ok (.iconst 1, 1) := by decide +kernel
theorem dX11_write_29 : decode cX11_write 29 = .ok (.invokevirtual 128, 3) := by decide +kernel
theorem dX11_write_32 : decode cX11_write 32 = .ok (.ireturn, 1) := by decide +kernel
theorem dX11_write_33 : decode cX11_write 33 = .ok (.iconst 0, 1) := by decide +kernel
theorem dX11_write_34 : decode cX11_write 34 = .ok (.istore_n 3, 1) := by decide +kernel
theorem dX11_write_35 : decode cX11_write 35 = .ok (.iload_n 3, 1) := by decide +kernel
theorem dX11_write_36 : decode cX11_write 36 = .ok (.aload_n 0, 1) := by decide +kernel
theorem dX11_write_37 : decode cX11_write 37 = .ok (.getfield 7, 3) := by decide +kernel
theorem dX11_write_40 : decode cX11_write 40 = .ok (.aload_n 0, 1) := by decide +kernel
theorem dX11_write_41 : decode cX11_write 41 = .ok (.getfield 16, 3) := by decide +kernel
theorem dX11_write_44 : decode cX11_write 44 = .ok (.iload_n 1, 1) := by decide +kernel
theorem dX11_write_45 : decode cX11_write 45 = .ok (.iaload, 1) := by decide +kernel
theorem dX11_write_46 : decode cX11_write 46 = .ok (.iaload, 1) := by decide +kernel
theorem dX11_write_47 : decode cX11_write 47 = .ok (.if_icmp .ge 35, 3) := by decide +kernel
theorem dX11_write_50 : decode cX11_write 50 = .ok (.iload_n 3, 1) := by decide +kernel
theorem dX11_write_51 : decode cX11_write 51 = .ok (.aload_n 0, 1) := by decide +kernel
theorem dX11_write_52 : decode cX11_write 52 = .ok (.getfield 75, 3) := by decide +kernel
theorem dX11_write_55 : decode cX11_write 55 = .ok (.iload_n 2, 1) := by decide +kernel
theorem dX11_write_56 : decode cX11_write 56 = .ok (.iaload, 1) := by decide +kernel
theorem dX11_write_57 : decode cX11_write 57 = .ok (.if_icmp .ge 25, 3) := by decide +kernel
theorem dX11_write_60 : decode cX11_write 60 = .ok (.aload_n 0, 1) := by decide +kernel
theorem dX11_write_61 : decode cX11_write 61 = .ok (.iload_n 2, 1) := by decide +kernel
theorem dX11_write_62 : decode cX11_write 62 = .ok (.iload_n 3, 1) := by decide +kernel
theorem dX11_write_63 : decode cX11_write 63 = .ok (.aload_n 0, 1) := by decide +kernel
theorem dX11_write_64 : decode cX11_write 64 = .ok (.getfield 25, 3) := by decide +kernel
theorem dX11_write_67 : decode cX11_write 67 = .ok (.iconst 4, 1) := by decide +kernel
theorem dX11_write_68 : decode cX11_write 68 = .ok (.iload_n 1, 1) := by decide +kernel
theorem dX11_write_69 : decode cX11_write 69 = .ok (.imul, 1) := by decide +kernel
theorem dX11_write_70 : decode cX11_write 70 = .ok (.iload_n 3, 1) := by decide +kernel
theorem dX11_write_71 : decode cX11_write 71 = .ok (.iadd, 1) := by decide +kernel
theorem dX11_write_72 : decode cX11_write 72 = .ok (.iaload, 1) := by decide +kernel
theorem dX11_write_73 : decode cX11_write 73 = .ok (.invokevirtual 314, 3) := by decide +kernel
theorem dX11_write_76 : decode cX11_write 76 = .ok (.iinc 3 1, 3) := by decide +kernel
theorem dX11_write_79 : decode cX11_write 79 = .ok (.goto (-44), 3) := by decide +kernel
theorem dX11_write_82 : decode cX11_write 82 = .ok (.iload_n 3, 1) := by decide +kernel
theorem dX11_write_83 : decode cX11_write 83 = .ok (.ireturn, 1) := by decide +kernel
def fX11_write_L35 (p1 : Int32) (p2 : Int32) (a : Int32) (s : Sg) : Option (((Int32) ⊕ (Int32)) × Sg) :=
  (aI s 52 64 p1).bind fun v1 =>
  (aI s 50 16 v1).bind fun v2 =>
  if v2 ≤ a then
  some (.inr a, s)
  else
  (aI s 71 4 p2).bind fun v4 =>
  if v4 ≤ a then
  some (.inr a, s)
  else
  (aI s 55 256 (((4 : Int32) * p1) + a)).bind fun v6 =>
  (fX11_keep p2 a v6 s).bind fun w7 =>
  bnd (a + (1 : Int32)) fun x8 =>
  some (.inl x8, w7)
def fX11_write (x0_ : Int32) (x1_ : Int32) (s : Sg) : Option (Int32 × Sg) :=
  (fX11_isSwim x0_ s).bind fun w1 =>
  if w1.1 = 0 then
  some ((-2 : Int32), w1.2)
  else
  (fX11_isSheet x1_ w1.2).bind fun w3 =>
  if w3.1 = 0 then
  some ((-2 : Int32), w3.2)
  else
  (aI w3.2 69 4 x1_).bind fun v4 =>
  if v4 = 0 then
  (fX11_meets (1 : Int32) w3.2).bind fun w22 =>
  some (w22.1, w22.2)
  else
  (lpG (fX11_write_L35 x0_ x1_) FU (0 : Int32) w3.2).bind fun w5 =>
  some (w5.1, w5.2)
theorem ct_X11_write {g : Gl} {x0_ : Int32} {x1_ : Int32} {s : Sg} {w : Int32 × Sg}  (h : fX11_write x0_ x1_ s = some w) : Ct SS g iX11_write 2 43 [.ref (gad g 49), .int x0_, .int x1_] s (Dt (some (.int w.1)) w.2) := by
  refine Ct.ofV (by decide +kernel) 1 (lv0 := [some (.ref (gad g 49)), some (.int x0_), some (.int x1_), none]) rfl rfl (fun M hC => ?_)
  have hP : (Dt (some (.int w.1)) w.2) (some (.int w.1)) w.2 := ⟨rfl, rfl⟩
  generalize Dt (some (.int w.1)) w.2 = P at hP ⊢
  unfold fX11_write at h
  refine v_aload_n (pc := 0) hC dX11_write_0 rfl ?_
  refine v_iload_n (pc := 1) hC dX11_write_1 rfl ?_
  obtain ⟨w1, hw1, h⟩ := obd_s h
  refine v_cV (pc := 2) [] [.int w1.1] gm_X11_isSwim hC s_49 rfl rfl (ct_X11_isSwim  hw1) ml_X11_119 rfl rfl rfl rfl rfl rfl dX11_write_2 ?_
  refine v_if_eq (pc := 5) (tgt := 15) hC dX11_write_5 rfl (fun c2 => ?_) (fun c2 => ?_)
  · replace h := (if_pos c2).symm.trans h
    refine v_bipush (pc := 15) (-2 : Int32) rfl hC dX11_write_15 ?_
    obtain rfl := Option.some.inj h
    exact v_iret (pc := 17) hC rfl dX11_write_17 hP
  · replace h := (if_neg c2).symm.trans h
    refine v_iload_n (pc := 8) hC dX11_write_8 rfl ?_
    obtain ⟨w3, hw3, h⟩ := obd_s h
    refine v_cS (pc := 9) [] [.int w3.1] gm_X11_isSheet hC (ct_X11_isSheet  hw3) ml_X11_125 rfl rfl rfl rfl rfl rfl dX11_write_9 ?_
    refine v_if_ne (pc := 12) (tgt := 18) hC dX11_write_12 rfl (fun c23 => ?_) (fun c23 => ?_)
    · replace h := (if_neg c23).symm.trans h
      refine v_aload_n (pc := 18) hC dX11_write_18 rfl ?_
      refine v_gt (pc := 19) 28 (.ref (gad g 69)) hC s_49 rfl rfl rfl rfl fl_X11_68 dX11_write_19 ?_
      refine v_iload_n (pc := 22) hC dX11_write_22 rfl ?_
      obtain ⟨v4, hv4, h⟩ := obd_s h
      refine v_aZ (pc := 23) hC s_69 hv4 dX11_write_23 ?_
      refine v_if_ne (pc := 24) (tgt := 33) hC dX11_write_24 rfl (fun c21 => ?_) (fun c21 => ?_)
      · replace h := (if_neg c21).symm.trans h
        refine v_iconst (pc := 33) (0 : Int32) rfl hC dX11_write_33 ?_
        refine v_istore_n (pc := 34) (lv' := [some (.ref (gad g 49)), some (.int x0_), some (.int x1_), some (.int (0 : Int32))]) hC dX11_write_34 rfl rfl rfl rfl ?_
        obtain ⟨w5, hw5, h⟩ := obd_s h
        have kx20 : V SS g M iX11_write (PQ SS g M P) 82 [none, none, none, some (.int w5.1)] [] w5.2 := by
          refine v_iload_n (pc := 82) hC dX11_write_82 rfl ?_
          obtain rfl := Option.some.inj h
          exact v_iret (pc := 83) hC rfl dX11_write_83 hP
        refine V.ls (ls_some (ls_some (ls_some (ls_some ls_nil)))) (v_loop (pc := 35) (fun a8 => [some (.ref (gad g 49)), some (.int x0_), some (.int x1_), some (.int a8)]) (fun z t => V SS g M iX11_write (PQ SS g M P) 82 [none, none, none, some (.int z)] [] t) (fun a8 s6 u7 hu7 k9 k10 => ?_) _ _ _ _ hw5 kx20)
        unfold fX11_write_L35 at hu7
        refine v_iload_n (pc := 35) hC dX11_write_35 rfl ?_
        refine v_aload_n (pc := 36) hC dX11_write_36 rfl ?_
        refine v_gt (pc := 37) 1 (.ref (gad g 50)) hC s_49 rfl rfl rfl rfl fl_X11_7 dX11_write_37 ?_
        refine v_aload_n (pc := 40) hC dX11_write_40 rfl ?_
        refine v_gt (pc := 41) 4 (.ref (gad g 52)) hC s_49 rfl rfl rfl rfl fl_X11_16 dX11_write_41 ?_
        refine v_iload_n (pc := 44) hC dX11_write_44 rfl ?_
        obtain ⟨v12, hv12, hu7⟩ := obd_s hu7
        refine v_aI (pc := 45) hC s_52 hv12 dX11_write_45 ?_
        obtain ⟨v13, hv13, hu7⟩ := obd_s hu7
        refine v_aI (pc := 46) hC s_50 hv13 dX11_write_46 ?_
        refine v_ic_ge (pc := 47) (tgt := 82) hC dX11_write_47 rfl (fun c14 => ?_) (fun c14 => ?_)
        · replace hu7 := (if_pos c14).symm.trans hu7
          obtain rfl := Option.some.inj hu7
          exact V.ls (ls_none (ls_none (ls_none (ls_some ls_nil)))) (k10 _ rfl)
        · replace hu7 := (if_neg c14).symm.trans hu7
          refine v_iload_n (pc := 50) hC dX11_write_50 rfl ?_
          refine v_aload_n (pc := 51) hC dX11_write_51 rfl ?_
          refine v_gt (pc := 52) 30 (.ref (gad g 71)) hC s_49 rfl rfl rfl rfl fl_X11_75 dX11_write_52 ?_
          refine v_iload_n (pc := 55) hC dX11_write_55 rfl ?_
          obtain ⟨v15, hv15, hu7⟩ := obd_s hu7
          refine v_aI (pc := 56) hC s_71 hv15 dX11_write_56 ?_
          refine v_ic_ge (pc := 57) (tgt := 82) hC dX11_write_57 rfl (fun c16 => ?_) (fun c16 => ?_)
          · replace hu7 := (if_pos c16).symm.trans hu7
            obtain rfl := Option.some.inj hu7
            exact V.ls (ls_none (ls_none (ls_none (ls_some ls_nil)))) (k10 _ rfl)
          · replace hu7 := (if_neg c16).symm.trans hu7
            refine v_aload_n (pc := 60) hC dX11_write_60 rfl ?_
            refine v_iload_n (pc := 61) hC dX11_write_61 rfl ?_
            refine v_iload_n (pc := 62) hC dX11_write_62 rfl ?_
            refine v_aload_n (pc := 63) hC dX11_write_63 rfl ?_
            refine v_gt (pc := 64) 7 (.ref (gad g 55)) hC s_49 rfl rfl rfl rfl fl_X11_25 dX11_write_64 ?_
            refine v_iconst (pc := 67) (4 : Int32) rfl hC dX11_write_67 ?_
            refine v_iload_n (pc := 68) hC dX11_write_68 rfl ?_
            refine v_imul (pc := 69) hC dX11_write_69 ?_
            refine v_iload_n (pc := 70) hC dX11_write_70 rfl ?_
            refine v_iadd (pc := 71) hC dX11_write_71 ?_
            obtain ⟨v17, hv17, hu7⟩ := obd_s hu7
            refine v_aI (pc := 72) hC s_55 hv17 dX11_write_72 ?_
            obtain ⟨w18, hw18, hu7⟩ := obd_s hu7
            refine v_cV (pc := 73) [] [] gm_X11_keep hC s_49 rfl rfl (ct_X11_keep  hw18) ml_X11_314 rfl rfl rfl rfl rfl rfl dX11_write_73 ?_
            obtain ⟨x19, hx19, hu7⟩ := bnd_s hu7
            refine v_iinc (pc := 76) (lv' := [some (.ref (gad g 49)), some (.int x0_), some (.int x1_), some (.int x19)]) (1 : Int32) rfl hx19 hC dX11_write_76 rfl rfl rfl rfl ?_
            refine v_goto (pc := 79) (tgt := 35) hC dX11_write_79 rfl ?_
            obtain rfl := Option.some.inj hu7
            exact V.ls (ls_some (ls_some (ls_some (ls_some ls_nil)))) (k9 _ rfl)
      · replace h := (if_pos c21).symm.trans h
        refine v_aload_n (pc := 27) hC dX11_write_27 rfl ?_
        refine v_iconst (pc := 28) (1 : Int32) rfl hC dX11_write_28 ?_
        obtain ⟨w22, hw22, h⟩ := obd_s h
        refine v_cV (pc := 29) [] [.int w22.1] gm_X11_meets hC s_49 rfl rfl (ct_X11_meets  hw22) ml_X11_128 rfl rfl rfl rfl rfl rfl dX11_write_29 ?_
        obtain rfl := Option.some.inj h
        exact v_iret (pc := 32) hC rfl dX11_write_32 hP
    · replace h := (if_pos c23).symm.trans h
      refine v_bipush (pc := 15) (-2 : Int32) rfl hC dX11_write_15 ?_
      obtain rfl := Option.some.inj h
      exact v_iret (pc := 17) hC rfl dX11_write_17 hP
theorem dX11_countNow_0 : decode cX11_countNow 0 = .ok (.iconst 0, 1) := by decide +kernel
theorem dX11_countNow_1 : decode cX11_countNow 1 = .ok (.istore_n 2, 1) := by decide +kernel
theorem dX11_countNow_2 : decode cX11_countNow 2 = .ok (.iconst 0, 1) := by decide +kernel
theorem dX11_countNow_3 : decode cX11_countNow 3 = .ok (.istore_n 3, 1) := by decide +kernel
theorem dX11_countNow_4 : decode cX11_countNow 4 = .ok (.iload_n 3, 1) := by decide +kernel
theorem dX11_countNow_5 : decode cX11_countNow 5 = .ok (.aload_n 0, 1) := by decide +kernel
theorem dX11_countNow_6 : decode cX11_countNow 6 = .ok (.getfield 98, 3) := by decide +kernel
theorem dX11_countNow_9 : decode cX11_countNow 9 = .ok (.if_icmp .ge 72, 3) := by decide +kernel
theorem dX11_countNow_12 : decode cX11_countNow 12 = .ok (.iload_n 2, 1) := by decide +kernel
theorem dX11_countNow_13 : decode cX11_countNow 13 = .ok (.iload_n 1, 1) := by decide +kernel
theorem dX11_countNow_14 : decode cX11_countNow 14 = .ok (.iconst 2, 1) := by decide +kernel
theorem dX11_countNow_15 : decode cX11_countNow 15 = .ok (.if_icmp .ne 19, 3) := by decide +kernel
theorem dX11_countNow_18 : decode cX11_countNow 18 = .ok (.aload_n 0, 1) := by decide +kernel
theorem dX11_countNow_19 : decode cX11_countNow 19 = .ok (.iload_n 3, 1) := by decide +kernel
theorem dX11_countNow_20 : decode cX11_countNow 20 = .ok (.invokevirtual 215, 3) := by decide +kernel
theorem dX11_countNow_23 : decode cX11_countNow 23 = .ok (.ifCond .eq 7, 3) := by decide +kernel
theorem dX11_countNow_26 : decode cX11_countNow 26 = .ok (.iconst 1, 1) := by decide +kernel
theorem dX11_countNow_27 : decode cX11_countNow 27 = .ok (.goto 46, 3) := by decide +kernel
theorem dX11_countNow_30 : decode cX11_countNow 30 = .ok (.iconst 0, 1) := by decide +kernel
theorem dX11_countNow_31 : decode cX11_countNow 31 = .ok (.goto 42, 3) := by decide +kernel
theorem dX11_countNow_34 : decode cX11_countNow 34 = .ok (.iload_n 1, 1) := by decide +kernel
theorem dX11_countNow_35 : decode cX11_countNow 35 = .ok (.iconst 3, 1) := by decide +kernel
theorem dX11_countNow_36 : decode cX11_countNow 36 = .ok (.if_icmp .ne 19, 3) := by decide +kernel
theorem dX11_countNow_39 : decode cX11_countNow 39 = .ok (.aload_n 0, 1) := by decide +kernel
theorem dX11_countNow_40 : decode cX11_countNow 40 = .ok (.iload_n 3, 1) := by decide +kernel
theorem dX11_countNow_41 : decode cX11_countNow 41 = .ok (.invokevirtual 148, 3) := by decide +kernel
theorem dX11_countNow_44 : decode cX11_countNow 44 = .ok (.ifCond .eq 7, 3) := by decide +kernel
theorem dX11_countNow_47 : decode cX11_countNow 47 = .ok (.iconst 1, 1) := by decide +kernel
theorem dX11_countNow_48 : decode cX11_countNow 48 = .ok (.goto 25, 3) := by decide +kernel
theorem dX11_countNow_51 : decode cX11_countNow 51 = .ok (.iconst 0, 1) := by decide +kernel
theorem dX11_countNow_52 : decode cX11_countNow 52 = .ok (.goto 21, 3) := by decide +kernel
theorem dX11_countNow_55 : decode cX11_countNow 55 = .ok (.iload_n 1, 1) := by decide +kernel
theorem dX11_countNow_56 : decode cX11_countNow 56 = .ok (.iconst 4, 1) := by decide +kernel
theorem dX11_countNow_57 : decode cX11_countNow 57 = .ok (.if_icmp .ne 11, 3) := by decide +kernel
theorem dX11_countNow_60 : decode cX11_countNow 60 = .ok (.aload_n 0, 1) := by decide +kernel
theorem dX11_countNow_61 : decode cX11_countNow 61 = .ok (.iload_n 3, 1) := by decide +kernel
theorem dX11_countNow_62 : decode cX11_countNow 62 = .ok (.invokevirtual 132, 3) := by decide +kernel
theorem dX11_countNow_65 : decode cX11_countNow 65 = .ok (.goto 8, 3) := by decide +kernel
theorem dX11_countNow_68 : decode cX11_countNow 68 = .ok (.aload_n 0, 1) := by decide +kernel
theorem dX11_countNow_69 : decode cX11_countNow 69 = .ok (.iload_n 3, 1) := by decide +kernel
theorem dX11_countNow_70 : decode cX11_countNow 70 = .ok (.invokevirtual 135, 3) := by decide +kernel
theorem dX11_countNow_73 : decode cX11_countNow 73 = .ok (.iadd, 1) := by decide +kernel
theorem dX11_countNow_74 : decode cX11_countNow 74 = .ok (.istore_n 2, 1) := by decide +kernel
theorem dX11_countNow_75 : decode cX11_countNow 75 = .ok (.iinc 3 1, 3) := by decide +kernel
theorem dX11_countNow_78 : decode cX11_countNow 78 = .ok (.goto (-74), 3) := by decide +kernel
theorem dX11_countNow_81 : decode cX11_countNow 81 = .ok (.iload_n 2, 1) := by decide +kernel
theorem dX11_countNow_82 : decode cX11_countNow 82 = .ok (.ireturn, 1) := by decide +kernel
def fX11_countNow_L4 (p1 : Int32) (a : Int32 × Int32) (s : Sg) : Option (((Int32 × Int32) ⊕ (Int32)) × Sg) :=
  if (gI s 49 3) ≤ a.2 then
  some (.inr a.1, s)
  else
  ((if p1 = (2 : Int32) then
  (fX11_isSingle a.2 s).bind fun w13 =>
  if w13.1 = 0 then
  some ((0 : Int32), w13.2)
  else
  some ((1 : Int32), w13.2)
  else
  if p1 = (3 : Int32) then
  (fX11_hasDiff a.2 s).bind fun w10 =>
  if w10.1 = 0 then
  some ((0 : Int32), w10.2)
  else
  some ((1 : Int32), w10.2)
  else
  if p1 = (4 : Int32) then
  (fX11_feltOf a.2 s).bind fun w8 =>
  some (w8.1, w8.2)
  else
  (fX11_totalOf a.2 s).bind fun w6 =>
  some (w6.1, w6.2)) : Option (Int32 × Sg)).bind fun w2 =>
  bnd (a.1 + w2.1) fun x4 =>
  bnd (a.2 + (1 : Int32)) fun x5 =>
  some (.inl (x4, x5), w2.2)
def fX11_countNow (x0_ : Int32) (s : Sg) : Option (Int32 × Sg) :=
  (lpG (fX11_countNow_L4 x0_) FU ((0 : Int32), (0 : Int32)) s).bind fun w1 =>
  some (w1.1, w1.2)
theorem ct_X11_countNow {g : Gl} {x0_ : Int32} {s : Sg} {w : Int32 × Sg}  (h : fX11_countNow x0_ s = some w) : Ct SS g iX11_countNow 2 45 [.ref (gad g 49), .int x0_] s (Dt (some (.int w.1)) w.2) := by
  refine Ct.ofV (by decide +kernel) 2 (lv0 := [some (.ref (gad g 49)), some (.int x0_), none, none]) rfl rfl (fun M hC => ?_)
  have hP : (Dt (some (.int w.1)) w.2) (some (.int w.1)) w.2 := ⟨rfl, rfl⟩
  generalize Dt (some (.int w.1)) w.2 = P at hP ⊢
  unfold fX11_countNow at h
  refine v_iconst (pc := 0) (0 : Int32) rfl hC dX11_countNow_0 ?_
  refine v_istore_n (pc := 1) (lv' := [some (.ref (gad g 49)), some (.int x0_), some (.int (0 : Int32)), none]) hC dX11_countNow_1 rfl rfl rfl rfl ?_
  refine v_iconst (pc := 2) (0 : Int32) rfl hC dX11_countNow_2 ?_
  refine v_istore_n (pc := 3) (lv' := [some (.ref (gad g 49)), some (.int x0_), some (.int (0 : Int32)), some (.int (0 : Int32))]) hC dX11_countNow_3 rfl rfl rfl rfl ?_
  obtain ⟨w1, hw1, h⟩ := obd_s h
  have kx22 : V SS g M iX11_countNow (PQ SS g M P) 81 [none, none, some (.int w1.1), none] [] w1.2 := by
    refine v_iload_n (pc := 81) hC dX11_countNow_81 rfl ?_
    obtain rfl := Option.some.inj h
    exact v_iret (pc := 82) hC rfl dX11_countNow_82 hP
  refine V.ls (ls_some (ls_some (ls_some (ls_some ls_nil)))) (v_loop (pc := 4) (fun a4 => [some (.ref (gad g 49)), some (.int x0_), some (.int a4.1), some (.int a4.2)]) (fun z t => V SS g M iX11_countNow (PQ SS g M P) 81 [none, none, some (.int z), none] [] t) (fun a4 s2 u3 hu3 k5 k6 => ?_) _ _ _ _ hw1 kx22)
  unfold fX11_countNow_L4 at hu3
  refine v_iload_n (pc := 4) hC dX11_countNow_4 rfl ?_
  refine v_aload_n (pc := 5) hC dX11_countNow_5 rfl ?_
  refine v_gt (pc := 6) 3 (.int (gI s2 49 3)) hC s_49 rfl rfl rfl rfl fl_X11_98 dX11_countNow_6 ?_
  refine v_ic_ge (pc := 9) (tgt := 81) hC dX11_countNow_9 rfl (fun c8 => ?_) (fun c8 => ?_)
  · replace hu3 := (if_pos c8).symm.trans hu3
    obtain rfl := Option.some.inj hu3
    exact V.ls (ls_none (ls_none (ls_some (ls_none ls_nil)))) (k6 _ rfl)
  · replace hu3 := (if_neg c8).symm.trans hu3
    refine v_iload_n (pc := 12) hC dX11_countNow_12 rfl ?_
    refine v_iload_n (pc := 13) hC dX11_countNow_13 rfl ?_
    refine v_iconst (pc := 14) (2 : Int32) rfl hC dX11_countNow_14 ?_
    obtain ⟨w9, hw9, hu3⟩ := obd_s hu3
    have kj10 : V SS g M iX11_countNow (PQ SS g M P) 73 [some (.ref (gad g 49)), some (.int x0_), none, some (.int a4.2)] [.int w9.1, .int a4.1] w9.2 := by
      refine v_iadd (pc := 73) hC dX11_countNow_73 ?_
      obtain ⟨x11, hx11, hu3⟩ := bnd_s hu3
      refine v_istore_n (pc := 74) (lv' := [some (.ref (gad g 49)), some (.int x0_), some (.int x11), some (.int a4.2)]) hC dX11_countNow_74 hx11 rfl rfl rfl ?_
      obtain ⟨x12, hx12, hu3⟩ := bnd_s hu3
      refine v_iinc (pc := 75) (lv' := [some (.ref (gad g 49)), some (.int x0_), some (.int x11), some (.int x12)]) (1 : Int32) rfl hx12 hC dX11_countNow_75 rfl rfl rfl rfl ?_
      refine v_goto (pc := 78) (tgt := 4) hC dX11_countNow_78 rfl ?_
      obtain rfl := Option.some.inj hu3
      exact V.ls (ls_some (ls_some (ls_some (ls_some ls_nil)))) (k5 _ rfl)
    refine v_ic_ne (pc := 15) (tgt := 34) hC dX11_countNow_15 rfl (fun c19 => ?_) (fun c19 => ?_)
    · replace hw9 := (if_neg c19).symm.trans hw9
      refine v_iload_n (pc := 34) hC dX11_countNow_34 rfl ?_
      refine v_iconst (pc := 35) (3 : Int32) rfl hC dX11_countNow_35 ?_
      refine v_ic_ne (pc := 36) (tgt := 55) hC dX11_countNow_36 rfl (fun c16 => ?_) (fun c16 => ?_)
      · replace hw9 := (if_neg c16).symm.trans hw9
        refine v_iload_n (pc := 55) hC dX11_countNow_55 rfl ?_
        refine v_iconst (pc := 56) (4 : Int32) rfl hC dX11_countNow_56 ?_
        refine v_ic_ne (pc := 57) (tgt := 68) hC dX11_countNow_57 rfl (fun c14 => ?_) (fun c14 => ?_)
        · replace hw9 := (if_neg c14).symm.trans hw9
          refine v_aload_n (pc := 68) hC dX11_countNow_68 rfl ?_
          refine v_iload_n (pc := 69) hC dX11_countNow_69 rfl ?_
          obtain ⟨w13, hw13, hw9⟩ := obd_s hw9
          refine v_cV (pc := 70) [.int a4.1] [.int w13.1, .int a4.1] gm_X11_totalOf hC s_49 rfl rfl (ct_X11_totalOf  hw13) ml_X11_135 rfl rfl rfl rfl rfl rfl dX11_countNow_70 ?_
          obtain rfl := Option.some.inj hw9
          exact V.ls (ls_some (ls_some (ls_none (ls_some ls_nil)))) kj10
        · replace hw9 := (if_pos c14).symm.trans hw9
          refine v_aload_n (pc := 60) hC dX11_countNow_60 rfl ?_
          refine v_iload_n (pc := 61) hC dX11_countNow_61 rfl ?_
          obtain ⟨w15, hw15, hw9⟩ := obd_s hw9
          refine v_cV (pc := 62) [.int a4.1] [.int w15.1, .int a4.1] gm_X11_feltOf hC s_49 rfl rfl (ct_X11_feltOf  hw15) ml_X11_132 rfl rfl rfl rfl rfl rfl dX11_countNow_62 ?_
          refine v_goto (pc := 65) (tgt := 73) hC dX11_countNow_65 rfl ?_
          obtain rfl := Option.some.inj hw9
          exact V.ls (ls_some (ls_some (ls_none (ls_some ls_nil)))) kj10
      · replace hw9 := (if_pos c16).symm.trans hw9
        refine v_aload_n (pc := 39) hC dX11_countNow_39 rfl ?_
        refine v_iload_n (pc := 40) hC dX11_countNow_40 rfl ?_
        obtain ⟨w17, hw17, hw9⟩ := obd_s hw9
        refine v_cV (pc := 41) [.int a4.1] [.int w17.1, .int a4.1] gm_X11_hasDiff hC s_49 rfl rfl (ct_X11_hasDiff  hw17) ml_X11_148 rfl rfl rfl rfl rfl rfl dX11_countNow_41 ?_
        refine v_if_eq (pc := 44) (tgt := 51) hC dX11_countNow_44 rfl (fun c18 => ?_) (fun c18 => ?_)
        · replace hw9 := (if_pos c18).symm.trans hw9
          refine v_iconst (pc := 51) (0 : Int32) rfl hC dX11_countNow_51 ?_
          refine v_goto (pc := 52) (tgt := 73) hC dX11_countNow_52 rfl ?_
          obtain rfl := Option.some.inj hw9
          exact V.ls (ls_some (ls_some (ls_none (ls_some ls_nil)))) kj10
        · replace hw9 := (if_neg c18).symm.trans hw9
          refine v_iconst (pc := 47) (1 : Int32) rfl hC dX11_countNow_47 ?_
          refine v_goto (pc := 48) (tgt := 73) hC dX11_countNow_48 rfl ?_
          obtain rfl := Option.some.inj hw9
          exact V.ls (ls_some (ls_some (ls_none (ls_some ls_nil)))) kj10
    · replace hw9 := (if_pos c19).symm.trans hw9
      refine v_aload_n (pc := 18) hC dX11_countNow_18 rfl ?_
      refine v_iload_n (pc := 19) hC dX11_countNow_19 rfl ?_
      obtain ⟨w20, hw20, hw9⟩ := obd_s hw9
      refine v_cV (pc := 20) [.int a4.1] [.int w20.1, .int a4.1] gm_X11_isSingle hC s_49 rfl rfl (ct_X11_isSingle  hw20) ml_X11_215 rfl rfl rfl rfl rfl rfl dX11_countNow_20 ?_
      refine v_if_eq (pc := 23) (tgt := 30) hC dX11_countNow_23 rfl (fun c21 => ?_) (fun c21 => ?_)
      · replace hw9 := (if_pos c21).symm.trans hw9
        refine v_iconst (pc := 30) (0 : Int32) rfl hC dX11_countNow_30 ?_
        refine v_goto (pc := 31) (tgt := 73) hC dX11_countNow_31 rfl ?_
        obtain rfl := Option.some.inj hw9
        exact V.ls (ls_some (ls_some (ls_none (ls_some ls_nil)))) kj10
      · replace hw9 := (if_neg c21).symm.trans hw9
        refine v_iconst (pc := 26) (1 : Int32) rfl hC dX11_countNow_26 ?_
        refine v_goto (pc := 27) (tgt := 73) hC dX11_countNow_27 rfl ?_
        obtain rfl := Option.some.inj hw9
        exact V.ls (ls_some (ls_some (ls_none (ls_some ls_nil)))) kj10
theorem dX11_count_0 : decode cX11_count 0 = .ok (.iload_n 1, 1) := by decide +kernel
theorem dX11_count_1 : decode cX11_count 1 = .ok (.tableswitch 81 0 8 #[51, 56, 61, 61, 61, 67, 67, 61, 76], 51) := by decide +kernel
theorem dX11_count_52 : decode cX11_count 52 = .ok (.aload_n 0, 1) := by decide +kernel
theorem dX11_count_53 : decode cX11_count 53 = .ok (.getfield 90, 3) := by decide +kernel
theorem dX11_count_56 : decode cX11_count 56 = .ok (.ireturn, 1) := by decide +kernel
theorem dX11_count_57 : decode cX11_count 57 = .ok (.aload_n 0, 1) := by decide +kernel
theorem dX11_count_58 : decode cX11_count 58 = .ok (.getfield 98, 3) := by decide +kernel
theorem dX11_count_61 : decode cX11_count 61 = .ok (.ireturn, 1) := by decide +kernel
theorem dX11_count_62 : decode cX11_count 62 = .ok (.aload_n 0, 1) := by decide +kernel
theorem dX11_count_63 : decode cX11_count 63 = .ok (.iload_n 1, 1) := by decide +kernel
theorem dX11_count_64 : decode cX11_count 64 = .ok (.invokevirtual 319, 3) := by decide +kernel
theorem dX11_count_67 : decode cX11_count 67 = .ok (.ireturn, 1) := by decide +kernel
theorem dX11_count_68 : decode cX11_count 68 = .ok (.aload_n 0, 1) := by decide +kernel
theorem dX11_count_69 : decode cX11_count 69 = .ok (.getfield 59, 3) := by decide +kernel
theorem dX11_count_72 : decode cX11_count 72 = .ok (.iload_n 1, 1) := by decide +kernel
theorem dX11_count_73 : decode cX11_count 73 = .ok (.iconst 5, 1) := by decide +kernel
theorem dX11_count_74 : decode cX11_count 74 = .ok (.isub, 1) := by decide +kernel
theorem dX11_count_75 : decode cX11_count 75 = .ok (.iaload, 1) := by decide +kernel
theorem dX11_count_76 : decode cX11_count 76 = .ok (.ireturn, 1) := by decide +kernel
theorem dX11_count_77 : decode cX11_count 77 = .ok (.aload_n 0, 1) := by decide +kernel
theorem dX11_count_78 : decode cX11_count 78 = .ok (.getfield 308, 3) := by decide +kernel
theorem dX11_count_81 : decode cX11_count 81 = .ok (.ireturn, 1) := by decide +kernel
theorem dX11_count_82 : decode cX11_count 82 = .ok (.bipush (-2), 2) := by decide +kernel
theorem dX11_count_84 : decode cX11_count 84 = .ok (.ireturn, 1) := by decide +kernel
def fX11_count (x0_ : Int32) (s : Sg) : Option (Int32 × Sg) :=
  if x0_ = (0 : Int32) then (some ((gI s 49 0), s)) else if x0_ = (1 : Int32) then (some ((gI s 49 3), s)) else if x0_ = (2 : Int32) then ((fX11_countNow x0_ s).bind fun w4 =>
  some (w4.1, w4.2)) else if x0_ = (3 : Int32) then ((fX11_countNow x0_ s).bind fun w6 =>
  some (w6.1, w6.2)) else if x0_ = (4 : Int32) then ((fX11_countNow x0_ s).bind fun w8 =>
  some (w8.1, w8.2)) else if x0_ = (5 : Int32) then ((aI s 66 2 (x0_ - (5 : Int32))).bind fun v10 =>
  some (v10, s)) else if x0_ = (6 : Int32) then ((aI s 66 2 (x0_ - (5 : Int32))).bind fun v12 =>
  some (v12, s)) else if x0_ = (7 : Int32) then ((fX11_countNow x0_ s).bind fun w14 =>
  some (w14.1, w14.2)) else if x0_ = (8 : Int32) then (some ((gI s 49 33), s)) else (some ((-2 : Int32), s))
theorem ct_X11_count {g : Gl} {x0_ : Int32} {s : Sg} {w : Int32 × Sg}  (h : fX11_count x0_ s = some w) : Ct SS g iX11_count 3 68 [.ref (gad g 49), .int x0_] s (Dt (some (.int w.1)) w.2) := by
  refine Ct.ofV (by decide +kernel) 0 (lv0 := [some (.ref (gad g 49)), some (.int x0_)]) rfl rfl (fun M hC => ?_)
  have hP : (Dt (some (.int w.1)) w.2) (some (.int w.1)) w.2 := ⟨rfl, rfl⟩
  generalize Dt (some (.int w.1)) w.2 = P at hP ⊢
  unfold fX11_count at h
  refine v_iload_n (pc := 0) hC dX11_count_0 rfl ?_
  by_cases c1 : x0_ = (0 : Int32)
  · replace h := (if_pos c1).symm.trans h
    refine v_tsIn (pc := 1) (tgt := 52) hC dX11_count_1 (by rw [c1]; decide) (by rw [c1]; decide) (by rw [c1]; rfl) rfl ?_
    refine v_aload_n (pc := 52) hC dX11_count_52 rfl ?_
    refine v_gt (pc := 53) 0 (.int (gI s 49 0)) hC s_49 rfl rfl rfl rfl fl_X11_90 dX11_count_53 ?_
    obtain rfl := Option.some.inj h
    exact v_iret (pc := 56) hC rfl dX11_count_56 hP
  replace h := (if_neg c1).symm.trans h
  by_cases c2 : x0_ = (1 : Int32)
  · replace h := (if_pos c2).symm.trans h
    refine v_tsIn (pc := 1) (tgt := 57) hC dX11_count_1 (by rw [c2]; decide) (by rw [c2]; decide) (by rw [c2]; rfl) rfl ?_
    refine v_aload_n (pc := 57) hC dX11_count_57 rfl ?_
    refine v_gt (pc := 58) 3 (.int (gI s 49 3)) hC s_49 rfl rfl rfl rfl fl_X11_98 dX11_count_58 ?_
    obtain rfl := Option.some.inj h
    exact v_iret (pc := 61) hC rfl dX11_count_61 hP
  replace h := (if_neg c2).symm.trans h
  by_cases c3 : x0_ = (2 : Int32)
  · replace h := (if_pos c3).symm.trans h
    refine v_tsIn (pc := 1) (tgt := 62) hC dX11_count_1 (by rw [c3]; decide) (by rw [c3]; decide) (by rw [c3]; rfl) rfl ?_
    refine v_aload_n (pc := 62) hC dX11_count_62 rfl ?_
    refine v_iload_n (pc := 63) hC dX11_count_63 rfl ?_
    obtain ⟨w4, hw4, h⟩ := obd_s h
    refine v_cV (pc := 64) [] [.int w4.1] gm_X11_countNow hC s_49 rfl rfl (ct_X11_countNow  hw4) ml_X11_319 rfl rfl rfl rfl rfl rfl dX11_count_64 ?_
    obtain rfl := Option.some.inj h
    exact v_iret (pc := 67) hC rfl dX11_count_67 hP
  replace h := (if_neg c3).symm.trans h
  by_cases c5 : x0_ = (3 : Int32)
  · replace h := (if_pos c5).symm.trans h
    refine v_tsIn (pc := 1) (tgt := 62) hC dX11_count_1 (by rw [c5]; decide) (by rw [c5]; decide) (by rw [c5]; rfl) rfl ?_
    refine v_aload_n (pc := 62) hC dX11_count_62 rfl ?_
    refine v_iload_n (pc := 63) hC dX11_count_63 rfl ?_
    obtain ⟨w6, hw6, h⟩ := obd_s h
    refine v_cV (pc := 64) [] [.int w6.1] gm_X11_countNow hC s_49 rfl rfl (ct_X11_countNow  hw6) ml_X11_319 rfl rfl rfl rfl rfl rfl dX11_count_64 ?_
    obtain rfl := Option.some.inj h
    exact v_iret (pc := 67) hC rfl dX11_count_67 hP
  replace h := (if_neg c5).symm.trans h
  by_cases c7 : x0_ = (4 : Int32)
  · replace h := (if_pos c7).symm.trans h
    refine v_tsIn (pc := 1) (tgt := 62) hC dX11_count_1 (by rw [c7]; decide) (by rw [c7]; decide) (by rw [c7]; rfl) rfl ?_
    refine v_aload_n (pc := 62) hC dX11_count_62 rfl ?_
    refine v_iload_n (pc := 63) hC dX11_count_63 rfl ?_
    obtain ⟨w8, hw8, h⟩ := obd_s h
    refine v_cV (pc := 64) [] [.int w8.1] gm_X11_countNow hC s_49 rfl rfl (ct_X11_countNow  hw8) ml_X11_319 rfl rfl rfl rfl rfl rfl dX11_count_64 ?_
    obtain rfl := Option.some.inj h
    exact v_iret (pc := 67) hC rfl dX11_count_67 hP
  replace h := (if_neg c7).symm.trans h
  by_cases c9 : x0_ = (5 : Int32)
  · replace h := (if_pos c9).symm.trans h
    refine v_tsIn (pc := 1) (tgt := 68) hC dX11_count_1 (by rw [c9]; decide) (by rw [c9]; decide) (by rw [c9]; rfl) rfl ?_
    refine v_aload_n (pc := 68) hC dX11_count_68 rfl ?_
    refine v_gt (pc := 69) 20 (.ref (gad g 66)) hC s_49 rfl rfl rfl rfl fl_X11_59 dX11_count_69 ?_
    refine v_iload_n (pc := 72) hC dX11_count_72 rfl ?_
    refine v_iconst (pc := 73) (5 : Int32) rfl hC dX11_count_73 ?_
    refine v_isub (pc := 74) hC dX11_count_74 ?_
    obtain ⟨v10, hv10, h⟩ := obd_s h
    refine v_aI (pc := 75) hC s_66 hv10 dX11_count_75 ?_
    obtain rfl := Option.some.inj h
    exact v_iret (pc := 76) hC rfl dX11_count_76 hP
  replace h := (if_neg c9).symm.trans h
  by_cases c11 : x0_ = (6 : Int32)
  · replace h := (if_pos c11).symm.trans h
    refine v_tsIn (pc := 1) (tgt := 68) hC dX11_count_1 (by rw [c11]; decide) (by rw [c11]; decide) (by rw [c11]; rfl) rfl ?_
    refine v_aload_n (pc := 68) hC dX11_count_68 rfl ?_
    refine v_gt (pc := 69) 20 (.ref (gad g 66)) hC s_49 rfl rfl rfl rfl fl_X11_59 dX11_count_69 ?_
    refine v_iload_n (pc := 72) hC dX11_count_72 rfl ?_
    refine v_iconst (pc := 73) (5 : Int32) rfl hC dX11_count_73 ?_
    refine v_isub (pc := 74) hC dX11_count_74 ?_
    obtain ⟨v12, hv12, h⟩ := obd_s h
    refine v_aI (pc := 75) hC s_66 hv12 dX11_count_75 ?_
    obtain rfl := Option.some.inj h
    exact v_iret (pc := 76) hC rfl dX11_count_76 hP
  replace h := (if_neg c11).symm.trans h
  by_cases c13 : x0_ = (7 : Int32)
  · replace h := (if_pos c13).symm.trans h
    refine v_tsIn (pc := 1) (tgt := 62) hC dX11_count_1 (by rw [c13]; decide) (by rw [c13]; decide) (by rw [c13]; rfl) rfl ?_
    refine v_aload_n (pc := 62) hC dX11_count_62 rfl ?_
    refine v_iload_n (pc := 63) hC dX11_count_63 rfl ?_
    obtain ⟨w14, hw14, h⟩ := obd_s h
    refine v_cV (pc := 64) [] [.int w14.1] gm_X11_countNow hC s_49 rfl rfl (ct_X11_countNow  hw14) ml_X11_319 rfl rfl rfl rfl rfl rfl dX11_count_64 ?_
    obtain rfl := Option.some.inj h
    exact v_iret (pc := 67) hC rfl dX11_count_67 hP
  replace h := (if_neg c13).symm.trans h
  by_cases c15 : x0_ = (8 : Int32)
  · replace h := (if_pos c15).symm.trans h
    refine v_tsIn (pc := 1) (tgt := 77) hC dX11_count_1 (by rw [c15]; decide) (by rw [c15]; decide) (by rw [c15]; rfl) rfl ?_
    refine v_aload_n (pc := 77) hC dX11_count_77 rfl ?_
    refine v_gt (pc := 78) 33 (.int (gI s 49 33)) hC s_49 rfl rfl rfl rfl fl_X11_308 dX11_count_78 ?_
    obtain rfl := Option.some.inj h
    exact v_iret (pc := 81) hC rfl dX11_count_81 hP
  replace h := (if_neg c15).symm.trans h
  have ec1 : (x0_).toInt ≠ 0 := ne_toInt c1
  have ec2 : (x0_).toInt ≠ 1 := ne_toInt c2
  have ec3 : (x0_).toInt ≠ 2 := ne_toInt c3
  have ec5 : (x0_).toInt ≠ 3 := ne_toInt c5
  have ec7 : (x0_).toInt ≠ 4 := ne_toInt c7
  have ec9 : (x0_).toInt ≠ 5 := ne_toInt c9
  have ec11 : (x0_).toInt ≠ 6 := ne_toInt c11
  have ec13 : (x0_).toInt ≠ 7 := ne_toInt c13
  have ec15 : (x0_).toInt ≠ 8 := ne_toInt c15
  refine v_tsOut (pc := 1) (tgt := 82) hC dX11_count_1 (by omega) rfl ?_
  refine v_bipush (pc := 82) (-2 : Int32) rfl hC dX11_count_82 ?_
  obtain rfl := Option.some.inj h
  exact v_iret (pc := 84) hC rfl dX11_count_84 hP
theorem dX11_digest_0 : decode cX11_digest 0 = .ok (.ldc2_w 322, 3) := by decide +kernel
theorem dX11_digest_3 : decode cX11_digest 3 = .ok (.lstore_n 1, 1) := by decide +kernel
theorem dX11_digest_4 : decode cX11_digest 4 = .ok (.iconst 0, 1) := by decide +kernel
theorem dX11_digest_5 : decode cX11_digest 5 = .ok (.istore_n 3, 1) := by decide +kernel
theorem dX11_digest_6 : decode cX11_digest 6 = .ok (.iload_n 3, 1) := by decide +kernel
theorem dX11_digest_7 : decode cX11_digest 7 = .ok (.bipush 8, 2) := by decide +kernel
theorem dX11_digest_9 : decode cX11_digest 9 = .ok (.if_icmp .ge 22, 3) := by decide +kernel
theorem dX11_digest_12 : decode cX11_digest 12 = .ok (.ldc2_w 324, 3) := by decide +kernel
theorem dX11_digest_15 : decode cX11_digest 15 = .ok (.lload_n 1, 1) := by decide +kernel
theorem dX11_digest_16 : decode cX11_digest 16 = .ok (.lmul, 1) := by decide +kernel
theorem dX11_digest_17 : decode cX11_digest 17 = .ok (.aload_n 0, 1) := by decide +kernel
theorem dX11_digest_18 : decode cX11_digest 18 = .ok (.iload_n 3, 1) := by decide +kernel
theorem dX11_digest_19 : decode cX11_digest 19 = .ok (.invokevirtual 326, 3) := by decide +kernel
theorem dX11_digest_22 : decode cX11_digest 22 = .ok (.i2l, 1) := by decide +kernel
theorem dX11_digest_23 : decode cX11_digest 23 = .ok (.ladd, 1) := by decide +kernel
theorem dX11_digest_24 : decode cX11_digest 24 = .ok (.lstore_n 1, 1) := by decide +kernel
theorem dX11_digest_25 : decode cX11_digest 25 = .ok (.iinc 3 1, 3) := by decide +kernel
theorem dX11_digest_28 : decode cX11_digest 28 = .ok (.goto (-22), 3) := by decide +kernel
theorem dX11_digest_31 : decode cX11_digest 31 = .ok (.iconst 0, 1) := by decide +kernel
theorem dX11_digest_32 : decode cX11_digest 32 = .ok (.istore_n 3, 1) := by decide +kernel
theorem dX11_digest_33 : decode cX11_digest 33 = .ok (.iload_n 3, 1) := by decide +kernel
theorem dX11_digest_34 : decode cX11_digest 34 = .ok (.bipush 8, 2) := by decide +kernel
theorem dX11_digest_36 : decode cX11_digest 36 = .ok (.if_icmp .ge 67, 3) := by decide +kernel
theorem dX11_digest_39 : decode cX11_digest 39 = .ok (.ldc2_w 324, 3) := by decide +kernel
theorem dX11_digest_42 : decode cX11_digest 42 = .ok (.lload_n 1, 1) := by decide +kernel
theorem dX11_digest_43 : decode cX11_digest 43 = .ok (.lmul, 1) := by decide +kernel
theorem dX11_digest_44 : decode cX11_digest 44 = .ok (.aload_n 0, 1) := by decide +kernel
theorem dX11_digest_45 : decode cX11_digest 45 = .ok (.iload_n 3, 1) := by decide +kernel
theorem dX11_digest_46 : decode cX11_digest 46 = .ok (.invokevirtual 195, 3) := by decide +kernel
theorem dX11_digest_49 : decode cX11_digest 49 = .ok (.i2l, 1) := by decide +kernel
theorem dX11_digest_50 : decode cX11_digest 50 = .ok (.ladd, 1) := by decide +kernel
theorem dX11_digest_51 : decode cX11_digest 51 = .ok (.lstore_n 1, 1) := by decide +kernel
theorem dX11_digest_52 : decode cX11_digest 52 = .ok (.iconst 0, 1) := by decide +kernel
theorem dX11_digest_53 : decode cX11_digest 53 = .ok (.istore 4, 2) := by decide +kernel
theorem dX11_digest_55 : decode cX11_digest 55 = .ok (.iload 4, 2) := by decide +kernel
theorem dX11_digest_57 : decode cX11_digest 57 = .ok (.iconst 3, 1) := by decide +kernel
theorem dX11_digest_58 : decode cX11_digest 58 = .ok (.if_icmp .ge 39, 3) := by decide +kernel
theorem dX11_digest_61 : decode cX11_digest 61 = .ok (.ldc2_w 324, 3) := by decide +kernel
theorem dX11_digest_64 : decode cX11_digest 64 = .ok (.lload_n 1, 1) := by decide +kernel
theorem dX11_digest_65 : decode cX11_digest 65 = .ok (.lmul, 1) := by decide +kernel
theorem dX11_digest_66 : decode cX11_digest 66 = .ok (.aload_n 0, 1) := by decide +kernel
theorem dX11_digest_67 : decode cX11_digest 67 = .ok (.iload_n 3, 1) := by decide +kernel
theorem dX11_digest_68 : decode cX11_digest 68 = .ok (.iload 4, 2) := by decide +kernel
theorem dX11_digest_70 : decode cX11_digest 70 = .ok (.iconst 0, 1) := by decide +kernel
theorem dX11_digest_71 : decode cX11_digest 71 = .ok (.invokevirtual 191, 3) := by decide +kernel
theorem dX11_digest_74 : decode cX11_digest 74 = .ok (.ladd, 1) := by decide +kernel
theorem dX11_digest_75 : decode cX11_digest 75 = .ok (.lstore_n 1, 1) := by decide +kernel
theorem dX11_digest_76 : decode cX11_digest 76 = .ok (.ldc2_w 324, 3) := by decide +kernel
theorem dX11_digest_79 : decode cX11_digest 79 = .ok (.lload_n 1, 1) := by decide +kernel
theorem dX11_digest_80 : decode cX11_digest 80 = .ok (.lmul, 1) := by decide +kernel
theorem dX11_digest_81 : decode cX11_digest 81 = .ok (.aload_n 0, 1) := by decide +kernel
theorem dX11_digest_82 : decode cX11_digest 82 = .ok (.iload_n 3, 1) := by decide +kernel
theorem dX11_digest_83 : decode cX11_digest 83 = .ok (.iload 4, 2) := by decide +kernel
theorem dX11_digest_85 : decode cX11_digest 85 = .ok (.iconst 1, 1) := by decide +kernel
theorem dX11_digest_86 : decode cX11_digest 86 = .ok (.invokevirtual 191, 3) := by decide +kernel
theorem dX11_digest_89 : decode cX11_digest 89 = .ok (.ladd, 1) := by decide +kernel
theorem dX11_digest_90 : decode cX11_digest 90 = .ok (.lstore_n 1, 1) := by decide +kernel
theorem dX11_digest_91 : decode cX11_digest 91 = .ok (.iinc 4 1, 3) := by decide +kernel
theorem dX11_digest_94 : decode cX11_digest 94 = .ok (.goto (-39), 3) := by decide +kernel
theorem dX11_digest_97 : decode cX11_digest 97 = .ok (.iinc 3 1, 3) := by decide +kernel
theorem dX11_digest_100 : decode cX11_digest 100 = .ok (.goto (-67), 3) := by decide +kernel
theorem dX11_digest_103 : decode cX11_digest 103 = .ok (.ldc2_w 324, 3) := by decide +kernel
theorem dX11_digest_106 : decode cX11_digest 106 = .ok (.lload_n 1, 1) := by decide +kernel
theorem dX11_digest_107 : decode cX11_digest 107 = .ok (.lmul, 1) := by decide +kernel
theorem dX11_digest_108 : decode cX11_digest 108 = .ok (.aload_n 0, 1) := by decide +kernel
theorem dX11_digest_109 : decode cX11_digest 109 = .ok (.iconst 0, 1) := by decide +kernel
theorem dX11_digest_110 : decode cX11_digest 110 = .ok (.bipush 9, 2) := by decide +kernel
theorem dX11_digest_112 : decode cX11_digest 112 = .ok (.invokevirtual 198, 3) := by decide +kernel
theorem dX11_digest_115 : decode cX11_digest 115 = .ok (.i2l, 1) := by decide +kernel
theorem dX11_digest_116 : decode cX11_digest 116 = .ok (.ladd, 1) := by decide +kernel
theorem dX11_digest_117 : decode cX11_digest 117 = .ok (.lstore_n 1, 1) := by decide +kernel
theorem dX11_digest_118 : decode cX11_digest 118 = .ok (.ldc2_w 324, 3) := by decide +kernel
theorem dX11_digest_121 : decode cX11_digest 121 = .ok (.lload_n 1, 1) := by decide +kernel
theorem dX11_digest_122 : decode cX11_digest 122 = .ok (.lmul, 1) := by decide +kernel
theorem dX11_digest_123 : decode cX11_digest 123 = .ok (.aload_n 0, 1) := by decide +kernel
theorem dX11_digest_124 : decode cX11_digest 124 = .ok (.invokevirtual 206, 3) := by decide +kernel
theorem dX11_digest_127 : decode cX11_digest 127 = .ok (.i2l, 1) := by decide +kernel
theorem dX11_digest_128 : decode cX11_digest 128 = .ok (.ladd, 1) := by decide +kernel
theorem dX11_digest_129 : decode cX11_digest 129 = .ok (.lstore_n 1, 1) := by decide +kernel
theorem dX11_digest_130 : decode cX11_digest 130 = .ok (.ldc2_w 324, 3) := by decide +kernel
theorem dX11_digest_133 : decode cX11_digest 133 = .ok (.lload_n 1, 1) := by decide +kernel
theorem dX11_digest_134 : decode cX11_digest 134 = .ok (.lmul, 1) := by decide +kernel
theorem dX11_digest_135 : decode cX11_digest 135 = .ok (.aload_n 0, 1) := by decide +kernel
theorem dX11_digest_136 : decode cX11_digest 136 = .ok (.iconst 0, 1) := by decide +kernel
theorem dX11_digest_137 : decode cX11_digest 137 = .ok (.invokevirtual 209, 3) := by decide +kernel
theorem dX11_digest_140 : decode cX11_digest 140 = .ok (.i2l, 1) := by decide +kernel
theorem dX11_digest_141 : decode cX11_digest 141 = .ok (.ladd, 1) := by decide +kernel
theorem dX11_digest_142 : decode cX11_digest 142 = .ok (.lstore_n 1, 1) := by decide +kernel
theorem dX11_digest_143 : decode cX11_digest 143 = .ok (.ldc2_w 324, 3) := by decide +kernel
theorem dX11_digest_146 : decode cX11_digest 146 = .ok (.lload_n 1, 1) := by decide +kernel
theorem dX11_digest_147 : decode cX11_digest 147 = .ok (.lmul, 1) := by decide +kernel
theorem dX11_digest_148 : decode cX11_digest 148 = .ok (.aload_n 0, 1) := by decide +kernel
theorem dX11_digest_149 : decode cX11_digest 149 = .ok (.iconst 1, 1) := by decide +kernel
theorem dX11_digest_150 : decode cX11_digest 150 = .ok (.invokevirtual 209, 3) := by decide +kernel
theorem dX11_digest_153 : decode cX11_digest 153 = .ok (.i2l, 1) := by decide +kernel
theorem dX11_digest_154 : decode cX11_digest 154 = .ok (.ladd, 1) := by decide +kernel
theorem dX11_digest_155 : decode cX11_digest 155 = .ok (.lstore_n 1, 1) := by decide +kernel
theorem dX11_digest_156 : decode cX11_digest 156 = .ok (.iconst (-1), 1) := by decide +kernel
theorem dX11_digest_157 : decode cX11_digest 157 = .ok (.istore_n 3, 1) := by decide +kernel
theorem dX11_digest_158 : decode cX11_digest 158 = .ok (.iload_n 3, 1) := by decide +kernel
theorem dX11_digest_159 : decode cX11_digest 159 = .ok (.bipush 8, 2) := by decide +kernel
theorem dX11_digest_161 : decode cX11_digest 161 = .ok (.if_icmp .ge 22, 3) := by decide +kernel
theorem dX11_digest_164 : decode cX11_digest 164 = .ok (.ldc2_w 324, 3) := by decide +kernel
theorem dX11_digest_167 : decode cX11_digest 167 = .ok (.lload_n 1, 1) := by decide +kernel
theorem dX11_digest_168 : decode cX11_digest 168 = .ok (.lmul, 1) := by decide +kernel
theorem dX11_digest_169 : decode cX11_digest 169 = .ok (.aload_n 0, 1) := by decide +kernel
theorem dX11_digest_170 : decode cX11_digest 170 = .ok (.iload_n 3, 1) := by decide +kernel
theorem dX11_digest_171 : decode cX11_digest 171 = .ok (.invokevirtual 231, 3) := by decide +kernel
theorem dX11_digest_174 : decode cX11_digest 174 = .ok (.i2l, 1) := by decide +kernel
theorem dX11_digest_175 : decode cX11_digest 175 = .ok (.ladd, 1) := by decide +kernel
theorem dX11_digest_176 : decode cX11_digest 176 = .ok (.lstore_n 1, 1) := by decide +kernel
theorem dX11_digest_177 : decode cX11_digest 177 = .ok (.iinc 3 1, 3) := by decide +kernel
theorem dX11_digest_180 : decode cX11_digest 180 = .ok (.goto (-22), 3) := by decide +kernel
theorem dX11_digest_183 : decode cX11_digest 183 = .ok (.ldc2_w 324, 3) := by decide +kernel
theorem dX11_digest_186 : decode cX11_digest 186 = .ok (.lload_n 1, 1) := by decide +kernel
theorem dX11_digest_187 : decode cX11_digest 187 = .ok (.lmul, 1) := by decide +kernel
theorem dX11_digest_188 : decode cX11_digest 188 = .ok (.aload_n 0, 1) := by decide +kernel
theorem dX11_digest_189 : decode cX11_digest 189 = .ok (.invokevirtual 279, 3) := by decide +kernel
theorem dX11_digest_192 : decode cX11_digest 192 = .ok (.i2l, 1) := by decide +kernel
theorem dX11_digest_193 : decode cX11_digest 193 = .ok (.ladd, 1) := by decide +kernel
theorem dX11_digest_194 : decode cX11_digest 194 = .ok (.lstore_n 1, 1) := by decide +kernel
theorem dX11_digest_195 : decode cX11_digest 195 = .ok (.ldc2_w 324, 3) := by decide +kernel
theorem dX11_digest_198 : decode cX11_digest 198 = .ok (.lload_n 1, 1) := by decide +kernel
theorem dX11_digest_199 : decode cX11_digest 199 = .ok (.lmul, 1) := by decide +kernel
theorem dX11_digest_200 : decode cX11_digest 200 = .ok (.aload_n 0, 1) := by decide +kernel
theorem dX11_digest_201 : decode cX11_digest 201 = .ok (.invokevirtual 282, 3) := by decide +kernel
theorem dX11_digest_204 : decode cX11_digest 204 = .ok (.i2l, 1) := by decide +kernel
theorem dX11_digest_205 : decode cX11_digest 205 = .ok (.ladd, 1) := by decide +kernel
theorem dX11_digest_206 : decode cX11_digest 206 = .ok (.lstore_n 1, 1) := by decide +kernel
theorem dX11_digest_207 : decode cX11_digest 207 = .ok (.iconst 0, 1) := by decide +kernel
theorem dX11_digest_208 : decode cX11_digest 208 = .ok (.istore_n 3, 1) := by decide +kernel
theorem dX11_digest_209 : decode cX11_digest 209 = .ok (.iload_n 3, 1) := by decide +kernel
theorem dX11_digest_210 : decode cX11_digest 210 = .ok (.aload_n 0, 1) := by decide +kernel
theorem dX11_digest_211 : decode cX11_digest 211 = .ok (.getfield 90, 3) := by decide +kernel
theorem dX11_digest_214 : decode cX11_digest 214 = .ok (.if_icmp .ge 63, 3) := by decide +kernel
theorem dX11_digest_217 : decode cX11_digest 217 = .ok (.ldc2_w 324, 3) := by decide +kernel
theorem dX11_digest_220 : decode cX11_digest 220 = .ok (.lload_n 1, 1) := by decide +kernel
theorem dX11_digest_221 : decode cX11_digest 221 = .ok (.lmul, 1) := by decide +kernel
theorem dX11_digest_222 : decode cX11_digest 222 = .ok (.aload_n 0, 1) := by decide +kernel
theorem dX11_digest_223 : decode cX11_digest 223 = .ok (.iload_n 3, 1) := by decide +kernel
theorem dX11_digest_224 : decode cX11_digest 224 = .ok (.iconst 0, 1) := by decide +kernel
theorem dX11_digest_225 : decode cX11_digest 225 = .ok (.invokevirtual 295, 3) := by decide +kernel
theorem dX11_digest_228 : decode cX11_digest 228 = .ok (.i2l, 1) := by decide +kernel
theorem dX11_digest_229 : decode cX11_digest 229 = .ok (.ladd, 1) := by decide +kernel
theorem dX11_digest_230 : decode cX11_digest 230 = .ok (.lstore_n 1, 1) := by decide +kernel
theorem dX11_digest_231 : decode cX11_digest 231 = .ok (.ldc2_w 324, 3) := by decide +kernel
theorem dX11_digest_234 : decode cX11_digest 234 = .ok (.lload_n 1, 1) := by decide +kernel
theorem dX11_digest_235 : decode cX11_digest 235 = .ok (.lmul, 1) := by decide +kernel
theorem dX11_digest_236 : decode cX11_digest 236 = .ok (.aload_n 0, 1) := by decide +kernel
theorem dX11_digest_237 : decode cX11_digest 237 = .ok (.iload_n 3, 1) := by decide +kernel
theorem dX11_digest_238 : decode cX11_digest 238 = .ok (.iconst 1, 1) := by decide +kernel
theorem dX11_digest_239 : decode cX11_digest 239 = .ok (.invokevirtual 295, 3) := by decide +kernel
theorem dX11_digest_242 : decode cX11_digest 242 = .ok (.i2l, 1) := by decide +kernel
theorem dX11_digest_243 : decode cX11_digest 243 = .ok (.ladd, 1) := by decide +kernel
theorem dX11_digest_244 : decode cX11_digest 244 = .ok (.lstore_n 1, 1) := by decide +kernel
theorem dX11_digest_245 : decode cX11_digest 245 = .ok (.ldc2_w 324, 3) := by decide +kernel
theorem dX11_digest_248 : decode cX11_digest 248 = .ok (.lload_n 1, 1) := by decide +kernel
theorem dX11_digest_249 : decode cX11_digest 249 = .ok (.lmul, 1) := by decide +kernel
theorem dX11_digest_250 : decode cX11_digest 250 = .ok (.aload_n 0, 1) := by decide +kernel
theorem dX11_digest_251 : decode cX11_digest 251 = .ok (.iload_n 3, 1) := by decide +kernel
theorem dX11_digest_252 : decode cX11_digest 252 = .ok (.invokevirtual 288, 3) := by decide +kernel
theorem dX11_digest_255 : decode cX11_digest 255 = .ok (.i2l, 1) := by decide +kernel
theorem dX11_digest_256 : decode cX11_digest 256 = .ok (.ladd, 1) := by decide +kernel
theorem dX11_digest_257 : decode cX11_digest 257 = .ok (.lstore_n 1, 1) := by decide +kernel
theorem dX11_digest_258 : decode cX11_digest 258 = .ok (.ldc2_w 324, 3) := by decide +kernel
theorem dX11_digest_261 : decode cX11_digest 261 = .ok (.lload_n 1, 1) := by decide +kernel
theorem dX11_digest_262 : decode cX11_digest 262 = .ok (.lmul, 1) := by decide +kernel
theorem dX11_digest_263 : decode cX11_digest 263 = .ok (.aload_n 0, 1) := by decide +kernel
theorem dX11_digest_264 : decode cX11_digest 264 = .ok (.iload_n 3, 1) := by decide +kernel
theorem dX11_digest_265 : decode cX11_digest 265 = .ok (.invokevirtual 246, 3) := by decide +kernel
theorem dX11_digest_268 : decode cX11_digest 268 = .ok (.i2l, 1) := by decide +kernel
theorem dX11_digest_269 : decode cX11_digest 269 = .ok (.ladd, 1) := by decide +kernel
theorem dX11_digest_270 : decode cX11_digest 270 = .ok (.lstore_n 1, 1) := by decide +kernel
theorem dX11_digest_271 : decode cX11_digest 271 = .ok (.iinc 3 1, 3) := by decide +kernel
theorem dX11_digest_274 : decode cX11_digest 274 = .ok (.goto (-65), 3) := by decide +kernel
theorem dX11_digest_277 : decode cX11_digest 277 = .ok (.iconst 0, 1) := by decide +kernel
theorem dX11_digest_278 : decode cX11_digest 278 = .ok (.istore_n 3, 1) := by decide +kernel
theorem dX11_digest_279 : decode cX11_digest 279 = .ok (.iload_n 3, 1) := by decide +kernel
theorem dX11_digest_280 : decode cX11_digest 280 = .ok (.aload_n 0, 1) := by decide +kernel
theorem dX11_digest_281 : decode cX11_digest 281 = .ok (.getfield 98, 3) := by decide +kernel
theorem dX11_digest_284 : decode cX11_digest 284 = .ok (.if_icmp .ge 53, 3) := by decide +kernel
theorem dX11_digest_287 : decode cX11_digest 287 = .ok (.iconst 0, 1) := by decide +kernel
theorem dX11_digest_288 : decode cX11_digest 288 = .ok (.istore 4, 2) := by decide +kernel
theorem dX11_digest_290 : decode cX11_digest 290 = .ok (.iload 4, 2) := by decide +kernel
theorem dX11_digest_292 : decode cX11_digest 292 = .ok (.aload_n 0, 1) := by decide +kernel
theorem dX11_digest_293 : decode cX11_digest 293 = .ok (.getfield 7, 3) := by decide +kernel
theorem dX11_digest_296 : decode cX11_digest 296 = .ok (.aload_n 0, 1) := by decide +kernel
theorem dX11_digest_297 : decode cX11_digest 297 = .ok (.getfield 16, 3) := by decide +kernel
theorem dX11_digest_300 : decode cX11_digest 300 = .ok (.iload_n 3, 1) := by decide +kernel
theorem dX11_digest_301 : decode cX11_digest 301 = .ok (.iaload, 1) := by decide +kernel
theorem dX11_digest_302 : decode cX11_digest 302 = .ok (.iaload, 1) := by decide +kernel
theorem dX11_digest_303 : decode cX11_digest 303 = .ok (.if_icmp .ge 28, 3) := by decide +kernel
theorem dX11_digest_306 : decode cX11_digest 306 = .ok (.ldc2_w 324, 3) := by decide +kernel
theorem dX11_digest_309 : decode cX11_digest 309 = .ok (.lload_n 1, 1) := by decide +kernel
theorem dX11_digest_310 : decode cX11_digest 310 = .ok (.lmul, 1) := by decide +kernel
theorem dX11_digest_311 : decode cX11_digest 311 = .ok (.aload_n 0, 1) := by decide +kernel
theorem dX11_digest_312 : decode cX11_digest 312 = .ok (.getfield 25, 3) := by decide +kernel
theorem dX11_digest_315 : decode cX11_digest 315 = .ok (.iconst 4, 1) := by decide +kernel
theorem dX11_digest_316 : decode cX11_digest 316 = .ok (.iload_n 3, 1) := by decide +kernel
theorem dX11_digest_317 : decode cX11_digest 317 = .ok (.imul, 1) := by decide +kernel
theorem dX11_digest_318 : decode cX11_digest 318 = .ok (.iload 4, 2) := by decide +kernel
theorem dX11_digest_320 : decode cX11_digest 320 = .ok (.iadd, 1) := by decide +kernel
theorem dX11_digest_321 : decode cX11_digest 321 = .ok (.iaload, 1) := by decide +kernel
theorem dX11_digest_322 : decode cX11_digest 322 = .ok (.i2l, 1) := by decide +kernel
theorem dX11_digest_323 : decode cX11_digest 323 = .ok (.ladd, 1) := by decide +kernel
theorem dX11_digest_324 : decode cX11_digest 324 = .ok (.lstore_n 1, 1) := by decide +kernel
theorem dX11_digest_325 : decode cX11_digest 325 = .ok (.iinc 4 1, 3) := by decide +kernel
theorem dX11_digest_328 : decode cX11_digest 328 = .ok (.goto (-38), 3) := by decide +kernel
theorem dX11_digest_331 : decode cX11_digest 331 = .ok (.iinc 3 1, 3) := by decide +kernel
theorem dX11_digest_334 : decode cX11_digest 334 = .ok (.goto (-55), 3) := by decide +kernel
theorem dX11_digest_337 : decode cX11_digest 337 = .ok (.iconst 0, 1) := by decide +kernel
theorem dX11_digest_338 : decode cX11_digest 338 = .ok (.istore_n 3, 1) := by decide +kernel
theorem dX11_digest_339 : decode cX11_digest 339 = .ok (.iload_n 3, 1) := by decide +kernel
theorem dX11_digest_340 : decode cX11_digest 340 = .ok (.bipush 10, 2) := by decide +kernel
theorem dX11_digest_342 : decode cX11_digest 342 = .ok (.if_icmp .ge 22, 3) := by decide +kernel
theorem dX11_digest_345 : decode cX11_digest 345 = .ok (.ldc2_w 324, 3) := by decide +kernel
theorem dX11_digest_348 : decode cX11_digest 348 = .ok (.lload_n 1, 1) := by decide +kernel
theorem dX11_digest_349 : decode cX11_digest 349 = .ok (.lmul, 1) := by decide +kernel
theorem dX11_digest_350 : decode cX11_digest 350 = .ok (.aload_n 0, 1) := by decide +kernel
theorem dX11_digest_351 : decode cX11_digest 351 = .ok (.iload_n 3, 1) := by decide +kernel
theorem dX11_digest_352 : decode cX11_digest 352 = .ok (.invokevirtual 298, 3) := by decide +kernel
theorem dX11_digest_355 : decode cX11_digest 355 = .ok (.i2l, 1) := by decide +kernel
theorem dX11_digest_356 : decode cX11_digest 356 = .ok (.ladd, 1) := by decide +kernel
theorem dX11_digest_357 : decode cX11_digest 357 = .ok (.lstore_n 1, 1) := by decide +kernel
theorem dX11_digest_358 : decode cX11_digest 358 = .ok (.iinc 3 1, 3) := by decide +kernel
theorem dX11_digest_361 : decode cX11_digest 361 = .ok (.goto (-22), 3) := by decide +kernel
theorem dX11_digest_364 : decode cX11_digest 364 = .ok (.lload_n 1, 1) := by decide +kernel
theorem dX11_digest_365 : decode cX11_digest 365 = .ok (.lreturn, 1) := by decide +kernel
def fX11_digest_L6  (a : Int64 × Int32) (s : Sg) : Option (((Int64 × Int32) ⊕ (Int64)) × Sg) :=
  if (8 : Int32) ≤ a.2 then
  some (.inr a.1, s)
  else
  (fX11_count a.2 s).bind fun w2 =>
  bnd (((31 : Int64) * a.1) + ((w2.1).toInt64)) fun x3 =>
  bnd (a.2 + (1 : Int32)) fun x4 =>
  some (.inl (x3, x4), w2.2)
def fX11_digest_L55 (p3 : Int32) (a : Int64 × Int32) (s : Sg) : Option (((Int64 × Int32) ⊕ (Int64)) × Sg) :=
  if (3 : Int32) ≤ a.2 then
  some (.inr a.1, s)
  else
  (fX11_laneNow p3 a.2 (0 : Int32) s).bind fun w2 =>
  bnd (((31 : Int64) * a.1) + w2.1) fun x3 =>
  (fX11_laneNow p3 a.2 (1 : Int32) w2.2).bind fun w4 =>
  bnd (((31 : Int64) * x3) + w4.1) fun x5 =>
  bnd (a.2 + (1 : Int32)) fun x6 =>
  some (.inl (x5, x6), w4.2)
def fX11_digest_L33  (a : Int64 × Int32) (s : Sg) : Option (((Int64 × Int32) ⊕ (Int64)) × Sg) :=
  if (8 : Int32) ≤ a.2 then
  some (.inr a.1, s)
  else
  (fX11_countsNow a.2 s).bind fun w2 =>
  bnd (((31 : Int64) * a.1) + ((w2.1).toInt64)) fun x3 =>
  (lpG (fX11_digest_L55 a.2) FU (x3, (0 : Int32)) w2.2).bind fun w4 =>
  bnd (a.2 + (1 : Int32)) fun x5 =>
  some (.inl (w4.1, x5), w4.2)
def fX11_digest_L158  (a : Int64 × Int32) (s : Sg) : Option (((Int64 × Int32) ⊕ (Int64)) × Sg) :=
  if (8 : Int32) ≤ a.2 then
  some (.inr a.1, s)
  else
  (fX11_orderNow a.2 s).bind fun w2 =>
  bnd (((31 : Int64) * a.1) + ((w2.1).toInt64)) fun x3 =>
  bnd (a.2 + (1 : Int32)) fun x4 =>
  some (.inl (x3, x4), w2.2)
def fX11_digest_L209  (a : Int64 × Int32) (s : Sg) : Option (((Int64 × Int32) ⊕ (Int64)) × Sg) :=
  if (gI s 49 0) ≤ a.2 then
  some (.inr a.1, s)
  else
  (fX11_tenthsNow a.2 (0 : Int32) s).bind fun w2 =>
  bnd (((31 : Int64) * a.1) + ((w2.1).toInt64)) fun x3 =>
  (fX11_tenthsNow a.2 (1 : Int32) w2.2).bind fun w4 =>
  bnd (((31 : Int64) * x3) + ((w4.1).toInt64)) fun x5 =>
  (fX11_givenNow a.2 w4.2).bind fun w6 =>
  bnd (((31 : Int64) * x5) + ((w6.1).toInt64)) fun x7 =>
  (fX11_medalsNow a.2 w6.2).bind fun w8 =>
  bnd (((31 : Int64) * x7) + ((w8.1).toInt64)) fun x9 =>
  bnd (a.2 + (1 : Int32)) fun x10 =>
  some (.inl (x9, x10), w8.2)
def fX11_digest_L290 (p3 : Int32) (a : Int64 × Int32) (s : Sg) : Option (((Int64 × Int32) ⊕ (Int64)) × Sg) :=
  (aI s 52 64 p3).bind fun v1 =>
  (aI s 50 16 v1).bind fun v2 =>
  if v2 ≤ a.2 then
  some (.inr a.1, s)
  else
  (aI s 55 256 (((4 : Int32) * p3) + a.2)).bind fun v4 =>
  bnd (((31 : Int64) * a.1) + ((v4).toInt64)) fun x5 =>
  bnd (a.2 + (1 : Int32)) fun x6 =>
  some (.inl (x5, x6), s)
def fX11_digest_L279  (a : Int64 × Int32) (s : Sg) : Option (((Int64 × Int32) ⊕ (Int64)) × Sg) :=
  if (gI s 49 3) ≤ a.2 then
  some (.inr a.1, s)
  else
  (lpG (fX11_digest_L290 a.2) FU (a.1, (0 : Int32)) s).bind fun w2 =>
  bnd (a.2 + (1 : Int32)) fun x3 =>
  some (.inl (w2.1, x3), w2.2)
def fX11_digest_L339  (a : Int64 × Int32) (s : Sg) : Option (((Int64 × Int32) ⊕ (Int64)) × Sg) :=
  if (10 : Int32) ≤ a.2 then
  some (.inr a.1, s)
  else
  (fX11_worldNow a.2 s).bind fun w2 =>
  bnd (((31 : Int64) * a.1) + ((w2.1).toInt64)) fun x3 =>
  bnd (a.2 + (1 : Int32)) fun x4 =>
  some (.inl (x3, x4), w2.2)
def fX11_digest  (s : Sg) : Option (Int64 × Sg) :=
  (lpG (fX11_digest_L6) FU ((17 : Int64), (0 : Int32)) s).bind fun w1 =>
  (lpG (fX11_digest_L33) FU (w1.1, (0 : Int32)) w1.2).bind fun w2 =>
  (fX11_leanNow (0 : Int32) (9 : Int32) w2.2).bind fun w3 =>
  bnd (((31 : Int64) * w2.1) + ((w3.1).toInt64)) fun x4 =>
  (fX11_chanceNow w3.2).bind fun w5 =>
  bnd (((31 : Int64) * x4) + ((w5.1).toInt64)) fun x6 =>
  (fX11_ranNow (0 : Int32) w5.2).bind fun w7 =>
  bnd (((31 : Int64) * x6) + ((w7.1).toInt64)) fun x8 =>
  (fX11_ranNow (1 : Int32) w7.2).bind fun w9 =>
  bnd (((31 : Int64) * x8) + ((w9.1).toInt64)) fun x10 =>
  (lpG (fX11_digest_L158) FU (x10, (-1 : Int32)) w9.2).bind fun w11 =>
  (fX11_ruleFault w11.2).bind fun w12 =>
  bnd (((31 : Int64) * w11.1) + ((w12.1).toInt64)) fun x13 =>
  (fX11_worldFault w12.2).bind fun w14 =>
  bnd (((31 : Int64) * x13) + ((w14.1).toInt64)) fun x15 =>
  (lpG (fX11_digest_L209) FU (x15, (0 : Int32)) w14.2).bind fun w16 =>
  (lpG (fX11_digest_L279) FU (w16.1, (0 : Int32)) w16.2).bind fun w17 =>
  (lpG (fX11_digest_L339) FU (w17.1, (0 : Int32)) w17.2).bind fun w18 =>
  some (w18.1, w18.2)
theorem ct_X11_digest {g : Gl}  {s : Sg} {w : Int64 × Sg}  (h : fX11_digest s = some w) : Ct SS g iX11_digest 7 177 [.ref (gad g 49)] s (Dt (some (.long w.1)) w.2) := by
  refine Ct.ofV (by decide +kernel) 4 (lv0 := [some (.ref (gad g 49)), none, none, none, none]) rfl rfl (fun M hC => ?_)
  have hP : (Dt (some (.long w.1)) w.2) (some (.long w.1)) w.2 := ⟨rfl, rfl⟩
  generalize Dt (some (.long w.1)) w.2 = P at hP ⊢
  unfold fX11_digest at h
  refine v_ldc2 (pc := 0) (17 : Int64) kc_X11_322 hC dX11_digest_0 ?_
  refine v_lstore_n (pc := 3) (lv' := [some (.ref (gad g 49)), some (.long (17 : Int64)), none, none, none]) hC dX11_digest_3 rfl rfl rfl rfl ?_
  refine v_iconst (pc := 4) (0 : Int32) rfl hC dX11_digest_4 ?_
  refine v_istore_n (pc := 5) (lv' := [some (.ref (gad g 49)), some (.long (17 : Int64)), none, some (.int (0 : Int32)), none]) hC dX11_digest_5 rfl rfl rfl rfl ?_
  obtain ⟨w1, hw1, h⟩ := obd_s h
  have kx116 : V SS g M iX11_digest (PQ SS g M P) 31 [some (.ref (gad g 49)), some (.long w1.1), none, none, none] [] w1.2 := by
    refine v_iconst (pc := 31) (0 : Int32) rfl hC dX11_digest_31 ?_
    refine v_istore_n (pc := 32) (lv' := [some (.ref (gad g 49)), some (.long w1.1), none, some (.int (0 : Int32)), none]) hC dX11_digest_32 rfl rfl rfl rfl ?_
    obtain ⟨w2, hw2, h⟩ := obd_s h
    have kx105 : V SS g M iX11_digest (PQ SS g M P) 103 [some (.ref (gad g 49)), some (.long w2.1), none, none, none] [] w2.2 := by
      refine v_ldc2 (pc := 103) (31 : Int64) kc_X11_324 hC dX11_digest_103 ?_
      refine v_lload_n (pc := 106) hC dX11_digest_106 rfl ?_
      refine v_lmul (pc := 107) hC dX11_digest_107 ?_
      refine v_aload_n (pc := 108) hC dX11_digest_108 rfl ?_
      refine v_iconst (pc := 109) (0 : Int32) rfl hC dX11_digest_109 ?_
      refine v_bipush (pc := 110) (9 : Int32) rfl hC dX11_digest_110 ?_
      obtain ⟨w3, hw3, h⟩ := obd_s h
      refine v_cV (pc := 112) [.long ((31 : Int64) * w2.1)] [.int w3.1, .long ((31 : Int64) * w2.1)] gm_X11_leanNow hC s_49 rfl rfl (ct_X11_leanNow  hw3) ml_X11_198 rfl rfl rfl rfl rfl rfl dX11_digest_112 ?_
      refine v_i2l (pc := 115) hC dX11_digest_115 ?_
      refine v_ladd (pc := 116) hC dX11_digest_116 ?_
      obtain ⟨x4, hx4, h⟩ := bnd_s h
      refine v_lstore_n (pc := 117) (lv' := [some (.ref (gad g 49)), some (.long x4), none, none, none]) hC dX11_digest_117 hx4 rfl rfl rfl ?_
      refine v_ldc2 (pc := 118) (31 : Int64) kc_X11_324 hC dX11_digest_118 ?_
      refine v_lload_n (pc := 121) hC dX11_digest_121 rfl ?_
      refine v_lmul (pc := 122) hC dX11_digest_122 ?_
      refine v_aload_n (pc := 123) hC dX11_digest_123 rfl ?_
      obtain ⟨w5, hw5, h⟩ := obd_s h
      refine v_cV (pc := 124) [.long ((31 : Int64) * x4)] [.int w5.1, .long ((31 : Int64) * x4)] gm_X11_chanceNow hC s_49 rfl rfl (ct_X11_chanceNow  hw5) ml_X11_206 rfl rfl rfl rfl rfl rfl dX11_digest_124 ?_
      refine v_i2l (pc := 127) hC dX11_digest_127 ?_
      refine v_ladd (pc := 128) hC dX11_digest_128 ?_
      obtain ⟨x6, hx6, h⟩ := bnd_s h
      refine v_lstore_n (pc := 129) (lv' := [some (.ref (gad g 49)), some (.long x6), none, none, none]) hC dX11_digest_129 hx6 rfl rfl rfl ?_
      refine v_ldc2 (pc := 130) (31 : Int64) kc_X11_324 hC dX11_digest_130 ?_
      refine v_lload_n (pc := 133) hC dX11_digest_133 rfl ?_
      refine v_lmul (pc := 134) hC dX11_digest_134 ?_
      refine v_aload_n (pc := 135) hC dX11_digest_135 rfl ?_
      refine v_iconst (pc := 136) (0 : Int32) rfl hC dX11_digest_136 ?_
      obtain ⟨w7, hw7, h⟩ := obd_s h
      refine v_cV (pc := 137) [.long ((31 : Int64) * x6)] [.int w7.1, .long ((31 : Int64) * x6)] gm_X11_ranNow hC s_49 rfl rfl (ct_X11_ranNow  hw7) ml_X11_209 rfl rfl rfl rfl rfl rfl dX11_digest_137 ?_
      refine v_i2l (pc := 140) hC dX11_digest_140 ?_
      refine v_ladd (pc := 141) hC dX11_digest_141 ?_
      obtain ⟨x8, hx8, h⟩ := bnd_s h
      refine v_lstore_n (pc := 142) (lv' := [some (.ref (gad g 49)), some (.long x8), none, none, none]) hC dX11_digest_142 hx8 rfl rfl rfl ?_
      refine v_ldc2 (pc := 143) (31 : Int64) kc_X11_324 hC dX11_digest_143 ?_
      refine v_lload_n (pc := 146) hC dX11_digest_146 rfl ?_
      refine v_lmul (pc := 147) hC dX11_digest_147 ?_
      refine v_aload_n (pc := 148) hC dX11_digest_148 rfl ?_
      refine v_iconst (pc := 149) (1 : Int32) rfl hC dX11_digest_149 ?_
      obtain ⟨w9, hw9, h⟩ := obd_s h
      refine v_cV (pc := 150) [.long ((31 : Int64) * x8)] [.int w9.1, .long ((31 : Int64) * x8)] gm_X11_ranNow hC s_49 rfl rfl (ct_X11_ranNow  hw9) ml_X11_209 rfl rfl rfl rfl rfl rfl dX11_digest_150 ?_
      refine v_i2l (pc := 153) hC dX11_digest_153 ?_
      refine v_ladd (pc := 154) hC dX11_digest_154 ?_
      obtain ⟨x10, hx10, h⟩ := bnd_s h
      refine v_lstore_n (pc := 155) (lv' := [some (.ref (gad g 49)), some (.long x10), none, none, none]) hC dX11_digest_155 hx10 rfl rfl rfl ?_
      refine v_iconst (pc := 156) (-1 : Int32) rfl hC dX11_digest_156 ?_
      refine v_istore_n (pc := 157) (lv' := [some (.ref (gad g 49)), some (.long x10), none, some (.int (-1 : Int32)), none]) hC dX11_digest_157 rfl rfl rfl rfl ?_
      obtain ⟨w11, hw11, h⟩ := obd_s h
      have kx80 : V SS g M iX11_digest (PQ SS g M P) 183 [some (.ref (gad g 49)), some (.long w11.1), none, none, none] [] w11.2 := by
        refine v_ldc2 (pc := 183) (31 : Int64) kc_X11_324 hC dX11_digest_183 ?_
        refine v_lload_n (pc := 186) hC dX11_digest_186 rfl ?_
        refine v_lmul (pc := 187) hC dX11_digest_187 ?_
        refine v_aload_n (pc := 188) hC dX11_digest_188 rfl ?_
        obtain ⟨w12, hw12, h⟩ := obd_s h
        refine v_cV (pc := 189) [.long ((31 : Int64) * w11.1)] [.int w12.1, .long ((31 : Int64) * w11.1)] gm_X11_ruleFault hC s_49 rfl rfl (ct_X11_ruleFault  hw12) ml_X11_279 rfl rfl rfl rfl rfl rfl dX11_digest_189 ?_
        refine v_i2l (pc := 192) hC dX11_digest_192 ?_
        refine v_ladd (pc := 193) hC dX11_digest_193 ?_
        obtain ⟨x13, hx13, h⟩ := bnd_s h
        refine v_lstore_n (pc := 194) (lv' := [some (.ref (gad g 49)), some (.long x13), none, none, none]) hC dX11_digest_194 hx13 rfl rfl rfl ?_
        refine v_ldc2 (pc := 195) (31 : Int64) kc_X11_324 hC dX11_digest_195 ?_
        refine v_lload_n (pc := 198) hC dX11_digest_198 rfl ?_
        refine v_lmul (pc := 199) hC dX11_digest_199 ?_
        refine v_aload_n (pc := 200) hC dX11_digest_200 rfl ?_
        obtain ⟨w14, hw14, h⟩ := obd_s h
        refine v_cV (pc := 201) [.long ((31 : Int64) * x13)] [.int w14.1, .long ((31 : Int64) * x13)] gm_X11_worldFault hC s_49 rfl rfl (ct_X11_worldFault  hw14) ml_X11_282 rfl rfl rfl rfl rfl rfl dX11_digest_201 ?_
        refine v_i2l (pc := 204) hC dX11_digest_204 ?_
        refine v_ladd (pc := 205) hC dX11_digest_205 ?_
        obtain ⟨x15, hx15, h⟩ := bnd_s h
        refine v_lstore_n (pc := 206) (lv' := [some (.ref (gad g 49)), some (.long x15), none, none, none]) hC dX11_digest_206 hx15 rfl rfl rfl ?_
        refine v_iconst (pc := 207) (0 : Int32) rfl hC dX11_digest_207 ?_
        refine v_istore_n (pc := 208) (lv' := [some (.ref (gad g 49)), some (.long x15), none, some (.int (0 : Int32)), none]) hC dX11_digest_208 rfl rfl rfl rfl ?_
        obtain ⟨w16, hw16, h⟩ := obd_s h
        have kx69 : V SS g M iX11_digest (PQ SS g M P) 277 [some (.ref (gad g 49)), some (.long w16.1), none, none, none] [] w16.2 := by
          refine v_iconst (pc := 277) (0 : Int32) rfl hC dX11_digest_277 ?_
          refine v_istore_n (pc := 278) (lv' := [some (.ref (gad g 49)), some (.long w16.1), none, some (.int (0 : Int32)), none]) hC dX11_digest_278 rfl rfl rfl rfl ?_
          obtain ⟨w17, hw17, h⟩ := obd_s h
          have kx52 : V SS g M iX11_digest (PQ SS g M P) 337 [some (.ref (gad g 49)), some (.long w17.1), none, none, none] [] w17.2 := by
            refine v_iconst (pc := 337) (0 : Int32) rfl hC dX11_digest_337 ?_
            refine v_istore_n (pc := 338) (lv' := [some (.ref (gad g 49)), some (.long w17.1), none, some (.int (0 : Int32)), none]) hC dX11_digest_338 rfl rfl rfl rfl ?_
            obtain ⟨w18, hw18, h⟩ := obd_s h
            have kx29 : V SS g M iX11_digest (PQ SS g M P) 364 [none, some (.long w18.1), none, none, none] [] w18.2 := by
              refine v_lload_n (pc := 364) hC dX11_digest_364 rfl ?_
              obtain rfl := Option.some.inj h
              exact v_lret (pc := 365) hC rfl dX11_digest_365 hP
            refine V.ls (ls_some (ls_some (ls_none (ls_some (ls_none ls_nil))))) (v_loop (pc := 339) (fun a21 => [some (.ref (gad g 49)), some (.long a21.1), none, some (.int a21.2), none]) (fun z t => V SS g M iX11_digest (PQ SS g M P) 364 [none, some (.long z), none, none, none] [] t) (fun a21 s19 u20 hu20 k22 k23 => ?_) _ _ _ _ hw18 kx29)
            unfold fX11_digest_L339 at hu20
            refine v_iload_n (pc := 339) hC dX11_digest_339 rfl ?_
            refine v_bipush (pc := 340) (10 : Int32) rfl hC dX11_digest_340 ?_
            refine v_ic_ge (pc := 342) (tgt := 364) hC dX11_digest_342 rfl (fun c25 => ?_) (fun c25 => ?_)
            · replace hu20 := (if_pos c25).symm.trans hu20
              obtain rfl := Option.some.inj hu20
              exact V.ls (ls_none (ls_some (ls_none (ls_none (ls_none ls_nil))))) (k23 _ rfl)
            · replace hu20 := (if_neg c25).symm.trans hu20
              refine v_ldc2 (pc := 345) (31 : Int64) kc_X11_324 hC dX11_digest_345 ?_
              refine v_lload_n (pc := 348) hC dX11_digest_348 rfl ?_
              refine v_lmul (pc := 349) hC dX11_digest_349 ?_
              refine v_aload_n (pc := 350) hC dX11_digest_350 rfl ?_
              refine v_iload_n (pc := 351) hC dX11_digest_351 rfl ?_
              obtain ⟨w26, hw26, hu20⟩ := obd_s hu20
              refine v_cV (pc := 352) [.long ((31 : Int64) * a21.1)] [.int w26.1, .long ((31 : Int64) * a21.1)] gm_X11_worldNow hC s_49 rfl rfl (ct_X11_worldNow  hw26) ml_X11_298 rfl rfl rfl rfl rfl rfl dX11_digest_352 ?_
              refine v_i2l (pc := 355) hC dX11_digest_355 ?_
              refine v_ladd (pc := 356) hC dX11_digest_356 ?_
              obtain ⟨x27, hx27, hu20⟩ := bnd_s hu20
              refine v_lstore_n (pc := 357) (lv' := [some (.ref (gad g 49)), some (.long x27), none, some (.int a21.2), none]) hC dX11_digest_357 hx27 rfl rfl rfl ?_
              obtain ⟨x28, hx28, hu20⟩ := bnd_s hu20
              refine v_iinc (pc := 358) (lv' := [some (.ref (gad g 49)), some (.long x27), none, some (.int x28), none]) (1 : Int32) rfl hx28 hC dX11_digest_358 rfl rfl rfl rfl ?_
              refine v_goto (pc := 361) (tgt := 339) hC dX11_digest_361 rfl ?_
              obtain rfl := Option.some.inj hu20
              exact V.ls (ls_some (ls_some (ls_none (ls_some (ls_none ls_nil))))) (k22 _ rfl)
          refine V.ls (ls_some (ls_some (ls_none (ls_some (ls_none ls_nil))))) (v_loop (pc := 279) (fun a32 => [some (.ref (gad g 49)), some (.long a32.1), none, some (.int a32.2), none]) (fun z t => V SS g M iX11_digest (PQ SS g M P) 337 [some (.ref (gad g 49)), some (.long z), none, none, none] [] t) (fun a32 s30 u31 hu31 k33 k34 => ?_) _ _ _ _ hw17 kx52)
          unfold fX11_digest_L279 at hu31
          refine v_iload_n (pc := 279) hC dX11_digest_279 rfl ?_
          refine v_aload_n (pc := 280) hC dX11_digest_280 rfl ?_
          refine v_gt (pc := 281) 3 (.int (gI s30 49 3)) hC s_49 rfl rfl rfl rfl fl_X11_98 dX11_digest_281 ?_
          refine v_ic_ge (pc := 284) (tgt := 337) hC dX11_digest_284 rfl (fun c36 => ?_) (fun c36 => ?_)
          · replace hu31 := (if_pos c36).symm.trans hu31
            obtain rfl := Option.some.inj hu31
            exact V.ls (ls_some (ls_some (ls_none (ls_none (ls_none ls_nil))))) (k34 _ rfl)
          · replace hu31 := (if_neg c36).symm.trans hu31
            refine v_iconst (pc := 287) (0 : Int32) rfl hC dX11_digest_287 ?_
            refine v_istore (pc := 288) (lv' := [some (.ref (gad g 49)), some (.long a32.1), none, some (.int a32.2), some (.int (0 : Int32))]) hC dX11_digest_288 rfl rfl rfl rfl ?_
            obtain ⟨w37, hw37, hu31⟩ := obd_s hu31
            have kx51 : V SS g M iX11_digest (PQ SS g M P) 331 [some (.ref (gad g 49)), some (.long w37.1), none, some (.int a32.2), none] [] w37.2 := by
              obtain ⟨x38, hx38, hu31⟩ := bnd_s hu31
              refine v_iinc (pc := 331) (lv' := [some (.ref (gad g 49)), some (.long w37.1), none, some (.int x38), none]) (1 : Int32) rfl hx38 hC dX11_digest_331 rfl rfl rfl rfl ?_
              refine v_goto (pc := 334) (tgt := 279) hC dX11_digest_334 rfl ?_
              obtain rfl := Option.some.inj hu31
              exact V.ls (ls_some (ls_some (ls_none (ls_some (ls_none ls_nil))))) (k33 _ rfl)
            refine V.ls (ls_some (ls_some (ls_none (ls_some (ls_some ls_nil))))) (v_loop (pc := 290) (fun a41 => [some (.ref (gad g 49)), some (.long a41.1), none, some (.int a32.2), some (.int a41.2)]) (fun z t => V SS g M iX11_digest (PQ SS g M P) 331 [some (.ref (gad g 49)), some (.long z), none, some (.int a32.2), none] [] t) (fun a41 s39 u40 hu40 k42 k43 => ?_) _ _ _ _ hw37 kx51)
            unfold fX11_digest_L290 at hu40
            refine v_iload (pc := 290) hC dX11_digest_290 rfl ?_
            refine v_aload_n (pc := 292) hC dX11_digest_292 rfl ?_
            refine v_gt (pc := 293) 1 (.ref (gad g 50)) hC s_49 rfl rfl rfl rfl fl_X11_7 dX11_digest_293 ?_
            refine v_aload_n (pc := 296) hC dX11_digest_296 rfl ?_
            refine v_gt (pc := 297) 4 (.ref (gad g 52)) hC s_49 rfl rfl rfl rfl fl_X11_16 dX11_digest_297 ?_
            refine v_iload_n (pc := 300) hC dX11_digest_300 rfl ?_
            obtain ⟨v45, hv45, hu40⟩ := obd_s hu40
            refine v_aI (pc := 301) hC s_52 hv45 dX11_digest_301 ?_
            obtain ⟨v46, hv46, hu40⟩ := obd_s hu40
            refine v_aI (pc := 302) hC s_50 hv46 dX11_digest_302 ?_
            refine v_ic_ge (pc := 303) (tgt := 331) hC dX11_digest_303 rfl (fun c47 => ?_) (fun c47 => ?_)
            · replace hu40 := (if_pos c47).symm.trans hu40
              obtain rfl := Option.some.inj hu40
              exact V.ls (ls_some (ls_some (ls_none (ls_some (ls_none ls_nil))))) (k43 _ rfl)
            · replace hu40 := (if_neg c47).symm.trans hu40
              refine v_ldc2 (pc := 306) (31 : Int64) kc_X11_324 hC dX11_digest_306 ?_
              refine v_lload_n (pc := 309) hC dX11_digest_309 rfl ?_
              refine v_lmul (pc := 310) hC dX11_digest_310 ?_
              refine v_aload_n (pc := 311) hC dX11_digest_311 rfl ?_
              refine v_gt (pc := 312) 7 (.ref (gad g 55)) hC s_49 rfl rfl rfl rfl fl_X11_25 dX11_digest_312 ?_
              refine v_iconst (pc := 315) (4 : Int32) rfl hC dX11_digest_315 ?_
              refine v_iload_n (pc := 316) hC dX11_digest_316 rfl ?_
              refine v_imul (pc := 317) hC dX11_digest_317 ?_
              refine v_iload (pc := 318) hC dX11_digest_318 rfl ?_
              refine v_iadd (pc := 320) hC dX11_digest_320 ?_
              obtain ⟨v48, hv48, hu40⟩ := obd_s hu40
              refine v_aI (pc := 321) hC s_55 hv48 dX11_digest_321 ?_
              refine v_i2l (pc := 322) hC dX11_digest_322 ?_
              refine v_ladd (pc := 323) hC dX11_digest_323 ?_
              obtain ⟨x49, hx49, hu40⟩ := bnd_s hu40
              refine v_lstore_n (pc := 324) (lv' := [some (.ref (gad g 49)), some (.long x49), none, some (.int a32.2), some (.int a41.2)]) hC dX11_digest_324 hx49 rfl rfl rfl ?_
              obtain ⟨x50, hx50, hu40⟩ := bnd_s hu40
              refine v_iinc (pc := 325) (lv' := [some (.ref (gad g 49)), some (.long x49), none, some (.int a32.2), some (.int x50)]) (1 : Int32) rfl hx50 hC dX11_digest_325 rfl rfl rfl rfl ?_
              refine v_goto (pc := 328) (tgt := 290) hC dX11_digest_328 rfl ?_
              obtain rfl := Option.some.inj hu40
              exact V.ls (ls_some (ls_some (ls_none (ls_some (ls_some ls_nil))))) (k42 _ rfl)
        refine V.ls (ls_some (ls_some (ls_none (ls_some (ls_none ls_nil))))) (v_loop (pc := 209) (fun a55 => [some (.ref (gad g 49)), some (.long a55.1), none, some (.int a55.2), none]) (fun z t => V SS g M iX11_digest (PQ SS g M P) 277 [some (.ref (gad g 49)), some (.long z), none, none, none] [] t) (fun a55 s53 u54 hu54 k56 k57 => ?_) _ _ _ _ hw16 kx69)
        unfold fX11_digest_L209 at hu54
        refine v_iload_n (pc := 209) hC dX11_digest_209 rfl ?_
        refine v_aload_n (pc := 210) hC dX11_digest_210 rfl ?_
        refine v_gt (pc := 211) 0 (.int (gI s53 49 0)) hC s_49 rfl rfl rfl rfl fl_X11_90 dX11_digest_211 ?_
        refine v_ic_ge (pc := 214) (tgt := 277) hC dX11_digest_214 rfl (fun c59 => ?_) (fun c59 => ?_)
        · replace hu54 := (if_pos c59).symm.trans hu54
          obtain rfl := Option.some.inj hu54
          exact V.ls (ls_some (ls_some (ls_none (ls_none (ls_none ls_nil))))) (k57 _ rfl)
        · replace hu54 := (if_neg c59).symm.trans hu54
          refine v_ldc2 (pc := 217) (31 : Int64) kc_X11_324 hC dX11_digest_217 ?_
          refine v_lload_n (pc := 220) hC dX11_digest_220 rfl ?_
          refine v_lmul (pc := 221) hC dX11_digest_221 ?_
          refine v_aload_n (pc := 222) hC dX11_digest_222 rfl ?_
          refine v_iload_n (pc := 223) hC dX11_digest_223 rfl ?_
          refine v_iconst (pc := 224) (0 : Int32) rfl hC dX11_digest_224 ?_
          obtain ⟨w60, hw60, hu54⟩ := obd_s hu54
          refine v_cV (pc := 225) [.long ((31 : Int64) * a55.1)] [.int w60.1, .long ((31 : Int64) * a55.1)] gm_X11_tenthsNow hC s_49 rfl rfl (ct_X11_tenthsNow  hw60) ml_X11_295 rfl rfl rfl rfl rfl rfl dX11_digest_225 ?_
          refine v_i2l (pc := 228) hC dX11_digest_228 ?_
          refine v_ladd (pc := 229) hC dX11_digest_229 ?_
          obtain ⟨x61, hx61, hu54⟩ := bnd_s hu54
          refine v_lstore_n (pc := 230) (lv' := [some (.ref (gad g 49)), some (.long x61), none, some (.int a55.2), none]) hC dX11_digest_230 hx61 rfl rfl rfl ?_
          refine v_ldc2 (pc := 231) (31 : Int64) kc_X11_324 hC dX11_digest_231 ?_
          refine v_lload_n (pc := 234) hC dX11_digest_234 rfl ?_
          refine v_lmul (pc := 235) hC dX11_digest_235 ?_
          refine v_aload_n (pc := 236) hC dX11_digest_236 rfl ?_
          refine v_iload_n (pc := 237) hC dX11_digest_237 rfl ?_
          refine v_iconst (pc := 238) (1 : Int32) rfl hC dX11_digest_238 ?_
          obtain ⟨w62, hw62, hu54⟩ := obd_s hu54
          refine v_cV (pc := 239) [.long ((31 : Int64) * x61)] [.int w62.1, .long ((31 : Int64) * x61)] gm_X11_tenthsNow hC s_49 rfl rfl (ct_X11_tenthsNow  hw62) ml_X11_295 rfl rfl rfl rfl rfl rfl dX11_digest_239 ?_
          refine v_i2l (pc := 242) hC dX11_digest_242 ?_
          refine v_ladd (pc := 243) hC dX11_digest_243 ?_
          obtain ⟨x63, hx63, hu54⟩ := bnd_s hu54
          refine v_lstore_n (pc := 244) (lv' := [some (.ref (gad g 49)), some (.long x63), none, some (.int a55.2), none]) hC dX11_digest_244 hx63 rfl rfl rfl ?_
          refine v_ldc2 (pc := 245) (31 : Int64) kc_X11_324 hC dX11_digest_245 ?_
          refine v_lload_n (pc := 248) hC dX11_digest_248 rfl ?_
          refine v_lmul (pc := 249) hC dX11_digest_249 ?_
          refine v_aload_n (pc := 250) hC dX11_digest_250 rfl ?_
          refine v_iload_n (pc := 251) hC dX11_digest_251 rfl ?_
          obtain ⟨w64, hw64, hu54⟩ := obd_s hu54
          refine v_cV (pc := 252) [.long ((31 : Int64) * x63)] [.int w64.1, .long ((31 : Int64) * x63)] gm_X11_givenNow hC s_49 rfl rfl (ct_X11_givenNow  hw64) ml_X11_288 rfl rfl rfl rfl rfl rfl dX11_digest_252 ?_
          refine v_i2l (pc := 255) hC dX11_digest_255 ?_
          refine v_ladd (pc := 256) hC dX11_digest_256 ?_
          obtain ⟨x65, hx65, hu54⟩ := bnd_s hu54
          refine v_lstore_n (pc := 257) (lv' := [some (.ref (gad g 49)), some (.long x65), none, some (.int a55.2), none]) hC dX11_digest_257 hx65 rfl rfl rfl ?_
          refine v_ldc2 (pc := 258) (31 : Int64) kc_X11_324 hC dX11_digest_258 ?_
          refine v_lload_n (pc := 261) hC dX11_digest_261 rfl ?_
          refine v_lmul (pc := 262) hC dX11_digest_262 ?_
          refine v_aload_n (pc := 263) hC dX11_digest_263 rfl ?_
          refine v_iload_n (pc := 264) hC dX11_digest_264 rfl ?_
          obtain ⟨w66, hw66, hu54⟩ := obd_s hu54
          refine v_cV (pc := 265) [.long ((31 : Int64) * x65)] [.int w66.1, .long ((31 : Int64) * x65)] gm_X11_medalsNow hC s_49 rfl rfl (ct_X11_medalsNow  hw66) ml_X11_246 rfl rfl rfl rfl rfl rfl dX11_digest_265 ?_
          refine v_i2l (pc := 268) hC dX11_digest_268 ?_
          refine v_ladd (pc := 269) hC dX11_digest_269 ?_
          obtain ⟨x67, hx67, hu54⟩ := bnd_s hu54
          refine v_lstore_n (pc := 270) (lv' := [some (.ref (gad g 49)), some (.long x67), none, some (.int a55.2), none]) hC dX11_digest_270 hx67 rfl rfl rfl ?_
          obtain ⟨x68, hx68, hu54⟩ := bnd_s hu54
          refine v_iinc (pc := 271) (lv' := [some (.ref (gad g 49)), some (.long x67), none, some (.int x68), none]) (1 : Int32) rfl hx68 hC dX11_digest_271 rfl rfl rfl rfl ?_
          refine v_goto (pc := 274) (tgt := 209) hC dX11_digest_274 rfl ?_
          obtain rfl := Option.some.inj hu54
          exact V.ls (ls_some (ls_some (ls_none (ls_some (ls_none ls_nil))))) (k56 _ rfl)
      refine V.ls (ls_some (ls_some (ls_none (ls_some (ls_none ls_nil))))) (v_loop (pc := 158) (fun a72 => [some (.ref (gad g 49)), some (.long a72.1), none, some (.int a72.2), none]) (fun z t => V SS g M iX11_digest (PQ SS g M P) 183 [some (.ref (gad g 49)), some (.long z), none, none, none] [] t) (fun a72 s70 u71 hu71 k73 k74 => ?_) _ _ _ _ hw11 kx80)
      unfold fX11_digest_L158 at hu71
      refine v_iload_n (pc := 158) hC dX11_digest_158 rfl ?_
      refine v_bipush (pc := 159) (8 : Int32) rfl hC dX11_digest_159 ?_
      refine v_ic_ge (pc := 161) (tgt := 183) hC dX11_digest_161 rfl (fun c76 => ?_) (fun c76 => ?_)
      · replace hu71 := (if_pos c76).symm.trans hu71
        obtain rfl := Option.some.inj hu71
        exact V.ls (ls_some (ls_some (ls_none (ls_none (ls_none ls_nil))))) (k74 _ rfl)
      · replace hu71 := (if_neg c76).symm.trans hu71
        refine v_ldc2 (pc := 164) (31 : Int64) kc_X11_324 hC dX11_digest_164 ?_
        refine v_lload_n (pc := 167) hC dX11_digest_167 rfl ?_
        refine v_lmul (pc := 168) hC dX11_digest_168 ?_
        refine v_aload_n (pc := 169) hC dX11_digest_169 rfl ?_
        refine v_iload_n (pc := 170) hC dX11_digest_170 rfl ?_
        obtain ⟨w77, hw77, hu71⟩ := obd_s hu71
        refine v_cV (pc := 171) [.long ((31 : Int64) * a72.1)] [.int w77.1, .long ((31 : Int64) * a72.1)] gm_X11_orderNow hC s_49 rfl rfl (ct_X11_orderNow  hw77) ml_X11_231 rfl rfl rfl rfl rfl rfl dX11_digest_171 ?_
        refine v_i2l (pc := 174) hC dX11_digest_174 ?_
        refine v_ladd (pc := 175) hC dX11_digest_175 ?_
        obtain ⟨x78, hx78, hu71⟩ := bnd_s hu71
        refine v_lstore_n (pc := 176) (lv' := [some (.ref (gad g 49)), some (.long x78), none, some (.int a72.2), none]) hC dX11_digest_176 hx78 rfl rfl rfl ?_
        obtain ⟨x79, hx79, hu71⟩ := bnd_s hu71
        refine v_iinc (pc := 177) (lv' := [some (.ref (gad g 49)), some (.long x78), none, some (.int x79), none]) (1 : Int32) rfl hx79 hC dX11_digest_177 rfl rfl rfl rfl ?_
        refine v_goto (pc := 180) (tgt := 158) hC dX11_digest_180 rfl ?_
        obtain rfl := Option.some.inj hu71
        exact V.ls (ls_some (ls_some (ls_none (ls_some (ls_none ls_nil))))) (k73 _ rfl)
    refine V.ls (ls_some (ls_some (ls_none (ls_some (ls_none ls_nil))))) (v_loop (pc := 33) (fun a83 => [some (.ref (gad g 49)), some (.long a83.1), none, some (.int a83.2), none]) (fun z t => V SS g M iX11_digest (PQ SS g M P) 103 [some (.ref (gad g 49)), some (.long z), none, none, none] [] t) (fun a83 s81 u82 hu82 k84 k85 => ?_) _ _ _ _ hw2 kx105)
    unfold fX11_digest_L33 at hu82
    refine v_iload_n (pc := 33) hC dX11_digest_33 rfl ?_
    refine v_bipush (pc := 34) (8 : Int32) rfl hC dX11_digest_34 ?_
    refine v_ic_ge (pc := 36) (tgt := 103) hC dX11_digest_36 rfl (fun c87 => ?_) (fun c87 => ?_)
    · replace hu82 := (if_pos c87).symm.trans hu82
      obtain rfl := Option.some.inj hu82
      exact V.ls (ls_some (ls_some (ls_none (ls_none (ls_none ls_nil))))) (k85 _ rfl)
    · replace hu82 := (if_neg c87).symm.trans hu82
      refine v_ldc2 (pc := 39) (31 : Int64) kc_X11_324 hC dX11_digest_39 ?_
      refine v_lload_n (pc := 42) hC dX11_digest_42 rfl ?_
      refine v_lmul (pc := 43) hC dX11_digest_43 ?_
      refine v_aload_n (pc := 44) hC dX11_digest_44 rfl ?_
      refine v_iload_n (pc := 45) hC dX11_digest_45 rfl ?_
      obtain ⟨w88, hw88, hu82⟩ := obd_s hu82
      refine v_cV (pc := 46) [.long ((31 : Int64) * a83.1)] [.int w88.1, .long ((31 : Int64) * a83.1)] gm_X11_countsNow hC s_49 rfl rfl (ct_X11_countsNow  hw88) ml_X11_195 rfl rfl rfl rfl rfl rfl dX11_digest_46 ?_
      refine v_i2l (pc := 49) hC dX11_digest_49 ?_
      refine v_ladd (pc := 50) hC dX11_digest_50 ?_
      obtain ⟨x89, hx89, hu82⟩ := bnd_s hu82
      refine v_lstore_n (pc := 51) (lv' := [some (.ref (gad g 49)), some (.long x89), none, some (.int a83.2), none]) hC dX11_digest_51 hx89 rfl rfl rfl ?_
      refine v_iconst (pc := 52) (0 : Int32) rfl hC dX11_digest_52 ?_
      refine v_istore (pc := 53) (lv' := [some (.ref (gad g 49)), some (.long x89), none, some (.int a83.2), some (.int (0 : Int32))]) hC dX11_digest_53 rfl rfl rfl rfl ?_
      obtain ⟨w90, hw90, hu82⟩ := obd_s hu82
      have kx104 : V SS g M iX11_digest (PQ SS g M P) 97 [some (.ref (gad g 49)), some (.long w90.1), none, some (.int a83.2), none] [] w90.2 := by
        obtain ⟨x91, hx91, hu82⟩ := bnd_s hu82
        refine v_iinc (pc := 97) (lv' := [some (.ref (gad g 49)), some (.long w90.1), none, some (.int x91), none]) (1 : Int32) rfl hx91 hC dX11_digest_97 rfl rfl rfl rfl ?_
        refine v_goto (pc := 100) (tgt := 33) hC dX11_digest_100 rfl ?_
        obtain rfl := Option.some.inj hu82
        exact V.ls (ls_some (ls_some (ls_none (ls_some (ls_none ls_nil))))) (k84 _ rfl)
      refine V.ls (ls_some (ls_some (ls_none (ls_some (ls_some ls_nil))))) (v_loop (pc := 55) (fun a94 => [some (.ref (gad g 49)), some (.long a94.1), none, some (.int a83.2), some (.int a94.2)]) (fun z t => V SS g M iX11_digest (PQ SS g M P) 97 [some (.ref (gad g 49)), some (.long z), none, some (.int a83.2), none] [] t) (fun a94 s92 u93 hu93 k95 k96 => ?_) _ _ _ _ hw90 kx104)
      unfold fX11_digest_L55 at hu93
      refine v_iload (pc := 55) hC dX11_digest_55 rfl ?_
      refine v_iconst (pc := 57) (3 : Int32) rfl hC dX11_digest_57 ?_
      refine v_ic_ge (pc := 58) (tgt := 97) hC dX11_digest_58 rfl (fun c98 => ?_) (fun c98 => ?_)
      · replace hu93 := (if_pos c98).symm.trans hu93
        obtain rfl := Option.some.inj hu93
        exact V.ls (ls_some (ls_some (ls_none (ls_some (ls_none ls_nil))))) (k96 _ rfl)
      · replace hu93 := (if_neg c98).symm.trans hu93
        refine v_ldc2 (pc := 61) (31 : Int64) kc_X11_324 hC dX11_digest_61 ?_
        refine v_lload_n (pc := 64) hC dX11_digest_64 rfl ?_
        refine v_lmul (pc := 65) hC dX11_digest_65 ?_
        refine v_aload_n (pc := 66) hC dX11_digest_66 rfl ?_
        refine v_iload_n (pc := 67) hC dX11_digest_67 rfl ?_
        refine v_iload (pc := 68) hC dX11_digest_68 rfl ?_
        refine v_iconst (pc := 70) (0 : Int32) rfl hC dX11_digest_70 ?_
        obtain ⟨w99, hw99, hu93⟩ := obd_s hu93
        refine v_cV (pc := 71) [.long ((31 : Int64) * a94.1)] [.long w99.1, .long ((31 : Int64) * a94.1)] gm_X11_laneNow hC s_49 rfl rfl (ct_X11_laneNow  hw99) ml_X11_191 rfl rfl rfl rfl rfl rfl dX11_digest_71 ?_
        refine v_ladd (pc := 74) hC dX11_digest_74 ?_
        obtain ⟨x100, hx100, hu93⟩ := bnd_s hu93
        refine v_lstore_n (pc := 75) (lv' := [some (.ref (gad g 49)), some (.long x100), none, some (.int a83.2), some (.int a94.2)]) hC dX11_digest_75 hx100 rfl rfl rfl ?_
        refine v_ldc2 (pc := 76) (31 : Int64) kc_X11_324 hC dX11_digest_76 ?_
        refine v_lload_n (pc := 79) hC dX11_digest_79 rfl ?_
        refine v_lmul (pc := 80) hC dX11_digest_80 ?_
        refine v_aload_n (pc := 81) hC dX11_digest_81 rfl ?_
        refine v_iload_n (pc := 82) hC dX11_digest_82 rfl ?_
        refine v_iload (pc := 83) hC dX11_digest_83 rfl ?_
        refine v_iconst (pc := 85) (1 : Int32) rfl hC dX11_digest_85 ?_
        obtain ⟨w101, hw101, hu93⟩ := obd_s hu93
        refine v_cV (pc := 86) [.long ((31 : Int64) * x100)] [.long w101.1, .long ((31 : Int64) * x100)] gm_X11_laneNow hC s_49 rfl rfl (ct_X11_laneNow  hw101) ml_X11_191 rfl rfl rfl rfl rfl rfl dX11_digest_86 ?_
        refine v_ladd (pc := 89) hC dX11_digest_89 ?_
        obtain ⟨x102, hx102, hu93⟩ := bnd_s hu93
        refine v_lstore_n (pc := 90) (lv' := [some (.ref (gad g 49)), some (.long x102), none, some (.int a83.2), some (.int a94.2)]) hC dX11_digest_90 hx102 rfl rfl rfl ?_
        obtain ⟨x103, hx103, hu93⟩ := bnd_s hu93
        refine v_iinc (pc := 91) (lv' := [some (.ref (gad g 49)), some (.long x102), none, some (.int a83.2), some (.int x103)]) (1 : Int32) rfl hx103 hC dX11_digest_91 rfl rfl rfl rfl ?_
        refine v_goto (pc := 94) (tgt := 55) hC dX11_digest_94 rfl ?_
        obtain rfl := Option.some.inj hu93
        exact V.ls (ls_some (ls_some (ls_none (ls_some (ls_some ls_nil))))) (k95 _ rfl)
  refine V.ls (ls_some (ls_some (ls_none (ls_some (ls_none ls_nil))))) (v_loop (pc := 6) (fun a108 => [some (.ref (gad g 49)), some (.long a108.1), none, some (.int a108.2), none]) (fun z t => V SS g M iX11_digest (PQ SS g M P) 31 [some (.ref (gad g 49)), some (.long z), none, none, none] [] t) (fun a108 s106 u107 hu107 k109 k110 => ?_) _ _ _ _ hw1 kx116)
  unfold fX11_digest_L6 at hu107
  refine v_iload_n (pc := 6) hC dX11_digest_6 rfl ?_
  refine v_bipush (pc := 7) (8 : Int32) rfl hC dX11_digest_7 ?_
  refine v_ic_ge (pc := 9) (tgt := 31) hC dX11_digest_9 rfl (fun c112 => ?_) (fun c112 => ?_)
  · replace hu107 := (if_pos c112).symm.trans hu107
    obtain rfl := Option.some.inj hu107
    exact V.ls (ls_some (ls_some (ls_none (ls_none (ls_none ls_nil))))) (k110 _ rfl)
  · replace hu107 := (if_neg c112).symm.trans hu107
    refine v_ldc2 (pc := 12) (31 : Int64) kc_X11_324 hC dX11_digest_12 ?_
    refine v_lload_n (pc := 15) hC dX11_digest_15 rfl ?_
    refine v_lmul (pc := 16) hC dX11_digest_16 ?_
    refine v_aload_n (pc := 17) hC dX11_digest_17 rfl ?_
    refine v_iload_n (pc := 18) hC dX11_digest_18 rfl ?_
    obtain ⟨w113, hw113, hu107⟩ := obd_s hu107
    refine v_cV (pc := 19) [.long ((31 : Int64) * a108.1)] [.int w113.1, .long ((31 : Int64) * a108.1)] gm_X11_count hC s_49 rfl rfl (ct_X11_count  hw113) ml_X11_326 rfl rfl rfl rfl rfl rfl dX11_digest_19 ?_
    refine v_i2l (pc := 22) hC dX11_digest_22 ?_
    refine v_ladd (pc := 23) hC dX11_digest_23 ?_
    obtain ⟨x114, hx114, hu107⟩ := bnd_s hu107
    refine v_lstore_n (pc := 24) (lv' := [some (.ref (gad g 49)), some (.long x114), none, some (.int a108.2), none]) hC dX11_digest_24 hx114 rfl rfl rfl ?_
    obtain ⟨x115, hx115, hu107⟩ := bnd_s hu107
    refine v_iinc (pc := 25) (lv' := [some (.ref (gad g 49)), some (.long x114), none, some (.int x115), none]) (1 : Int32) rfl hx115 hC dX11_digest_25 rfl rfl rfl rfl ?_
    refine v_goto (pc := 28) (tgt := 6) hC dX11_digest_28 rfl ?_
    obtain rfl := Option.some.inj hu107
    exact V.ls (ls_some (ls_some (ls_none (ls_some (ls_none ls_nil))))) (k109 _ rfl)
