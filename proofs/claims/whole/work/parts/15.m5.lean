/-! methods, printed by wip/whole/gen/meth.py: X10_lean, X10_chance, X10_ran, X10_own, X10_fast, X10_twice, X10_order, X10_right, X10_place, X10_medals, X10_isText, X10_type, X10_wipe, X10_fault, X10_givenOf, X10_given, X10_power, X10_chanceOfTenths, X10_tenths, X10_world, X10_made -/
theorem dX10_lean_0 : decode cX10_lean 0 = .ok (.iload_n 1, 1) := by decide +kernel
theorem dX10_lean_1 : decode cX10_lean 1 = .ok (.invokestatic 218, 3) := by decide +kernel
theorem dX10_lean_4 : decode cX10_lean 4 = .ok (.ifCond .eq 15, 3) := by decide +kernel
theorem dX10_lean_7 : decode cX10_lean 7 = .ok (.iload_n 2, 1) := by decide +kernel
theorem dX10_lean_8 : decode cX10_lean 8 = .ok (.invokestatic 218, 3) := by decide +kernel
theorem dX10_lean_11 : decode cX10_lean 11 = .ok (.ifCond .eq 8, 3) := by decide +kernel
theorem dX10_lean_14 : decode cX10_lean 14 = .ok (.iload_n 1, 1) := by decide +kernel
theorem dX10_lean_15 : decode cX10_lean 15 = .ok (.iload_n 2, 1) := by decide +kernel
theorem dX10_lean_16 : decode cX10_lean 16 = .ok (.if_icmp .le 7, 3) := by decide +kernel
theorem dX10_lean_19 : decode cX10_lean 19 = .ok (.sipush (-9999), 3) := by decide +kernel
theorem dX10_lean_22 : decode cX10_lean 22 = .ok (.ireturn, 1) := by decide +kernel
theorem dX10_lean_23 : decode cX10_lean 23 = .ok (.aload_n 0, 1) := by decide +kernel
theorem dX10_lean_24 : decode cX10_lean 24 = .ok (.getfield 37, 3) := by decide +kernel
theorem dX10_lean_27 : decode cX10_lean 27 = .ok (.invokevirtual 204, 3) := by decide +kernel
theorem dX10_lean_30 : decode cX10_lean 30 = .ok (.aload_n 0, 1) := by decide +kernel
theorem dX10_lean_31 : decode cX10_lean 31 = .ok (.getfield 37, 3) := by decide +kernel
theorem dX10_lean_34 : decode cX10_lean 34 = .ok (.invokevirtual 221, 3) := by decide +kernel
theorem dX10_lean_37 : decode cX10_lean 37 = .ok (.aload_n 0, 1) := by decide +kernel
theorem dX10_lean_38 : decode cX10_lean 38 = .ok (.getfield 37, 3) := by decide +kernel
theorem dX10_lean_41 : decode cX10_lean 41 = .ok (.iload_n 1, 1) := by decide +kernel
theorem dX10_lean_42 : decode cX10_lean 42 = .ok (.iload_n 2, 1) := by decide +kernel
theorem dX10_lean_43 : decode cX10_lean 43 = .ok (.invokevirtual 224, 3) := by decide +kernel
theorem dX10_lean_46 : decode cX10_lean 46 = .ok (.ireturn, 1) := by decide +kernel
def fX10_lean (x0_ : Int32) (x1_ : Int32) (s : Sg) : Option (Int32 × Sg) :=
  (fX10_isDay x0_ s).bind fun w1 =>
  if w1.1 = 0 then
  some ((-9999 : Int32), w1.2)
  else
  (fX10_isDay x1_ w1.2).bind fun w3 =>
  if w3.1 = 0 then
  some ((-9999 : Int32), w3.2)
  else
  if x0_ ≤ x1_ then
  (fX8_survey w3.2).bind fun w5 =>
  (fX8_surveyDays w5).bind fun w6 =>
  (fX8_leanOf x0_ x1_ w6).bind fun w7 =>
  some (w7.1, w7.2)
  else
  some ((-9999 : Int32), w3.2)
theorem ct_X10_lean {g : Gl} {x0_ : Int32} {x1_ : Int32} {s : Sg} {w : Int32 × Sg}  (h : fX10_lean x0_ x1_ s = some w) : Ct SS g iX10_lean 5 120 [.ref (gad g 0), .int x0_, .int x1_] s (Dt (some (.int w.1)) w.2) := by
  refine Ct.ofV (by decide +kernel) 0 (lv0 := [some (.ref (gad g 0)), some (.int x0_), some (.int x1_)]) rfl rfl (fun M hC => ?_)
  have hP : (Dt (some (.int w.1)) w.2) (some (.int w.1)) w.2 := ⟨rfl, rfl⟩
  generalize Dt (some (.int w.1)) w.2 = P at hP ⊢
  unfold fX10_lean at h
  refine v_iload_n (pc := 0) hC dX10_lean_0 rfl ?_
  obtain ⟨w1, hw1, h⟩ := obd_s h
  refine v_cS (pc := 1) [] [.int w1.1] gm_X10_isDay hC (ct_X10_isDay  hw1) ml_X10_218 rfl rfl rfl rfl rfl rfl dX10_lean_1 ?_
  refine v_if_eq (pc := 4) (tgt := 19) hC dX10_lean_4 rfl (fun c2 => ?_) (fun c2 => ?_)
  · replace h := (if_pos c2).symm.trans h
    refine v_sipush (pc := 19) (-9999 : Int32) rfl hC dX10_lean_19 ?_
    obtain rfl := Option.some.inj h
    exact v_iret (pc := 22) hC rfl dX10_lean_22 hP
  · replace h := (if_neg c2).symm.trans h
    refine v_iload_n (pc := 7) hC dX10_lean_7 rfl ?_
    obtain ⟨w3, hw3, h⟩ := obd_s h
    refine v_cS (pc := 8) [] [.int w3.1] gm_X10_isDay hC (ct_X10_isDay  hw3) ml_X10_218 rfl rfl rfl rfl rfl rfl dX10_lean_8 ?_
    refine v_if_eq (pc := 11) (tgt := 19) hC dX10_lean_11 rfl (fun c4 => ?_) (fun c4 => ?_)
    · replace h := (if_pos c4).symm.trans h
      refine v_sipush (pc := 19) (-9999 : Int32) rfl hC dX10_lean_19 ?_
      obtain rfl := Option.some.inj h
      exact v_iret (pc := 22) hC rfl dX10_lean_22 hP
    · replace h := (if_neg c4).symm.trans h
      refine v_iload_n (pc := 14) hC dX10_lean_14 rfl ?_
      refine v_iload_n (pc := 15) hC dX10_lean_15 rfl ?_
      refine v_ic_le (pc := 16) (tgt := 23) hC dX10_lean_16 rfl (fun c8 => ?_) (fun c8 => ?_)
      · replace h := (if_pos c8).symm.trans h
        refine v_aload_n (pc := 23) hC dX10_lean_23 rfl ?_
        refine v_gt (pc := 24) 1 (.ref (gad g 19)) hC s_0 rfl rfl rfl rfl fl_X10_37 dX10_lean_24 ?_
        obtain ⟨w5, hw5, h⟩ := obd_s h
        refine v_cV (pc := 27) [] [] gm_X8_survey hC s_19 rfl rfl (ct_X8_survey  hw5) ml_X10_204 rfl rfl rfl rfl rfl rfl dX10_lean_27 ?_
        refine v_aload_n (pc := 30) hC dX10_lean_30 rfl ?_
        refine v_gt (pc := 31) 1 (.ref (gad g 19)) hC s_0 rfl rfl rfl rfl fl_X10_37 dX10_lean_31 ?_
        obtain ⟨w6, hw6, h⟩ := obd_s h
        refine v_cV (pc := 34) [] [] gm_X8_surveyDays hC s_19 rfl rfl (ct_X8_surveyDays  hw6) ml_X10_221 rfl rfl rfl rfl rfl rfl dX10_lean_34 ?_
        refine v_aload_n (pc := 37) hC dX10_lean_37 rfl ?_
        refine v_gt (pc := 38) 1 (.ref (gad g 19)) hC s_0 rfl rfl rfl rfl fl_X10_37 dX10_lean_38 ?_
        refine v_iload_n (pc := 41) hC dX10_lean_41 rfl ?_
        refine v_iload_n (pc := 42) hC dX10_lean_42 rfl ?_
        obtain ⟨w7, hw7, h⟩ := obd_s h
        refine v_cV (pc := 43) [] [.int w7.1] gm_X8_leanOf hC s_19 rfl rfl (ct_X8_leanOf  hw7) ml_X10_224 rfl rfl rfl rfl rfl rfl dX10_lean_43 ?_
        obtain rfl := Option.some.inj h
        exact v_iret (pc := 46) hC rfl dX10_lean_46 hP
      · replace h := (if_neg c8).symm.trans h
        refine v_sipush (pc := 19) (-9999 : Int32) rfl hC dX10_lean_19 ?_
        obtain rfl := Option.some.inj h
        exact v_iret (pc := 22) hC rfl dX10_lean_22 hP
theorem dX10_chance_0 : decode cX10_chance 0 = .ok (.aload_n 0, 1) := by decide +kernel
theorem dX10_chance_1 : decode cX10_chance 1 = .ok (.getfield 37, 3) := by decide +kernel
theorem dX10_chance_4 : decode cX10_chance 4 = .ok (.invokevirtual 204, 3) := by decide +kernel
theorem dX10_chance_7 : decode cX10_chance 7 = .ok (.aload_n 0, 1) := by decide +kernel
theorem dX10_chance_8 : decode cX10_chance 8 = .ok (.getfield 37, 3) := by decide +kernel
theorem dX10_chance_11 : decode cX10_chance 11 = .ok (.invokevirtual 227, 3) := by decide +kernel
theorem dX10_chance_14 : decode cX10_chance 14 = .ok (.ireturn, 1) := by decide +kernel
def fX10_chance  (s : Sg) : Option (Int32 × Sg) :=
  (fX8_survey s).bind fun w1 =>
  (fX8_chanceOfShape w1).bind fun w2 =>
  some (w2.1, w2.2)
theorem ct_X10_chance {g : Gl}  {s : Sg} {w : Int32 × Sg}  (h : fX10_chance s = some w) : Ct SS g iX10_chance 5 120 [.ref (gad g 0)] s (Dt (some (.int w.1)) w.2) := by
  refine Ct.ofV (by decide +kernel) 0 (lv0 := [some (.ref (gad g 0))]) rfl rfl (fun M hC => ?_)
  have hP : (Dt (some (.int w.1)) w.2) (some (.int w.1)) w.2 := ⟨rfl, rfl⟩
  generalize Dt (some (.int w.1)) w.2 = P at hP ⊢
  unfold fX10_chance at h
  refine v_aload_n (pc := 0) hC dX10_chance_0 rfl ?_
  refine v_gt (pc := 1) 1 (.ref (gad g 19)) hC s_0 rfl rfl rfl rfl fl_X10_37 dX10_chance_1 ?_
  obtain ⟨w1, hw1, h⟩ := obd_s h
  refine v_cV (pc := 4) [] [] gm_X8_survey hC s_19 rfl rfl (ct_X8_survey  hw1) ml_X10_204 rfl rfl rfl rfl rfl rfl dX10_chance_4 ?_
  refine v_aload_n (pc := 7) hC dX10_chance_7 rfl ?_
  refine v_gt (pc := 8) 1 (.ref (gad g 19)) hC s_0 rfl rfl rfl rfl fl_X10_37 dX10_chance_8 ?_
  obtain ⟨w2, hw2, h⟩ := obd_s h
  refine v_cV (pc := 11) [] [.int w2.1] gm_X8_chanceOfShape hC s_19 rfl rfl (ct_X8_chanceOfShape  hw2) ml_X10_227 rfl rfl rfl rfl rfl rfl dX10_chance_11 ?_
  obtain rfl := Option.some.inj h
  exact v_iret (pc := 14) hC rfl dX10_chance_14 hP
theorem dX10_ran_0 : decode cX10_ran 0 = .ok (.iload_n 1, 1) := by decide +kernel
theorem dX10_ran_1 : decode cX10_ran 1 = .ok (.invokestatic 182, 3) := by decide +kernel
theorem dX10_ran_4 : decode cX10_ran 4 = .ok (.ifCond .ne 6, 3) := by decide +kernel
theorem dX10_ran_7 : decode cX10_ran 7 = .ok (.bipush (-2), 2) := by decide +kernel
theorem dX10_ran_9 : decode cX10_ran 9 = .ok (.ireturn, 1) := by decide +kernel
theorem dX10_ran_10 : decode cX10_ran 10 = .ok (.aload_n 0, 1) := by decide +kernel
theorem dX10_ran_11 : decode cX10_ran 11 = .ok (.getfield 37, 3) := by decide +kernel
theorem dX10_ran_14 : decode cX10_ran 14 = .ok (.invokevirtual 204, 3) := by decide +kernel
theorem dX10_ran_17 : decode cX10_ran 17 = .ok (.aload_n 0, 1) := by decide +kernel
theorem dX10_ran_18 : decode cX10_ran 18 = .ok (.getfield 37, 3) := by decide +kernel
theorem dX10_ran_21 : decode cX10_ran 21 = .ok (.invokevirtual 221, 3) := by decide +kernel
theorem dX10_ran_24 : decode cX10_ran 24 = .ok (.iload_n 1, 1) := by decide +kernel
theorem dX10_ran_25 : decode cX10_ran 25 = .ok (.ifCond .ne 13, 3) := by decide +kernel
theorem dX10_ran_28 : decode cX10_ran 28 = .ok (.aload_n 0, 1) := by decide +kernel
theorem dX10_ran_29 : decode cX10_ran 29 = .ok (.getfield 37, 3) := by decide +kernel
theorem dX10_ran_32 : decode cX10_ran 32 = .ok (.getfield 231, 3) := by decide +kernel
theorem dX10_ran_35 : decode cX10_ran 35 = .ok (.goto 10, 3) := by decide +kernel
theorem dX10_ran_38 : decode cX10_ran 38 = .ok (.aload_n 0, 1) := by decide +kernel
theorem dX10_ran_39 : decode cX10_ran 39 = .ok (.getfield 37, 3) := by decide +kernel
theorem dX10_ran_42 : decode cX10_ran 42 = .ok (.getfield 234, 3) := by decide +kernel
theorem dX10_ran_45 : decode cX10_ran 45 = .ok (.ireturn, 1) := by decide +kernel
def fX10_ran (x0_ : Int32) (s : Sg) : Option (Int32 × Sg) :=
  (fX10_isPart x0_ s).bind fun w1 =>
  if w1.1 = 0 then
  some ((-2 : Int32), w1.2)
  else
  (fX8_survey w1.2).bind fun w2 =>
  (fX8_surveyDays w2).bind fun w3 =>
  if x0_ = 0 then
  some ((gI w3 19 6), w3)
  else
  some ((gI w3 19 7), w3)
theorem ct_X10_ran {g : Gl} {x0_ : Int32} {s : Sg} {w : Int32 × Sg}  (h : fX10_ran x0_ s = some w) : Ct SS g iX10_ran 5 120 [.ref (gad g 0), .int x0_] s (Dt (some (.int w.1)) w.2) := by
  refine Ct.ofV (by decide +kernel) 0 (lv0 := [some (.ref (gad g 0)), some (.int x0_)]) rfl rfl (fun M hC => ?_)
  have hP : (Dt (some (.int w.1)) w.2) (some (.int w.1)) w.2 := ⟨rfl, rfl⟩
  generalize Dt (some (.int w.1)) w.2 = P at hP ⊢
  unfold fX10_ran at h
  refine v_iload_n (pc := 0) hC dX10_ran_0 rfl ?_
  obtain ⟨w1, hw1, h⟩ := obd_s h
  refine v_cS (pc := 1) [] [.int w1.1] gm_X10_isPart hC (ct_X10_isPart  hw1) ml_X10_182 rfl rfl rfl rfl rfl rfl dX10_ran_1 ?_
  refine v_if_ne (pc := 4) (tgt := 10) hC dX10_ran_4 rfl (fun c5 => ?_) (fun c5 => ?_)
  · replace h := (if_neg c5).symm.trans h
    refine v_aload_n (pc := 10) hC dX10_ran_10 rfl ?_
    refine v_gt (pc := 11) 1 (.ref (gad g 19)) hC s_0 rfl rfl rfl rfl fl_X10_37 dX10_ran_11 ?_
    obtain ⟨w2, hw2, h⟩ := obd_s h
    refine v_cV (pc := 14) [] [] gm_X8_survey hC s_19 rfl rfl (ct_X8_survey  hw2) ml_X10_204 rfl rfl rfl rfl rfl rfl dX10_ran_14 ?_
    refine v_aload_n (pc := 17) hC dX10_ran_17 rfl ?_
    refine v_gt (pc := 18) 1 (.ref (gad g 19)) hC s_0 rfl rfl rfl rfl fl_X10_37 dX10_ran_18 ?_
    obtain ⟨w3, hw3, h⟩ := obd_s h
    refine v_cV (pc := 21) [] [] gm_X8_surveyDays hC s_19 rfl rfl (ct_X8_surveyDays  hw3) ml_X10_221 rfl rfl rfl rfl rfl rfl dX10_ran_21 ?_
    refine v_iload_n (pc := 24) hC dX10_ran_24 rfl ?_
    refine v_if_ne (pc := 25) (tgt := 38) hC dX10_ran_25 rfl (fun c4 => ?_) (fun c4 => ?_)
    · replace h := (if_neg c4).symm.trans h
      refine v_aload_n (pc := 38) hC dX10_ran_38 rfl ?_
      refine v_gt (pc := 39) 1 (.ref (gad g 19)) hC s_0 rfl rfl rfl rfl fl_X10_37 dX10_ran_39 ?_
      refine v_gtN (pc := 42) 7 (.int (gI w3 19 7)) hC s_19 rfl rfl rfl rfl fl_X10_234 dX10_ran_42 ?_
      obtain rfl := Option.some.inj h
      exact v_iret (pc := 45) hC rfl dX10_ran_45 hP
    · replace h := (if_pos c4).symm.trans h
      refine v_aload_n (pc := 28) hC dX10_ran_28 rfl ?_
      refine v_gt (pc := 29) 1 (.ref (gad g 19)) hC s_0 rfl rfl rfl rfl fl_X10_37 dX10_ran_29 ?_
      refine v_gtN (pc := 32) 6 (.int (gI w3 19 6)) hC s_19 rfl rfl rfl rfl fl_X10_231 dX10_ran_32 ?_
      refine v_goto (pc := 35) (tgt := 45) hC dX10_ran_35 rfl ?_
      obtain rfl := Option.some.inj h
      exact v_iret (pc := 45) hC rfl dX10_ran_45 hP
  · replace h := (if_pos c5).symm.trans h
    refine v_bipush (pc := 7) (-2 : Int32) rfl hC dX10_ran_7 ?_
    obtain rfl := Option.some.inj h
    exact v_iret (pc := 9) hC rfl dX10_ran_9 hP
theorem dX10_own_0 : decode cX10_own 0 = .ok (.iload_n 1, 1) := by decide +kernel
theorem dX10_own_1 : decode cX10_own 1 = .ok (.invokestatic 102, 3) := by decide +kernel
theorem dX10_own_4 : decode cX10_own 4 = .ok (.ifCond .eq 10, 3) := by decide +kernel
theorem dX10_own_7 : decode cX10_own 7 = .ok (.iload_n 2, 1) := by decide +kernel
theorem dX10_own_8 : decode cX10_own 8 = .ok (.invokestatic 182, 3) := by decide +kernel
theorem dX10_own_11 : decode cX10_own 11 = .ok (.ifCond .ne 9, 3) := by decide +kernel
theorem dX10_own_14 : decode cX10_own 14 = .ok (.bipush (-2), 2) := by decide +kernel
theorem dX10_own_16 : decode cX10_own 16 = .ok (.invokestatic 185, 3) := by decide +kernel
theorem dX10_own_19 : decode cX10_own 19 = .ok (.lreturn, 1) := by decide +kernel
theorem dX10_own_20 : decode cX10_own 20 = .ok (.aload_n 0, 1) := by decide +kernel
theorem dX10_own_21 : decode cX10_own 21 = .ok (.getfield 37, 3) := by decide +kernel
theorem dX10_own_24 : decode cX10_own 24 = .ok (.invokevirtual 204, 3) := by decide +kernel
theorem dX10_own_27 : decode cX10_own 27 = .ok (.aload_n 0, 1) := by decide +kernel
theorem dX10_own_28 : decode cX10_own 28 = .ok (.getfield 37, 3) := by decide +kernel
theorem dX10_own_31 : decode cX10_own 31 = .ok (.iload_n 1, 1) := by decide +kernel
theorem dX10_own_32 : decode cX10_own 32 = .ok (.aload_n 0, 1) := by decide +kernel
theorem dX10_own_33 : decode cX10_own 33 = .ok (.getfield 79, 3) := by decide +kernel
theorem dX10_own_36 : decode cX10_own 36 = .ok (.invokevirtual 237, 3) := by decide +kernel
theorem dX10_own_39 : decode cX10_own 39 = .ok (.ifCond .ne 9, 3) := by decide +kernel
theorem dX10_own_42 : decode cX10_own 42 = .ok (.bipush (-3), 2) := by decide +kernel
theorem dX10_own_44 : decode cX10_own 44 = .ok (.invokestatic 185, 3) := by decide +kernel
theorem dX10_own_47 : decode cX10_own 47 = .ok (.lreturn, 1) := by decide +kernel
theorem dX10_own_48 : decode cX10_own 48 = .ok (.aload_n 0, 1) := by decide +kernel
theorem dX10_own_49 : decode cX10_own 49 = .ok (.getfield 79, 3) := by decide +kernel
theorem dX10_own_52 : decode cX10_own 52 = .ok (.iload_n 2, 1) := by decide +kernel
theorem dX10_own_53 : decode cX10_own 53 = .ok (.invokevirtual 201, 3) := by decide +kernel
theorem dX10_own_56 : decode cX10_own 56 = .ok (.lreturn, 1) := by decide +kernel
def fX10_own (x0_ : Int32) (x1_ : Int32) (s : Sg) : Option (Int64 × Sg) :=
  (fX10_isSwimmer x0_ s).bind fun w1 =>
  if w1.1 = 0 then
  (fX10_refusal (-2 : Int32) w1.2).bind fun w2 =>
  some (w2.1, w2.2)
  else
  (fX10_isPart x1_ w1.2).bind fun w4 =>
  if w4.1 = 0 then
  (fX10_refusal (-2 : Int32) w4.2).bind fun w11 =>
  some (w11.1, w11.2)
  else
  (fX8_survey w4.2).bind fun w5 =>
  (fX8_findOwn x0_ w5).bind fun w6 =>
  if w6.1 = 0 then
  (fX10_refusal (-3 : Int32) w6.2).bind fun w9 =>
  some (w9.1, w9.2)
  else
  (fX0_part x1_ w6.2).bind fun w7 =>
  some (w7.1, w7.2)
theorem ct_X10_own {g : Gl} {x0_ : Int32} {x1_ : Int32} {s : Sg} {w : Int64 × Sg}  (h : fX10_own x0_ x1_ s = some w) : Ct SS g iX10_own 5 120 [.ref (gad g 0), .int x0_, .int x1_] s (Dt (some (.long w.1)) w.2) := by
  refine Ct.ofV (by decide +kernel) 0 (lv0 := [some (.ref (gad g 0)), some (.int x0_), some (.int x1_)]) rfl rfl (fun M hC => ?_)
  have hP : (Dt (some (.long w.1)) w.2) (some (.long w.1)) w.2 := ⟨rfl, rfl⟩
  generalize Dt (some (.long w.1)) w.2 = P at hP ⊢
  unfold fX10_own at h
  refine v_iload_n (pc := 0) hC dX10_own_0 rfl ?_
  obtain ⟨w1, hw1, h⟩ := obd_s h
  refine v_cS (pc := 1) [] [.int w1.1] gm_X10_isSwimmer hC (ct_X10_isSwimmer  hw1) ml_X10_102 rfl rfl rfl rfl rfl rfl dX10_own_1 ?_
  refine v_if_eq (pc := 4) (tgt := 14) hC dX10_own_4 rfl (fun c3 => ?_) (fun c3 => ?_)
  · replace h := (if_pos c3).symm.trans h
    refine v_bipush (pc := 14) (-2 : Int32) rfl hC dX10_own_14 ?_
    obtain ⟨w2, hw2, h⟩ := obd_s h
    refine v_cS (pc := 16) [] [.long w2.1] gm_X10_refusal hC (ct_X10_refusal  hw2) ml_X10_185 rfl rfl rfl rfl rfl rfl dX10_own_16 ?_
    obtain rfl := Option.some.inj h
    exact v_lret (pc := 19) hC rfl dX10_own_19 hP
  · replace h := (if_neg c3).symm.trans h
    refine v_iload_n (pc := 7) hC dX10_own_7 rfl ?_
    obtain ⟨w4, hw4, h⟩ := obd_s h
    refine v_cS (pc := 8) [] [.int w4.1] gm_X10_isPart hC (ct_X10_isPart  hw4) ml_X10_182 rfl rfl rfl rfl rfl rfl dX10_own_8 ?_
    refine v_if_ne (pc := 11) (tgt := 20) hC dX10_own_11 rfl (fun c10 => ?_) (fun c10 => ?_)
    · replace h := (if_neg c10).symm.trans h
      refine v_aload_n (pc := 20) hC dX10_own_20 rfl ?_
      refine v_gt (pc := 21) 1 (.ref (gad g 19)) hC s_0 rfl rfl rfl rfl fl_X10_37 dX10_own_21 ?_
      obtain ⟨w5, hw5, h⟩ := obd_s h
      refine v_cV (pc := 24) [] [] gm_X8_survey hC s_19 rfl rfl (ct_X8_survey  hw5) ml_X10_204 rfl rfl rfl rfl rfl rfl dX10_own_24 ?_
      refine v_aload_n (pc := 27) hC dX10_own_27 rfl ?_
      refine v_gt (pc := 28) 1 (.ref (gad g 19)) hC s_0 rfl rfl rfl rfl fl_X10_37 dX10_own_28 ?_
      refine v_iload_n (pc := 31) hC dX10_own_31 rfl ?_
      refine v_aload_n (pc := 32) hC dX10_own_32 rfl ?_
      refine v_gt (pc := 33) 8 (.ref (gad g 48)) hC s_0 rfl rfl rfl rfl fl_X10_79 dX10_own_33 ?_
      obtain ⟨w6, hw6, h⟩ := obd_s h
      refine v_cV (pc := 36) [] [.int w6.1] gm_X8_findOwn hC s_19 rfl rfl (ct_X8_findOwn  hw6) ml_X10_237 rfl rfl rfl rfl rfl rfl dX10_own_36 ?_
      refine v_if_ne (pc := 39) (tgt := 48) hC dX10_own_39 rfl (fun c8 => ?_) (fun c8 => ?_)
      · replace h := (if_neg c8).symm.trans h
        refine v_aload_n (pc := 48) hC dX10_own_48 rfl ?_
        refine v_gt (pc := 49) 8 (.ref (gad g 48)) hC s_0 rfl rfl rfl rfl fl_X10_79 dX10_own_49 ?_
        refine v_iload_n (pc := 52) hC dX10_own_52 rfl ?_
        obtain ⟨w7, hw7, h⟩ := obd_s h
        refine v_cV (pc := 53) [] [.long w7.1] gm_X0_part hC s_48 rfl rfl (ct_X0_part  hw7) ml_X10_201 rfl rfl rfl rfl rfl rfl dX10_own_53 ?_
        obtain rfl := Option.some.inj h
        exact v_lret (pc := 56) hC rfl dX10_own_56 hP
      · replace h := (if_pos c8).symm.trans h
        refine v_bipush (pc := 42) (-3 : Int32) rfl hC dX10_own_42 ?_
        obtain ⟨w9, hw9, h⟩ := obd_s h
        refine v_cS (pc := 44) [] [.long w9.1] gm_X10_refusal hC (ct_X10_refusal  hw9) ml_X10_185 rfl rfl rfl rfl rfl rfl dX10_own_44 ?_
        obtain rfl := Option.some.inj h
        exact v_lret (pc := 47) hC rfl dX10_own_47 hP
    · replace h := (if_pos c10).symm.trans h
      refine v_bipush (pc := 14) (-2 : Int32) rfl hC dX10_own_14 ?_
      obtain ⟨w11, hw11, h⟩ := obd_s h
      refine v_cS (pc := 16) [] [.long w11.1] gm_X10_refusal hC (ct_X10_refusal  hw11) ml_X10_185 rfl rfl rfl rfl rfl rfl dX10_own_16 ?_
      obtain rfl := Option.some.inj h
      exact v_lret (pc := 19) hC rfl dX10_own_19 hP
theorem dX10_fast_0 : decode cX10_fast 0 = .ok (.iload_n 1, 1) := by decide +kernel
theorem dX10_fast_1 : decode cX10_fast 1 = .ok (.iconst 0, 1) := by decide +kernel
theorem dX10_fast_2 : decode cX10_fast 2 = .ok (.sipush 9999, 3) := by decide +kernel
theorem dX10_fast_5 : decode cX10_fast 5 = .ok (.invokestatic 126, 3) := by decide +kernel
theorem dX10_fast_8 : decode cX10_fast 8 = .ok (.ifCond .ne 6, 3) := by decide +kernel
theorem dX10_fast_11 : decode cX10_fast 11 = .ok (.bipush (-2), 2) := by decide +kernel
theorem dX10_fast_13 : decode cX10_fast 13 = .ok (.ireturn, 1) := by decide +kernel
theorem dX10_fast_14 : decode cX10_fast 14 = .ok (.aload_n 0, 1) := by decide +kernel
theorem dX10_fast_15 : decode cX10_fast 15 = .ok (.getfield 37, 3) := by decide +kernel
theorem dX10_fast_18 : decode cX10_fast 18 = .ok (.invokevirtual 204, 3) := by decide +kernel
theorem dX10_fast_21 : decode cX10_fast 21 = .ok (.iconst 0, 1) := by decide +kernel
theorem dX10_fast_22 : decode cX10_fast 22 = .ok (.istore_n 2, 1) := by decide +kernel
theorem dX10_fast_23 : decode cX10_fast 23 = .ok (.iconst 0, 1) := by decide +kernel
theorem dX10_fast_24 : decode cX10_fast 24 = .ok (.istore_n 3, 1) := by decide +kernel
theorem dX10_fast_25 : decode cX10_fast 25 = .ok (.iload_n 3, 1) := by decide +kernel
theorem dX10_fast_26 : decode cX10_fast 26 = .ok (.bipush 24, 2) := by decide +kernel
theorem dX10_fast_28 : decode cX10_fast 28 = .ok (.if_icmp .ge 52, 3) := by decide +kernel
theorem dX10_fast_31 : decode cX10_fast 31 = .ok (.aload_n 0, 1) := by decide +kernel
theorem dX10_fast_32 : decode cX10_fast 32 = .ok (.getfield 37, 3) := by decide +kernel
theorem dX10_fast_35 : decode cX10_fast 35 = .ok (.iload_n 3, 1) := by decide +kernel
theorem dX10_fast_36 : decode cX10_fast 36 = .ok (.aload_n 0, 1) := by decide +kernel
theorem dX10_fast_37 : decode cX10_fast 37 = .ok (.getfield 79, 3) := by decide +kernel
theorem dX10_fast_40 : decode cX10_fast 40 = .ok (.invokevirtual 237, 3) := by decide +kernel
theorem dX10_fast_43 : decode cX10_fast 43 = .ok (.ifCond .eq 31, 3) := by decide +kernel
theorem dX10_fast_46 : decode cX10_fast 46 = .ok (.aload_n 0, 1) := by decide +kernel
theorem dX10_fast_47 : decode cX10_fast 47 = .ok (.getfield 79, 3) := by decide +kernel
theorem dX10_fast_50 : decode cX10_fast 50 = .ok (.getfield 241, 3) := by decide +kernel
theorem dX10_fast_53 : decode cX10_fast 53 = .ok (.iload_n 1, 1) := by decide +kernel
theorem dX10_fast_54 : decode cX10_fast 54 = .ok (.ineg, 1) := by decide +kernel
theorem dX10_fast_55 : decode cX10_fast 55 = .ok (.i2l, 1) := by decide +kernel
theorem dX10_fast_56 : decode cX10_fast 56 = .ok (.aload_n 0, 1) := by decide +kernel
theorem dX10_fast_57 : decode cX10_fast 57 = .ok (.getfield 79, 3) := by decide +kernel
theorem dX10_fast_60 : decode cX10_fast 60 = .ok (.getfield 245, 3) := by decide +kernel
theorem dX10_fast_63 : decode cX10_fast 63 = .ok (.lmul, 1) := by decide +kernel
theorem dX10_fast_64 : decode cX10_fast 64 = .ok (.lcmp, 1) := by decide +kernel
theorem dX10_fast_65 : decode cX10_fast 65 = .ok (.ifCond .gt 9, 3) := by decide +kernel
theorem dX10_fast_68 : decode cX10_fast 68 = .ok (.iload_n 2, 1) := by decide +kernel
theorem dX10_fast_69 : decode cX10_fast 69 = .ok (.iconst 1, 1) := by decide +kernel
theorem dX10_fast_70 : decode cX10_fast 70 = .ok (.iload_n 3, 1) := by decide +kernel
theorem dX10_fast_71 : decode cX10_fast 71 = .ok (.ishl, 1) := by decide +kernel
theorem dX10_fast_72 : decode cX10_fast 72 = .ok (.ior, 1) := by decide +kernel
theorem dX10_fast_73 : decode cX10_fast 73 = .ok (.istore_n 2, 1) := by decide +kernel
theorem dX10_fast_74 : decode cX10_fast 74 = .ok (.iinc 3 1, 3) := by decide +kernel
theorem dX10_fast_77 : decode cX10_fast 77 = .ok (.goto (-52), 3) := by decide +kernel
theorem dX10_fast_80 : decode cX10_fast 80 = .ok (.iload_n 2, 1) := by decide +kernel
theorem dX10_fast_81 : decode cX10_fast 81 = .ok (.ireturn, 1) := by decide +kernel
def fX10_fast_L25 (p1 : Int32) (a : Int32 × Int32) (s : Sg) : Option (((Int32 × Int32) ⊕ (Int32)) × Sg) :=
  if (24 : Int32) ≤ a.2 then
  some (.inr a.1, s)
  else
  (fX8_findOwn a.2 s).bind fun w2 =>
  ((if w2.1 = 0 then
  some a.1
  else
  if 0 < (lg_cmp (gL w2.2 48 0) ((((-p1)).toInt64) * (gL w2.2 48 1))) then
  some a.1
  else
  bnd (a.1 ||| ((1 : Int32) <<< (a.2 &&& 31))) fun x8 =>
  some x8) : Option (Int32)).bind fun w3 =>
  bnd (a.2 + (1 : Int32)) fun x5 =>
  some (.inl (w3, x5), w2.2)
def fX10_fast (x0_ : Int32) (s : Sg) : Option (Int32 × Sg) :=
  (fX10_within x0_ (0 : Int32) (9999 : Int32) s).bind fun w1 =>
  if w1.1 = 0 then
  some ((-2 : Int32), w1.2)
  else
  (fX8_survey w1.2).bind fun w2 =>
  (lpG (fX10_fast_L25 x0_) FU ((0 : Int32), (0 : Int32)) w2).bind fun w3 =>
  some (w3.1, w3.2)
theorem ct_X10_fast {g : Gl} {x0_ : Int32} {s : Sg} {w : Int32 × Sg}  (h : fX10_fast x0_ s = some w) : Ct SS g iX10_fast 5 120 [.ref (gad g 0), .int x0_] s (Dt (some (.int w.1)) w.2) := by
  refine Ct.ofV (by decide +kernel) 2 (lv0 := [some (.ref (gad g 0)), some (.int x0_), none, none]) rfl rfl (fun M hC => ?_)
  have hP : (Dt (some (.int w.1)) w.2) (some (.int w.1)) w.2 := ⟨rfl, rfl⟩
  generalize Dt (some (.int w.1)) w.2 = P at hP ⊢
  unfold fX10_fast at h
  refine v_iload_n (pc := 0) hC dX10_fast_0 rfl ?_
  refine v_iconst (pc := 1) (0 : Int32) rfl hC dX10_fast_1 ?_
  refine v_sipush (pc := 2) (9999 : Int32) rfl hC dX10_fast_2 ?_
  obtain ⟨w1, hw1, h⟩ := obd_s h
  refine v_cS (pc := 5) [] [.int w1.1] gm_X10_within hC (ct_X10_within  hw1) ml_X10_126 rfl rfl rfl rfl rfl rfl dX10_fast_5 ?_
  refine v_if_ne (pc := 8) (tgt := 14) hC dX10_fast_8 rfl (fun c19 => ?_) (fun c19 => ?_)
  · replace h := (if_neg c19).symm.trans h
    refine v_aload_n (pc := 14) hC dX10_fast_14 rfl ?_
    refine v_gt (pc := 15) 1 (.ref (gad g 19)) hC s_0 rfl rfl rfl rfl fl_X10_37 dX10_fast_15 ?_
    obtain ⟨w2, hw2, h⟩ := obd_s h
    refine v_cV (pc := 18) [] [] gm_X8_survey hC s_19 rfl rfl (ct_X8_survey  hw2) ml_X10_204 rfl rfl rfl rfl rfl rfl dX10_fast_18 ?_
    refine v_iconst (pc := 21) (0 : Int32) rfl hC dX10_fast_21 ?_
    refine v_istore_n (pc := 22) (lv' := [some (.ref (gad g 0)), some (.int x0_), some (.int (0 : Int32)), none]) hC dX10_fast_22 rfl rfl rfl rfl ?_
    refine v_iconst (pc := 23) (0 : Int32) rfl hC dX10_fast_23 ?_
    refine v_istore_n (pc := 24) (lv' := [some (.ref (gad g 0)), some (.int x0_), some (.int (0 : Int32)), some (.int (0 : Int32))]) hC dX10_fast_24 rfl rfl rfl rfl ?_
    obtain ⟨w3, hw3, h⟩ := obd_s h
    have kx18 : V SS g M iX10_fast (PQ SS g M P) 80 [none, none, some (.int w3.1), none] [] w3.2 := by
      refine v_iload_n (pc := 80) hC dX10_fast_80 rfl ?_
      obtain rfl := Option.some.inj h
      exact v_iret (pc := 81) hC rfl dX10_fast_81 hP
    refine V.ls (ls_some (ls_some (ls_some (ls_some ls_nil)))) (v_loop (pc := 25) (fun a6 => [some (.ref (gad g 0)), some (.int x0_), some (.int a6.1), some (.int a6.2)]) (fun z t => V SS g M iX10_fast (PQ SS g M P) 80 [none, none, some (.int z), none] [] t) (fun a6 s4 u5 hu5 k7 k8 => ?_) _ _ _ _ hw3 kx18)
    unfold fX10_fast_L25 at hu5
    refine v_iload_n (pc := 25) hC dX10_fast_25 rfl ?_
    refine v_bipush (pc := 26) (24 : Int32) rfl hC dX10_fast_26 ?_
    refine v_ic_ge (pc := 28) (tgt := 80) hC dX10_fast_28 rfl (fun c10 => ?_) (fun c10 => ?_)
    · replace hu5 := (if_pos c10).symm.trans hu5
      obtain rfl := Option.some.inj hu5
      exact V.ls (ls_none (ls_none (ls_some (ls_none ls_nil)))) (k8 _ rfl)
    · replace hu5 := (if_neg c10).symm.trans hu5
      refine v_aload_n (pc := 31) hC dX10_fast_31 rfl ?_
      refine v_gt (pc := 32) 1 (.ref (gad g 19)) hC s_0 rfl rfl rfl rfl fl_X10_37 dX10_fast_32 ?_
      refine v_iload_n (pc := 35) hC dX10_fast_35 rfl ?_
      refine v_aload_n (pc := 36) hC dX10_fast_36 rfl ?_
      refine v_gt (pc := 37) 8 (.ref (gad g 48)) hC s_0 rfl rfl rfl rfl fl_X10_79 dX10_fast_37 ?_
      obtain ⟨w11, hw11, hu5⟩ := obd_s hu5
      refine v_cV (pc := 40) [] [.int w11.1] gm_X8_findOwn hC s_19 rfl rfl (ct_X8_findOwn  hw11) ml_X10_237 rfl rfl rfl rfl rfl rfl dX10_fast_40 ?_
      obtain ⟨w12, hw12, hu5⟩ := obd_s hu5
      have kj13 : V SS g M iX10_fast (PQ SS g M P) 74 [some (.ref (gad g 0)), some (.int x0_), some (.int w12), some (.int a6.2)] [] w11.2 := by
        obtain ⟨x14, hx14, hu5⟩ := bnd_s hu5
        refine v_iinc (pc := 74) (lv' := [some (.ref (gad g 0)), some (.int x0_), some (.int w12), some (.int x14)]) (1 : Int32) rfl hx14 hC dX10_fast_74 rfl rfl rfl rfl ?_
        refine v_goto (pc := 77) (tgt := 25) hC dX10_fast_77 rfl ?_
        obtain rfl := Option.some.inj hu5
        exact V.ls (ls_some (ls_some (ls_some (ls_some ls_nil)))) (k7 _ rfl)
      refine v_if_eq (pc := 43) (tgt := 74) hC dX10_fast_43 rfl (fun c15 => ?_) (fun c15 => ?_)
      · replace hw12 := (if_pos c15).symm.trans hw12
        obtain rfl := Option.some.inj hw12
        exact V.ls (ls_some (ls_some (ls_some (ls_some ls_nil)))) kj13
      · replace hw12 := (if_neg c15).symm.trans hw12
        refine v_aload_n (pc := 46) hC dX10_fast_46 rfl ?_
        refine v_gt (pc := 47) 8 (.ref (gad g 48)) hC s_0 rfl rfl rfl rfl fl_X10_79 dX10_fast_47 ?_
        refine v_gtN (pc := 50) 0 (.long (gL w11.2 48 0)) hC s_48 rfl rfl rfl rfl fl_X10_241 dX10_fast_50 ?_
        refine v_iload_n (pc := 53) hC dX10_fast_53 rfl ?_
        refine v_ineg (pc := 54) hC dX10_fast_54 ?_
        refine v_i2l (pc := 55) hC dX10_fast_55 ?_
        refine v_aload_n (pc := 56) hC dX10_fast_56 rfl ?_
        refine v_gt (pc := 57) 8 (.ref (gad g 48)) hC s_0 rfl rfl rfl rfl fl_X10_79 dX10_fast_57 ?_
        refine v_gtN (pc := 60) 1 (.long (gL w11.2 48 1)) hC s_48 rfl rfl rfl rfl fl_X10_245 dX10_fast_60 ?_
        refine v_lmul (pc := 63) hC dX10_fast_63 ?_
        refine v_lcmp (pc := 64) hC dX10_fast_64 ?_
        refine v_if_gt (pc := 65) (tgt := 74) hC dX10_fast_65 rfl (fun c16 => ?_) (fun c16 => ?_)
        · replace hw12 := (if_pos c16).symm.trans hw12
          obtain rfl := Option.some.inj hw12
          exact V.ls (ls_some (ls_some (ls_some (ls_some ls_nil)))) kj13
        · replace hw12 := (if_neg c16).symm.trans hw12
          refine v_iload_n (pc := 68) hC dX10_fast_68 rfl ?_
          refine v_iconst (pc := 69) (1 : Int32) rfl hC dX10_fast_69 ?_
          refine v_iload_n (pc := 70) hC dX10_fast_70 rfl ?_
          refine v_ishl (pc := 71) hC dX10_fast_71 ?_
          refine v_ior (pc := 72) hC dX10_fast_72 ?_
          obtain ⟨x17, hx17, hw12⟩ := bnd_s hw12
          refine v_istore_n (pc := 73) (lv' := [some (.ref (gad g 0)), some (.int x0_), some (.int x17), some (.int a6.2)]) hC dX10_fast_73 hx17 rfl rfl rfl ?_
          obtain rfl := Option.some.inj hw12
          exact V.ls (ls_some (ls_some (ls_some (ls_some ls_nil)))) kj13
  · replace h := (if_pos c19).symm.trans h
    refine v_bipush (pc := 11) (-2 : Int32) rfl hC dX10_fast_11 ?_
    obtain rfl := Option.some.inj h
    exact v_iret (pc := 13) hC rfl dX10_fast_13 hP
theorem dX10_twice_0 : decode cX10_twice 0 = .ok (.iload_n 1, 1) := by decide +kernel
theorem dX10_twice_1 : decode cX10_twice 1 = .ok (.invokestatic 105, 3) := by decide +kernel
theorem dX10_twice_4 : decode cX10_twice 4 = .ok (.ifCond .eq 15, 3) := by decide +kernel
theorem dX10_twice_7 : decode cX10_twice 7 = .ok (.iload_n 2, 1) := by decide +kernel
theorem dX10_twice_8 : decode cX10_twice 8 = .ok (.invokestatic 105, 3) := by decide +kernel
theorem dX10_twice_11 : decode cX10_twice 11 = .ok (.ifCond .eq 8, 3) := by decide +kernel
theorem dX10_twice_14 : decode cX10_twice 14 = .ok (.iload_n 1, 1) := by decide +kernel
theorem dX10_twice_15 : decode cX10_twice 15 = .ok (.iload_n 2, 1) := by decide +kernel
theorem dX10_twice_16 : decode cX10_twice 16 = .ok (.if_icmp .ne 6, 3) := by decide +kernel
theorem dX10_twice_19 : decode cX10_twice 19 = .ok (.bipush (-2), 2) := by decide +kernel
theorem dX10_twice_21 : decode cX10_twice 21 = .ok (.ireturn, 1) := by decide +kernel
theorem dX10_twice_22 : decode cX10_twice 22 = .ok (.aload_n 0, 1) := by decide +kernel
theorem dX10_twice_23 : decode cX10_twice 23 = .ok (.getfield 44, 3) := by decide +kernel
theorem dX10_twice_26 : decode cX10_twice 26 = .ok (.invokevirtual 248, 3) := by decide +kernel
theorem dX10_twice_29 : decode cX10_twice 29 = .ok (.aload_n 0, 1) := by decide +kernel
theorem dX10_twice_30 : decode cX10_twice 30 = .ok (.getfield 44, 3) := by decide +kernel
theorem dX10_twice_33 : decode cX10_twice 33 = .ok (.getfield 249, 3) := by decide +kernel
theorem dX10_twice_36 : decode cX10_twice 36 = .ok (.iload_n 1, 1) := by decide +kernel
theorem dX10_twice_37 : decode cX10_twice 37 = .ok (.bipush 8, 2) := by decide +kernel
theorem dX10_twice_39 : decode cX10_twice 39 = .ok (.imul, 1) := by decide +kernel
theorem dX10_twice_40 : decode cX10_twice 40 = .ok (.iload_n 2, 1) := by decide +kernel
theorem dX10_twice_41 : decode cX10_twice 41 = .ok (.iadd, 1) := by decide +kernel
theorem dX10_twice_42 : decode cX10_twice 42 = .ok (.iaload, 1) := by decide +kernel
theorem dX10_twice_43 : decode cX10_twice 43 = .ok (.ireturn, 1) := by decide +kernel
def fX10_twice (x0_ : Int32) (x1_ : Int32) (s : Sg) : Option (Int32 × Sg) :=
  (fX10_isLane x0_ s).bind fun w1 =>
  if w1.1 = 0 then
  some ((-2 : Int32), w1.2)
  else
  (fX10_isLane x1_ w1.2).bind fun w3 =>
  if w3.1 = 0 then
  some ((-2 : Int32), w3.2)
  else
  if x0_ = x1_ then
  some ((-2 : Int32), w3.2)
  else
  (fX6_survey w3.2).bind fun w5 =>
  (aI w5 26 64 ((x0_ * (8 : Int32)) + x1_)).bind fun v6 =>
  some (v6, w5)
theorem ct_X10_twice {g : Gl} {x0_ : Int32} {x1_ : Int32} {s : Sg} {w : Int32 × Sg}  (h : fX10_twice x0_ x1_ s = some w) : Ct SS g iX10_twice 4 86 [.ref (gad g 0), .int x0_, .int x1_] s (Dt (some (.int w.1)) w.2) := by
  refine Ct.ofV (by decide +kernel) 0 (lv0 := [some (.ref (gad g 0)), some (.int x0_), some (.int x1_)]) rfl rfl (fun M hC => ?_)
  have hP : (Dt (some (.int w.1)) w.2) (some (.int w.1)) w.2 := ⟨rfl, rfl⟩
  generalize Dt (some (.int w.1)) w.2 = P at hP ⊢
  unfold fX10_twice at h
  refine v_iload_n (pc := 0) hC dX10_twice_0 rfl ?_
  obtain ⟨w1, hw1, h⟩ := obd_s h
  refine v_cS (pc := 1) [] [.int w1.1] gm_X10_isLane hC (ct_X10_isLane  hw1) ml_X10_105 rfl rfl rfl rfl rfl rfl dX10_twice_1 ?_
  refine v_if_eq (pc := 4) (tgt := 19) hC dX10_twice_4 rfl (fun c2 => ?_) (fun c2 => ?_)
  · replace h := (if_pos c2).symm.trans h
    refine v_bipush (pc := 19) (-2 : Int32) rfl hC dX10_twice_19 ?_
    obtain rfl := Option.some.inj h
    exact v_iret (pc := 21) hC rfl dX10_twice_21 hP
  · replace h := (if_neg c2).symm.trans h
    refine v_iload_n (pc := 7) hC dX10_twice_7 rfl ?_
    obtain ⟨w3, hw3, h⟩ := obd_s h
    refine v_cS (pc := 8) [] [.int w3.1] gm_X10_isLane hC (ct_X10_isLane  hw3) ml_X10_105 rfl rfl rfl rfl rfl rfl dX10_twice_8 ?_
    refine v_if_eq (pc := 11) (tgt := 19) hC dX10_twice_11 rfl (fun c4 => ?_) (fun c4 => ?_)
    · replace h := (if_pos c4).symm.trans h
      refine v_bipush (pc := 19) (-2 : Int32) rfl hC dX10_twice_19 ?_
      obtain rfl := Option.some.inj h
      exact v_iret (pc := 21) hC rfl dX10_twice_21 hP
    · replace h := (if_neg c4).symm.trans h
      refine v_iload_n (pc := 14) hC dX10_twice_14 rfl ?_
      refine v_iload_n (pc := 15) hC dX10_twice_15 rfl ?_
      refine v_ic_ne (pc := 16) (tgt := 22) hC dX10_twice_16 rfl (fun c7 => ?_) (fun c7 => ?_)
      · replace h := (if_neg c7).symm.trans h
        refine v_aload_n (pc := 22) hC dX10_twice_22 rfl ?_
        refine v_gt (pc := 23) 2 (.ref (gad g 25)) hC s_0 rfl rfl rfl rfl fl_X10_44 dX10_twice_23 ?_
        obtain ⟨w5, hw5, h⟩ := obd_s h
        refine v_cV (pc := 26) [] [] gm_X6_survey hC s_25 rfl rfl (ct_X6_survey  hw5) ml_X10_248 rfl rfl rfl rfl rfl rfl dX10_twice_26 ?_
        refine v_aload_n (pc := 29) hC dX10_twice_29 rfl ?_
        refine v_gt (pc := 30) 2 (.ref (gad g 25)) hC s_0 rfl rfl rfl rfl fl_X10_44 dX10_twice_30 ?_
        refine v_gtN (pc := 33) 2 (.ref (gad g 26)) hC s_25 rfl rfl rfl rfl fl_X10_249 dX10_twice_33 ?_
        refine v_iload_n (pc := 36) hC dX10_twice_36 rfl ?_
        refine v_bipush (pc := 37) (8 : Int32) rfl hC dX10_twice_37 ?_
        refine v_imul (pc := 39) hC dX10_twice_39 ?_
        refine v_iload_n (pc := 40) hC dX10_twice_40 rfl ?_
        refine v_iadd (pc := 41) hC dX10_twice_41 ?_
        obtain ⟨v6, hv6, h⟩ := obd_s h
        refine v_aI (pc := 42) hC s_26 hv6 dX10_twice_42 ?_
        obtain rfl := Option.some.inj h
        exact v_iret (pc := 43) hC rfl dX10_twice_43 hP
      · replace h := (if_pos c7).symm.trans h
        refine v_bipush (pc := 19) (-2 : Int32) rfl hC dX10_twice_19 ?_
        obtain rfl := Option.some.inj h
        exact v_iret (pc := 21) hC rfl dX10_twice_21 hP
theorem dX10_order_0 : decode cX10_order 0 = .ok (.iload_n 1, 1) := by decide +kernel
theorem dX10_order_1 : decode cX10_order 1 = .ok (.iconst (-1), 1) := by decide +kernel
theorem dX10_order_2 : decode cX10_order 2 = .ok (.bipush 7, 2) := by decide +kernel
theorem dX10_order_4 : decode cX10_order 4 = .ok (.invokestatic 126, 3) := by decide +kernel
theorem dX10_order_7 : decode cX10_order 7 = .ok (.ifCond .ne 6, 3) := by decide +kernel
theorem dX10_order_10 : decode cX10_order 10 = .ok (.bipush (-2), 2) := by decide +kernel
theorem dX10_order_12 : decode cX10_order 12 = .ok (.ireturn, 1) := by decide +kernel
theorem dX10_order_13 : decode cX10_order 13 = .ok (.aload_n 0, 1) := by decide +kernel
theorem dX10_order_14 : decode cX10_order 14 = .ok (.getfield 44, 3) := by decide +kernel
theorem dX10_order_17 : decode cX10_order 17 = .ok (.invokevirtual 248, 3) := by decide +kernel
theorem dX10_order_20 : decode cX10_order 20 = .ok (.aload_n 0, 1) := by decide +kernel
theorem dX10_order_21 : decode cX10_order 21 = .ok (.getfield 44, 3) := by decide +kernel
theorem dX10_order_24 : decode cX10_order 24 = .ok (.invokevirtual 252, 3) := by decide +kernel
theorem dX10_order_27 : decode cX10_order 27 = .ok (.iload_n 1, 1) := by decide +kernel
theorem dX10_order_28 : decode cX10_order 28 = .ok (.iconst (-1), 1) := by decide +kernel
theorem dX10_order_29 : decode cX10_order 29 = .ok (.if_icmp .ne 13, 3) := by decide +kernel
theorem dX10_order_32 : decode cX10_order 32 = .ok (.aload_n 0, 1) := by decide +kernel
theorem dX10_order_33 : decode cX10_order 33 = .ok (.getfield 44, 3) := by decide +kernel
theorem dX10_order_36 : decode cX10_order 36 = .ok (.getfield 255, 3) := by decide +kernel
theorem dX10_order_39 : decode cX10_order 39 = .ok (.goto 12, 3) := by decide +kernel
theorem dX10_order_42 : decode cX10_order 42 = .ok (.aload_n 0, 1) := by decide +kernel
theorem dX10_order_43 : decode cX10_order 43 = .ok (.getfield 44, 3) := by decide +kernel
theorem dX10_order_46 : decode cX10_order 46 = .ok (.getfield 258, 3) := by decide +kernel
theorem dX10_order_49 : decode cX10_order 49 = .ok (.iload_n 1, 1) := by decide +kernel
theorem dX10_order_50 : decode cX10_order 50 = .ok (.iaload, 1) := by decide +kernel
theorem dX10_order_51 : decode cX10_order 51 = .ok (.ireturn, 1) := by decide +kernel
def fX10_order (x0_ : Int32) (s : Sg) : Option (Int32 × Sg) :=
  (fX10_within x0_ (-1 : Int32) (7 : Int32) s).bind fun w1 =>
  if w1.1 = 0 then
  some ((-2 : Int32), w1.2)
  else
  (fX6_survey w1.2).bind fun w2 =>
  (fX6_arrange w2).bind fun w3 =>
  if x0_ = (-1 : Int32) then
  some ((gI w3 25 5), w3)
  else
  (aI w3 28 8 x0_).bind fun v4 =>
  some (v4, w3)
theorem ct_X10_order {g : Gl} {x0_ : Int32} {s : Sg} {w : Int32 × Sg}  (h : fX10_order x0_ s = some w) : Ct SS g iX10_order 4 86 [.ref (gad g 0), .int x0_] s (Dt (some (.int w.1)) w.2) := by
  refine Ct.ofV (by decide +kernel) 0 (lv0 := [some (.ref (gad g 0)), some (.int x0_)]) rfl rfl (fun M hC => ?_)
  have hP : (Dt (some (.int w.1)) w.2) (some (.int w.1)) w.2 := ⟨rfl, rfl⟩
  generalize Dt (some (.int w.1)) w.2 = P at hP ⊢
  unfold fX10_order at h
  refine v_iload_n (pc := 0) hC dX10_order_0 rfl ?_
  refine v_iconst (pc := 1) (-1 : Int32) rfl hC dX10_order_1 ?_
  refine v_bipush (pc := 2) (7 : Int32) rfl hC dX10_order_2 ?_
  obtain ⟨w1, hw1, h⟩ := obd_s h
  refine v_cS (pc := 4) [] [.int w1.1] gm_X10_within hC (ct_X10_within  hw1) ml_X10_126 rfl rfl rfl rfl rfl rfl dX10_order_4 ?_
  refine v_if_ne (pc := 7) (tgt := 13) hC dX10_order_7 rfl (fun c6 => ?_) (fun c6 => ?_)
  · replace h := (if_neg c6).symm.trans h
    refine v_aload_n (pc := 13) hC dX10_order_13 rfl ?_
    refine v_gt (pc := 14) 2 (.ref (gad g 25)) hC s_0 rfl rfl rfl rfl fl_X10_44 dX10_order_14 ?_
    obtain ⟨w2, hw2, h⟩ := obd_s h
    refine v_cV (pc := 17) [] [] gm_X6_survey hC s_25 rfl rfl (ct_X6_survey  hw2) ml_X10_248 rfl rfl rfl rfl rfl rfl dX10_order_17 ?_
    refine v_aload_n (pc := 20) hC dX10_order_20 rfl ?_
    refine v_gt (pc := 21) 2 (.ref (gad g 25)) hC s_0 rfl rfl rfl rfl fl_X10_44 dX10_order_21 ?_
    obtain ⟨w3, hw3, h⟩ := obd_s h
    refine v_cV (pc := 24) [] [] gm_X6_arrange hC s_25 rfl rfl (ct_X6_arrange  hw3) ml_X10_252 rfl rfl rfl rfl rfl rfl dX10_order_24 ?_
    refine v_iload_n (pc := 27) hC dX10_order_27 rfl ?_
    refine v_iconst (pc := 28) (-1 : Int32) rfl hC dX10_order_28 ?_
    refine v_ic_ne (pc := 29) (tgt := 42) hC dX10_order_29 rfl (fun c5 => ?_) (fun c5 => ?_)
    · replace h := (if_neg c5).symm.trans h
      refine v_aload_n (pc := 42) hC dX10_order_42 rfl ?_
      refine v_gt (pc := 43) 2 (.ref (gad g 25)) hC s_0 rfl rfl rfl rfl fl_X10_44 dX10_order_43 ?_
      refine v_gtN (pc := 46) 4 (.ref (gad g 28)) hC s_25 rfl rfl rfl rfl fl_X10_258 dX10_order_46 ?_
      refine v_iload_n (pc := 49) hC dX10_order_49 rfl ?_
      obtain ⟨v4, hv4, h⟩ := obd_s h
      refine v_aI (pc := 50) hC s_28 hv4 dX10_order_50 ?_
      obtain rfl := Option.some.inj h
      exact v_iret (pc := 51) hC rfl dX10_order_51 hP
    · replace h := (if_pos c5).symm.trans h
      refine v_aload_n (pc := 32) hC dX10_order_32 rfl ?_
      refine v_gt (pc := 33) 2 (.ref (gad g 25)) hC s_0 rfl rfl rfl rfl fl_X10_44 dX10_order_33 ?_
      refine v_gtN (pc := 36) 5 (.int (gI w3 25 5)) hC s_25 rfl rfl rfl rfl fl_X10_255 dX10_order_36 ?_
      refine v_goto (pc := 39) (tgt := 51) hC dX10_order_39 rfl ?_
      obtain rfl := Option.some.inj h
      exact v_iret (pc := 51) hC rfl dX10_order_51 hP
  · replace h := (if_pos c6).symm.trans h
    refine v_bipush (pc := 10) (-2 : Int32) rfl hC dX10_order_10 ?_
    obtain rfl := Option.some.inj h
    exact v_iret (pc := 12) hC rfl dX10_order_12 hP
theorem dX10_right_0 : decode cX10_right 0 = .ok (.aload_n 0, 1) := by decide +kernel
theorem dX10_right_1 : decode cX10_right 1 = .ok (.getfield 28, 3) := by decide +kernel
theorem dX10_right_4 : decode cX10_right 4 = .ok (.iload_n 1, 1) := by decide +kernel
theorem dX10_right_5 : decode cX10_right 5 = .ok (.invokevirtual 119, 3) := by decide +kernel
theorem dX10_right_8 : decode cX10_right 8 = .ok (.ifCond .eq 10, 3) := by decide +kernel
theorem dX10_right_11 : decode cX10_right 11 = .ok (.iload_n 2, 1) := by decide +kernel
theorem dX10_right_12 : decode cX10_right 12 = .ok (.invokestatic 182, 3) := by decide +kernel
theorem dX10_right_15 : decode cX10_right 15 = .ok (.ifCond .ne 9, 3) := by decide +kernel
theorem dX10_right_18 : decode cX10_right 18 = .ok (.bipush (-2), 2) := by decide +kernel
theorem dX10_right_20 : decode cX10_right 20 = .ok (.invokestatic 185, 3) := by decide +kernel
theorem dX10_right_23 : decode cX10_right 23 = .ok (.lreturn, 1) := by decide +kernel
theorem dX10_right_24 : decode cX10_right 24 = .ok (.aload_n 0, 1) := by decide +kernel
theorem dX10_right_25 : decode cX10_right 25 = .ok (.getfield 28, 3) := by decide +kernel
theorem dX10_right_28 : decode cX10_right 28 = .ok (.iload_n 1, 1) := by decide +kernel
theorem dX10_right_29 : decode cX10_right 29 = .ok (.invokevirtual 261, 3) := by decide +kernel
theorem dX10_right_32 : decode cX10_right 32 = .ok (.ifCond .ne 9, 3) := by decide +kernel
theorem dX10_right_35 : decode cX10_right 35 = .ok (.bipush (-3), 2) := by decide +kernel
theorem dX10_right_37 : decode cX10_right 37 = .ok (.invokestatic 185, 3) := by decide +kernel
theorem dX10_right_40 : decode cX10_right 40 = .ok (.lreturn, 1) := by decide +kernel
theorem dX10_right_41 : decode cX10_right 41 = .ok (.aload_n 0, 1) := by decide +kernel
theorem dX10_right_42 : decode cX10_right 42 = .ok (.getfield 37, 3) := by decide +kernel
theorem dX10_right_45 : decode cX10_right 45 = .ok (.invokevirtual 204, 3) := by decide +kernel
theorem dX10_right_48 : decode cX10_right 48 = .ok (.aload_n 0, 1) := by decide +kernel
theorem dX10_right_49 : decode cX10_right 49 = .ok (.getfield 44, 3) := by decide +kernel
theorem dX10_right_52 : decode cX10_right 52 = .ok (.invokevirtual 264, 3) := by decide +kernel
theorem dX10_right_55 : decode cX10_right 55 = .ok (.aload_n 0, 1) := by decide +kernel
theorem dX10_right_56 : decode cX10_right 56 = .ok (.getfield 79, 3) := by decide +kernel
theorem dX10_right_59 : decode cX10_right 59 = .ok (.aload_n 0, 1) := by decide +kernel
theorem dX10_right_60 : decode cX10_right 60 = .ok (.getfield 44, 3) := by decide +kernel
theorem dX10_right_63 : decode cX10_right 63 = .ok (.getfield 267, 3) := by decide +kernel
theorem dX10_right_66 : decode cX10_right 66 = .ok (.iload_n 1, 1) := by decide +kernel
theorem dX10_right_67 : decode cX10_right 67 = .ok (.laload, 1) := by decide +kernel
theorem dX10_right_68 : decode cX10_right 68 = .ok (.aload_n 0, 1) := by decide +kernel
theorem dX10_right_69 : decode cX10_right 69 = .ok (.getfield 44, 3) := by decide +kernel
theorem dX10_right_72 : decode cX10_right 72 = .ok (.getfield 271, 3) := by decide +kernel
theorem dX10_right_75 : decode cX10_right 75 = .ok (.invokevirtual 197, 3) := by decide +kernel
theorem dX10_right_78 : decode cX10_right 78 = .ok (.aload_n 0, 1) := by decide +kernel
theorem dX10_right_79 : decode cX10_right 79 = .ok (.getfield 79, 3) := by decide +kernel
theorem dX10_right_82 : decode cX10_right 82 = .ok (.iload_n 2, 1) := by decide +kernel
theorem dX10_right_83 : decode cX10_right 83 = .ok (.invokevirtual 201, 3) := by decide +kernel
theorem dX10_right_86 : decode cX10_right 86 = .ok (.lreturn, 1) := by decide +kernel
def fX10_right (x0_ : Int32) (x1_ : Int32) (s : Sg) : Option (Int64 × Sg) :=
  (fX3_hasSwim x0_ s).bind fun w1 =>
  if w1.1 = 0 then
  (fX10_refusal (-2 : Int32) w1.2).bind fun w2 =>
  some (w2.1, w2.2)
  else
  (fX10_isPart x1_ w1.2).bind fun w4 =>
  if w4.1 = 0 then
  (fX10_refusal (-2 : Int32) w4.2).bind fun w14 =>
  some (w14.1, w14.2)
  else
  (fX3_isSingle x0_ w4.2).bind fun w5 =>
  if w5.1 = 0 then
  (fX10_refusal (-3 : Int32) w5.2).bind fun w12 =>
  some (w12.1, w12.2)
  else
  (fX8_survey w5.2).bind fun w6 =>
  (fX6_putRight w6).bind fun w7 =>
  (aL w7 29 64 x0_).bind fun v8 =>
  (fX0_set v8 (gL w7 25 7) w7).bind fun w9 =>
  (fX0_part x1_ w9).bind fun w10 =>
  some (w10.1, w10.2)
theorem ct_X10_right {g : Gl} {x0_ : Int32} {x1_ : Int32} {s : Sg} {w : Int64 × Sg}  (h : fX10_right x0_ x1_ s = some w) : Ct SS g iX10_right 5 120 [.ref (gad g 0), .int x0_, .int x1_] s (Dt (some (.long w.1)) w.2) := by
  refine Ct.ofV (by decide +kernel) 0 (lv0 := [some (.ref (gad g 0)), some (.int x0_), some (.int x1_)]) rfl rfl (fun M hC => ?_)
  have hP : (Dt (some (.long w.1)) w.2) (some (.long w.1)) w.2 := ⟨rfl, rfl⟩
  generalize Dt (some (.long w.1)) w.2 = P at hP ⊢
  unfold fX10_right at h
  refine v_aload_n (pc := 0) hC dX10_right_0 rfl ?_
  refine v_gt (pc := 1) 0 (.ref (gad g 1)) hC s_0 rfl rfl rfl rfl fl_X10_28 dX10_right_1 ?_
  refine v_iload_n (pc := 4) hC dX10_right_4 rfl ?_
  obtain ⟨w1, hw1, h⟩ := obd_s h
  refine v_cV (pc := 5) [] [.int w1.1] gm_X3_hasSwim hC s_1 rfl rfl (ct_X3_hasSwim  hw1) ml_X10_119 rfl rfl rfl rfl rfl rfl dX10_right_5 ?_
  refine v_if_eq (pc := 8) (tgt := 18) hC dX10_right_8 rfl (fun c3 => ?_) (fun c3 => ?_)
  · replace h := (if_pos c3).symm.trans h
    refine v_bipush (pc := 18) (-2 : Int32) rfl hC dX10_right_18 ?_
    obtain ⟨w2, hw2, h⟩ := obd_s h
    refine v_cS (pc := 20) [] [.long w2.1] gm_X10_refusal hC (ct_X10_refusal  hw2) ml_X10_185 rfl rfl rfl rfl rfl rfl dX10_right_20 ?_
    obtain rfl := Option.some.inj h
    exact v_lret (pc := 23) hC rfl dX10_right_23 hP
  · replace h := (if_neg c3).symm.trans h
    refine v_iload_n (pc := 11) hC dX10_right_11 rfl ?_
    obtain ⟨w4, hw4, h⟩ := obd_s h
    refine v_cS (pc := 12) [] [.int w4.1] gm_X10_isPart hC (ct_X10_isPart  hw4) ml_X10_182 rfl rfl rfl rfl rfl rfl dX10_right_12 ?_
    refine v_if_ne (pc := 15) (tgt := 24) hC dX10_right_15 rfl (fun c13 => ?_) (fun c13 => ?_)
    · replace h := (if_neg c13).symm.trans h
      refine v_aload_n (pc := 24) hC dX10_right_24 rfl ?_
      refine v_gt (pc := 25) 0 (.ref (gad g 1)) hC s_0 rfl rfl rfl rfl fl_X10_28 dX10_right_25 ?_
      refine v_iload_n (pc := 28) hC dX10_right_28 rfl ?_
      obtain ⟨w5, hw5, h⟩ := obd_s h
      refine v_cV (pc := 29) [] [.int w5.1] gm_X3_isSingle hC s_1 rfl rfl (ct_X3_isSingle  hw5) ml_X10_261 rfl rfl rfl rfl rfl rfl dX10_right_29 ?_
      refine v_if_ne (pc := 32) (tgt := 41) hC dX10_right_32 rfl (fun c11 => ?_) (fun c11 => ?_)
      · replace h := (if_neg c11).symm.trans h
        refine v_aload_n (pc := 41) hC dX10_right_41 rfl ?_
        refine v_gt (pc := 42) 1 (.ref (gad g 19)) hC s_0 rfl rfl rfl rfl fl_X10_37 dX10_right_42 ?_
        obtain ⟨w6, hw6, h⟩ := obd_s h
        refine v_cV (pc := 45) [] [] gm_X8_survey hC s_19 rfl rfl (ct_X8_survey  hw6) ml_X10_204 rfl rfl rfl rfl rfl rfl dX10_right_45 ?_
        refine v_aload_n (pc := 48) hC dX10_right_48 rfl ?_
        refine v_gt (pc := 49) 2 (.ref (gad g 25)) hC s_0 rfl rfl rfl rfl fl_X10_44 dX10_right_49 ?_
        obtain ⟨w7, hw7, h⟩ := obd_s h
        refine v_cV (pc := 52) [] [] gm_X6_putRight hC s_25 rfl rfl (ct_X6_putRight  hw7) ml_X10_264 rfl rfl rfl rfl rfl rfl dX10_right_52 ?_
        refine v_aload_n (pc := 55) hC dX10_right_55 rfl ?_
        refine v_gt (pc := 56) 8 (.ref (gad g 48)) hC s_0 rfl rfl rfl rfl fl_X10_79 dX10_right_56 ?_
        refine v_aload_n (pc := 59) hC dX10_right_59 rfl ?_
        refine v_gt (pc := 60) 2 (.ref (gad g 25)) hC s_0 rfl rfl rfl rfl fl_X10_44 dX10_right_60 ?_
        refine v_gtN (pc := 63) 6 (.ref (gad g 29)) hC s_25 rfl rfl rfl rfl fl_X10_267 dX10_right_63 ?_
        refine v_iload_n (pc := 66) hC dX10_right_66 rfl ?_
        obtain ⟨v8, hv8, h⟩ := obd_s h
        refine v_aL (pc := 67) hC s_29 hv8 dX10_right_67 ?_
        refine v_aload_n (pc := 68) hC dX10_right_68 rfl ?_
        refine v_gt (pc := 69) 2 (.ref (gad g 25)) hC s_0 rfl rfl rfl rfl fl_X10_44 dX10_right_69 ?_
        refine v_gtN (pc := 72) 7 (.long (gL w7 25 7)) hC s_25 rfl rfl rfl rfl fl_X10_271 dX10_right_72 ?_
        obtain ⟨w9, hw9, h⟩ := obd_s h
        refine v_cV (pc := 75) [] [] gm_X0_set hC s_48 rfl rfl (ct_X0_set  hw9) ml_X10_197 rfl rfl rfl rfl rfl rfl dX10_right_75 ?_
        refine v_aload_n (pc := 78) hC dX10_right_78 rfl ?_
        refine v_gt (pc := 79) 8 (.ref (gad g 48)) hC s_0 rfl rfl rfl rfl fl_X10_79 dX10_right_79 ?_
        refine v_iload_n (pc := 82) hC dX10_right_82 rfl ?_
        obtain ⟨w10, hw10, h⟩ := obd_s h
        refine v_cV (pc := 83) [] [.long w10.1] gm_X0_part hC s_48 rfl rfl (ct_X0_part  hw10) ml_X10_201 rfl rfl rfl rfl rfl rfl dX10_right_83 ?_
        obtain rfl := Option.some.inj h
        exact v_lret (pc := 86) hC rfl dX10_right_86 hP
      · replace h := (if_pos c11).symm.trans h
        refine v_bipush (pc := 35) (-3 : Int32) rfl hC dX10_right_35 ?_
        obtain ⟨w12, hw12, h⟩ := obd_s h
        refine v_cS (pc := 37) [] [.long w12.1] gm_X10_refusal hC (ct_X10_refusal  hw12) ml_X10_185 rfl rfl rfl rfl rfl rfl dX10_right_37 ?_
        obtain rfl := Option.some.inj h
        exact v_lret (pc := 40) hC rfl dX10_right_40 hP
    · replace h := (if_pos c13).symm.trans h
      refine v_bipush (pc := 18) (-2 : Int32) rfl hC dX10_right_18 ?_
      obtain ⟨w14, hw14, h⟩ := obd_s h
      refine v_cS (pc := 20) [] [.long w14.1] gm_X10_refusal hC (ct_X10_refusal  hw14) ml_X10_185 rfl rfl rfl rfl rfl rfl dX10_right_20 ?_
      obtain rfl := Option.some.inj h
      exact v_lret (pc := 23) hC rfl dX10_right_23 hP
theorem dX10_place_0 : decode cX10_place 0 = .ok (.aload_n 0, 1) := by decide +kernel
theorem dX10_place_1 : decode cX10_place 1 = .ok (.getfield 28, 3) := by decide +kernel
theorem dX10_place_4 : decode cX10_place 4 = .ok (.iload_n 1, 1) := by decide +kernel
theorem dX10_place_5 : decode cX10_place 5 = .ok (.invokevirtual 119, 3) := by decide +kernel
theorem dX10_place_8 : decode cX10_place 8 = .ok (.ifCond .eq 10, 3) := by decide +kernel
theorem dX10_place_11 : decode cX10_place 11 = .ok (.iload_n 2, 1) := by decide +kernel
theorem dX10_place_12 : decode cX10_place 12 = .ok (.invokestatic 182, 3) := by decide +kernel
theorem dX10_place_15 : decode cX10_place 15 = .ok (.ifCond .ne 6, 3) := by decide +kernel
theorem dX10_place_18 : decode cX10_place 18 = .ok (.bipush (-2), 2) := by decide +kernel
theorem dX10_place_20 : decode cX10_place 20 = .ok (.ireturn, 1) := by decide +kernel
theorem dX10_place_21 : decode cX10_place 21 = .ok (.aload_n 0, 1) := by decide +kernel
theorem dX10_place_22 : decode cX10_place 22 = .ok (.getfield 28, 3) := by decide +kernel
theorem dX10_place_25 : decode cX10_place 25 = .ok (.iload_n 1, 1) := by decide +kernel
theorem dX10_place_26 : decode cX10_place 26 = .ok (.invokevirtual 261, 3) := by decide +kernel
theorem dX10_place_29 : decode cX10_place 29 = .ok (.ifCond .ne 6, 3) := by decide +kernel
theorem dX10_place_32 : decode cX10_place 32 = .ok (.bipush (-3), 2) := by decide +kernel
theorem dX10_place_34 : decode cX10_place 34 = .ok (.ireturn, 1) := by decide +kernel
theorem dX10_place_35 : decode cX10_place 35 = .ok (.aload_n 0, 1) := by decide +kernel
theorem dX10_place_36 : decode cX10_place 36 = .ok (.getfield 37, 3) := by decide +kernel
theorem dX10_place_39 : decode cX10_place 39 = .ok (.invokevirtual 204, 3) := by decide +kernel
theorem dX10_place_42 : decode cX10_place 42 = .ok (.aload_n 0, 1) := by decide +kernel
theorem dX10_place_43 : decode cX10_place 43 = .ok (.getfield 44, 3) := by decide +kernel
theorem dX10_place_46 : decode cX10_place 46 = .ok (.invokevirtual 264, 3) := by decide +kernel
theorem dX10_place_49 : decode cX10_place 49 = .ok (.aload_n 0, 1) := by decide +kernel
theorem dX10_place_50 : decode cX10_place 50 = .ok (.getfield 44, 3) := by decide +kernel
theorem dX10_place_53 : decode cX10_place 53 = .ok (.iload_n 1, 1) := by decide +kernel
theorem dX10_place_54 : decode cX10_place 54 = .ok (.iload_n 2, 1) := by decide +kernel
theorem dX10_place_55 : decode cX10_place 55 = .ok (.invokevirtual 274, 3) := by decide +kernel
theorem dX10_place_58 : decode cX10_place 58 = .ok (.ireturn, 1) := by decide +kernel
def fX10_place (x0_ : Int32) (x1_ : Int32) (s : Sg) : Option (Int32 × Sg) :=
  (fX3_hasSwim x0_ s).bind fun w1 =>
  if w1.1 = 0 then
  some ((-2 : Int32), w1.2)
  else
  (fX10_isPart x1_ w1.2).bind fun w3 =>
  if w3.1 = 0 then
  some ((-2 : Int32), w3.2)
  else
  (fX3_isSingle x0_ w3.2).bind fun w4 =>
  if w4.1 = 0 then
  some ((-3 : Int32), w4.2)
  else
  (fX8_survey w4.2).bind fun w5 =>
  (fX6_putRight w5).bind fun w6 =>
  (fX6_placeOf x0_ x1_ w6).bind fun w7 =>
  some (w7.1, w7.2)
theorem ct_X10_place {g : Gl} {x0_ : Int32} {x1_ : Int32} {s : Sg} {w : Int32 × Sg}  (h : fX10_place x0_ x1_ s = some w) : Ct SS g iX10_place 5 120 [.ref (gad g 0), .int x0_, .int x1_] s (Dt (some (.int w.1)) w.2) := by
  refine Ct.ofV (by decide +kernel) 0 (lv0 := [some (.ref (gad g 0)), some (.int x0_), some (.int x1_)]) rfl rfl (fun M hC => ?_)
  have hP : (Dt (some (.int w.1)) w.2) (some (.int w.1)) w.2 := ⟨rfl, rfl⟩
  generalize Dt (some (.int w.1)) w.2 = P at hP ⊢
  unfold fX10_place at h
  refine v_aload_n (pc := 0) hC dX10_place_0 rfl ?_
  refine v_gt (pc := 1) 0 (.ref (gad g 1)) hC s_0 rfl rfl rfl rfl fl_X10_28 dX10_place_1 ?_
  refine v_iload_n (pc := 4) hC dX10_place_4 rfl ?_
  obtain ⟨w1, hw1, h⟩ := obd_s h
  refine v_cV (pc := 5) [] [.int w1.1] gm_X3_hasSwim hC s_1 rfl rfl (ct_X3_hasSwim  hw1) ml_X10_119 rfl rfl rfl rfl rfl rfl dX10_place_5 ?_
  refine v_if_eq (pc := 8) (tgt := 18) hC dX10_place_8 rfl (fun c2 => ?_) (fun c2 => ?_)
  · replace h := (if_pos c2).symm.trans h
    refine v_bipush (pc := 18) (-2 : Int32) rfl hC dX10_place_18 ?_
    obtain rfl := Option.some.inj h
    exact v_iret (pc := 20) hC rfl dX10_place_20 hP
  · replace h := (if_neg c2).symm.trans h
    refine v_iload_n (pc := 11) hC dX10_place_11 rfl ?_
    obtain ⟨w3, hw3, h⟩ := obd_s h
    refine v_cS (pc := 12) [] [.int w3.1] gm_X10_isPart hC (ct_X10_isPart  hw3) ml_X10_182 rfl rfl rfl rfl rfl rfl dX10_place_12 ?_
    refine v_if_ne (pc := 15) (tgt := 21) hC dX10_place_15 rfl (fun c9 => ?_) (fun c9 => ?_)
    · replace h := (if_neg c9).symm.trans h
      refine v_aload_n (pc := 21) hC dX10_place_21 rfl ?_
      refine v_gt (pc := 22) 0 (.ref (gad g 1)) hC s_0 rfl rfl rfl rfl fl_X10_28 dX10_place_22 ?_
      refine v_iload_n (pc := 25) hC dX10_place_25 rfl ?_
      obtain ⟨w4, hw4, h⟩ := obd_s h
      refine v_cV (pc := 26) [] [.int w4.1] gm_X3_isSingle hC s_1 rfl rfl (ct_X3_isSingle  hw4) ml_X10_261 rfl rfl rfl rfl rfl rfl dX10_place_26 ?_
      refine v_if_ne (pc := 29) (tgt := 35) hC dX10_place_29 rfl (fun c8 => ?_) (fun c8 => ?_)
      · replace h := (if_neg c8).symm.trans h
        refine v_aload_n (pc := 35) hC dX10_place_35 rfl ?_
        refine v_gt (pc := 36) 1 (.ref (gad g 19)) hC s_0 rfl rfl rfl rfl fl_X10_37 dX10_place_36 ?_
        obtain ⟨w5, hw5, h⟩ := obd_s h
        refine v_cV (pc := 39) [] [] gm_X8_survey hC s_19 rfl rfl (ct_X8_survey  hw5) ml_X10_204 rfl rfl rfl rfl rfl rfl dX10_place_39 ?_
        refine v_aload_n (pc := 42) hC dX10_place_42 rfl ?_
        refine v_gt (pc := 43) 2 (.ref (gad g 25)) hC s_0 rfl rfl rfl rfl fl_X10_44 dX10_place_43 ?_
        obtain ⟨w6, hw6, h⟩ := obd_s h
        refine v_cV (pc := 46) [] [] gm_X6_putRight hC s_25 rfl rfl (ct_X6_putRight  hw6) ml_X10_264 rfl rfl rfl rfl rfl rfl dX10_place_46 ?_
        refine v_aload_n (pc := 49) hC dX10_place_49 rfl ?_
        refine v_gt (pc := 50) 2 (.ref (gad g 25)) hC s_0 rfl rfl rfl rfl fl_X10_44 dX10_place_50 ?_
        refine v_iload_n (pc := 53) hC dX10_place_53 rfl ?_
        refine v_iload_n (pc := 54) hC dX10_place_54 rfl ?_
        obtain ⟨w7, hw7, h⟩ := obd_s h
        refine v_cV (pc := 55) [] [.int w7.1] gm_X6_placeOf hC s_25 rfl rfl (ct_X6_placeOf  hw7) ml_X10_274 rfl rfl rfl rfl rfl rfl dX10_place_55 ?_
        obtain rfl := Option.some.inj h
        exact v_iret (pc := 58) hC rfl dX10_place_58 hP
      · replace h := (if_pos c8).symm.trans h
        refine v_bipush (pc := 32) (-3 : Int32) rfl hC dX10_place_32 ?_
        obtain rfl := Option.some.inj h
        exact v_iret (pc := 34) hC rfl dX10_place_34 hP
    · replace h := (if_pos c9).symm.trans h
      refine v_bipush (pc := 18) (-2 : Int32) rfl hC dX10_place_18 ?_
      obtain rfl := Option.some.inj h
      exact v_iret (pc := 20) hC rfl dX10_place_20 hP
theorem dX10_medals_0 : decode cX10_medals 0 = .ok (.aload_n 0, 1) := by decide +kernel
theorem dX10_medals_1 : decode cX10_medals 1 = .ok (.getfield 28, 3) := by decide +kernel
theorem dX10_medals_4 : decode cX10_medals 4 = .ok (.iload_n 1, 1) := by decide +kernel
theorem dX10_medals_5 : decode cX10_medals 5 = .ok (.invokevirtual 98, 3) := by decide +kernel
theorem dX10_medals_8 : decode cX10_medals 8 = .ok (.ifCond .ne 6, 3) := by decide +kernel
theorem dX10_medals_11 : decode cX10_medals 11 = .ok (.bipush (-2), 2) := by decide +kernel
theorem dX10_medals_13 : decode cX10_medals 13 = .ok (.ireturn, 1) := by decide +kernel
theorem dX10_medals_14 : decode cX10_medals 14 = .ok (.aload_n 0, 1) := by decide +kernel
theorem dX10_medals_15 : decode cX10_medals 15 = .ok (.getfield 37, 3) := by decide +kernel
theorem dX10_medals_18 : decode cX10_medals 18 = .ok (.invokevirtual 204, 3) := by decide +kernel
theorem dX10_medals_21 : decode cX10_medals 21 = .ok (.aload_n 0, 1) := by decide +kernel
theorem dX10_medals_22 : decode cX10_medals 22 = .ok (.getfield 44, 3) := by decide +kernel
theorem dX10_medals_25 : decode cX10_medals 25 = .ok (.invokevirtual 264, 3) := by decide +kernel
theorem dX10_medals_28 : decode cX10_medals 28 = .ok (.aload_n 0, 1) := by decide +kernel
theorem dX10_medals_29 : decode cX10_medals 29 = .ok (.getfield 44, 3) := by decide +kernel
theorem dX10_medals_32 : decode cX10_medals 32 = .ok (.iload_n 1, 1) := by decide +kernel
theorem dX10_medals_33 : decode cX10_medals 33 = .ok (.invokevirtual 277, 3) := by decide +kernel
theorem dX10_medals_36 : decode cX10_medals 36 = .ok (.ireturn, 1) := by decide +kernel
def fX10_medals (x0_ : Int32) (s : Sg) : Option (Int32 × Sg) :=
  (fX3_hasRace x0_ s).bind fun w1 =>
  if w1.1 = 0 then
  some ((-2 : Int32), w1.2)
  else
  (fX8_survey w1.2).bind fun w2 =>
  (fX6_putRight w2).bind fun w3 =>
  (fX6_changedMedals x0_ w3).bind fun w4 =>
  some (w4.1, w4.2)
theorem ct_X10_medals {g : Gl} {x0_ : Int32} {s : Sg} {w : Int32 × Sg}  (h : fX10_medals x0_ s = some w) : Ct SS g iX10_medals 5 120 [.ref (gad g 0), .int x0_] s (Dt (some (.int w.1)) w.2) := by
  refine Ct.ofV (by decide +kernel) 0 (lv0 := [some (.ref (gad g 0)), some (.int x0_)]) rfl rfl (fun M hC => ?_)
  have hP : (Dt (some (.int w.1)) w.2) (some (.int w.1)) w.2 := ⟨rfl, rfl⟩
  generalize Dt (some (.int w.1)) w.2 = P at hP ⊢
  unfold fX10_medals at h
  refine v_aload_n (pc := 0) hC dX10_medals_0 rfl ?_
  refine v_gt (pc := 1) 0 (.ref (gad g 1)) hC s_0 rfl rfl rfl rfl fl_X10_28 dX10_medals_1 ?_
  refine v_iload_n (pc := 4) hC dX10_medals_4 rfl ?_
  obtain ⟨w1, hw1, h⟩ := obd_s h
  refine v_cV (pc := 5) [] [.int w1.1] gm_X3_hasRace hC s_1 rfl rfl (ct_X3_hasRace  hw1) ml_X10_98 rfl rfl rfl rfl rfl rfl dX10_medals_5 ?_
  refine v_if_ne (pc := 8) (tgt := 14) hC dX10_medals_8 rfl (fun c5 => ?_) (fun c5 => ?_)
  · replace h := (if_neg c5).symm.trans h
    refine v_aload_n (pc := 14) hC dX10_medals_14 rfl ?_
    refine v_gt (pc := 15) 1 (.ref (gad g 19)) hC s_0 rfl rfl rfl rfl fl_X10_37 dX10_medals_15 ?_
    obtain ⟨w2, hw2, h⟩ := obd_s h
    refine v_cV (pc := 18) [] [] gm_X8_survey hC s_19 rfl rfl (ct_X8_survey  hw2) ml_X10_204 rfl rfl rfl rfl rfl rfl dX10_medals_18 ?_
    refine v_aload_n (pc := 21) hC dX10_medals_21 rfl ?_
    refine v_gt (pc := 22) 2 (.ref (gad g 25)) hC s_0 rfl rfl rfl rfl fl_X10_44 dX10_medals_22 ?_
    obtain ⟨w3, hw3, h⟩ := obd_s h
    refine v_cV (pc := 25) [] [] gm_X6_putRight hC s_25 rfl rfl (ct_X6_putRight  hw3) ml_X10_264 rfl rfl rfl rfl rfl rfl dX10_medals_25 ?_
    refine v_aload_n (pc := 28) hC dX10_medals_28 rfl ?_
    refine v_gt (pc := 29) 2 (.ref (gad g 25)) hC s_0 rfl rfl rfl rfl fl_X10_44 dX10_medals_29 ?_
    refine v_iload_n (pc := 32) hC dX10_medals_32 rfl ?_
    obtain ⟨w4, hw4, h⟩ := obd_s h
    refine v_cV (pc := 33) [] [.int w4.1] gm_X6_changedMedals hC s_25 rfl rfl (ct_X6_changedMedals  hw4) ml_X10_277 rfl rfl rfl rfl rfl rfl dX10_medals_33 ?_
    obtain rfl := Option.some.inj h
    exact v_iret (pc := 36) hC rfl dX10_medals_36 hP
  · replace h := (if_pos c5).symm.trans h
    refine v_bipush (pc := 11) (-2 : Int32) rfl hC dX10_medals_11 ?_
    obtain rfl := Option.some.inj h
    exact v_iret (pc := 13) hC rfl dX10_medals_13 hP
theorem dX10_isText_0 : decode cX10_isText 0 = .ok (.iload_n 0, 1) := by decide +kernel
theorem dX10_isText_1 : decode cX10_isText 1 = .ok (.iconst 0, 1) := by decide +kernel
theorem dX10_isText_2 : decode cX10_isText 2 = .ok (.iconst 1, 1) := by decide +kernel
theorem dX10_isText_3 : decode cX10_isText 3 = .ok (.invokestatic 126, 3) := by decide +kernel
theorem dX10_isText_6 : decode cX10_isText 6 = .ok (.ireturn, 1) := by decide +kernel
def fX10_isText (x0_ : Int32) (s : Sg) : Option (Int32 × Sg) :=
  (fX10_within x0_ (0 : Int32) (1 : Int32) s).bind fun w1 =>
  (zr w1.1).bind fun z2 =>
  some (z2, w1.2)
theorem ct_X10_isText {g : Gl} {x0_ : Int32} {s : Sg} {w : Int32 × Sg}  (h : fX10_isText x0_ s = some w) : Ct SS g iX10_isText 1 22 [.int x0_] s (Dt (some (.int w.1)) w.2) := by
  refine Ct.ofV (by decide +kernel) 0 (lv0 := [some (.int x0_)]) rfl rfl (fun M hC => ?_)
  have hP : (Dt (some (.int w.1)) w.2) (some (.int w.1)) w.2 := ⟨rfl, rfl⟩
  generalize Dt (some (.int w.1)) w.2 = P at hP ⊢
  unfold fX10_isText at h
  refine v_iload_n (pc := 0) hC dX10_isText_0 rfl ?_
  refine v_iconst (pc := 1) (0 : Int32) rfl hC dX10_isText_1 ?_
  refine v_iconst (pc := 2) (1 : Int32) rfl hC dX10_isText_2 ?_
  obtain ⟨w1, hw1, h⟩ := obd_s h
  refine v_cS (pc := 3) [] [.int w1.1] gm_X10_within hC (ct_X10_within  hw1) ml_X10_126 rfl rfl rfl rfl rfl rfl dX10_isText_3 ?_
  obtain ⟨z2, hz2, h⟩ := obd_s h
  obtain rfl := Option.some.inj h
  exact v_zr (pc := 6) hC rfl hz2 dX10_isText_6 hP
theorem dX10_type_0 : decode cX10_type 0 = .ok (.iload_n 1, 1) := by decide +kernel
theorem dX10_type_1 : decode cX10_type 1 = .ok (.invokestatic 280, 3) := by decide +kernel
theorem dX10_type_4 : decode cX10_type 4 = .ok (.ifCond .eq 14, 3) := by decide +kernel
theorem dX10_type_7 : decode cX10_type 7 = .ok (.iload_n 2, 1) := by decide +kernel
theorem dX10_type_8 : decode cX10_type 8 = .ok (.iconst 0, 1) := by decide +kernel
theorem dX10_type_9 : decode cX10_type 9 = .ok (.sipush 255, 3) := by decide +kernel
theorem dX10_type_12 : decode cX10_type 12 = .ok (.invokestatic 126, 3) := by decide +kernel
theorem dX10_type_15 : decode cX10_type 15 = .ok (.ifCond .ne 6, 3) := by decide +kernel
theorem dX10_type_18 : decode cX10_type 18 = .ok (.bipush (-2), 2) := by decide +kernel
theorem dX10_type_20 : decode cX10_type 20 = .ok (.ireturn, 1) := by decide +kernel
theorem dX10_type_21 : decode cX10_type 21 = .ok (.aload_n 0, 1) := by decide +kernel
theorem dX10_type_22 : decode cX10_type 22 = .ok (.getfield 48, 3) := by decide +kernel
theorem dX10_type_25 : decode cX10_type 25 = .ok (.iload_n 1, 1) := by decide +kernel
theorem dX10_type_26 : decode cX10_type 26 = .ok (.aaload, 1) := by decide +kernel
theorem dX10_type_27 : decode cX10_type 27 = .ok (.invokevirtual 283, 3) := by decide +kernel
theorem dX10_type_30 : decode cX10_type 30 = .ok (.ifCond .eq 6, 3) := by decide +kernel
theorem dX10_type_33 : decode cX10_type 33 = .ok (.bipush (-4), 2) := by decide +kernel
theorem dX10_type_35 : decode cX10_type 35 = .ok (.ireturn, 1) := by decide +kernel
theorem dX10_type_36 : decode cX10_type 36 = .ok (.aload_n 0, 1) := by decide +kernel
theorem dX10_type_37 : decode cX10_type 37 = .ok (.getfield 48, 3) := by decide +kernel
theorem dX10_type_40 : decode cX10_type 40 = .ok (.iload_n 1, 1) := by decide +kernel
theorem dX10_type_41 : decode cX10_type 41 = .ok (.aaload, 1) := by decide +kernel
theorem dX10_type_42 : decode cX10_type 42 = .ok (.iload_n 2, 1) := by decide +kernel
theorem dX10_type_43 : decode cX10_type 43 = .ok (.invokevirtual 287, 3) := by decide +kernel
theorem dX10_type_46 : decode cX10_type 46 = .ok (.ireturn, 1) := by decide +kernel
def fX10_type (x0_ : Int32) (x1_ : Int32) (s : Sg) : Option (Int32 × Sg) :=
  (fX10_isText x0_ s).bind fun w1 =>
  if w1.1 = 0 then
  some ((-2 : Int32), w1.2)
  else
  (fX10_within x1_ (0 : Int32) (255 : Int32) w1.2).bind fun w3 =>
  if w3.1 = 0 then
  some ((-2 : Int32), w3.2)
  else
  (aR 2 x0_).bind fun k4 =>
  (fX7_isFull (rix 0 k4) (tlen k4) w3.2).bind fun w6 =>
  if w6.1 = 0 then
  (aR 2 x0_).bind fun k7 =>
  (fX7_append (rix 0 k7) (tlen k7) x1_ w6.2).bind fun w9 =>
  some (w9.1, w9.2)
  else
  some ((-4 : Int32), w6.2)
theorem ct_X10_type {g : Gl} {x0_ : Int32} {x1_ : Int32} {s : Sg} {w : Int32 × Sg}  (h : fX10_type x0_ x1_ s = some w) : Ct SS g iX10_type 2 42 [.ref (gad g 0), .int x0_, .int x1_] s (Dt (some (.int w.1)) w.2) := by
  refine Ct.ofV (by decide +kernel) 0 (lv0 := [some (.ref (gad g 0)), some (.int x0_), some (.int x1_)]) rfl rfl (fun M hC => ?_)
  have hP : (Dt (some (.int w.1)) w.2) (some (.int w.1)) w.2 := ⟨rfl, rfl⟩
  generalize Dt (some (.int w.1)) w.2 = P at hP ⊢
  unfold fX10_type at h
  refine v_iload_n (pc := 0) hC dX10_type_0 rfl ?_
  obtain ⟨w1, hw1, h⟩ := obd_s h
  refine v_cS (pc := 1) [] [.int w1.1] gm_X10_isText hC (ct_X10_isText  hw1) ml_X10_280 rfl rfl rfl rfl rfl rfl dX10_type_1 ?_
  refine v_if_eq (pc := 4) (tgt := 18) hC dX10_type_4 rfl (fun c2 => ?_) (fun c2 => ?_)
  · replace h := (if_pos c2).symm.trans h
    refine v_bipush (pc := 18) (-2 : Int32) rfl hC dX10_type_18 ?_
    obtain rfl := Option.some.inj h
    exact v_iret (pc := 20) hC rfl dX10_type_20 hP
  · replace h := (if_neg c2).symm.trans h
    refine v_iload_n (pc := 7) hC dX10_type_7 rfl ?_
    refine v_iconst (pc := 8) (0 : Int32) rfl hC dX10_type_8 ?_
    refine v_sipush (pc := 9) (255 : Int32) rfl hC dX10_type_9 ?_
    obtain ⟨w3, hw3, h⟩ := obd_s h
    refine v_cS (pc := 12) [] [.int w3.1] gm_X10_within hC (ct_X10_within  hw3) ml_X10_126 rfl rfl rfl rfl rfl rfl dX10_type_12 ?_
    refine v_if_ne (pc := 15) (tgt := 21) hC dX10_type_15 rfl (fun c11 => ?_) (fun c11 => ?_)
    · replace h := (if_neg c11).symm.trans h
      refine v_aload_n (pc := 21) hC dX10_type_21 rfl ?_
      refine v_gt (pc := 22) 3 (.ref (gad g 38)) hC s_0 rfl rfl rfl rfl fl_X10_48 dX10_type_22 ?_
      refine v_iload_n (pc := 25) hC dX10_type_25 rfl ?_
      obtain ⟨k4, hk4, h⟩ := obd_s h
      have hb5 := tx_of (aR_lt hk4)
      refine v_aR (pc := 26) (t := 0) (C := "LaneFour$Text") hC s_38 rfl hk4 dX10_type_26 ?_
      obtain ⟨w6, hw6, h⟩ := obd_s h
      refine v_cV (pc := 27) [] [.int w6.1] gm_X7_isFull hC hb5.1 rfl rfl (ct_X7_isFull hb5 hw6) ml_X10_283 rfl rfl rfl rfl rfl rfl dX10_type_27 ?_
      refine v_if_eq (pc := 30) (tgt := 36) hC dX10_type_30 rfl (fun c10 => ?_) (fun c10 => ?_)
      · replace h := (if_pos c10).symm.trans h
        refine v_aload_n (pc := 36) hC dX10_type_36 rfl ?_
        refine v_gt (pc := 37) 3 (.ref (gad g 38)) hC s_0 rfl rfl rfl rfl fl_X10_48 dX10_type_37 ?_
        refine v_iload_n (pc := 40) hC dX10_type_40 rfl ?_
        obtain ⟨k7, hk7, h⟩ := obd_s h
        have hb8 := tx_of (aR_lt hk7)
        refine v_aR (pc := 41) (t := 0) (C := "LaneFour$Text") hC s_38 rfl hk7 dX10_type_41 ?_
        refine v_iload_n (pc := 42) hC dX10_type_42 rfl ?_
        obtain ⟨w9, hw9, h⟩ := obd_s h
        refine v_cV (pc := 43) [] [.int w9.1] gm_X7_append hC hb8.1 rfl rfl (ct_X7_append hb8 hw9) ml_X10_287 rfl rfl rfl rfl rfl rfl dX10_type_43 ?_
        obtain rfl := Option.some.inj h
        exact v_iret (pc := 46) hC rfl dX10_type_46 hP
      · replace h := (if_neg c10).symm.trans h
        refine v_bipush (pc := 33) (-4 : Int32) rfl hC dX10_type_33 ?_
        obtain rfl := Option.some.inj h
        exact v_iret (pc := 35) hC rfl dX10_type_35 hP
    · replace h := (if_pos c11).symm.trans h
      refine v_bipush (pc := 18) (-2 : Int32) rfl hC dX10_type_18 ?_
      obtain rfl := Option.some.inj h
      exact v_iret (pc := 20) hC rfl dX10_type_20 hP
theorem dX10_wipe_0 : decode cX10_wipe 0 = .ok (.iload_n 1, 1) := by decide +kernel
theorem dX10_wipe_1 : decode cX10_wipe 1 = .ok (.invokestatic 280, 3) := by decide +kernel
theorem dX10_wipe_4 : decode cX10_wipe 4 = .ok (.ifCond .ne 6, 3) := by decide +kernel
theorem dX10_wipe_7 : decode cX10_wipe 7 = .ok (.bipush (-2), 2) := by decide +kernel
theorem dX10_wipe_9 : decode cX10_wipe 9 = .ok (.ireturn, 1) := by decide +kernel
theorem dX10_wipe_10 : decode cX10_wipe 10 = .ok (.aload_n 0, 1) := by decide +kernel
theorem dX10_wipe_11 : decode cX10_wipe 11 = .ok (.getfield 48, 3) := by decide +kernel
theorem dX10_wipe_14 : decode cX10_wipe 14 = .ok (.iload_n 1, 1) := by decide +kernel
theorem dX10_wipe_15 : decode cX10_wipe 15 = .ok (.aaload, 1) := by decide +kernel
theorem dX10_wipe_16 : decode cX10_wipe 16 = .ok (.invokevirtual 290, 3) := by decide +kernel
theorem dX10_wipe_19 : decode cX10_wipe 19 = .ok (.ireturn, 1) := by decide +kernel
def fX10_wipe (x0_ : Int32) (s : Sg) : Option (Int32 × Sg) :=
  (fX10_isText x0_ s).bind fun w1 =>
  if w1.1 = 0 then
  some ((-2 : Int32), w1.2)
  else
  (aR 2 x0_).bind fun k2 =>
  (fX7_clear (rix 0 k2) (tlen k2) w1.2).bind fun w4 =>
  some (w4.1, w4.2)
theorem ct_X10_wipe {g : Gl} {x0_ : Int32} {s : Sg} {w : Int32 × Sg}  (h : fX10_wipe x0_ s = some w) : Ct SS g iX10_wipe 2 42 [.ref (gad g 0), .int x0_] s (Dt (some (.int w.1)) w.2) := by
  refine Ct.ofV (by decide +kernel) 0 (lv0 := [some (.ref (gad g 0)), some (.int x0_)]) rfl rfl (fun M hC => ?_)
  have hP : (Dt (some (.int w.1)) w.2) (some (.int w.1)) w.2 := ⟨rfl, rfl⟩
  generalize Dt (some (.int w.1)) w.2 = P at hP ⊢
  unfold fX10_wipe at h
  refine v_iload_n (pc := 0) hC dX10_wipe_0 rfl ?_
  obtain ⟨w1, hw1, h⟩ := obd_s h
  refine v_cS (pc := 1) [] [.int w1.1] gm_X10_isText hC (ct_X10_isText  hw1) ml_X10_280 rfl rfl rfl rfl rfl rfl dX10_wipe_1 ?_
  refine v_if_ne (pc := 4) (tgt := 10) hC dX10_wipe_4 rfl (fun c5 => ?_) (fun c5 => ?_)
  · replace h := (if_neg c5).symm.trans h
    refine v_aload_n (pc := 10) hC dX10_wipe_10 rfl ?_
    refine v_gt (pc := 11) 3 (.ref (gad g 38)) hC s_0 rfl rfl rfl rfl fl_X10_48 dX10_wipe_11 ?_
    refine v_iload_n (pc := 14) hC dX10_wipe_14 rfl ?_
    obtain ⟨k2, hk2, h⟩ := obd_s h
    have hb3 := tx_of (aR_lt hk2)
    refine v_aR (pc := 15) (t := 0) (C := "LaneFour$Text") hC s_38 rfl hk2 dX10_wipe_15 ?_
    obtain ⟨w4, hw4, h⟩ := obd_s h
    refine v_cV (pc := 16) [] [.int w4.1] gm_X7_clear hC hb3.1 rfl rfl (ct_X7_clear hb3 hw4) ml_X10_290 rfl rfl rfl rfl rfl rfl dX10_wipe_16 ?_
    obtain rfl := Option.some.inj h
    exact v_iret (pc := 19) hC rfl dX10_wipe_19 hP
  · replace h := (if_pos c5).symm.trans h
    refine v_bipush (pc := 7) (-2 : Int32) rfl hC dX10_wipe_7 ?_
    obtain rfl := Option.some.inj h
    exact v_iret (pc := 9) hC rfl dX10_wipe_9 hP
theorem dX10_fault_0 : decode cX10_fault 0 = .ok (.iload_n 1, 1) := by decide +kernel
theorem dX10_fault_1 : decode cX10_fault 1 = .ok (.invokestatic 280, 3) := by decide +kernel
theorem dX10_fault_4 : decode cX10_fault 4 = .ok (.ifCond .ne 6, 3) := by decide +kernel
theorem dX10_fault_7 : decode cX10_fault 7 = .ok (.bipush (-2), 2) := by decide +kernel
theorem dX10_fault_9 : decode cX10_fault 9 = .ok (.ireturn, 1) := by decide +kernel
theorem dX10_fault_10 : decode cX10_fault 10 = .ok (.iload_n 1, 1) := by decide +kernel
theorem dX10_fault_11 : decode cX10_fault 11 = .ok (.ifCond .ne 13, 3) := by decide +kernel
theorem dX10_fault_14 : decode cX10_fault 14 = .ok (.aload_n 0, 1) := by decide +kernel
theorem dX10_fault_15 : decode cX10_fault 15 = .ok (.getfield 52, 3) := by decide +kernel
theorem dX10_fault_18 : decode cX10_fault 18 = .ok (.invokevirtual 293, 3) := by decide +kernel
theorem dX10_fault_21 : decode cX10_fault 21 = .ok (.goto 10, 3) := by decide +kernel
theorem dX10_fault_24 : decode cX10_fault 24 = .ok (.aload_n 0, 1) := by decide +kernel
theorem dX10_fault_25 : decode cX10_fault 25 = .ok (.getfield 56, 3) := by decide +kernel
theorem dX10_fault_28 : decode cX10_fault 28 = .ok (.invokevirtual 296, 3) := by decide +kernel
theorem dX10_fault_31 : decode cX10_fault 31 = .ok (.ireturn, 1) := by decide +kernel
def fX10_fault (x0_ : Int32) (s : Sg) : Option (Int32 × Sg) :=
  (fX10_isText x0_ s).bind fun w1 =>
  if w1.1 = 0 then
  some ((-2 : Int32), w1.2)
  else
  if x0_ = 0 then
  (fX4_faultAt w1.2).bind fun w4 =>
  some (w4.1, w4.2)
  else
  (fX9_parse w1.2).bind fun w2 =>
  some (w2.1, w2.2)
theorem ct_X10_fault {g : Gl} {x0_ : Int32} {s : Sg} {w : Int32 × Sg}  (h : fX10_fault x0_ s = some w) : Ct SS g iX10_fault 5 107 [.ref (gad g 0), .int x0_] s (Dt (some (.int w.1)) w.2) := by
  refine Ct.ofV (by decide +kernel) 0 (lv0 := [some (.ref (gad g 0)), some (.int x0_)]) rfl rfl (fun M hC => ?_)
  have hP : (Dt (some (.int w.1)) w.2) (some (.int w.1)) w.2 := ⟨rfl, rfl⟩
  generalize Dt (some (.int w.1)) w.2 = P at hP ⊢
  unfold fX10_fault at h
  refine v_iload_n (pc := 0) hC dX10_fault_0 rfl ?_
  obtain ⟨w1, hw1, h⟩ := obd_s h
  refine v_cS (pc := 1) [] [.int w1.1] gm_X10_isText hC (ct_X10_isText  hw1) ml_X10_280 rfl rfl rfl rfl rfl rfl dX10_fault_1 ?_
  refine v_if_ne (pc := 4) (tgt := 10) hC dX10_fault_4 rfl (fun c5 => ?_) (fun c5 => ?_)
  · replace h := (if_neg c5).symm.trans h
    refine v_iload_n (pc := 10) hC dX10_fault_10 rfl ?_
    refine v_if_ne (pc := 11) (tgt := 24) hC dX10_fault_11 rfl (fun c3 => ?_) (fun c3 => ?_)
    · replace h := (if_neg c3).symm.trans h
      refine v_aload_n (pc := 24) hC dX10_fault_24 rfl ?_
      refine v_gt (pc := 25) 5 (.ref (gad g 35)) hC s_0 rfl rfl rfl rfl fl_X10_56 dX10_fault_25 ?_
      obtain ⟨w2, hw2, h⟩ := obd_s h
      refine v_cV (pc := 28) [] [.int w2.1] gm_X9_parse hC s_35 rfl rfl (ct_X9_parse  hw2) ml_X10_296 rfl rfl rfl rfl rfl rfl dX10_fault_28 ?_
      obtain rfl := Option.some.inj h
      exact v_iret (pc := 31) hC rfl dX10_fault_31 hP
    · replace h := (if_pos c3).symm.trans h
      refine v_aload_n (pc := 14) hC dX10_fault_14 rfl ?_
      refine v_gt (pc := 15) 4 (.ref (gad g 34)) hC s_0 rfl rfl rfl rfl fl_X10_52 dX10_fault_15 ?_
      obtain ⟨w4, hw4, h⟩ := obd_s h
      refine v_cV (pc := 18) [] [.int w4.1] gm_X4_faultAt hC s_34 rfl rfl (ct_X4_faultAt  hw4) ml_X10_293 rfl rfl rfl rfl rfl rfl dX10_fault_18 ?_
      refine v_goto (pc := 21) (tgt := 31) hC dX10_fault_21 rfl ?_
      obtain rfl := Option.some.inj h
      exact v_iret (pc := 31) hC rfl dX10_fault_31 hP
  · replace h := (if_pos c5).symm.trans h
    refine v_bipush (pc := 7) (-2 : Int32) rfl hC dX10_fault_7 ?_
    obtain rfl := Option.some.inj h
    exact v_iret (pc := 9) hC rfl dX10_fault_9 hP
theorem dX10_givenOf_0 : decode cX10_givenOf 0 = .ok (.aload_n 0, 1) := by decide +kernel
theorem dX10_givenOf_1 : decode cX10_givenOf 1 = .ok (.getfield 52, 3) := by decide +kernel
theorem dX10_givenOf_4 : decode cX10_givenOf 4 = .ok (.invokevirtual 293, 3) := by decide +kernel
theorem dX10_givenOf_7 : decode cX10_givenOf 7 = .ok (.iconst (-1), 1) := by decide +kernel
theorem dX10_givenOf_8 : decode cX10_givenOf 8 = .ok (.if_icmp .eq 6, 3) := by decide +kernel
theorem dX10_givenOf_11 : decode cX10_givenOf 11 = .ok (.bipush (-3), 2) := by decide +kernel
theorem dX10_givenOf_13 : decode cX10_givenOf 13 = .ok (.ireturn, 1) := by decide +kernel
theorem dX10_givenOf_14 : decode cX10_givenOf 14 = .ok (.aload_n 0, 1) := by decide +kernel
theorem dX10_givenOf_15 : decode cX10_givenOf 15 = .ok (.getfield 52, 3) := by decide +kernel
theorem dX10_givenOf_18 : decode cX10_givenOf 18 = .ok (.aload_n 0, 1) := by decide +kernel
theorem dX10_givenOf_19 : decode cX10_givenOf 19 = .ok (.getfield 28, 3) := by decide +kernel
theorem dX10_givenOf_22 : decode cX10_givenOf 22 = .ok (.iload_n 1, 1) := by decide +kernel
theorem dX10_givenOf_23 : decode cX10_givenOf 23 = .ok (.invokevirtual 396, 3) := by decide +kernel
theorem dX10_givenOf_26 : decode cX10_givenOf 26 = .ok (.ifCond .eq 7, 3) := by decide +kernel
theorem dX10_givenOf_29 : decode cX10_givenOf 29 = .ok (.iconst 1, 1) := by decide +kernel
theorem dX10_givenOf_30 : decode cX10_givenOf 30 = .ok (.goto 4, 3) := by decide +kernel
theorem dX10_givenOf_33 : decode cX10_givenOf 33 = .ok (.iconst 0, 1) := by decide +kernel
theorem dX10_givenOf_34 : decode cX10_givenOf 34 = .ok (.ireturn, 1) := by decide +kernel
def fX10_givenOf (x0_ : Int32) (s : Sg) : Option (Int32 × Sg) :=
  (fX4_faultAt s).bind fun w1 =>
  if w1.1 = (-1 : Int32) then
  (fX4_isKeptBy x0_ w1.2).bind fun w2 =>
  if w2.1 = 0 then
  some ((0 : Int32), w2.2)
  else
  some ((1 : Int32), w2.2)
  else
  some ((-3 : Int32), w1.2)
theorem ct_X10_givenOf {g : Gl} {x0_ : Int32} {s : Sg} {w : Int32 × Sg}  (h : fX10_givenOf x0_ s = some w) : Ct SS g iX10_givenOf 3 68 [.ref (gad g 0), .int x0_] s (Dt (some (.int w.1)) w.2) := by
  refine Ct.ofV (by decide +kernel) 0 (lv0 := [some (.ref (gad g 0)), some (.int x0_)]) rfl rfl (fun M hC => ?_)
  have hP : (Dt (some (.int w.1)) w.2) (some (.int w.1)) w.2 := ⟨rfl, rfl⟩
  generalize Dt (some (.int w.1)) w.2 = P at hP ⊢
  unfold fX10_givenOf at h
  refine v_aload_n (pc := 0) hC dX10_givenOf_0 rfl ?_
  refine v_gt (pc := 1) 4 (.ref (gad g 34)) hC s_0 rfl rfl rfl rfl fl_X10_52 dX10_givenOf_1 ?_
  obtain ⟨w1, hw1, h⟩ := obd_s h
  refine v_cV (pc := 4) [] [.int w1.1] gm_X4_faultAt hC s_34 rfl rfl (ct_X4_faultAt  hw1) ml_X10_293 rfl rfl rfl rfl rfl rfl dX10_givenOf_4 ?_
  refine v_iconst (pc := 7) (-1 : Int32) rfl hC dX10_givenOf_7 ?_
  refine v_ic_eq (pc := 8) (tgt := 14) hC dX10_givenOf_8 rfl (fun c4 => ?_) (fun c4 => ?_)
  · replace h := (if_pos c4).symm.trans h
    refine v_aload_n (pc := 14) hC dX10_givenOf_14 rfl ?_
    refine v_gt (pc := 15) 4 (.ref (gad g 34)) hC s_0 rfl rfl rfl rfl fl_X10_52 dX10_givenOf_15 ?_
    refine v_aload_n (pc := 18) hC dX10_givenOf_18 rfl ?_
    refine v_gt (pc := 19) 0 (.ref (gad g 1)) hC s_0 rfl rfl rfl rfl fl_X10_28 dX10_givenOf_19 ?_
    refine v_iload_n (pc := 22) hC dX10_givenOf_22 rfl ?_
    obtain ⟨w2, hw2, h⟩ := obd_s h
    refine v_cV (pc := 23) [] [.int w2.1] gm_X4_isKeptBy hC s_34 rfl rfl (ct_X4_isKeptBy  hw2) ml_X10_396 rfl rfl rfl rfl rfl rfl dX10_givenOf_23 ?_
    refine v_if_eq (pc := 26) (tgt := 33) hC dX10_givenOf_26 rfl (fun c3 => ?_) (fun c3 => ?_)
    · replace h := (if_pos c3).symm.trans h
      refine v_iconst (pc := 33) (0 : Int32) rfl hC dX10_givenOf_33 ?_
      obtain rfl := Option.some.inj h
      exact v_iret (pc := 34) hC rfl dX10_givenOf_34 hP
    · replace h := (if_neg c3).symm.trans h
      refine v_iconst (pc := 29) (1 : Int32) rfl hC dX10_givenOf_29 ?_
      refine v_goto (pc := 30) (tgt := 34) hC dX10_givenOf_30 rfl ?_
      obtain rfl := Option.some.inj h
      exact v_iret (pc := 34) hC rfl dX10_givenOf_34 hP
  · replace h := (if_neg c4).symm.trans h
    refine v_bipush (pc := 11) (-3 : Int32) rfl hC dX10_givenOf_11 ?_
    obtain rfl := Option.some.inj h
    exact v_iret (pc := 13) hC rfl dX10_givenOf_13 hP
theorem dX10_given_0 : decode cX10_given 0 = .ok (.aload_n 0, 1) := by decide +kernel
theorem dX10_given_1 : decode cX10_given 1 = .ok (.getfield 28, 3) := by decide +kernel
theorem dX10_given_4 : decode cX10_given 4 = .ok (.iload_n 1, 1) := by decide +kernel
theorem dX10_given_5 : decode cX10_given 5 = .ok (.invokevirtual 98, 3) := by decide +kernel
theorem dX10_given_8 : decode cX10_given 8 = .ok (.ifCond .ne 6, 3) := by decide +kernel
theorem dX10_given_11 : decode cX10_given 11 = .ok (.bipush (-2), 2) := by decide +kernel
theorem dX10_given_13 : decode cX10_given 13 = .ok (.ireturn, 1) := by decide +kernel
theorem dX10_given_14 : decode cX10_given 14 = .ok (.aload_n 0, 1) := by decide +kernel
theorem dX10_given_15 : decode cX10_given 15 = .ok (.iload_n 1, 1) := by decide +kernel
theorem dX10_given_16 : decode cX10_given 16 = .ok (.invokevirtual 299, 3) := by decide +kernel
theorem dX10_given_19 : decode cX10_given 19 = .ok (.ireturn, 1) := by decide +kernel
def fX10_given (x0_ : Int32) (s : Sg) : Option (Int32 × Sg) :=
  (fX3_hasRace x0_ s).bind fun w1 =>
  if w1.1 = 0 then
  some ((-2 : Int32), w1.2)
  else
  (fX10_givenOf x0_ w1.2).bind fun w2 =>
  some (w2.1, w2.2)
theorem ct_X10_given {g : Gl} {x0_ : Int32} {s : Sg} {w : Int32 × Sg}  (h : fX10_given x0_ s = some w) : Ct SS g iX10_given 4 89 [.ref (gad g 0), .int x0_] s (Dt (some (.int w.1)) w.2) := by
  refine Ct.ofV (by decide +kernel) 0 (lv0 := [some (.ref (gad g 0)), some (.int x0_)]) rfl rfl (fun M hC => ?_)
  have hP : (Dt (some (.int w.1)) w.2) (some (.int w.1)) w.2 := ⟨rfl, rfl⟩
  generalize Dt (some (.int w.1)) w.2 = P at hP ⊢
  unfold fX10_given at h
  refine v_aload_n (pc := 0) hC dX10_given_0 rfl ?_
  refine v_gt (pc := 1) 0 (.ref (gad g 1)) hC s_0 rfl rfl rfl rfl fl_X10_28 dX10_given_1 ?_
  refine v_iload_n (pc := 4) hC dX10_given_4 rfl ?_
  obtain ⟨w1, hw1, h⟩ := obd_s h
  refine v_cV (pc := 5) [] [.int w1.1] gm_X3_hasRace hC s_1 rfl rfl (ct_X3_hasRace  hw1) ml_X10_98 rfl rfl rfl rfl rfl rfl dX10_given_5 ?_
  refine v_if_ne (pc := 8) (tgt := 14) hC dX10_given_8 rfl (fun c3 => ?_) (fun c3 => ?_)
  · replace h := (if_neg c3).symm.trans h
    refine v_aload_n (pc := 14) hC dX10_given_14 rfl ?_
    refine v_iload_n (pc := 15) hC dX10_given_15 rfl ?_
    obtain ⟨w2, hw2, h⟩ := obd_s h
    refine v_cV (pc := 16) [] [.int w2.1] gm_X10_givenOf hC s_0 rfl rfl (ct_X10_givenOf  hw2) ml_X10_299 rfl rfl rfl rfl rfl rfl dX10_given_16 ?_
    obtain rfl := Option.some.inj h
    exact v_iret (pc := 19) hC rfl dX10_given_19 hP
  · replace h := (if_pos c3).symm.trans h
    refine v_bipush (pc := 11) (-2 : Int32) rfl hC dX10_given_11 ?_
    obtain rfl := Option.some.inj h
    exact v_iret (pc := 13) hC rfl dX10_given_13 hP
theorem dX10_power_0 : decode cX10_power 0 = .ok (.lconst 1, 1) := by decide +kernel
theorem dX10_power_1 : decode cX10_power 1 = .ok (.lstore_n 3, 1) := by decide +kernel
theorem dX10_power_2 : decode cX10_power 2 = .ok (.iconst 0, 1) := by decide +kernel
theorem dX10_power_3 : decode cX10_power 3 = .ok (.istore 5, 2) := by decide +kernel
theorem dX10_power_5 : decode cX10_power 5 = .ok (.iload 5, 2) := by decide +kernel
theorem dX10_power_7 : decode cX10_power 7 = .ok (.iload_n 2, 1) := by decide +kernel
theorem dX10_power_8 : decode cX10_power 8 = .ok (.if_icmp .ge 13, 3) := by decide +kernel
theorem dX10_power_11 : decode cX10_power 11 = .ok (.lload_n 3, 1) := by decide +kernel
theorem dX10_power_12 : decode cX10_power 12 = .ok (.lload_n 0, 1) := by decide +kernel
theorem dX10_power_13 : decode cX10_power 13 = .ok (.lmul, 1) := by decide +kernel
theorem dX10_power_14 : decode cX10_power 14 = .ok (.lstore_n 3, 1) := by decide +kernel
theorem dX10_power_15 : decode cX10_power 15 = .ok (.iinc 5 1, 3) := by decide +kernel
theorem dX10_power_18 : decode cX10_power 18 = .ok (.goto (-13), 3) := by decide +kernel
theorem dX10_power_21 : decode cX10_power 21 = .ok (.lload_n 3, 1) := by decide +kernel
theorem dX10_power_22 : decode cX10_power 22 = .ok (.lreturn, 1) := by decide +kernel
def fX10_power_L5 (p0 : Int64) (p2 : Int32) (a : Int64 × Int32) (s : Sg) : Option (((Int64 × Int32) ⊕ (Int64)) × Sg) :=
  if p2 ≤ a.2 then
  some (.inr a.1, s)
  else
  bnd (a.1 * p0) fun x2 =>
  bnd (a.2 + (1 : Int32)) fun x3 =>
  some (.inl (x2, x3), s)
def fX10_power (x0_ : Int64) (x1_ : Int32) (s : Sg) : Option (Int64 × Sg) :=
  (lpG (fX10_power_L5 x0_ x1_) FU ((1 : Int64), (0 : Int32)) s).bind fun w1 =>
  some (w1.1, w1.2)
theorem ct_X10_power {g : Gl} {x0_ : Int64} {x1_ : Int32} {s : Sg} {w : Int64 × Sg}  (h : fX10_power x0_ x1_ s = some w) : Ct SS g iX10_power 0 0 [.long x0_, .int x1_] s (Dt (some (.long w.1)) w.2) := by
  refine Ct.ofV (by decide +kernel) 3 (lv0 := [some (.long x0_), none, some (.int x1_), none, none, none]) rfl rfl (fun M hC => ?_)
  have hP : (Dt (some (.long w.1)) w.2) (some (.long w.1)) w.2 := ⟨rfl, rfl⟩
  generalize Dt (some (.long w.1)) w.2 = P at hP ⊢
  unfold fX10_power at h
  refine v_lconst (pc := 0) (1 : Int64) rfl hC dX10_power_0 ?_
  refine v_lstore_n (pc := 1) (lv' := [some (.long x0_), none, some (.int x1_), some (.long (1 : Int64)), none, none]) hC dX10_power_1 rfl rfl rfl rfl ?_
  refine v_iconst (pc := 2) (0 : Int32) rfl hC dX10_power_2 ?_
  refine v_istore (pc := 3) (lv' := [some (.long x0_), none, some (.int x1_), some (.long (1 : Int64)), none, some (.int (0 : Int32))]) hC dX10_power_3 rfl rfl rfl rfl ?_
  obtain ⟨w1, hw1, h⟩ := obd_s h
  have kx11 : V SS g M iX10_power (PQ SS g M P) 21 [none, none, none, some (.long w1.1), none, none] [] w1.2 := by
    refine v_lload_n (pc := 21) hC dX10_power_21 rfl ?_
    obtain rfl := Option.some.inj h
    exact v_lret (pc := 22) hC rfl dX10_power_22 hP
  refine V.ls (ls_some (ls_none (ls_some (ls_some (ls_none (ls_some ls_nil)))))) (v_loop (pc := 5) (fun a4 => [some (.long x0_), none, some (.int x1_), some (.long a4.1), none, some (.int a4.2)]) (fun z t => V SS g M iX10_power (PQ SS g M P) 21 [none, none, none, some (.long z), none, none] [] t) (fun a4 s2 u3 hu3 k5 k6 => ?_) _ _ _ _ hw1 kx11)
  unfold fX10_power_L5 at hu3
  refine v_iload (pc := 5) hC dX10_power_5 rfl ?_
  refine v_iload_n (pc := 7) hC dX10_power_7 rfl ?_
  refine v_ic_ge (pc := 8) (tgt := 21) hC dX10_power_8 rfl (fun c8 => ?_) (fun c8 => ?_)
  · replace hu3 := (if_pos c8).symm.trans hu3
    obtain rfl := Option.some.inj hu3
    exact V.ls (ls_none (ls_none (ls_none (ls_some (ls_none (ls_none ls_nil)))))) (k6 _ rfl)
  · replace hu3 := (if_neg c8).symm.trans hu3
    refine v_lload_n (pc := 11) hC dX10_power_11 rfl ?_
    refine v_lload_n (pc := 12) hC dX10_power_12 rfl ?_
    refine v_lmul (pc := 13) hC dX10_power_13 ?_
    obtain ⟨x9, hx9, hu3⟩ := bnd_s hu3
    refine v_lstore_n (pc := 14) (lv' := [some (.long x0_), none, some (.int x1_), some (.long x9), none, some (.int a4.2)]) hC dX10_power_14 hx9 rfl rfl rfl ?_
    obtain ⟨x10, hx10, hu3⟩ := bnd_s hu3
    refine v_iinc (pc := 15) (lv' := [some (.long x0_), none, some (.int x1_), some (.long x9), none, some (.int x10)]) (1 : Int32) rfl hx10 hC dX10_power_15 rfl rfl rfl rfl ?_
    refine v_goto (pc := 18) (tgt := 5) hC dX10_power_18 rfl ?_
    obtain rfl := Option.some.inj hu3
    exact V.ls (ls_some (ls_none (ls_some (ls_some (ls_none (ls_some ls_nil)))))) (k5 _ rfl)
theorem dX10_chanceOfTenths_0 : decode cX10_chanceOfTenths 0 = .ok (.iload_n 0, 1) := by decide +kernel
theorem dX10_chanceOfTenths_1 : decode cX10_chanceOfTenths 1 = .ok (.bipush 18, 2) := by decide +kernel
theorem dX10_chanceOfTenths_3 : decode cX10_chanceOfTenths 3 = .ok (.if_icmp .le 6, 3) := by decide +kernel
theorem dX10_chanceOfTenths_6 : decode cX10_chanceOfTenths 6 = .ok (.bipush (-4), 2) := by decide +kernel
theorem dX10_chanceOfTenths_8 : decode cX10_chanceOfTenths 8 = .ok (.ireturn, 1) := by decide +kernel
theorem dX10_chanceOfTenths_9 : decode cX10_chanceOfTenths 9 = .ok (.lconst 0, 1) := by decide +kernel
theorem dX10_chanceOfTenths_10 : decode cX10_chanceOfTenths 10 = .ok (.lstore_n 2, 1) := by decide +kernel
theorem dX10_chanceOfTenths_11 : decode cX10_chanceOfTenths 11 = .ok (.lconst 1, 1) := by decide +kernel
theorem dX10_chanceOfTenths_12 : decode cX10_chanceOfTenths 12 = .ok (.lstore 4, 2) := by decide +kernel
theorem dX10_chanceOfTenths_14 : decode cX10_chanceOfTenths 14 = .ok (.iconst 0, 1) := by decide +kernel
theorem dX10_chanceOfTenths_15 : decode cX10_chanceOfTenths 15 = .ok (.istore 6, 2) := by decide +kernel
theorem dX10_chanceOfTenths_17 : decode cX10_chanceOfTenths 17 = .ok (.iload 6, 2) := by decide +kernel
theorem dX10_chanceOfTenths_19 : decode cX10_chanceOfTenths 19 = .ok (.iload_n 0, 1) := by decide +kernel
theorem dX10_chanceOfTenths_20 : decode cX10_chanceOfTenths 20 = .ok (.if_icmp .gt 47, 3) := by decide +kernel
theorem dX10_chanceOfTenths_23 : decode cX10_chanceOfTenths 23 = .ok (.iload 6, 2) := by decide +kernel
theorem dX10_chanceOfTenths_25 : decode cX10_chanceOfTenths 25 = .ok (.iload_n 1, 1) := by decide +kernel
theorem dX10_chanceOfTenths_26 : decode cX10_chanceOfTenths 26 = .ok (.if_icmp .lt 19, 3) := by decide +kernel
theorem dX10_chanceOfTenths_29 : decode cX10_chanceOfTenths 29 = .ok (.lload_n 2, 1) := by decide +kernel
theorem dX10_chanceOfTenths_30 : decode cX10_chanceOfTenths 30 = .ok (.lload 4, 2) := by decide +kernel
theorem dX10_chanceOfTenths_32 : decode cX10_chanceOfTenths 32 = .ok (.ldc2_w 400, 3) := by decide +kernel
theorem dX10_chanceOfTenths_35 : decode cX10_chanceOfTenths 35 = .ok (.iload_n 0, 1) := by decide +kernel
theorem dX10_chanceOfTenths_36 : decode cX10_chanceOfTenths 36 = .ok (.iload 6, 2) := by decide +kernel
theorem dX10_chanceOfTenths_38 : decode cX10_chanceOfTenths 38 = .ok (.isub, 1) := by decide +kernel
theorem dX10_chanceOfTenths_39 : decode cX10_chanceOfTenths 39 = .ok (.invokestatic 402, 3) := by decide +kernel
theorem dX10_chanceOfTenths_42 : decode cX10_chanceOfTenths 42 = .ok (.lmul, 1) := by decide +kernel
theorem dX10_chanceOfTenths_43 : decode cX10_chanceOfTenths 43 = .ok (.ladd, 1) := by decide +kernel
theorem dX10_chanceOfTenths_44 : decode cX10_chanceOfTenths 44 = .ok (.lstore_n 2, 1) := by decide +kernel
theorem dX10_chanceOfTenths_45 : decode cX10_chanceOfTenths 45 = .ok (.lload 4, 2) := by decide +kernel
theorem dX10_chanceOfTenths_47 : decode cX10_chanceOfTenths 47 = .ok (.iload_n 0, 1) := by decide +kernel
theorem dX10_chanceOfTenths_48 : decode cX10_chanceOfTenths 48 = .ok (.iload 6, 2) := by decide +kernel
theorem dX10_chanceOfTenths_50 : decode cX10_chanceOfTenths 50 = .ok (.isub, 1) := by decide +kernel
theorem dX10_chanceOfTenths_51 : decode cX10_chanceOfTenths 51 = .ok (.i2l, 1) := by decide +kernel
theorem dX10_chanceOfTenths_52 : decode cX10_chanceOfTenths 52 = .ok (.lmul, 1) := by decide +kernel
theorem dX10_chanceOfTenths_53 : decode cX10_chanceOfTenths 53 = .ok (.iload 6, 2) := by decide +kernel
theorem dX10_chanceOfTenths_55 : decode cX10_chanceOfTenths 55 = .ok (.iconst 1, 1) := by decide +kernel
theorem dX10_chanceOfTenths_56 : decode cX10_chanceOfTenths 56 = .ok (.iadd, 1) := by decide +kernel
theorem dX10_chanceOfTenths_57 : decode cX10_chanceOfTenths 57 = .ok (.i2l, 1) := by decide +kernel
theorem dX10_chanceOfTenths_58 : decode cX10_chanceOfTenths 58 = .ok (.ldiv, 1) := by decide +kernel
theorem dX10_chanceOfTenths_59 : decode cX10_chanceOfTenths 59 = .ok (.lstore 4, 2) := by decide +kernel
theorem dX10_chanceOfTenths_61 : decode cX10_chanceOfTenths 61 = .ok (.iinc 6 1, 3) := by decide +kernel
theorem dX10_chanceOfTenths_64 : decode cX10_chanceOfTenths 64 = .ok (.goto (-47), 3) := by decide +kernel
theorem dX10_chanceOfTenths_67 : decode cX10_chanceOfTenths 67 = .ok (.lload_n 2, 1) := by decide +kernel
theorem dX10_chanceOfTenths_68 : decode cX10_chanceOfTenths 68 = .ok (.ldc2_w 406, 3) := by decide +kernel
theorem dX10_chanceOfTenths_71 : decode cX10_chanceOfTenths 71 = .ok (.bipush 6, 2) := by decide +kernel
theorem dX10_chanceOfTenths_73 : decode cX10_chanceOfTenths 73 = .ok (.iload_n 0, 1) := by decide +kernel
theorem dX10_chanceOfTenths_74 : decode cX10_chanceOfTenths 74 = .ok (.isub, 1) := by decide +kernel
theorem dX10_chanceOfTenths_75 : decode cX10_chanceOfTenths 75 = .ok (.invokestatic 402, 3) := by decide +kernel
theorem dX10_chanceOfTenths_78 : decode cX10_chanceOfTenths 78 = .ok (.lmul, 1) := by decide +kernel
theorem dX10_chanceOfTenths_79 : decode cX10_chanceOfTenths 79 = .ok (.lstore_n 2, 1) := by decide +kernel
theorem dX10_chanceOfTenths_80 : decode cX10_chanceOfTenths 80 = .ok (.bipush 6, 2) := by decide +kernel
theorem dX10_chanceOfTenths_82 : decode cX10_chanceOfTenths 82 = .ok (.istore 6, 2) := by decide +kernel
theorem dX10_chanceOfTenths_84 : decode cX10_chanceOfTenths 84 = .ok (.iload 6, 2) := by decide +kernel
theorem dX10_chanceOfTenths_86 : decode cX10_chanceOfTenths 86 = .ok (.iload_n 0, 1) := by decide +kernel
theorem dX10_chanceOfTenths_87 : decode cX10_chanceOfTenths 87 = .ok (.if_icmp .ge 15, 3) := by decide +kernel
theorem dX10_chanceOfTenths_90 : decode cX10_chanceOfTenths 90 = .ok (.lload_n 2, 1) := by decide +kernel
theorem dX10_chanceOfTenths_91 : decode cX10_chanceOfTenths 91 = .ok (.ldc2_w 406, 3) := by decide +kernel
theorem dX10_chanceOfTenths_94 : decode cX10_chanceOfTenths 94 = .ok (.ldiv, 1) := by decide +kernel
theorem dX10_chanceOfTenths_95 : decode cX10_chanceOfTenths 95 = .ok (.lstore_n 2, 1) := by decide +kernel
theorem dX10_chanceOfTenths_96 : decode cX10_chanceOfTenths 96 = .ok (.iinc 6 1, 3) := by decide +kernel
theorem dX10_chanceOfTenths_99 : decode cX10_chanceOfTenths 99 = .ok (.goto (-15), 3) := by decide +kernel
theorem dX10_chanceOfTenths_102 : decode cX10_chanceOfTenths 102 = .ok (.lload_n 2, 1) := by decide +kernel
theorem dX10_chanceOfTenths_103 : decode cX10_chanceOfTenths 103 = .ok (.l2i, 1) := by decide +kernel
theorem dX10_chanceOfTenths_104 : decode cX10_chanceOfTenths 104 = .ok (.ireturn, 1) := by decide +kernel
def fX10_chanceOfTenths_L17 (p0 : Int32) (p1 : Int32) (a : Int64 × Int64 × Int32) (s : Sg) : Option (((Int64 × Int64 × Int32) ⊕ (Int64)) × Sg) :=
  if p0 < a.2.2 then
  some (.inr a.1, s)
  else
  ((if a.2.2 < p1 then
  some (a.1, s)
  else
  (fX10_power (9 : Int64) (p0 - a.2.2) s).bind fun w7 =>
  bnd (a.1 + (a.2.1 * w7.1)) fun x8 =>
  some (x8, w7.2)) : Option (Int64 × Sg)).bind fun w2 =>
  (dL (a.2.1 * (((p0 - a.2.2)).toInt64)) (((a.2.2 + (1 : Int32))).toInt64)).bind fun v4 =>
  bnd (a.2.2 + (1 : Int32)) fun x5 =>
  some (.inl (w2.1, v4, x5), w2.2)
def fX10_chanceOfTenths_L84 (p0 : Int32) (a : Int64 × Int32) (s : Sg) : Option (((Int64 × Int32) ⊕ (Int64)) × Sg) :=
  if p0 ≤ a.2 then
  some (.inr a.1, s)
  else
  (dL a.1 (10 : Int64)).bind fun v2 =>
  bnd (a.2 + (1 : Int32)) fun x3 =>
  some (.inl (v2, x3), s)
def fX10_chanceOfTenths (x0_ : Int32) (x1_ : Int32) (s : Sg) : Option (Int32 × Sg) :=
  if x0_ ≤ (18 : Int32) then
  (lpG (fX10_chanceOfTenths_L17 x0_ x1_) FU ((0 : Int64), (1 : Int64), (0 : Int32)) s).bind fun w1 =>
  (fX10_power (10 : Int64) ((6 : Int32) - x0_) w1.2).bind fun w2 =>
  bnd (w1.1 * w2.1) fun x3 =>
  (lpG (fX10_chanceOfTenths_L84 x0_) FU (x3, (6 : Int32)) w2.2).bind fun w4 =>
  some (((w4.1).toInt32), w4.2)
  else
  some ((-4 : Int32), s)
theorem ct_X10_chanceOfTenths {g : Gl} {x0_ : Int32} {x1_ : Int32} {s : Sg} {w : Int32 × Sg}  (h : fX10_chanceOfTenths x0_ x1_ s = some w) : Ct SS g iX10_chanceOfTenths 1 25 [.int x0_, .int x1_] s (Dt (some (.int w.1)) w.2) := by
  refine Ct.ofV (by decide +kernel) 5 (lv0 := [some (.int x0_), some (.int x1_), none, none, none, none, none]) rfl rfl (fun M hC => ?_)
  have hP : (Dt (some (.int w.1)) w.2) (some (.int w.1)) w.2 := ⟨rfl, rfl⟩
  generalize Dt (some (.int w.1)) w.2 = P at hP ⊢
  unfold fX10_chanceOfTenths at h
  refine v_iload_n (pc := 0) hC dX10_chanceOfTenths_0 rfl ?_
  refine v_bipush (pc := 1) (18 : Int32) rfl hC dX10_chanceOfTenths_1 ?_
  refine v_ic_le (pc := 3) (tgt := 9) hC dX10_chanceOfTenths_3 rfl (fun c30 => ?_) (fun c30 => ?_)
  · replace h := (if_pos c30).symm.trans h
    refine v_lconst (pc := 9) (0 : Int64) rfl hC dX10_chanceOfTenths_9 ?_
    refine v_lstore_n (pc := 10) (lv' := [some (.int x0_), some (.int x1_), some (.long (0 : Int64)), none, none, none, none]) hC dX10_chanceOfTenths_10 rfl rfl rfl rfl ?_
    refine v_lconst (pc := 11) (1 : Int64) rfl hC dX10_chanceOfTenths_11 ?_
    refine v_lstore (pc := 12) (lv' := [some (.int x0_), some (.int x1_), some (.long (0 : Int64)), none, some (.long (1 : Int64)), none, none]) hC dX10_chanceOfTenths_12 rfl rfl rfl rfl ?_
    refine v_iconst (pc := 14) (0 : Int32) rfl hC dX10_chanceOfTenths_14 ?_
    refine v_istore (pc := 15) (lv' := [some (.int x0_), some (.int x1_), some (.long (0 : Int64)), none, some (.long (1 : Int64)), none, some (.int (0 : Int32))]) hC dX10_chanceOfTenths_15 rfl rfl rfl rfl ?_
    obtain ⟨w1, hw1, h⟩ := obd_s h
    have kx29 : V SS g M iX10_chanceOfTenths (PQ SS g M P) 67 [some (.int x0_), none, some (.long w1.1), none, none, none, none] [] w1.2 := by
      refine v_lload_n (pc := 67) hC dX10_chanceOfTenths_67 rfl ?_
      refine v_ldc2 (pc := 68) (10 : Int64) kc_X10_406 hC dX10_chanceOfTenths_68 ?_
      refine v_bipush (pc := 71) (6 : Int32) rfl hC dX10_chanceOfTenths_71 ?_
      refine v_iload_n (pc := 73) hC dX10_chanceOfTenths_73 rfl ?_
      refine v_isub (pc := 74) hC dX10_chanceOfTenths_74 ?_
      obtain ⟨w2, hw2, h⟩ := obd_s h
      refine v_cS (pc := 75) [.long w1.1] [.long w2.1, .long w1.1] gm_X10_power hC (ct_X10_power  hw2) ml_X10_402 rfl rfl rfl rfl rfl rfl dX10_chanceOfTenths_75 ?_
      refine v_lmul (pc := 78) hC dX10_chanceOfTenths_78 ?_
      obtain ⟨x3, hx3, h⟩ := bnd_s h
      refine v_lstore_n (pc := 79) (lv' := [some (.int x0_), none, some (.long x3), none, none, none, none]) hC dX10_chanceOfTenths_79 hx3 rfl rfl rfl ?_
      refine v_bipush (pc := 80) (6 : Int32) rfl hC dX10_chanceOfTenths_80 ?_
      refine v_istore (pc := 82) (lv' := [some (.int x0_), none, some (.long x3), none, none, none, some (.int (6 : Int32))]) hC dX10_chanceOfTenths_82 rfl rfl rfl rfl ?_
      obtain ⟨w4, hw4, h⟩ := obd_s h
      have kx14 : V SS g M iX10_chanceOfTenths (PQ SS g M P) 102 [none, none, some (.long w4.1), none, none, none, none] [] w4.2 := by
        refine v_lload_n (pc := 102) hC dX10_chanceOfTenths_102 rfl ?_
        refine v_l2i (pc := 103) hC dX10_chanceOfTenths_103 ?_
        obtain rfl := Option.some.inj h
        exact v_iret (pc := 104) hC rfl dX10_chanceOfTenths_104 hP
      refine V.ls (ls_some (ls_none (ls_some (ls_none (ls_none (ls_none (ls_some ls_nil))))))) (v_loop (pc := 84) (fun a7 => [some (.int x0_), none, some (.long a7.1), none, none, none, some (.int a7.2)]) (fun z t => V SS g M iX10_chanceOfTenths (PQ SS g M P) 102 [none, none, some (.long z), none, none, none, none] [] t) (fun a7 s5 u6 hu6 k8 k9 => ?_) _ _ _ _ hw4 kx14)
      unfold fX10_chanceOfTenths_L84 at hu6
      refine v_iload (pc := 84) hC dX10_chanceOfTenths_84 rfl ?_
      refine v_iload_n (pc := 86) hC dX10_chanceOfTenths_86 rfl ?_
      refine v_ic_ge (pc := 87) (tgt := 102) hC dX10_chanceOfTenths_87 rfl (fun c11 => ?_) (fun c11 => ?_)
      · replace hu6 := (if_pos c11).symm.trans hu6
        obtain rfl := Option.some.inj hu6
        exact V.ls (ls_none (ls_none (ls_some (ls_none (ls_none (ls_none (ls_none ls_nil))))))) (k9 _ rfl)
      · replace hu6 := (if_neg c11).symm.trans hu6
        refine v_lload_n (pc := 90) hC dX10_chanceOfTenths_90 rfl ?_
        refine v_ldc2 (pc := 91) (10 : Int64) kc_X10_406 hC dX10_chanceOfTenths_91 ?_
        obtain ⟨v12, hv12, hu6⟩ := obd_s hu6
        refine v_dL (pc := 94) hC hv12 dX10_chanceOfTenths_94 ?_
        refine v_lstore_n (pc := 95) (lv' := [some (.int x0_), none, some (.long v12), none, none, none, some (.int a7.2)]) hC dX10_chanceOfTenths_95 rfl rfl rfl rfl ?_
        obtain ⟨x13, hx13, hu6⟩ := bnd_s hu6
        refine v_iinc (pc := 96) (lv' := [some (.int x0_), none, some (.long v12), none, none, none, some (.int x13)]) (1 : Int32) rfl hx13 hC dX10_chanceOfTenths_96 rfl rfl rfl rfl ?_
        refine v_goto (pc := 99) (tgt := 84) hC dX10_chanceOfTenths_99 rfl ?_
        obtain rfl := Option.some.inj hu6
        exact V.ls (ls_some (ls_none (ls_some (ls_none (ls_none (ls_none (ls_some ls_nil))))))) (k8 _ rfl)
    refine V.ls (ls_some (ls_some (ls_some (ls_none (ls_some (ls_none (ls_some ls_nil))))))) (v_loop (pc := 17) (fun a17 => [some (.int x0_), some (.int x1_), some (.long a17.1), none, some (.long a17.2.1), none, some (.int a17.2.2)]) (fun z t => V SS g M iX10_chanceOfTenths (PQ SS g M P) 67 [some (.int x0_), none, some (.long z), none, none, none, none] [] t) (fun a17 s15 u16 hu16 k18 k19 => ?_) _ _ _ _ hw1 kx29)
    unfold fX10_chanceOfTenths_L17 at hu16
    refine v_iload (pc := 17) hC dX10_chanceOfTenths_17 rfl ?_
    refine v_iload_n (pc := 19) hC dX10_chanceOfTenths_19 rfl ?_
    refine v_ic_gt (pc := 20) (tgt := 67) hC dX10_chanceOfTenths_20 rfl (fun c21 => ?_) (fun c21 => ?_)
    · replace hu16 := (if_pos c21).symm.trans hu16
      obtain rfl := Option.some.inj hu16
      exact V.ls (ls_some (ls_none (ls_some (ls_none (ls_none (ls_none (ls_none ls_nil))))))) (k19 _ rfl)
    · replace hu16 := (if_neg c21).symm.trans hu16
      refine v_iload (pc := 23) hC dX10_chanceOfTenths_23 rfl ?_
      refine v_iload_n (pc := 25) hC dX10_chanceOfTenths_25 rfl ?_
      obtain ⟨w22, hw22, hu16⟩ := obd_s hu16
      have kj23 : V SS g M iX10_chanceOfTenths (PQ SS g M P) 45 [some (.int x0_), some (.int x1_), some (.long w22.1), none, some (.long a17.2.1), none, some (.int a17.2.2)] [] w22.2 := by
        refine v_lload (pc := 45) hC dX10_chanceOfTenths_45 rfl ?_
        refine v_iload_n (pc := 47) hC dX10_chanceOfTenths_47 rfl ?_
        refine v_iload (pc := 48) hC dX10_chanceOfTenths_48 rfl ?_
        refine v_isub (pc := 50) hC dX10_chanceOfTenths_50 ?_
        refine v_i2l (pc := 51) hC dX10_chanceOfTenths_51 ?_
        refine v_lmul (pc := 52) hC dX10_chanceOfTenths_52 ?_
        refine v_iload (pc := 53) hC dX10_chanceOfTenths_53 rfl ?_
        refine v_iconst (pc := 55) (1 : Int32) rfl hC dX10_chanceOfTenths_55 ?_
        refine v_iadd (pc := 56) hC dX10_chanceOfTenths_56 ?_
        refine v_i2l (pc := 57) hC dX10_chanceOfTenths_57 ?_
        obtain ⟨v24, hv24, hu16⟩ := obd_s hu16
        refine v_dL (pc := 58) hC hv24 dX10_chanceOfTenths_58 ?_
        refine v_lstore (pc := 59) (lv' := [some (.int x0_), some (.int x1_), some (.long w22.1), none, some (.long v24), none, some (.int a17.2.2)]) hC dX10_chanceOfTenths_59 rfl rfl rfl rfl ?_
        obtain ⟨x25, hx25, hu16⟩ := bnd_s hu16
        refine v_iinc (pc := 61) (lv' := [some (.int x0_), some (.int x1_), some (.long w22.1), none, some (.long v24), none, some (.int x25)]) (1 : Int32) rfl hx25 hC dX10_chanceOfTenths_61 rfl rfl rfl rfl ?_
        refine v_goto (pc := 64) (tgt := 17) hC dX10_chanceOfTenths_64 rfl ?_
        obtain rfl := Option.some.inj hu16
        exact V.ls (ls_some (ls_some (ls_some (ls_none (ls_some (ls_none (ls_some ls_nil))))))) (k18 _ rfl)
      refine v_ic_lt (pc := 26) (tgt := 45) hC dX10_chanceOfTenths_26 rfl (fun c26 => ?_) (fun c26 => ?_)
      · replace hw22 := (if_pos c26).symm.trans hw22
        obtain rfl := Option.some.inj hw22
        exact V.ls (ls_some (ls_some (ls_some (ls_none (ls_some (ls_none (ls_some ls_nil))))))) kj23
      · replace hw22 := (if_neg c26).symm.trans hw22
        refine v_lload_n (pc := 29) hC dX10_chanceOfTenths_29 rfl ?_
        refine v_lload (pc := 30) hC dX10_chanceOfTenths_30 rfl ?_
        refine v_ldc2 (pc := 32) (9 : Int64) kc_X10_400 hC dX10_chanceOfTenths_32 ?_
        refine v_iload_n (pc := 35) hC dX10_chanceOfTenths_35 rfl ?_
        refine v_iload (pc := 36) hC dX10_chanceOfTenths_36 rfl ?_
        refine v_isub (pc := 38) hC dX10_chanceOfTenths_38 ?_
        obtain ⟨w27, hw27, hw22⟩ := obd_s hw22
        refine v_cS (pc := 39) [.long a17.2.1, .long a17.1] [.long w27.1, .long a17.2.1, .long a17.1] gm_X10_power hC (ct_X10_power  hw27) ml_X10_402 rfl rfl rfl rfl rfl rfl dX10_chanceOfTenths_39 ?_
        refine v_lmul (pc := 42) hC dX10_chanceOfTenths_42 ?_
        refine v_ladd (pc := 43) hC dX10_chanceOfTenths_43 ?_
        obtain ⟨x28, hx28, hw22⟩ := bnd_s hw22
        refine v_lstore_n (pc := 44) (lv' := [some (.int x0_), some (.int x1_), some (.long x28), none, some (.long a17.2.1), none, some (.int a17.2.2)]) hC dX10_chanceOfTenths_44 hx28 rfl rfl rfl ?_
        obtain rfl := Option.some.inj hw22
        exact V.ls (ls_some (ls_some (ls_some (ls_none (ls_some (ls_none (ls_some ls_nil))))))) kj23
  · replace h := (if_neg c30).symm.trans h
    refine v_bipush (pc := 6) (-4 : Int32) rfl hC dX10_chanceOfTenths_6 ?_
    obtain rfl := Option.some.inj h
    exact v_iret (pc := 8) hC rfl dX10_chanceOfTenths_8 hP
theorem dX10_tenths_0 : decode cX10_tenths 0 = .ok (.iload_n 1, 1) := by decide +kernel
theorem dX10_tenths_1 : decode cX10_tenths 1 = .ok (.iconst (-1), 1) := by decide +kernel
theorem dX10_tenths_2 : decode cX10_tenths 2 = .ok (.if_icmp .eq 14, 3) := by decide +kernel
theorem dX10_tenths_5 : decode cX10_tenths 5 = .ok (.aload_n 0, 1) := by decide +kernel
theorem dX10_tenths_6 : decode cX10_tenths 6 = .ok (.getfield 28, 3) := by decide +kernel
theorem dX10_tenths_9 : decode cX10_tenths 9 = .ok (.iload_n 1, 1) := by decide +kernel
theorem dX10_tenths_10 : decode cX10_tenths 10 = .ok (.invokevirtual 98, 3) := by decide +kernel
theorem dX10_tenths_13 : decode cX10_tenths 13 = .ok (.ifCond .eq 12, 3) := by decide +kernel
theorem dX10_tenths_16 : decode cX10_tenths 16 = .ok (.iload_n 2, 1) := by decide +kernel
theorem dX10_tenths_17 : decode cX10_tenths 17 = .ok (.iconst 0, 1) := by decide +kernel
theorem dX10_tenths_18 : decode cX10_tenths 18 = .ok (.iconst 2, 1) := by decide +kernel
theorem dX10_tenths_19 : decode cX10_tenths 19 = .ok (.invokestatic 126, 3) := by decide +kernel
theorem dX10_tenths_22 : decode cX10_tenths 22 = .ok (.ifCond .ne 6, 3) := by decide +kernel
theorem dX10_tenths_25 : decode cX10_tenths 25 = .ok (.bipush (-2), 2) := by decide +kernel
theorem dX10_tenths_27 : decode cX10_tenths 27 = .ok (.ireturn, 1) := by decide +kernel
theorem dX10_tenths_28 : decode cX10_tenths 28 = .ok (.aload_n 0, 1) := by decide +kernel
theorem dX10_tenths_29 : decode cX10_tenths 29 = .ok (.getfield 28, 3) := by decide +kernel
theorem dX10_tenths_32 : decode cX10_tenths 32 = .ok (.iload_n 1, 1) := by decide +kernel
theorem dX10_tenths_33 : decode cX10_tenths 33 = .ok (.invokevirtual 302, 3) := by decide +kernel
theorem dX10_tenths_36 : decode cX10_tenths 36 = .ok (.istore_n 3, 1) := by decide +kernel
theorem dX10_tenths_37 : decode cX10_tenths 37 = .ok (.iload_n 2, 1) := by decide +kernel
theorem dX10_tenths_38 : decode cX10_tenths 38 = .ok (.ifCond .ne 5, 3) := by decide +kernel
theorem dX10_tenths_41 : decode cX10_tenths 41 = .ok (.iload_n 3, 1) := by decide +kernel
theorem dX10_tenths_42 : decode cX10_tenths 42 = .ok (.ireturn, 1) := by decide +kernel
theorem dX10_tenths_43 : decode cX10_tenths 43 = .ok (.aload_n 0, 1) := by decide +kernel
theorem dX10_tenths_44 : decode cX10_tenths 44 = .ok (.getfield 28, 3) := by decide +kernel
theorem dX10_tenths_47 : decode cX10_tenths 47 = .ok (.iload_n 1, 1) := by decide +kernel
theorem dX10_tenths_48 : decode cX10_tenths 48 = .ok (.invokevirtual 305, 3) := by decide +kernel
theorem dX10_tenths_51 : decode cX10_tenths 51 = .ok (.istore 4, 2) := by decide +kernel
theorem dX10_tenths_53 : decode cX10_tenths 53 = .ok (.iload_n 2, 1) := by decide +kernel
theorem dX10_tenths_54 : decode cX10_tenths 54 = .ok (.iconst 1, 1) := by decide +kernel
theorem dX10_tenths_55 : decode cX10_tenths 55 = .ok (.if_icmp .ne 8, 3) := by decide +kernel
theorem dX10_tenths_58 : decode cX10_tenths 58 = .ok (.iload 4, 2) := by decide +kernel
theorem dX10_tenths_60 : decode cX10_tenths 60 = .ok (.goto 9, 3) := by decide +kernel
theorem dX10_tenths_63 : decode cX10_tenths 63 = .ok (.iload_n 3, 1) := by decide +kernel
theorem dX10_tenths_64 : decode cX10_tenths 64 = .ok (.iload 4, 2) := by decide +kernel
theorem dX10_tenths_66 : decode cX10_tenths 66 = .ok (.invokestatic 308, 3) := by decide +kernel
theorem dX10_tenths_69 : decode cX10_tenths 69 = .ok (.ireturn, 1) := by decide +kernel
def fX10_tenths (x0_ : Int32) (x1_ : Int32) (s : Sg) : Option (Int32 × Sg) :=
  if x0_ = (-1 : Int32) then
  (fX10_within x1_ (0 : Int32) (2 : Int32) s).bind fun w1 =>
  if w1.1 = 0 then
  some ((-2 : Int32), w1.2)
  else
  (fX3_feltInRace x0_ w1.2).bind fun w2 =>
  if x1_ = 0 then
  some (w2.1, w2.2)
  else
  (fX3_tenthsInRace x0_ w2.2).bind fun w3 =>
  if x1_ = (1 : Int32) then
  some (w3.1, w3.2)
  else
  (fX10_chanceOfTenths w2.1 w3.1 w3.2).bind fun w4 =>
  some (w4.1, w4.2)
  else
  (fX3_hasRace x0_ s).bind fun w9 =>
  if w9.1 = 0 then
  some ((-2 : Int32), w9.2)
  else
  (fX10_within x1_ (0 : Int32) (2 : Int32) w9.2).bind fun w11 =>
  if w11.1 = 0 then
  some ((-2 : Int32), w11.2)
  else
  (fX3_feltInRace x0_ w11.2).bind fun w12 =>
  if x1_ = 0 then
  some (w12.1, w12.2)
  else
  (fX3_tenthsInRace x0_ w12.2).bind fun w13 =>
  if x1_ = (1 : Int32) then
  some (w13.1, w13.2)
  else
  (fX10_chanceOfTenths w12.1 w13.1 w13.2).bind fun w14 =>
  some (w14.1, w14.2)
theorem ct_X10_tenths {g : Gl} {x0_ : Int32} {x1_ : Int32} {s : Sg} {w : Int32 × Sg}  (h : fX10_tenths x0_ x1_ s = some w) : Ct SS g iX10_tenths 3 68 [.ref (gad g 0), .int x0_, .int x1_] s (Dt (some (.int w.1)) w.2) := by
  refine Ct.ofV (by decide +kernel) 2 (lv0 := [some (.ref (gad g 0)), some (.int x0_), some (.int x1_), none, none]) rfl rfl (fun M hC => ?_)
  have hP : (Dt (some (.int w.1)) w.2) (some (.int w.1)) w.2 := ⟨rfl, rfl⟩
  generalize Dt (some (.int w.1)) w.2 = P at hP ⊢
  unfold fX10_tenths at h
  refine v_iload_n (pc := 0) hC dX10_tenths_0 rfl ?_
  refine v_iconst (pc := 1) (-1 : Int32) rfl hC dX10_tenths_1 ?_
  refine v_ic_eq (pc := 2) (tgt := 16) hC dX10_tenths_2 rfl (fun c8 => ?_) (fun c8 => ?_)
  · replace h := (if_pos c8).symm.trans h
    refine v_iload_n (pc := 16) hC dX10_tenths_16 rfl ?_
    refine v_iconst (pc := 17) (0 : Int32) rfl hC dX10_tenths_17 ?_
    refine v_iconst (pc := 18) (2 : Int32) rfl hC dX10_tenths_18 ?_
    obtain ⟨w1, hw1, h⟩ := obd_s h
    refine v_cS (pc := 19) [] [.int w1.1] gm_X10_within hC (ct_X10_within  hw1) ml_X10_126 rfl rfl rfl rfl rfl rfl dX10_tenths_19 ?_
    refine v_if_ne (pc := 22) (tgt := 28) hC dX10_tenths_22 rfl (fun c7 => ?_) (fun c7 => ?_)
    · replace h := (if_neg c7).symm.trans h
      refine v_aload_n (pc := 28) hC dX10_tenths_28 rfl ?_
      refine v_gt (pc := 29) 0 (.ref (gad g 1)) hC s_0 rfl rfl rfl rfl fl_X10_28 dX10_tenths_29 ?_
      refine v_iload_n (pc := 32) hC dX10_tenths_32 rfl ?_
      obtain ⟨w2, hw2, h⟩ := obd_s h
      refine v_cV (pc := 33) [] [.int w2.1] gm_X3_feltInRace hC s_1 rfl rfl (ct_X3_feltInRace  hw2) ml_X10_302 rfl rfl rfl rfl rfl rfl dX10_tenths_33 ?_
      refine v_istore_n (pc := 36) (lv' := [some (.ref (gad g 0)), some (.int x0_), some (.int x1_), some (.int w2.1), none]) hC dX10_tenths_36 rfl rfl rfl rfl ?_
      refine v_iload_n (pc := 37) hC dX10_tenths_37 rfl ?_
      refine v_if_ne (pc := 38) (tgt := 43) hC dX10_tenths_38 rfl (fun c6 => ?_) (fun c6 => ?_)
      · replace h := (if_neg c6).symm.trans h
        refine v_aload_n (pc := 43) hC dX10_tenths_43 rfl ?_
        refine v_gt (pc := 44) 0 (.ref (gad g 1)) hC s_0 rfl rfl rfl rfl fl_X10_28 dX10_tenths_44 ?_
        refine v_iload_n (pc := 47) hC dX10_tenths_47 rfl ?_
        obtain ⟨w3, hw3, h⟩ := obd_s h
        refine v_cV (pc := 48) [] [.int w3.1] gm_X3_tenthsInRace hC s_1 rfl rfl (ct_X3_tenthsInRace  hw3) ml_X10_305 rfl rfl rfl rfl rfl rfl dX10_tenths_48 ?_
        refine v_istore (pc := 51) (lv' := [some (.ref (gad g 0)), some (.int x0_), some (.int x1_), some (.int w2.1), some (.int w3.1)]) hC dX10_tenths_51 rfl rfl rfl rfl ?_
        refine v_iload_n (pc := 53) hC dX10_tenths_53 rfl ?_
        refine v_iconst (pc := 54) (1 : Int32) rfl hC dX10_tenths_54 ?_
        refine v_ic_ne (pc := 55) (tgt := 63) hC dX10_tenths_55 rfl (fun c5 => ?_) (fun c5 => ?_)
        · replace h := (if_neg c5).symm.trans h
          refine v_iload_n (pc := 63) hC dX10_tenths_63 rfl ?_
          refine v_iload (pc := 64) hC dX10_tenths_64 rfl ?_
          obtain ⟨w4, hw4, h⟩ := obd_s h
          refine v_cS (pc := 66) [] [.int w4.1] gm_X10_chanceOfTenths hC (ct_X10_chanceOfTenths  hw4) ml_X10_308 rfl rfl rfl rfl rfl rfl dX10_tenths_66 ?_
          obtain rfl := Option.some.inj h
          exact v_iret (pc := 69) hC rfl dX10_tenths_69 hP
        · replace h := (if_pos c5).symm.trans h
          refine v_iload (pc := 58) hC dX10_tenths_58 rfl ?_
          refine v_goto (pc := 60) (tgt := 69) hC dX10_tenths_60 rfl ?_
          obtain rfl := Option.some.inj h
          exact v_iret (pc := 69) hC rfl dX10_tenths_69 hP
      · replace h := (if_pos c6).symm.trans h
        refine v_iload_n (pc := 41) hC dX10_tenths_41 rfl ?_
        obtain rfl := Option.some.inj h
        exact v_iret (pc := 42) hC rfl dX10_tenths_42 hP
    · replace h := (if_pos c7).symm.trans h
      refine v_bipush (pc := 25) (-2 : Int32) rfl hC dX10_tenths_25 ?_
      obtain rfl := Option.some.inj h
      exact v_iret (pc := 27) hC rfl dX10_tenths_27 hP
  · replace h := (if_neg c8).symm.trans h
    refine v_aload_n (pc := 5) hC dX10_tenths_5 rfl ?_
    refine v_gt (pc := 6) 0 (.ref (gad g 1)) hC s_0 rfl rfl rfl rfl fl_X10_28 dX10_tenths_6 ?_
    refine v_iload_n (pc := 9) hC dX10_tenths_9 rfl ?_
    obtain ⟨w9, hw9, h⟩ := obd_s h
    refine v_cV (pc := 10) [] [.int w9.1] gm_X3_hasRace hC s_1 rfl rfl (ct_X3_hasRace  hw9) ml_X10_98 rfl rfl rfl rfl rfl rfl dX10_tenths_10 ?_
    refine v_if_eq (pc := 13) (tgt := 25) hC dX10_tenths_13 rfl (fun c10 => ?_) (fun c10 => ?_)
    · replace h := (if_pos c10).symm.trans h
      refine v_bipush (pc := 25) (-2 : Int32) rfl hC dX10_tenths_25 ?_
      obtain rfl := Option.some.inj h
      exact v_iret (pc := 27) hC rfl dX10_tenths_27 hP
    · replace h := (if_neg c10).symm.trans h
      refine v_iload_n (pc := 16) hC dX10_tenths_16 rfl ?_
      refine v_iconst (pc := 17) (0 : Int32) rfl hC dX10_tenths_17 ?_
      refine v_iconst (pc := 18) (2 : Int32) rfl hC dX10_tenths_18 ?_
      obtain ⟨w11, hw11, h⟩ := obd_s h
      refine v_cS (pc := 19) [] [.int w11.1] gm_X10_within hC (ct_X10_within  hw11) ml_X10_126 rfl rfl rfl rfl rfl rfl dX10_tenths_19 ?_
      refine v_if_ne (pc := 22) (tgt := 28) hC dX10_tenths_22 rfl (fun c17 => ?_) (fun c17 => ?_)
      · replace h := (if_neg c17).symm.trans h
        refine v_aload_n (pc := 28) hC dX10_tenths_28 rfl ?_
        refine v_gt (pc := 29) 0 (.ref (gad g 1)) hC s_0 rfl rfl rfl rfl fl_X10_28 dX10_tenths_29 ?_
        refine v_iload_n (pc := 32) hC dX10_tenths_32 rfl ?_
        obtain ⟨w12, hw12, h⟩ := obd_s h
        refine v_cV (pc := 33) [] [.int w12.1] gm_X3_feltInRace hC s_1 rfl rfl (ct_X3_feltInRace  hw12) ml_X10_302 rfl rfl rfl rfl rfl rfl dX10_tenths_33 ?_
        refine v_istore_n (pc := 36) (lv' := [some (.ref (gad g 0)), some (.int x0_), some (.int x1_), some (.int w12.1), none]) hC dX10_tenths_36 rfl rfl rfl rfl ?_
        refine v_iload_n (pc := 37) hC dX10_tenths_37 rfl ?_
        refine v_if_ne (pc := 38) (tgt := 43) hC dX10_tenths_38 rfl (fun c16 => ?_) (fun c16 => ?_)
        · replace h := (if_neg c16).symm.trans h
          refine v_aload_n (pc := 43) hC dX10_tenths_43 rfl ?_
          refine v_gt (pc := 44) 0 (.ref (gad g 1)) hC s_0 rfl rfl rfl rfl fl_X10_28 dX10_tenths_44 ?_
          refine v_iload_n (pc := 47) hC dX10_tenths_47 rfl ?_
          obtain ⟨w13, hw13, h⟩ := obd_s h
          refine v_cV (pc := 48) [] [.int w13.1] gm_X3_tenthsInRace hC s_1 rfl rfl (ct_X3_tenthsInRace  hw13) ml_X10_305 rfl rfl rfl rfl rfl rfl dX10_tenths_48 ?_
          refine v_istore (pc := 51) (lv' := [some (.ref (gad g 0)), some (.int x0_), some (.int x1_), some (.int w12.1), some (.int w13.1)]) hC dX10_tenths_51 rfl rfl rfl rfl ?_
          refine v_iload_n (pc := 53) hC dX10_tenths_53 rfl ?_
          refine v_iconst (pc := 54) (1 : Int32) rfl hC dX10_tenths_54 ?_
          refine v_ic_ne (pc := 55) (tgt := 63) hC dX10_tenths_55 rfl (fun c15 => ?_) (fun c15 => ?_)
          · replace h := (if_neg c15).symm.trans h
            refine v_iload_n (pc := 63) hC dX10_tenths_63 rfl ?_
            refine v_iload (pc := 64) hC dX10_tenths_64 rfl ?_
            obtain ⟨w14, hw14, h⟩ := obd_s h
            refine v_cS (pc := 66) [] [.int w14.1] gm_X10_chanceOfTenths hC (ct_X10_chanceOfTenths  hw14) ml_X10_308 rfl rfl rfl rfl rfl rfl dX10_tenths_66 ?_
            obtain rfl := Option.some.inj h
            exact v_iret (pc := 69) hC rfl dX10_tenths_69 hP
          · replace h := (if_pos c15).symm.trans h
            refine v_iload (pc := 58) hC dX10_tenths_58 rfl ?_
            refine v_goto (pc := 60) (tgt := 69) hC dX10_tenths_60 rfl ?_
            obtain rfl := Option.some.inj h
            exact v_iret (pc := 69) hC rfl dX10_tenths_69 hP
        · replace h := (if_pos c16).symm.trans h
          refine v_iload_n (pc := 41) hC dX10_tenths_41 rfl ?_
          obtain rfl := Option.some.inj h
          exact v_iret (pc := 42) hC rfl dX10_tenths_42 hP
      · replace h := (if_pos c17).symm.trans h
        refine v_bipush (pc := 25) (-2 : Int32) rfl hC dX10_tenths_25 ?_
        obtain rfl := Option.some.inj h
        exact v_iret (pc := 27) hC rfl dX10_tenths_27 hP
theorem dX10_world_0 : decode cX10_world 0 = .ok (.iload_n 1, 1) := by decide +kernel
theorem dX10_world_1 : decode cX10_world 1 = .ok (.iconst 0, 1) := by decide +kernel
theorem dX10_world_2 : decode cX10_world 2 = .ok (.bipush 9, 2) := by decide +kernel
theorem dX10_world_4 : decode cX10_world 4 = .ok (.invokestatic 126, 3) := by decide +kernel
theorem dX10_world_7 : decode cX10_world 7 = .ok (.ifCond .ne 7, 3) := by decide +kernel
theorem dX10_world_10 : decode cX10_world 10 = .ok (.sipush (-5000), 3) := by decide +kernel
theorem dX10_world_13 : decode cX10_world 13 = .ok (.ireturn, 1) := by decide +kernel
theorem dX10_world_14 : decode cX10_world 14 = .ok (.aload_n 0, 1) := by decide +kernel
theorem dX10_world_15 : decode cX10_world 15 = .ok (.getfield 56, 3) := by decide +kernel
theorem dX10_world_18 : decode cX10_world 18 = .ok (.invokevirtual 296, 3) := by decide +kernel
theorem dX10_world_21 : decode cX10_world 21 = .ok (.pop, 1) := by decide +kernel
theorem dX10_world_22 : decode cX10_world 22 = .ok (.aload_n 0, 1) := by decide +kernel
theorem dX10_world_23 : decode cX10_world 23 = .ok (.getfield 56, 3) := by decide +kernel
theorem dX10_world_26 : decode cX10_world 26 = .ok (.getfield 311, 3) := by decide +kernel
theorem dX10_world_29 : decode cX10_world 29 = .ok (.iload_n 1, 1) := by decide +kernel
theorem dX10_world_30 : decode cX10_world 30 = .ok (.iaload, 1) := by decide +kernel
theorem dX10_world_31 : decode cX10_world 31 = .ok (.ireturn, 1) := by decide +kernel
def fX10_world (x0_ : Int32) (s : Sg) : Option (Int32 × Sg) :=
  (fX10_within x0_ (0 : Int32) (9 : Int32) s).bind fun w1 =>
  if w1.1 = 0 then
  some ((-5000 : Int32), w1.2)
  else
  (fX9_parse w1.2).bind fun w2 =>
  (aI w2.2 36 10 x0_).bind fun v3 =>
  some (v3, w2.2)
theorem ct_X10_world {g : Gl} {x0_ : Int32} {s : Sg} {w : Int32 × Sg}  (h : fX10_world x0_ s = some w) : Ct SS g iX10_world 5 107 [.ref (gad g 0), .int x0_] s (Dt (some (.int w.1)) w.2) := by
  refine Ct.ofV (by decide +kernel) 0 (lv0 := [some (.ref (gad g 0)), some (.int x0_)]) rfl rfl (fun M hC => ?_)
  have hP : (Dt (some (.int w.1)) w.2) (some (.int w.1)) w.2 := ⟨rfl, rfl⟩
  generalize Dt (some (.int w.1)) w.2 = P at hP ⊢
  unfold fX10_world at h
  refine v_iload_n (pc := 0) hC dX10_world_0 rfl ?_
  refine v_iconst (pc := 1) (0 : Int32) rfl hC dX10_world_1 ?_
  refine v_bipush (pc := 2) (9 : Int32) rfl hC dX10_world_2 ?_
  obtain ⟨w1, hw1, h⟩ := obd_s h
  refine v_cS (pc := 4) [] [.int w1.1] gm_X10_within hC (ct_X10_within  hw1) ml_X10_126 rfl rfl rfl rfl rfl rfl dX10_world_4 ?_
  refine v_if_ne (pc := 7) (tgt := 14) hC dX10_world_7 rfl (fun c4 => ?_) (fun c4 => ?_)
  · replace h := (if_neg c4).symm.trans h
    refine v_aload_n (pc := 14) hC dX10_world_14 rfl ?_
    refine v_gt (pc := 15) 5 (.ref (gad g 35)) hC s_0 rfl rfl rfl rfl fl_X10_56 dX10_world_15 ?_
    obtain ⟨w2, hw2, h⟩ := obd_s h
    refine v_cV (pc := 18) [] [.int w2.1] gm_X9_parse hC s_35 rfl rfl (ct_X9_parse  hw2) ml_X10_296 rfl rfl rfl rfl rfl rfl dX10_world_18 ?_
    refine v_pop (pc := 21) hC rfl dX10_world_21 ?_
    refine v_aload_n (pc := 22) hC dX10_world_22 rfl ?_
    refine v_gt (pc := 23) 5 (.ref (gad g 35)) hC s_0 rfl rfl rfl rfl fl_X10_56 dX10_world_23 ?_
    refine v_gtN (pc := 26) 1 (.ref (gad g 36)) hC s_35 rfl rfl rfl rfl fl_X10_311 dX10_world_26 ?_
    refine v_iload_n (pc := 29) hC dX10_world_29 rfl ?_
    obtain ⟨v3, hv3, h⟩ := obd_s h
    refine v_aI (pc := 30) hC s_36 hv3 dX10_world_30 ?_
    obtain rfl := Option.some.inj h
    exact v_iret (pc := 31) hC rfl dX10_world_31 hP
  · replace h := (if_pos c4).symm.trans h
    refine v_sipush (pc := 10) (-5000 : Int32) rfl hC dX10_world_10 ?_
    obtain rfl := Option.some.inj h
    exact v_iret (pc := 13) hC rfl dX10_world_13 hP
theorem dX10_made_0 : decode cX10_made 0 = .ok (.iload_n 1, 1) := by decide +kernel
theorem dX10_made_1 : decode cX10_made 1 = .ok (.iload_n 2, 1) := by decide +kernel
theorem dX10_made_2 : decode cX10_made 2 = .ok (.invokestatic 87, 3) := by decide +kernel
theorem dX10_made_5 : decode cX10_made 5 = .ok (.ifCond .eq 33, 3) := by decide +kernel
theorem dX10_made_8 : decode cX10_made 8 = .ok (.iload_n 3, 1) := by decide +kernel
theorem dX10_made_9 : decode cX10_made 9 = .ok (.invokestatic 102, 3) := by decide +kernel
theorem dX10_made_12 : decode cX10_made 12 = .ok (.ifCond .eq 26, 3) := by decide +kernel
theorem dX10_made_15 : decode cX10_made 15 = .ok (.iload 4, 2) := by decide +kernel
theorem dX10_made_17 : decode cX10_made 17 = .ok (.iconst 1, 1) := by decide +kernel
theorem dX10_made_18 : decode cX10_made 18 = .ok (.bipush 8, 2) := by decide +kernel
theorem dX10_made_20 : decode cX10_made 20 = .ok (.invokestatic 126, 3) := by decide +kernel
theorem dX10_made_23 : decode cX10_made 23 = .ok (.ifCond .eq 15, 3) := by decide +kernel
theorem dX10_made_26 : decode cX10_made 26 = .ok (.iload_n 3, 1) := by decide +kernel
theorem dX10_made_27 : decode cX10_made 27 = .ok (.iload 4, 2) := by decide +kernel
theorem dX10_made_29 : decode cX10_made 29 = .ok (.iadd, 1) := by decide +kernel
theorem dX10_made_30 : decode cX10_made 30 = .ok (.iconst 1, 1) := by decide +kernel
theorem dX10_made_31 : decode cX10_made 31 = .ok (.isub, 1) := by decide +kernel
theorem dX10_made_32 : decode cX10_made 32 = .ok (.invokestatic 102, 3) := by decide +kernel
theorem dX10_made_35 : decode cX10_made 35 = .ok (.ifCond .ne 6, 3) := by decide +kernel
theorem dX10_made_38 : decode cX10_made 38 = .ok (.bipush (-2), 2) := by decide +kernel
theorem dX10_made_40 : decode cX10_made 40 = .ok (.ireturn, 1) := by decide +kernel
theorem dX10_made_41 : decode cX10_made 41 = .ok (.aload_n 0, 1) := by decide +kernel
theorem dX10_made_42 : decode cX10_made 42 = .ok (.getfield 28, 3) := by decide +kernel
theorem dX10_made_45 : decode cX10_made 45 = .ok (.getfield 91, 3) := by decide +kernel
theorem dX10_made_48 : decode cX10_made 48 = .ok (.bipush 16, 2) := by decide +kernel
theorem dX10_made_50 : decode cX10_made 50 = .ok (.if_icmp .ge 18, 3) := by decide +kernel
theorem dX10_made_53 : decode cX10_made 53 = .ok (.aload_n 0, 1) := by decide +kernel
theorem dX10_made_54 : decode cX10_made 54 = .ok (.getfield 28, 3) := by decide +kernel
theorem dX10_made_57 : decode cX10_made 57 = .ok (.getfield 112, 3) := by decide +kernel
theorem dX10_made_60 : decode cX10_made 60 = .ok (.iload 4, 2) := by decide +kernel
theorem dX10_made_62 : decode cX10_made 62 = .ok (.iadd, 1) := by decide +kernel
theorem dX10_made_63 : decode cX10_made 63 = .ok (.bipush 64, 2) := by decide +kernel
theorem dX10_made_65 : decode cX10_made 65 = .ok (.if_icmp .le 6, 3) := by decide +kernel
theorem dX10_made_68 : decode cX10_made 68 = .ok (.bipush (-4), 2) := by decide +kernel
theorem dX10_made_70 : decode cX10_made 70 = .ok (.ireturn, 1) := by decide +kernel
theorem dX10_made_71 : decode cX10_made 71 = .ok (.aload_n 0, 1) := by decide +kernel
theorem dX10_made_72 : decode cX10_made 72 = .ok (.getfield 28, 3) := by decide +kernel
theorem dX10_made_75 : decode cX10_made 75 = .ok (.iload_n 1, 1) := by decide +kernel
theorem dX10_made_76 : decode cX10_made 76 = .ok (.iload_n 2, 1) := by decide +kernel
theorem dX10_made_77 : decode cX10_made 77 = .ok (.invokevirtual 94, 3) := by decide +kernel
theorem dX10_made_80 : decode cX10_made 80 = .ok (.istore 6, 2) := by decide +kernel
theorem dX10_made_82 : decode cX10_made 82 = .ok (.aload_n 0, 1) := by decide +kernel
theorem dX10_made_83 : decode cX10_made 83 = .ok (.getfield 65, 3) := by decide +kernel
theorem dX10_made_86 : decode cX10_made 86 = .ok (.iload 6, 2) := by decide +kernel
theorem dX10_made_88 : decode cX10_made 88 = .ok (.iload_n 3, 1) := by decide +kernel
theorem dX10_made_89 : decode cX10_made 89 = .ok (.iload 4, 2) := by decide +kernel
theorem dX10_made_91 : decode cX10_made 91 = .ok (.iload 5, 2) := by decide +kernel
theorem dX10_made_93 : decode cX10_made 93 = .ok (.invokevirtual 314, 3) := by decide +kernel
theorem dX10_made_96 : decode cX10_made 96 = .ok (.iload 6, 2) := by decide +kernel
theorem dX10_made_98 : decode cX10_made 98 = .ok (.ireturn, 1) := by decide +kernel
def fX10_made (x0_ : Int32) (x1_ : Int32) (x2_ : Int32) (x3_ : Int32) (x4_ : Int32) (s : Sg) : Option (Int32 × Sg) :=
  (fX10_mayBeRace x0_ x1_ s).bind fun w1 =>
  if w1.1 = 0 then
  some ((-2 : Int32), w1.2)
  else
  (fX10_isSwimmer x2_ w1.2).bind fun w3 =>
  if w3.1 = 0 then
  some ((-2 : Int32), w3.2)
  else
  (fX10_within x3_ (1 : Int32) (8 : Int32) w3.2).bind fun w5 =>
  if w5.1 = 0 then
  some ((-2 : Int32), w5.2)
  else
  (fX10_isSwimmer ((x2_ + x3_) - (1 : Int32)) w5.2).bind fun w7 =>
  if w7.1 = 0 then
  some ((-2 : Int32), w7.2)
  else
  if (16 : Int32) ≤ (gI w7.2 1 0) then
  some ((-4 : Int32), w7.2)
  else
  if ((gI w7.2 1 1) + x3_) ≤ (64 : Int32) then
  (fX3_addRace x0_ x1_ w7.2).bind fun w9 =>
  (fX2_fill w9.1 x2_ x3_ x4_ w9.2).bind fun w10 =>
  some (w9.1, w10)
  else
  some ((-4 : Int32), w7.2)
theorem ct_X10_made {g : Gl} {x0_ : Int32} {x1_ : Int32} {x2_ : Int32} {x3_ : Int32} {x4_ : Int32} {s : Sg} {w : Int32 × Sg}  (h : fX10_made x0_ x1_ x2_ x3_ x4_ s = some w) : Ct SS g iX10_made 6 135 [.ref (gad g 0), .int x0_, .int x1_, .int x2_, .int x3_, .int x4_] s (Dt (some (.int w.1)) w.2) := by
  refine Ct.ofV (by decide +kernel) 1 (lv0 := [some (.ref (gad g 0)), some (.int x0_), some (.int x1_), some (.int x2_), some (.int x3_), some (.int x4_), none]) rfl rfl (fun M hC => ?_)
  have hP : (Dt (some (.int w.1)) w.2) (some (.int w.1)) w.2 := ⟨rfl, rfl⟩
  generalize Dt (some (.int w.1)) w.2 = P at hP ⊢
  unfold fX10_made at h
  refine v_iload_n (pc := 0) hC dX10_made_0 rfl ?_
  refine v_iload_n (pc := 1) hC dX10_made_1 rfl ?_
  obtain ⟨w1, hw1, h⟩ := obd_s h
  refine v_cS (pc := 2) [] [.int w1.1] gm_X10_mayBeRace hC (ct_X10_mayBeRace  hw1) ml_X10_87 rfl rfl rfl rfl rfl rfl dX10_made_2 ?_
  refine v_if_eq (pc := 5) (tgt := 38) hC dX10_made_5 rfl (fun c2 => ?_) (fun c2 => ?_)
  · replace h := (if_pos c2).symm.trans h
    refine v_bipush (pc := 38) (-2 : Int32) rfl hC dX10_made_38 ?_
    obtain rfl := Option.some.inj h
    exact v_iret (pc := 40) hC rfl dX10_made_40 hP
  · replace h := (if_neg c2).symm.trans h
    refine v_iload_n (pc := 8) hC dX10_made_8 rfl ?_
    obtain ⟨w3, hw3, h⟩ := obd_s h
    refine v_cS (pc := 9) [] [.int w3.1] gm_X10_isSwimmer hC (ct_X10_isSwimmer  hw3) ml_X10_102 rfl rfl rfl rfl rfl rfl dX10_made_9 ?_
    refine v_if_eq (pc := 12) (tgt := 38) hC dX10_made_12 rfl (fun c4 => ?_) (fun c4 => ?_)
    · replace h := (if_pos c4).symm.trans h
      refine v_bipush (pc := 38) (-2 : Int32) rfl hC dX10_made_38 ?_
      obtain rfl := Option.some.inj h
      exact v_iret (pc := 40) hC rfl dX10_made_40 hP
    · replace h := (if_neg c4).symm.trans h
      refine v_iload (pc := 15) hC dX10_made_15 rfl ?_
      refine v_iconst (pc := 17) (1 : Int32) rfl hC dX10_made_17 ?_
      refine v_bipush (pc := 18) (8 : Int32) rfl hC dX10_made_18 ?_
      obtain ⟨w5, hw5, h⟩ := obd_s h
      refine v_cS (pc := 20) [] [.int w5.1] gm_X10_within hC (ct_X10_within  hw5) ml_X10_126 rfl rfl rfl rfl rfl rfl dX10_made_20 ?_
      refine v_if_eq (pc := 23) (tgt := 38) hC dX10_made_23 rfl (fun c6 => ?_) (fun c6 => ?_)
      · replace h := (if_pos c6).symm.trans h
        refine v_bipush (pc := 38) (-2 : Int32) rfl hC dX10_made_38 ?_
        obtain rfl := Option.some.inj h
        exact v_iret (pc := 40) hC rfl dX10_made_40 hP
      · replace h := (if_neg c6).symm.trans h
        refine v_iload_n (pc := 26) hC dX10_made_26 rfl ?_
        refine v_iload (pc := 27) hC dX10_made_27 rfl ?_
        refine v_iadd (pc := 29) hC dX10_made_29 ?_
        refine v_iconst (pc := 30) (1 : Int32) rfl hC dX10_made_30 ?_
        refine v_isub (pc := 31) hC dX10_made_31 ?_
        obtain ⟨w7, hw7, h⟩ := obd_s h
        refine v_cS (pc := 32) [] [.int w7.1] gm_X10_isSwimmer hC (ct_X10_isSwimmer  hw7) ml_X10_102 rfl rfl rfl rfl rfl rfl dX10_made_32 ?_
        refine v_if_ne (pc := 35) (tgt := 41) hC dX10_made_35 rfl (fun c12 => ?_) (fun c12 => ?_)
        · replace h := (if_neg c12).symm.trans h
          refine v_aload_n (pc := 41) hC dX10_made_41 rfl ?_
          refine v_gt (pc := 42) 0 (.ref (gad g 1)) hC s_0 rfl rfl rfl rfl fl_X10_28 dX10_made_42 ?_
          refine v_gtN (pc := 45) 0 (.int (gI w7.2 1 0)) hC s_1 rfl rfl rfl rfl fl_X10_91 dX10_made_45 ?_
          refine v_bipush (pc := 48) (16 : Int32) rfl hC dX10_made_48 ?_
          refine v_ic_ge (pc := 50) (tgt := 68) hC dX10_made_50 rfl (fun c8 => ?_) (fun c8 => ?_)
          · replace h := (if_pos c8).symm.trans h
            refine v_bipush (pc := 68) (-4 : Int32) rfl hC dX10_made_68 ?_
            obtain rfl := Option.some.inj h
            exact v_iret (pc := 70) hC rfl dX10_made_70 hP
          · replace h := (if_neg c8).symm.trans h
            refine v_aload_n (pc := 53) hC dX10_made_53 rfl ?_
            refine v_gt (pc := 54) 0 (.ref (gad g 1)) hC s_0 rfl rfl rfl rfl fl_X10_28 dX10_made_54 ?_
            refine v_gtN (pc := 57) 1 (.int (gI w7.2 1 1)) hC s_1 rfl rfl rfl rfl fl_X10_112 dX10_made_57 ?_
            refine v_iload (pc := 60) hC dX10_made_60 rfl ?_
            refine v_iadd (pc := 62) hC dX10_made_62 ?_
            refine v_bipush (pc := 63) (64 : Int32) rfl hC dX10_made_63 ?_
            refine v_ic_le (pc := 65) (tgt := 71) hC dX10_made_65 rfl (fun c11 => ?_) (fun c11 => ?_)
            · replace h := (if_pos c11).symm.trans h
              refine v_aload_n (pc := 71) hC dX10_made_71 rfl ?_
              refine v_gt (pc := 72) 0 (.ref (gad g 1)) hC s_0 rfl rfl rfl rfl fl_X10_28 dX10_made_72 ?_
              refine v_iload_n (pc := 75) hC dX10_made_75 rfl ?_
              refine v_iload_n (pc := 76) hC dX10_made_76 rfl ?_
              obtain ⟨w9, hw9, h⟩ := obd_s h
              refine v_cV (pc := 77) [] [.int w9.1] gm_X3_addRace hC s_1 rfl rfl (ct_X3_addRace  hw9) ml_X10_94 rfl rfl rfl rfl rfl rfl dX10_made_77 ?_
              refine v_istore (pc := 80) (lv' := [some (.ref (gad g 0)), some (.int x0_), some (.int x1_), some (.int x2_), some (.int x3_), some (.int x4_), some (.int w9.1)]) hC dX10_made_80 rfl rfl rfl rfl ?_
              refine v_aload_n (pc := 82) hC dX10_made_82 rfl ?_
              refine v_gt (pc := 83) 6 (.ref (gad g 37)) hC s_0 rfl rfl rfl rfl fl_X10_65 dX10_made_83 ?_
              refine v_iload (pc := 86) hC dX10_made_86 rfl ?_
              refine v_iload_n (pc := 88) hC dX10_made_88 rfl ?_
              refine v_iload (pc := 89) hC dX10_made_89 rfl ?_
              refine v_iload (pc := 91) hC dX10_made_91 rfl ?_
              obtain ⟨w10, hw10, h⟩ := obd_s h
              refine v_cV (pc := 93) [] [] gm_X2_fill hC s_37 rfl rfl (ct_X2_fill  hw10) ml_X10_314 rfl rfl rfl rfl rfl rfl dX10_made_93 ?_
              refine v_iload (pc := 96) hC dX10_made_96 rfl ?_
              obtain rfl := Option.some.inj h
              exact v_iret (pc := 98) hC rfl dX10_made_98 hP
            · replace h := (if_neg c11).symm.trans h
              refine v_bipush (pc := 68) (-4 : Int32) rfl hC dX10_made_68 ?_
              obtain rfl := Option.some.inj h
              exact v_iret (pc := 70) hC rfl dX10_made_70 hP
        · replace h := (if_pos c12).symm.trans h
          refine v_bipush (pc := 38) (-2 : Int32) rfl hC dX10_made_38 ?_
          obtain rfl := Option.some.inj h
          exact v_iret (pc := 40) hC rfl dX10_made_40 hP
