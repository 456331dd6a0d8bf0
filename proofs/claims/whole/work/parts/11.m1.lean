/-! methods, printed by wip/whole/gen/meth.py: X9_parse, X4_faultAt, X3_isBetter, X2_rankAmong, X4_laneFor, X3_addSwim, X3_hasSwim, X3_lengthsOf, X2_lot, X3_setTime, X2_makeTimes, X2_fill, X3_hasRace, X3_isTaken, X3_addRace, X3_timeOf, X3_feltIn, X3_togetherIn, X3_togetherInAll, X3_doubledMean -/
theorem dX9_parse_0 : decode cX9_parse 0 = .ok (.aload_n 0, 1) := by decide +kernel
theorem dX9_parse_1 : decode cX9_parse 1 = .ok (.invokevirtual 26, 3) := by decide +kernel
theorem dX9_parse_4 : decode cX9_parse 4 = .ok (.iconst 0, 1) := by decide +kernel
theorem dX9_parse_5 : decode cX9_parse 5 = .ok (.istore_n 1, 1) := by decide +kernel
theorem dX9_parse_6 : decode cX9_parse 6 = .ok (.iconst 0, 1) := by decide +kernel
theorem dX9_parse_7 : decode cX9_parse 7 = .ok (.istore_n 2, 1) := by decide +kernel
theorem dX9_parse_8 : decode cX9_parse 8 = .ok (.iload_n 2, 1) := by decide +kernel
theorem dX9_parse_9 : decode cX9_parse 9 = .ok (.aload_n 0, 1) := by decide +kernel
theorem dX9_parse_10 : decode cX9_parse 10 = .ok (.getfield 9, 3) := by decide +kernel
theorem dX9_parse_13 : decode cX9_parse 13 = .ok (.getfield 29, 3) := by decide +kernel
theorem dX9_parse_16 : decode cX9_parse 16 = .ok (.if_icmp .ge 36, 3) := by decide +kernel
theorem dX9_parse_19 : decode cX9_parse 19 = .ok (.aload_n 0, 1) := by decide +kernel
theorem dX9_parse_20 : decode cX9_parse 20 = .ok (.iload_n 1, 1) := by decide +kernel
theorem dX9_parse_21 : decode cX9_parse 21 = .ok (.aload_n 0, 1) := by decide +kernel
theorem dX9_parse_22 : decode cX9_parse 22 = .ok (.getfield 9, 3) := by decide +kernel
theorem dX9_parse_25 : decode cX9_parse 25 = .ok (.getfield 34, 3) := by decide +kernel
theorem dX9_parse_28 : decode cX9_parse 28 = .ok (.iload_n 2, 1) := by decide +kernel
theorem dX9_parse_29 : decode cX9_parse 29 = .ok (.iaload, 1) := by decide +kernel
theorem dX9_parse_30 : decode cX9_parse 30 = .ok (.invokevirtual 37, 3) := by decide +kernel
theorem dX9_parse_33 : decode cX9_parse 33 = .ok (.istore_n 1, 1) := by decide +kernel
theorem dX9_parse_34 : decode cX9_parse 34 = .ok (.iload_n 1, 1) := by decide +kernel
theorem dX9_parse_35 : decode cX9_parse 35 = .ok (.bipush 7, 2) := by decide +kernel
theorem dX9_parse_37 : decode cX9_parse 37 = .ok (.if_icmp .ne 9, 3) := by decide +kernel
theorem dX9_parse_40 : decode cX9_parse 40 = .ok (.aload_n 0, 1) := by decide +kernel
theorem dX9_parse_41 : decode cX9_parse 41 = .ok (.invokevirtual 26, 3) := by decide +kernel
theorem dX9_parse_44 : decode cX9_parse 44 = .ok (.iload_n 2, 1) := by decide +kernel
theorem dX9_parse_45 : decode cX9_parse 45 = .ok (.ireturn, 1) := by decide +kernel
theorem dX9_parse_46 : decode cX9_parse 46 = .ok (.iinc 2 1, 3) := by decide +kernel
theorem dX9_parse_49 : decode cX9_parse 49 = .ok (.goto (-41), 3) := by decide +kernel
theorem dX9_parse_52 : decode cX9_parse 52 = .ok (.aload_n 0, 1) := by decide +kernel
theorem dX9_parse_53 : decode cX9_parse 53 = .ok (.getfield 9, 3) := by decide +kernel
theorem dX9_parse_56 : decode cX9_parse 56 = .ok (.getfield 29, 3) := by decide +kernel
theorem dX9_parse_59 : decode cX9_parse 59 = .ok (.ifCond .eq 14, 3) := by decide +kernel
theorem dX9_parse_62 : decode cX9_parse 62 = .ok (.iload_n 1, 1) := by decide +kernel
theorem dX9_parse_63 : decode cX9_parse 63 = .ok (.iconst 5, 1) := by decide +kernel
theorem dX9_parse_64 : decode cX9_parse 64 = .ok (.if_icmp .eq 9, 3) := by decide +kernel
theorem dX9_parse_67 : decode cX9_parse 67 = .ok (.iload_n 1, 1) := by decide +kernel
theorem dX9_parse_68 : decode cX9_parse 68 = .ok (.bipush 6, 2) := by decide +kernel
theorem dX9_parse_70 : decode cX9_parse 70 = .ok (.if_icmp .ne 5, 3) := by decide +kernel
theorem dX9_parse_73 : decode cX9_parse 73 = .ok (.iconst (-1), 1) := by decide +kernel
theorem dX9_parse_74 : decode cX9_parse 74 = .ok (.ireturn, 1) := by decide +kernel
theorem dX9_parse_75 : decode cX9_parse 75 = .ok (.aload_n 0, 1) := by decide +kernel
theorem dX9_parse_76 : decode cX9_parse 76 = .ok (.invokevirtual 26, 3) := by decide +kernel
theorem dX9_parse_79 : decode cX9_parse 79 = .ok (.aload_n 0, 1) := by decide +kernel
theorem dX9_parse_80 : decode cX9_parse 80 = .ok (.getfield 9, 3) := by decide +kernel
theorem dX9_parse_83 : decode cX9_parse 83 = .ok (.getfield 29, 3) := by decide +kernel
theorem dX9_parse_86 : decode cX9_parse 86 = .ok (.ireturn, 1) := by decide +kernel
def fX9_parse_L8  (a : Int32 × Int32) (s : Sg) : Option (((Int32 × Int32) ⊕ (Int32 ⊕ (Int32))) × Sg) :=
  if (gI s 32 1) ≤ a.2 then
  some (.inr (.inr a.1), s)
  else
  (aI s 33 60 a.2).bind fun v2 =>
  (fX9_next a.1 v2 s).bind fun w3 =>
  if w3.1 = (7 : Int32) then
  (fX9_clearValues w3.2).bind fun w6 =>
  some (.inr (.inl a.2), w6)
  else
  bnd (a.2 + (1 : Int32)) fun x4 =>
  some (.inl (w3.1, x4), w3.2)
def fX9_parse  (s : Sg) : Option (Int32 × Sg) :=
  (fX9_clearValues s).bind fun w1 =>
  (lpG (fX9_parse_L8) FU ((0 : Int32), (0 : Int32)) w1).bind fun w2 =>
  Sum.elim (fun r22 => some (r22, w2.2)) (fun e3 => if (gI w2.2 32 1) = 0 then
  some ((-1 : Int32), w2.2)
  else
  if e3 = (5 : Int32) then
  some ((-1 : Int32), w2.2)
  else
  if e3 = (6 : Int32) then
  some ((-1 : Int32), w2.2)
  else
  (fX9_clearValues w2.2).bind fun w6 =>
  some ((gI w6 32 1), w6)) w2.1
theorem ct_X9_parse {g : Gl}  {s : Sg} {w : Int32 × Sg}  (h : fX9_parse s = some w) : Ct SS g iX9_parse 4 85 [.ref (gad g 35)] s (Dt (some (.int w.1)) w.2) := by
  refine Ct.ofV (by decide +kernel) 2 (lv0 := [some (.ref (gad g 35)), none, none]) rfl rfl (fun M hC => ?_)
  have hP : (Dt (some (.int w.1)) w.2) (some (.int w.1)) w.2 := ⟨rfl, rfl⟩
  generalize Dt (some (.int w.1)) w.2 = P at hP ⊢
  unfold fX9_parse at h
  refine v_aload_n (pc := 0) hC dX9_parse_0 rfl ?_
  obtain ⟨w1, hw1, h⟩ := obd_s h
  refine v_cV (pc := 1) [] [] gm_X9_clearValues hC s_35 rfl rfl (ct_X9_clearValues  hw1) ml_X9_26 rfl rfl rfl rfl rfl rfl dX9_parse_1 ?_
  refine v_iconst (pc := 4) (0 : Int32) rfl hC dX9_parse_4 ?_
  refine v_istore_n (pc := 5) (lv' := [some (.ref (gad g 35)), some (.int (0 : Int32)), none]) hC dX9_parse_5 rfl rfl rfl rfl ?_
  refine v_iconst (pc := 6) (0 : Int32) rfl hC dX9_parse_6 ?_
  refine v_istore_n (pc := 7) (lv' := [some (.ref (gad g 35)), some (.int (0 : Int32)), some (.int (0 : Int32))]) hC dX9_parse_7 rfl rfl rfl rfl ?_
  obtain ⟨w2, hw2, h⟩ := obd_s h
  have kr20 : ∀ r22, w2.1 = .inl r22 → P (some (.int r22)) w2.2 := by
    intro r22 hr22
    rw [hr22] at h
    replace h := (Sum.elim_inl _ _ _).symm.trans h
    obtain rfl := Option.some.inj h
    exact hP
  have ke21 : ∀ e3, w2.1 = .inr e3 → V SS g M iX9_parse (PQ SS g M P) 52 [some (.ref (gad g 35)), some (.int e3), none] [] w2.2 := by
    intro e3 he3
    rw [he3] at h
    replace h := (Sum.elim_inr _ _ _).symm.trans h
    refine v_aload_n (pc := 52) hC dX9_parse_52 rfl ?_
    refine v_gt (pc := 53) 0 (.ref (gad g 32)) hC s_35 rfl rfl rfl rfl fl_X9_9 dX9_parse_53 ?_
    refine v_gtN (pc := 56) 1 (.int (gI w2.2 32 1)) hC s_32 rfl rfl rfl rfl fl_X9_29 dX9_parse_56 ?_
    refine v_if_eq (pc := 59) (tgt := 73) hC dX9_parse_59 rfl (fun c4 => ?_) (fun c4 => ?_)
    · replace h := (if_pos c4).symm.trans h
      refine v_iconst (pc := 73) (-1 : Int32) rfl hC dX9_parse_73 ?_
      obtain rfl := Option.some.inj h
      exact v_iret (pc := 74) hC rfl dX9_parse_74 hP
    · replace h := (if_neg c4).symm.trans h
      refine v_iload_n (pc := 62) hC dX9_parse_62 rfl ?_
      refine v_iconst (pc := 63) (5 : Int32) rfl hC dX9_parse_63 ?_
      refine v_ic_eq (pc := 64) (tgt := 73) hC dX9_parse_64 rfl (fun c5 => ?_) (fun c5 => ?_)
      · replace h := (if_pos c5).symm.trans h
        refine v_iconst (pc := 73) (-1 : Int32) rfl hC dX9_parse_73 ?_
        obtain rfl := Option.some.inj h
        exact v_iret (pc := 74) hC rfl dX9_parse_74 hP
      · replace h := (if_neg c5).symm.trans h
        refine v_iload_n (pc := 67) hC dX9_parse_67 rfl ?_
        refine v_bipush (pc := 68) (6 : Int32) rfl hC dX9_parse_68 ?_
        refine v_ic_ne (pc := 70) (tgt := 75) hC dX9_parse_70 rfl (fun c7 => ?_) (fun c7 => ?_)
        · replace h := (if_neg c7).symm.trans h
          refine v_aload_n (pc := 75) hC dX9_parse_75 rfl ?_
          obtain ⟨w6, hw6, h⟩ := obd_s h
          refine v_cV (pc := 76) [] [] gm_X9_clearValues hC s_35 rfl rfl (ct_X9_clearValues  hw6) ml_X9_26 rfl rfl rfl rfl rfl rfl dX9_parse_76 ?_
          refine v_aload_n (pc := 79) hC dX9_parse_79 rfl ?_
          refine v_gt (pc := 80) 0 (.ref (gad g 32)) hC s_35 rfl rfl rfl rfl fl_X9_9 dX9_parse_80 ?_
          refine v_gtN (pc := 83) 1 (.int (gI w6 32 1)) hC s_32 rfl rfl rfl rfl fl_X9_29 dX9_parse_83 ?_
          obtain rfl := Option.some.inj h
          exact v_iret (pc := 86) hC rfl dX9_parse_86 hP
        · replace h := (if_pos c7).symm.trans h
          refine v_iconst (pc := 73) (-1 : Int32) rfl hC dX9_parse_73 ?_
          obtain rfl := Option.some.inj h
          exact v_iret (pc := 74) hC rfl dX9_parse_74 hP
  refine V.ls (ls_some (ls_some (ls_some ls_nil))) (v_loopR (pc := 8) (fun a10 => [some (.ref (gad g 35)), some (.int a10.1), some (.int a10.2)]) (fun (r22 : Int32) t => P (some (.int r22)) t) (fun z t => V SS g M iX9_parse (PQ SS g M P) 52 [some (.ref (gad g 35)), some (.int z), none] [] t) (fun a10 s8 u9 hu9 k11 k13 k12 => ?_) _ _ _ _ hw2 kr20 ke21)
  unfold fX9_parse_L8 at hu9
  refine v_iload_n (pc := 8) hC dX9_parse_8 rfl ?_
  refine v_aload_n (pc := 9) hC dX9_parse_9 rfl ?_
  refine v_gt (pc := 10) 0 (.ref (gad g 32)) hC s_35 rfl rfl rfl rfl fl_X9_9 dX9_parse_10 ?_
  refine v_gtN (pc := 13) 1 (.int (gI s8 32 1)) hC s_32 rfl rfl rfl rfl fl_X9_29 dX9_parse_13 ?_
  refine v_ic_ge (pc := 16) (tgt := 52) hC dX9_parse_16 rfl (fun c14 => ?_) (fun c14 => ?_)
  · replace hu9 := (if_pos c14).symm.trans hu9
    obtain rfl := Option.some.inj hu9
    exact V.ls (ls_some (ls_some (ls_none ls_nil))) (k12 _ rfl)
  · replace hu9 := (if_neg c14).symm.trans hu9
    refine v_aload_n (pc := 19) hC dX9_parse_19 rfl ?_
    refine v_iload_n (pc := 20) hC dX9_parse_20 rfl ?_
    refine v_aload_n (pc := 21) hC dX9_parse_21 rfl ?_
    refine v_gt (pc := 22) 0 (.ref (gad g 32)) hC s_35 rfl rfl rfl rfl fl_X9_9 dX9_parse_22 ?_
    refine v_gtN (pc := 25) 0 (.ref (gad g 33)) hC s_32 rfl rfl rfl rfl fl_X9_34 dX9_parse_25 ?_
    refine v_iload_n (pc := 28) hC dX9_parse_28 rfl ?_
    obtain ⟨v15, hv15, hu9⟩ := obd_s hu9
    refine v_aI (pc := 29) hC s_33 hv15 dX9_parse_29 ?_
    obtain ⟨w16, hw16, hu9⟩ := obd_s hu9
    refine v_cV (pc := 30) [] [.int w16.1] gm_X9_next hC s_35 rfl rfl (ct_X9_next  hw16) ml_X9_37 rfl rfl rfl rfl rfl rfl dX9_parse_30 ?_
    refine v_istore_n (pc := 33) (lv' := [some (.ref (gad g 35)), some (.int w16.1), some (.int a10.2)]) hC dX9_parse_33 rfl rfl rfl rfl ?_
    refine v_iload_n (pc := 34) hC dX9_parse_34 rfl ?_
    refine v_bipush (pc := 35) (7 : Int32) rfl hC dX9_parse_35 ?_
    refine v_ic_ne (pc := 37) (tgt := 46) hC dX9_parse_37 rfl (fun c18 => ?_) (fun c18 => ?_)
    · replace hu9 := (if_neg c18).symm.trans hu9
      obtain ⟨x17, hx17, hu9⟩ := bnd_s hu9
      refine v_iinc (pc := 46) (lv' := [some (.ref (gad g 35)), some (.int w16.1), some (.int x17)]) (1 : Int32) rfl hx17 hC dX9_parse_46 rfl rfl rfl rfl ?_
      refine v_goto (pc := 49) (tgt := 8) hC dX9_parse_49 rfl ?_
      obtain rfl := Option.some.inj hu9
      exact V.ls (ls_some (ls_some (ls_some ls_nil))) (k11 _ rfl)
    · replace hu9 := (if_pos c18).symm.trans hu9
      refine v_aload_n (pc := 40) hC dX9_parse_40 rfl ?_
      obtain ⟨w19, hw19, hu9⟩ := obd_s hu9
      refine v_cV (pc := 41) [] [] gm_X9_clearValues hC s_35 rfl rfl (ct_X9_clearValues  hw19) ml_X9_26 rfl rfl rfl rfl rfl rfl dX9_parse_41 ?_
      refine v_iload_n (pc := 44) hC dX9_parse_44 rfl ?_
      obtain rfl := Option.some.inj hu9
      exact v_iret (pc := 45) hC rfl dX9_parse_45 (k13 _ rfl)
theorem dX4_faultAt_0 : decode cX4_faultAt 0 = .ok (.iconst 0, 1) := by decide +kernel
theorem dX4_faultAt_1 : decode cX4_faultAt 1 = .ok (.istore_n 1, 1) := by decide +kernel
theorem dX4_faultAt_2 : decode cX4_faultAt 2 = .ok (.iconst 0, 1) := by decide +kernel
theorem dX4_faultAt_3 : decode cX4_faultAt 3 = .ok (.istore_n 2, 1) := by decide +kernel
theorem dX4_faultAt_4 : decode cX4_faultAt 4 = .ok (.iload_n 2, 1) := by decide +kernel
theorem dX4_faultAt_5 : decode cX4_faultAt 5 = .ok (.aload_n 0, 1) := by decide +kernel
theorem dX4_faultAt_6 : decode cX4_faultAt 6 = .ok (.getfield 9, 3) := by decide +kernel
theorem dX4_faultAt_9 : decode cX4_faultAt 9 = .ok (.getfield 15, 3) := by decide +kernel
theorem dX4_faultAt_12 : decode cX4_faultAt 12 = .ok (.if_icmp .ge 46, 3) := by decide +kernel
theorem dX4_faultAt_15 : decode cX4_faultAt 15 = .ok (.aload_n 0, 1) := by decide +kernel
theorem dX4_faultAt_16 : decode cX4_faultAt 16 = .ok (.getfield 9, 3) := by decide +kernel
theorem dX4_faultAt_19 : decode cX4_faultAt 19 = .ok (.getfield 21, 3) := by decide +kernel
theorem dX4_faultAt_22 : decode cX4_faultAt 22 = .ok (.iload_n 2, 1) := by decide +kernel
theorem dX4_faultAt_23 : decode cX4_faultAt 23 = .ok (.iaload, 1) := by decide +kernel
theorem dX4_faultAt_24 : decode cX4_faultAt 24 = .ok (.bipush 48, 2) := by decide +kernel
theorem dX4_faultAt_26 : decode cX4_faultAt 26 = .ok (.isub, 1) := by decide +kernel
theorem dX4_faultAt_27 : decode cX4_faultAt 27 = .ok (.istore_n 3, 1) := by decide +kernel
theorem dX4_faultAt_28 : decode cX4_faultAt 28 = .ok (.iload_n 3, 1) := by decide +kernel
theorem dX4_faultAt_29 : decode cX4_faultAt 29 = .ok (.invokestatic 25, 3) := by decide +kernel
theorem dX4_faultAt_32 : decode cX4_faultAt 32 = .ok (.ifCond .eq 12, 3) := by decide +kernel
theorem dX4_faultAt_35 : decode cX4_faultAt 35 = .ok (.iload_n 1, 1) := by decide +kernel
theorem dX4_faultAt_36 : decode cX4_faultAt 36 = .ok (.iload_n 3, 1) := by decide +kernel
theorem dX4_faultAt_37 : decode cX4_faultAt 37 = .ok (.ishr, 1) := by decide +kernel
theorem dX4_faultAt_38 : decode cX4_faultAt 38 = .ok (.iconst 1, 1) := by decide +kernel
theorem dX4_faultAt_39 : decode cX4_faultAt 39 = .ok (.iand, 1) := by decide +kernel
theorem dX4_faultAt_40 : decode cX4_faultAt 40 = .ok (.iconst 1, 1) := by decide +kernel
theorem dX4_faultAt_41 : decode cX4_faultAt 41 = .ok (.if_icmp .ne 5, 3) := by decide +kernel
theorem dX4_faultAt_44 : decode cX4_faultAt 44 = .ok (.iload_n 2, 1) := by decide +kernel
theorem dX4_faultAt_45 : decode cX4_faultAt 45 = .ok (.ireturn, 1) := by decide +kernel
theorem dX4_faultAt_46 : decode cX4_faultAt 46 = .ok (.iload_n 1, 1) := by decide +kernel
theorem dX4_faultAt_47 : decode cX4_faultAt 47 = .ok (.iconst 1, 1) := by decide +kernel
theorem dX4_faultAt_48 : decode cX4_faultAt 48 = .ok (.iload_n 3, 1) := by decide +kernel
theorem dX4_faultAt_49 : decode cX4_faultAt 49 = .ok (.ishl, 1) := by decide +kernel
theorem dX4_faultAt_50 : decode cX4_faultAt 50 = .ok (.ior, 1) := by decide +kernel
theorem dX4_faultAt_51 : decode cX4_faultAt 51 = .ok (.istore_n 1, 1) := by decide +kernel
theorem dX4_faultAt_52 : decode cX4_faultAt 52 = .ok (.iinc 2 1, 3) := by decide +kernel
theorem dX4_faultAt_55 : decode cX4_faultAt 55 = .ok (.goto (-51), 3) := by decide +kernel
theorem dX4_faultAt_58 : decode cX4_faultAt 58 = .ok (.aload_n 0, 1) := by decide +kernel
theorem dX4_faultAt_59 : decode cX4_faultAt 59 = .ok (.getfield 9, 3) := by decide +kernel
theorem dX4_faultAt_62 : decode cX4_faultAt 62 = .ok (.getfield 15, 3) := by decide +kernel
theorem dX4_faultAt_65 : decode cX4_faultAt 65 = .ok (.bipush 8, 2) := by decide +kernel
theorem dX4_faultAt_67 : decode cX4_faultAt 67 = .ok (.if_icmp .ge 13, 3) := by decide +kernel
theorem dX4_faultAt_70 : decode cX4_faultAt 70 = .ok (.aload_n 0, 1) := by decide +kernel
theorem dX4_faultAt_71 : decode cX4_faultAt 71 = .ok (.getfield 9, 3) := by decide +kernel
theorem dX4_faultAt_74 : decode cX4_faultAt 74 = .ok (.getfield 15, 3) := by decide +kernel
theorem dX4_faultAt_77 : decode cX4_faultAt 77 = .ok (.goto 4, 3) := by decide +kernel
theorem dX4_faultAt_80 : decode cX4_faultAt 80 = .ok (.iconst (-1), 1) := by decide +kernel
theorem dX4_faultAt_81 : decode cX4_faultAt 81 = .ok (.ireturn, 1) := by decide +kernel
def fX4_faultAt_L4  (a : Int32 × Int32) (s : Sg) : Option (((Int32 × Int32) ⊕ (Int32 ⊕ (Unit))) × Sg) :=
  if (gI s 30 1) ≤ a.2 then
  some (.inr (.inr ()), s)
  else
  (aI s 31 8 a.2).bind fun v2 =>
  bnd (v2 - (48 : Int32)) fun x3 =>
  (fX10_isLane x3 s).bind fun w4 =>
  if w4.1 = 0 then
  some (.inr (.inl a.2), w4.2)
  else
  if ((a.1 >>> (x3 &&& 31)) &&& (1 : Int32)) = (1 : Int32) then
  some (.inr (.inl a.2), w4.2)
  else
  bnd (a.1 ||| ((1 : Int32) <<< (x3 &&& 31))) fun x6 =>
  bnd (a.2 + (1 : Int32)) fun x7 =>
  some (.inl (x6, x7), w4.2)
def fX4_faultAt  (s : Sg) : Option (Int32 × Sg) :=
  (lpG (fX4_faultAt_L4) FU ((0 : Int32), (0 : Int32)) s).bind fun w1 =>
  Sum.elim (fun r20 => some (r20, w1.2)) (fun e2 => if (8 : Int32) ≤ (gI w1.2 30 1) then
  some ((-1 : Int32), w1.2)
  else
  some ((gI w1.2 30 1), w1.2)) w1.1
theorem ct_X4_faultAt {g : Gl}  {s : Sg} {w : Int32 × Sg}  (h : fX4_faultAt s = some w) : Ct SS g iX4_faultAt 2 42 [.ref (gad g 34)] s (Dt (some (.int w.1)) w.2) := by
  refine Ct.ofV (by decide +kernel) 3 (lv0 := [some (.ref (gad g 34)), none, none, none]) rfl rfl (fun M hC => ?_)
  have hP : (Dt (some (.int w.1)) w.2) (some (.int w.1)) w.2 := ⟨rfl, rfl⟩
  generalize Dt (some (.int w.1)) w.2 = P at hP ⊢
  unfold fX4_faultAt at h
  refine v_iconst (pc := 0) (0 : Int32) rfl hC dX4_faultAt_0 ?_
  refine v_istore_n (pc := 1) (lv' := [some (.ref (gad g 34)), some (.int (0 : Int32)), none, none]) hC dX4_faultAt_1 rfl rfl rfl rfl ?_
  refine v_iconst (pc := 2) (0 : Int32) rfl hC dX4_faultAt_2 ?_
  refine v_istore_n (pc := 3) (lv' := [some (.ref (gad g 34)), some (.int (0 : Int32)), some (.int (0 : Int32)), none]) hC dX4_faultAt_3 rfl rfl rfl rfl ?_
  obtain ⟨w1, hw1, h⟩ := obd_s h
  have kr18 : ∀ r20, w1.1 = .inl r20 → P (some (.int r20)) w1.2 := by
    intro r20 hr20
    rw [hr20] at h
    replace h := (Sum.elim_inl _ _ _).symm.trans h
    obtain rfl := Option.some.inj h
    exact hP
  have ke19 : ∀ e2, w1.1 = .inr e2 → V SS g M iX4_faultAt (PQ SS g M P) 58 [some (.ref (gad g 34)), none, none, none] [] w1.2 := by
    intro e2 he2
    rw [he2] at h
    replace h := (Sum.elim_inr _ _ _).symm.trans h
    refine v_aload_n (pc := 58) hC dX4_faultAt_58 rfl ?_
    refine v_gt (pc := 59) 0 (.ref (gad g 30)) hC s_34 rfl rfl rfl rfl fl_X4_9 dX4_faultAt_59 ?_
    refine v_gtN (pc := 62) 1 (.int (gI w1.2 30 1)) hC s_30 rfl rfl rfl rfl fl_X4_15 dX4_faultAt_62 ?_
    refine v_bipush (pc := 65) (8 : Int32) rfl hC dX4_faultAt_65 ?_
    refine v_ic_ge (pc := 67) (tgt := 80) hC dX4_faultAt_67 rfl (fun c3 => ?_) (fun c3 => ?_)
    · replace h := (if_pos c3).symm.trans h
      refine v_iconst (pc := 80) (-1 : Int32) rfl hC dX4_faultAt_80 ?_
      obtain rfl := Option.some.inj h
      exact v_iret (pc := 81) hC rfl dX4_faultAt_81 hP
    · replace h := (if_neg c3).symm.trans h
      refine v_aload_n (pc := 70) hC dX4_faultAt_70 rfl ?_
      refine v_gt (pc := 71) 0 (.ref (gad g 30)) hC s_34 rfl rfl rfl rfl fl_X4_9 dX4_faultAt_71 ?_
      refine v_gtN (pc := 74) 1 (.int (gI w1.2 30 1)) hC s_30 rfl rfl rfl rfl fl_X4_15 dX4_faultAt_74 ?_
      refine v_goto (pc := 77) (tgt := 81) hC dX4_faultAt_77 rfl ?_
      obtain rfl := Option.some.inj h
      exact v_iret (pc := 81) hC rfl dX4_faultAt_81 hP
  refine V.ls (ls_some (ls_some (ls_some (ls_none ls_nil)))) (v_loopR (pc := 4) (fun a6 => [some (.ref (gad g 34)), some (.int a6.1), some (.int a6.2), none]) (fun (r20 : Int32) t => P (some (.int r20)) t) (fun z t => V SS g M iX4_faultAt (PQ SS g M P) 58 [some (.ref (gad g 34)), none, none, none] [] t) (fun a6 s4 u5 hu5 k7 k9 k8 => ?_) _ _ _ _ hw1 kr18 ke19)
  unfold fX4_faultAt_L4 at hu5
  refine v_iload_n (pc := 4) hC dX4_faultAt_4 rfl ?_
  refine v_aload_n (pc := 5) hC dX4_faultAt_5 rfl ?_
  refine v_gt (pc := 6) 0 (.ref (gad g 30)) hC s_34 rfl rfl rfl rfl fl_X4_9 dX4_faultAt_6 ?_
  refine v_gtN (pc := 9) 1 (.int (gI s4 30 1)) hC s_30 rfl rfl rfl rfl fl_X4_15 dX4_faultAt_9 ?_
  refine v_ic_ge (pc := 12) (tgt := 58) hC dX4_faultAt_12 rfl (fun c10 => ?_) (fun c10 => ?_)
  · replace hu5 := (if_pos c10).symm.trans hu5
    obtain rfl := Option.some.inj hu5
    exact V.ls (ls_some (ls_none (ls_none (ls_none ls_nil)))) (k8 _ rfl)
  · replace hu5 := (if_neg c10).symm.trans hu5
    refine v_aload_n (pc := 15) hC dX4_faultAt_15 rfl ?_
    refine v_gt (pc := 16) 0 (.ref (gad g 30)) hC s_34 rfl rfl rfl rfl fl_X4_9 dX4_faultAt_16 ?_
    refine v_gtN (pc := 19) 0 (.ref (gad g 31)) hC s_30 rfl rfl rfl rfl fl_X4_21 dX4_faultAt_19 ?_
    refine v_iload_n (pc := 22) hC dX4_faultAt_22 rfl ?_
    obtain ⟨v11, hv11, hu5⟩ := obd_s hu5
    refine v_aI (pc := 23) hC s_31 hv11 dX4_faultAt_23 ?_
    refine v_bipush (pc := 24) (48 : Int32) rfl hC dX4_faultAt_24 ?_
    refine v_isub (pc := 26) hC dX4_faultAt_26 ?_
    obtain ⟨x12, hx12, hu5⟩ := bnd_s hu5
    refine v_istore_n (pc := 27) (lv' := [some (.ref (gad g 34)), some (.int a6.1), some (.int a6.2), some (.int x12)]) hC dX4_faultAt_27 hx12 rfl rfl rfl ?_
    refine v_iload_n (pc := 28) hC dX4_faultAt_28 rfl ?_
    obtain ⟨w13, hw13, hu5⟩ := obd_s hu5
    refine v_cSN (pc := 29) [] [.int w13.1] gm_X10_isLane hC (ct_X10_isLane  hw13) ml_X4_25 rfl rfl rfl rfl rfl rfl dX4_faultAt_29 ?_
    refine v_if_eq (pc := 32) (tgt := 44) hC dX4_faultAt_32 rfl (fun c14 => ?_) (fun c14 => ?_)
    · replace hu5 := (if_pos c14).symm.trans hu5
      refine v_iload_n (pc := 44) hC dX4_faultAt_44 rfl ?_
      obtain rfl := Option.some.inj hu5
      exact v_iret (pc := 45) hC rfl dX4_faultAt_45 (k9 _ rfl)
    · replace hu5 := (if_neg c14).symm.trans hu5
      refine v_iload_n (pc := 35) hC dX4_faultAt_35 rfl ?_
      refine v_iload_n (pc := 36) hC dX4_faultAt_36 rfl ?_
      refine v_ishr (pc := 37) hC dX4_faultAt_37 ?_
      refine v_iconst (pc := 38) (1 : Int32) rfl hC dX4_faultAt_38 ?_
      refine v_iand (pc := 39) hC dX4_faultAt_39 ?_
      refine v_iconst (pc := 40) (1 : Int32) rfl hC dX4_faultAt_40 ?_
      refine v_ic_ne (pc := 41) (tgt := 46) hC dX4_faultAt_41 rfl (fun c17 => ?_) (fun c17 => ?_)
      · replace hu5 := (if_neg c17).symm.trans hu5
        refine v_iload_n (pc := 46) hC dX4_faultAt_46 rfl ?_
        refine v_iconst (pc := 47) (1 : Int32) rfl hC dX4_faultAt_47 ?_
        refine v_iload_n (pc := 48) hC dX4_faultAt_48 rfl ?_
        refine v_ishl (pc := 49) hC dX4_faultAt_49 ?_
        refine v_ior (pc := 50) hC dX4_faultAt_50 ?_
        obtain ⟨x15, hx15, hu5⟩ := bnd_s hu5
        refine v_istore_n (pc := 51) (lv' := [some (.ref (gad g 34)), some (.int x15), some (.int a6.2), some (.int x12)]) hC dX4_faultAt_51 hx15 rfl rfl rfl ?_
        obtain ⟨x16, hx16, hu5⟩ := bnd_s hu5
        refine v_iinc (pc := 52) (lv' := [some (.ref (gad g 34)), some (.int x15), some (.int x16), some (.int x12)]) (1 : Int32) rfl hx16 hC dX4_faultAt_52 rfl rfl rfl rfl ?_
        refine v_goto (pc := 55) (tgt := 4) hC dX4_faultAt_55 rfl ?_
        obtain rfl := Option.some.inj hu5
        exact V.ls (ls_some (ls_some (ls_some (ls_none ls_nil)))) (k7 _ rfl)
      · replace hu5 := (if_pos c17).symm.trans hu5
        refine v_iload_n (pc := 44) hC dX4_faultAt_44 rfl ?_
        obtain rfl := Option.some.inj hu5
        exact v_iret (pc := 45) hC rfl dX4_faultAt_45 (k9 _ rfl)
theorem dX3_isBetter_0 : decode cX3_isBetter 0 = .ok (.aload_n 0, 1) := by decide +kernel
theorem dX3_isBetter_1 : decode cX3_isBetter 1 = .ok (.getfield 37, 3) := by decide +kernel
theorem dX3_isBetter_4 : decode cX3_isBetter 4 = .ok (.iload_n 1, 1) := by decide +kernel
theorem dX3_isBetter_5 : decode cX3_isBetter 5 = .ok (.iaload, 1) := by decide +kernel
theorem dX3_isBetter_6 : decode cX3_isBetter 6 = .ok (.aload_n 0, 1) := by decide +kernel
theorem dX3_isBetter_7 : decode cX3_isBetter 7 = .ok (.getfield 37, 3) := by decide +kernel
theorem dX3_isBetter_10 : decode cX3_isBetter 10 = .ok (.iload_n 2, 1) := by decide +kernel
theorem dX3_isBetter_11 : decode cX3_isBetter 11 = .ok (.iaload, 1) := by decide +kernel
theorem dX3_isBetter_12 : decode cX3_isBetter 12 = .ok (.if_icmp .lt 23, 3) := by decide +kernel
theorem dX3_isBetter_15 : decode cX3_isBetter 15 = .ok (.aload_n 0, 1) := by decide +kernel
theorem dX3_isBetter_16 : decode cX3_isBetter 16 = .ok (.getfield 37, 3) := by decide +kernel
theorem dX3_isBetter_19 : decode cX3_isBetter 19 = .ok (.iload_n 1, 1) := by decide +kernel
theorem dX3_isBetter_20 : decode cX3_isBetter 20 = .ok (.iaload, 1) := by decide +kernel
theorem dX3_isBetter_21 : decode cX3_isBetter 21 = .ok (.aload_n 0, 1) := by decide +kernel
theorem dX3_isBetter_22 : decode cX3_isBetter 22 = .ok (.getfield 37, 3) := by decide +kernel
theorem dX3_isBetter_25 : decode cX3_isBetter 25 = .ok (.iload_n 2, 1) := by decide +kernel
theorem dX3_isBetter_26 : decode cX3_isBetter 26 = .ok (.iaload, 1) := by decide +kernel
theorem dX3_isBetter_27 : decode cX3_isBetter 27 = .ok (.if_icmp .ne 12, 3) := by decide +kernel
theorem dX3_isBetter_30 : decode cX3_isBetter 30 = .ok (.iload_n 1, 1) := by decide +kernel
theorem dX3_isBetter_31 : decode cX3_isBetter 31 = .ok (.iload_n 2, 1) := by decide +kernel
theorem dX3_isBetter_32 : decode cX3_isBetter 32 = .ok (.if_icmp .ge 7, 3) := by decide +kernel
theorem dX3_isBetter_35 : decode cX3_isBetter 35 = .ok (.iconst 1, 1) := by decide +kernel
theorem dX3_isBetter_36 : decode cX3_isBetter 36 = .ok (.goto 4, 3) := by decide +kernel
theorem dX3_isBetter_39 : decode cX3_isBetter 39 = .ok (.iconst 0, 1) := by decide +kernel
theorem dX3_isBetter_40 : decode cX3_isBetter 40 = .ok (.ireturn, 1) := by decide +kernel
def fX3_isBetter (x0_ : Int32) (x1_ : Int32) (s : Sg) : Option (Int32 × Sg) :=
  (aI s 8 24 x0_).bind fun v1 =>
  (aI s 8 24 x1_).bind fun v2 =>
  if v1 < v2 then
  some ((1 : Int32), s)
  else
  (aI s 8 24 x0_).bind fun v4 =>
  (aI s 8 24 x1_).bind fun v5 =>
  if v4 = v5 then
  if x1_ ≤ x0_ then
  some ((0 : Int32), s)
  else
  some ((1 : Int32), s)
  else
  some ((0 : Int32), s)
theorem ct_X3_isBetter {g : Gl} {x0_ : Int32} {x1_ : Int32} {s : Sg} {w : Int32 × Sg}  (h : fX3_isBetter x0_ x1_ s = some w) : Ct SS g iX3_isBetter 0 0 [.ref (gad g 1), .int x0_, .int x1_] s (Dt (some (.int w.1)) w.2) := by
  refine Ct.ofV (by decide +kernel) 0 (lv0 := [some (.ref (gad g 1)), some (.int x0_), some (.int x1_)]) rfl rfl (fun M hC => ?_)
  have hP : (Dt (some (.int w.1)) w.2) (some (.int w.1)) w.2 := ⟨rfl, rfl⟩
  generalize Dt (some (.int w.1)) w.2 = P at hP ⊢
  unfold fX3_isBetter at h
  refine v_aload_n (pc := 0) hC dX3_isBetter_0 rfl ?_
  refine v_gt (pc := 1) 8 (.ref (gad g 8)) hC s_1 rfl rfl rfl rfl fl_X3_37 dX3_isBetter_1 ?_
  refine v_iload_n (pc := 4) hC dX3_isBetter_4 rfl ?_
  obtain ⟨v1, hv1, h⟩ := obd_s h
  refine v_aI (pc := 5) hC s_8 hv1 dX3_isBetter_5 ?_
  refine v_aload_n (pc := 6) hC dX3_isBetter_6 rfl ?_
  refine v_gt (pc := 7) 8 (.ref (gad g 8)) hC s_1 rfl rfl rfl rfl fl_X3_37 dX3_isBetter_7 ?_
  refine v_iload_n (pc := 10) hC dX3_isBetter_10 rfl ?_
  obtain ⟨v2, hv2, h⟩ := obd_s h
  refine v_aI (pc := 11) hC s_8 hv2 dX3_isBetter_11 ?_
  refine v_ic_lt (pc := 12) (tgt := 35) hC dX3_isBetter_12 rfl (fun c3 => ?_) (fun c3 => ?_)
  · replace h := (if_pos c3).symm.trans h
    refine v_iconst (pc := 35) (1 : Int32) rfl hC dX3_isBetter_35 ?_
    refine v_goto (pc := 36) (tgt := 40) hC dX3_isBetter_36 rfl ?_
    obtain rfl := Option.some.inj h
    exact v_zret (pc := 40) hC rfl rfl dX3_isBetter_40 hP
  · replace h := (if_neg c3).symm.trans h
    refine v_aload_n (pc := 15) hC dX3_isBetter_15 rfl ?_
    refine v_gt (pc := 16) 8 (.ref (gad g 8)) hC s_1 rfl rfl rfl rfl fl_X3_37 dX3_isBetter_16 ?_
    refine v_iload_n (pc := 19) hC dX3_isBetter_19 rfl ?_
    obtain ⟨v4, hv4, h⟩ := obd_s h
    refine v_aI (pc := 20) hC s_8 hv4 dX3_isBetter_20 ?_
    refine v_aload_n (pc := 21) hC dX3_isBetter_21 rfl ?_
    refine v_gt (pc := 22) 8 (.ref (gad g 8)) hC s_1 rfl rfl rfl rfl fl_X3_37 dX3_isBetter_22 ?_
    refine v_iload_n (pc := 25) hC dX3_isBetter_25 rfl ?_
    obtain ⟨v5, hv5, h⟩ := obd_s h
    refine v_aI (pc := 26) hC s_8 hv5 dX3_isBetter_26 ?_
    refine v_ic_ne (pc := 27) (tgt := 39) hC dX3_isBetter_27 rfl (fun c6 => ?_) (fun c6 => ?_)
    · replace h := (if_neg c6).symm.trans h
      refine v_iconst (pc := 39) (0 : Int32) rfl hC dX3_isBetter_39 ?_
      obtain rfl := Option.some.inj h
      exact v_zret (pc := 40) hC rfl rfl dX3_isBetter_40 hP
    · replace h := (if_pos c6).symm.trans h
      refine v_iload_n (pc := 30) hC dX3_isBetter_30 rfl ?_
      refine v_iload_n (pc := 31) hC dX3_isBetter_31 rfl ?_
      refine v_ic_ge (pc := 32) (tgt := 39) hC dX3_isBetter_32 rfl (fun c7 => ?_) (fun c7 => ?_)
      · replace h := (if_pos c7).symm.trans h
        refine v_iconst (pc := 39) (0 : Int32) rfl hC dX3_isBetter_39 ?_
        obtain rfl := Option.some.inj h
        exact v_zret (pc := 40) hC rfl rfl dX3_isBetter_40 hP
      · replace h := (if_neg c7).symm.trans h
        refine v_iconst (pc := 35) (1 : Int32) rfl hC dX3_isBetter_35 ?_
        refine v_goto (pc := 36) (tgt := 40) hC dX3_isBetter_36 rfl ?_
        obtain rfl := Option.some.inj h
        exact v_zret (pc := 40) hC rfl rfl dX3_isBetter_40 hP
theorem dX2_rankAmong_0 : decode cX2_rankAmong 0 = .ok (.iconst 0, 1) := by decide +kernel
theorem dX2_rankAmong_1 : decode cX2_rankAmong 1 = .ok (.istore 4, 2) := by decide +kernel
theorem dX2_rankAmong_3 : decode cX2_rankAmong 3 = .ok (.iload_n 2, 1) := by decide +kernel
theorem dX2_rankAmong_4 : decode cX2_rankAmong 4 = .ok (.istore 5, 2) := by decide +kernel
theorem dX2_rankAmong_6 : decode cX2_rankAmong 6 = .ok (.iload 5, 2) := by decide +kernel
theorem dX2_rankAmong_8 : decode cX2_rankAmong 8 = .ok (.iload_n 2, 1) := by decide +kernel
theorem dX2_rankAmong_9 : decode cX2_rankAmong 9 = .ok (.iload_n 3, 1) := by decide +kernel
theorem dX2_rankAmong_10 : decode cX2_rankAmong 10 = .ok (.iadd, 1) := by decide +kernel
theorem dX2_rankAmong_11 : decode cX2_rankAmong 11 = .ok (.if_icmp .ge 25, 3) := by decide +kernel
theorem dX2_rankAmong_14 : decode cX2_rankAmong 14 = .ok (.aload_n 0, 1) := by decide +kernel
theorem dX2_rankAmong_15 : decode cX2_rankAmong 15 = .ok (.getfield 9, 3) := by decide +kernel
theorem dX2_rankAmong_18 : decode cX2_rankAmong 18 = .ok (.iload 5, 2) := by decide +kernel
theorem dX2_rankAmong_20 : decode cX2_rankAmong 20 = .ok (.iload_n 1, 1) := by decide +kernel
theorem dX2_rankAmong_21 : decode cX2_rankAmong 21 = .ok (.invokevirtual 62, 3) := by decide +kernel
theorem dX2_rankAmong_24 : decode cX2_rankAmong 24 = .ok (.ifCond .eq 6, 3) := by decide +kernel
theorem dX2_rankAmong_27 : decode cX2_rankAmong 27 = .ok (.iinc 4 1, 3) := by decide +kernel
theorem dX2_rankAmong_30 : decode cX2_rankAmong 30 = .ok (.iinc 5 1, 3) := by decide +kernel
theorem dX2_rankAmong_33 : decode cX2_rankAmong 33 = .ok (.goto (-27), 3) := by decide +kernel
theorem dX2_rankAmong_36 : decode cX2_rankAmong 36 = .ok (.iload 4, 2) := by decide +kernel
theorem dX2_rankAmong_38 : decode cX2_rankAmong 38 = .ok (.ireturn, 1) := by decide +kernel
def fX2_rankAmong_L6 (p1 : Int32) (p2 : Int32) (p3 : Int32) (a : Int32 × Int32) (s : Sg) : Option (((Int32 × Int32) ⊕ (Int32)) × Sg) :=
  if (p2 + p3) ≤ a.2 then
  some (.inr a.1, s)
  else
  (fX3_isBetter a.2 p1 s).bind fun w2 =>
  ((if w2.1 = 0 then
  some a.1
  else
  bnd (a.1 + (1 : Int32)) fun x7 =>
  some x7) : Option (Int32)).bind fun w3 =>
  bnd (a.2 + (1 : Int32)) fun x5 =>
  some (.inl (w3, x5), w2.2)
def fX2_rankAmong (x0_ : Int32) (x1_ : Int32) (x2_ : Int32) (s : Sg) : Option (Int32 × Sg) :=
  (lpG (fX2_rankAmong_L6 x0_ x1_ x2_) FU ((0 : Int32), x1_) s).bind fun w1 =>
  some (w1.1, w1.2)
theorem ct_X2_rankAmong {g : Gl} {x0_ : Int32} {x1_ : Int32} {x2_ : Int32} {s : Sg} {w : Int32 × Sg}  (h : fX2_rankAmong x0_ x1_ x2_ s = some w) : Ct SS g iX2_rankAmong 1 22 [.ref (gad g 37), .int x0_, .int x1_, .int x2_] s (Dt (some (.int w.1)) w.2) := by
  refine Ct.ofV (by decide +kernel) 2 (lv0 := [some (.ref (gad g 37)), some (.int x0_), some (.int x1_), some (.int x2_), none, none]) rfl rfl (fun M hC => ?_)
  have hP : (Dt (some (.int w.1)) w.2) (some (.int w.1)) w.2 := ⟨rfl, rfl⟩
  generalize Dt (some (.int w.1)) w.2 = P at hP ⊢
  unfold fX2_rankAmong at h
  refine v_iconst (pc := 0) (0 : Int32) rfl hC dX2_rankAmong_0 ?_
  refine v_istore (pc := 1) (lv' := [some (.ref (gad g 37)), some (.int x0_), some (.int x1_), some (.int x2_), some (.int (0 : Int32)), none]) hC dX2_rankAmong_1 rfl rfl rfl rfl ?_
  refine v_iload_n (pc := 3) hC dX2_rankAmong_3 rfl ?_
  refine v_istore (pc := 4) (lv' := [some (.ref (gad g 37)), some (.int x0_), some (.int x1_), some (.int x2_), some (.int (0 : Int32)), some (.int x1_)]) hC dX2_rankAmong_4 rfl rfl rfl rfl ?_
  obtain ⟨w1, hw1, h⟩ := obd_s h
  have kx15 : V SS g M iX2_rankAmong (PQ SS g M P) 36 [none, none, none, none, some (.int w1.1), none] [] w1.2 := by
    refine v_iload (pc := 36) hC dX2_rankAmong_36 rfl ?_
    obtain rfl := Option.some.inj h
    exact v_iret (pc := 38) hC rfl dX2_rankAmong_38 hP
  refine V.ls (ls_some (ls_some (ls_some (ls_some (ls_some (ls_some ls_nil)))))) (v_loop (pc := 6) (fun a4 => [some (.ref (gad g 37)), some (.int x0_), some (.int x1_), some (.int x2_), some (.int a4.1), some (.int a4.2)]) (fun z t => V SS g M iX2_rankAmong (PQ SS g M P) 36 [none, none, none, none, some (.int z), none] [] t) (fun a4 s2 u3 hu3 k5 k6 => ?_) _ _ _ _ hw1 kx15)
  unfold fX2_rankAmong_L6 at hu3
  refine v_iload (pc := 6) hC dX2_rankAmong_6 rfl ?_
  refine v_iload_n (pc := 8) hC dX2_rankAmong_8 rfl ?_
  refine v_iload_n (pc := 9) hC dX2_rankAmong_9 rfl ?_
  refine v_iadd (pc := 10) hC dX2_rankAmong_10 ?_
  refine v_ic_ge (pc := 11) (tgt := 36) hC dX2_rankAmong_11 rfl (fun c8 => ?_) (fun c8 => ?_)
  · replace hu3 := (if_pos c8).symm.trans hu3
    obtain rfl := Option.some.inj hu3
    exact V.ls (ls_none (ls_none (ls_none (ls_none (ls_some (ls_none ls_nil)))))) (k6 _ rfl)
  · replace hu3 := (if_neg c8).symm.trans hu3
    refine v_aload_n (pc := 14) hC dX2_rankAmong_14 rfl ?_
    refine v_gt (pc := 15) 0 (.ref (gad g 1)) hC s_37 rfl rfl rfl rfl fl_X2_9 dX2_rankAmong_15 ?_
    refine v_iload (pc := 18) hC dX2_rankAmong_18 rfl ?_
    refine v_iload_n (pc := 20) hC dX2_rankAmong_20 rfl ?_
    obtain ⟨w9, hw9, hu3⟩ := obd_s hu3
    refine v_cV (pc := 21) [] [.int w9.1] gm_X3_isBetter hC s_1 rfl rfl (ct_X3_isBetter  hw9) ml_X2_62 rfl rfl rfl rfl rfl rfl dX2_rankAmong_21 ?_
    obtain ⟨w10, hw10, hu3⟩ := obd_s hu3
    have kj11 : V SS g M iX2_rankAmong (PQ SS g M P) 30 [some (.ref (gad g 37)), some (.int x0_), some (.int x1_), some (.int x2_), some (.int w10), some (.int a4.2)] [] w9.2 := by
      obtain ⟨x12, hx12, hu3⟩ := bnd_s hu3
      refine v_iinc (pc := 30) (lv' := [some (.ref (gad g 37)), some (.int x0_), some (.int x1_), some (.int x2_), some (.int w10), some (.int x12)]) (1 : Int32) rfl hx12 hC dX2_rankAmong_30 rfl rfl rfl rfl ?_
      refine v_goto (pc := 33) (tgt := 6) hC dX2_rankAmong_33 rfl ?_
      obtain rfl := Option.some.inj hu3
      exact V.ls (ls_some (ls_some (ls_some (ls_some (ls_some (ls_some ls_nil)))))) (k5 _ rfl)
    refine v_if_eq (pc := 24) (tgt := 30) hC dX2_rankAmong_24 rfl (fun c13 => ?_) (fun c13 => ?_)
    · replace hw10 := (if_pos c13).symm.trans hw10
      obtain rfl := Option.some.inj hw10
      exact V.ls (ls_some (ls_some (ls_some (ls_some (ls_some (ls_some ls_nil)))))) kj11
    · replace hw10 := (if_neg c13).symm.trans hw10
      obtain ⟨x14, hx14, hw10⟩ := bnd_s hw10
      refine v_iinc (pc := 27) (lv' := [some (.ref (gad g 37)), some (.int x0_), some (.int x1_), some (.int x2_), some (.int x14), some (.int a4.2)]) (1 : Int32) rfl hx14 hC dX2_rankAmong_27 rfl rfl rfl rfl ?_
      obtain rfl := Option.some.inj hw10
      exact V.ls (ls_some (ls_some (ls_some (ls_some (ls_some (ls_some ls_nil)))))) kj11
theorem dX4_laneFor_0 : decode cX4_laneFor 0 = .ok (.iload_n 1, 1) := by decide +kernel
theorem dX4_laneFor_1 : decode cX4_laneFor 1 = .ok (.aload_n 0, 1) := by decide +kernel
theorem dX4_laneFor_2 : decode cX4_laneFor 2 = .ok (.getfield 9, 3) := by decide +kernel
theorem dX4_laneFor_5 : decode cX4_laneFor 5 = .ok (.getfield 15, 3) := by decide +kernel
theorem dX4_laneFor_8 : decode cX4_laneFor 8 = .ok (.if_icmp .ge 18, 3) := by decide +kernel
theorem dX4_laneFor_11 : decode cX4_laneFor 11 = .ok (.aload_n 0, 1) := by decide +kernel
theorem dX4_laneFor_12 : decode cX4_laneFor 12 = .ok (.getfield 9, 3) := by decide +kernel
theorem dX4_laneFor_15 : decode cX4_laneFor 15 = .ok (.getfield 21, 3) := by decide +kernel
theorem dX4_laneFor_18 : decode cX4_laneFor 18 = .ok (.iload_n 1, 1) := by decide +kernel
theorem dX4_laneFor_19 : decode cX4_laneFor 19 = .ok (.iaload, 1) := by decide +kernel
theorem dX4_laneFor_20 : decode cX4_laneFor 20 = .ok (.bipush 48, 2) := by decide +kernel
theorem dX4_laneFor_22 : decode cX4_laneFor 22 = .ok (.isub, 1) := by decide +kernel
theorem dX4_laneFor_23 : decode cX4_laneFor 23 = .ok (.goto 4, 3) := by decide +kernel
theorem dX4_laneFor_26 : decode cX4_laneFor 26 = .ok (.iconst (-1), 1) := by decide +kernel
theorem dX4_laneFor_27 : decode cX4_laneFor 27 = .ok (.ireturn, 1) := by decide +kernel
def fX4_laneFor (x0_ : Int32) (s : Sg) : Option (Int32 × Sg) :=
  if (gI s 30 1) ≤ x0_ then
  some ((-1 : Int32), s)
  else
  (aI s 31 8 x0_).bind fun v2 =>
  some ((v2 - (48 : Int32)), s)
theorem ct_X4_laneFor {g : Gl} {x0_ : Int32} {s : Sg} {w : Int32 × Sg}  (h : fX4_laneFor x0_ s = some w) : Ct SS g iX4_laneFor 0 0 [.ref (gad g 34), .int x0_] s (Dt (some (.int w.1)) w.2) := by
  refine Ct.ofV (by decide +kernel) 0 (lv0 := [some (.ref (gad g 34)), some (.int x0_)]) rfl rfl (fun M hC => ?_)
  have hP : (Dt (some (.int w.1)) w.2) (some (.int w.1)) w.2 := ⟨rfl, rfl⟩
  generalize Dt (some (.int w.1)) w.2 = P at hP ⊢
  unfold fX4_laneFor at h
  refine v_iload_n (pc := 0) hC dX4_laneFor_0 rfl ?_
  refine v_aload_n (pc := 1) hC dX4_laneFor_1 rfl ?_
  refine v_gt (pc := 2) 0 (.ref (gad g 30)) hC s_34 rfl rfl rfl rfl fl_X4_9 dX4_laneFor_2 ?_
  refine v_gtN (pc := 5) 1 (.int (gI s 30 1)) hC s_30 rfl rfl rfl rfl fl_X4_15 dX4_laneFor_5 ?_
  refine v_ic_ge (pc := 8) (tgt := 26) hC dX4_laneFor_8 rfl (fun c1 => ?_) (fun c1 => ?_)
  · replace h := (if_pos c1).symm.trans h
    refine v_iconst (pc := 26) (-1 : Int32) rfl hC dX4_laneFor_26 ?_
    obtain rfl := Option.some.inj h
    exact v_iret (pc := 27) hC rfl dX4_laneFor_27 hP
  · replace h := (if_neg c1).symm.trans h
    refine v_aload_n (pc := 11) hC dX4_laneFor_11 rfl ?_
    refine v_gt (pc := 12) 0 (.ref (gad g 30)) hC s_34 rfl rfl rfl rfl fl_X4_9 dX4_laneFor_12 ?_
    refine v_gtN (pc := 15) 0 (.ref (gad g 31)) hC s_30 rfl rfl rfl rfl fl_X4_21 dX4_laneFor_15 ?_
    refine v_iload_n (pc := 18) hC dX4_laneFor_18 rfl ?_
    obtain ⟨v2, hv2, h⟩ := obd_s h
    refine v_aI (pc := 19) hC s_31 hv2 dX4_laneFor_19 ?_
    refine v_bipush (pc := 20) (48 : Int32) rfl hC dX4_laneFor_20 ?_
    refine v_isub (pc := 22) hC dX4_laneFor_22 ?_
    refine v_goto (pc := 23) (tgt := 27) hC dX4_laneFor_23 rfl ?_
    obtain rfl := Option.some.inj h
    exact v_iret (pc := 27) hC rfl dX4_laneFor_27 hP
theorem dX3_addSwim_0 : decode cX3_addSwim 0 = .ok (.aload_n 0, 1) := by decide +kernel
theorem dX3_addSwim_1 : decode cX3_addSwim 1 = .ok (.getfield 15, 3) := by decide +kernel
theorem dX3_addSwim_4 : decode cX3_addSwim 4 = .ok (.bipush 64, 2) := by decide +kernel
theorem dX3_addSwim_6 : decode cX3_addSwim 6 = .ok (.if_icmp .lt 6, 3) := by decide +kernel
theorem dX3_addSwim_9 : decode cX3_addSwim 9 = .ok (.bipush (-4), 2) := by decide +kernel
theorem dX3_addSwim_11 : decode cX3_addSwim 11 = .ok (.ireturn, 1) := by decide +kernel
theorem dX3_addSwim_12 : decode cX3_addSwim 12 = .ok (.aload_n 0, 1) := by decide +kernel
theorem dX3_addSwim_13 : decode cX3_addSwim 13 = .ok (.getfield 25, 3) := by decide +kernel
theorem dX3_addSwim_16 : decode cX3_addSwim 16 = .ok (.aload_n 0, 1) := by decide +kernel
theorem dX3_addSwim_17 : decode cX3_addSwim 17 = .ok (.getfield 15, 3) := by decide +kernel
theorem dX3_addSwim_20 : decode cX3_addSwim 20 = .ok (.iload_n 1, 1) := by decide +kernel
theorem dX3_addSwim_21 : decode cX3_addSwim 21 = .ok (.iastore, 1) := by decide +kernel
theorem dX3_addSwim_22 : decode cX3_addSwim 22 = .ok (.aload_n 0, 1) := by decide +kernel
theorem dX3_addSwim_23 : decode cX3_addSwim 23 = .ok (.getfield 28, 3) := by decide +kernel
theorem dX3_addSwim_26 : decode cX3_addSwim 26 = .ok (.aload_n 0, 1) := by decide +kernel
theorem dX3_addSwim_27 : decode cX3_addSwim 27 = .ok (.getfield 15, 3) := by decide +kernel
theorem dX3_addSwim_30 : decode cX3_addSwim 30 = .ok (.iload_n 2, 1) := by decide +kernel
theorem dX3_addSwim_31 : decode cX3_addSwim 31 = .ok (.iastore, 1) := by decide +kernel
theorem dX3_addSwim_32 : decode cX3_addSwim 32 = .ok (.aload_n 0, 1) := by decide +kernel
theorem dX3_addSwim_33 : decode cX3_addSwim 33 = .ok (.getfield 31, 3) := by decide +kernel
theorem dX3_addSwim_36 : decode cX3_addSwim 36 = .ok (.aload_n 0, 1) := by decide +kernel
theorem dX3_addSwim_37 : decode cX3_addSwim 37 = .ok (.getfield 15, 3) := by decide +kernel
theorem dX3_addSwim_40 : decode cX3_addSwim 40 = .ok (.iload_n 3, 1) := by decide +kernel
theorem dX3_addSwim_41 : decode cX3_addSwim 41 = .ok (.iastore, 1) := by decide +kernel
theorem dX3_addSwim_42 : decode cX3_addSwim 42 = .ok (.aload_n 0, 1) := by decide +kernel
theorem dX3_addSwim_43 : decode cX3_addSwim 43 = .ok (.dup, 1) := by decide +kernel
theorem dX3_addSwim_44 : decode cX3_addSwim 44 = .ok (.getfield 15, 3) := by decide +kernel
theorem dX3_addSwim_47 : decode cX3_addSwim 47 = .ok (.iconst 1, 1) := by decide +kernel
theorem dX3_addSwim_48 : decode cX3_addSwim 48 = .ok (.iadd, 1) := by decide +kernel
theorem dX3_addSwim_49 : decode cX3_addSwim 49 = .ok (.putfield 15, 3) := by decide +kernel
theorem dX3_addSwim_52 : decode cX3_addSwim 52 = .ok (.aload_n 0, 1) := by decide +kernel
theorem dX3_addSwim_53 : decode cX3_addSwim 53 = .ok (.getfield 15, 3) := by decide +kernel
theorem dX3_addSwim_56 : decode cX3_addSwim 56 = .ok (.iconst 1, 1) := by decide +kernel
theorem dX3_addSwim_57 : decode cX3_addSwim 57 = .ok (.isub, 1) := by decide +kernel
theorem dX3_addSwim_58 : decode cX3_addSwim 58 = .ok (.ireturn, 1) := by decide +kernel
def fX3_addSwim (x0_ : Int32) (x1_ : Int32) (x2_ : Int32) (s : Sg) : Option (Int32 × Sg) :=
  if (gI s 1 1) < (64 : Int32) then
  (wI s 4 64 (gI s 1 1) x0_).bind fun s1 =>
  (wI s1 5 64 (gI s1 1 1) x1_).bind fun s2 =>
  (wI s2 6 64 (gI s2 1 1) x2_).bind fun s3 =>
  bnd (sI s3 1 1 ((gI s3 1 1) + (1 : Int32))) fun s4 =>
  some (((gI s4 1 1) - (1 : Int32)), s4)
  else
  some ((-4 : Int32), s)
theorem ct_X3_addSwim {g : Gl} {x0_ : Int32} {x1_ : Int32} {x2_ : Int32} {s : Sg} {w : Int32 × Sg}  (h : fX3_addSwim x0_ x1_ x2_ s = some w) : Ct SS g iX3_addSwim 0 0 [.ref (gad g 1), .int x0_, .int x1_, .int x2_] s (Dt (some (.int w.1)) w.2) := by
  refine Ct.ofV (by decide +kernel) 0 (lv0 := [some (.ref (gad g 1)), some (.int x0_), some (.int x1_), some (.int x2_)]) rfl rfl (fun M hC => ?_)
  have hP : (Dt (some (.int w.1)) w.2) (some (.int w.1)) w.2 := ⟨rfl, rfl⟩
  generalize Dt (some (.int w.1)) w.2 = P at hP ⊢
  unfold fX3_addSwim at h
  refine v_aload_n (pc := 0) hC dX3_addSwim_0 rfl ?_
  refine v_gt (pc := 1) 1 (.int (gI s 1 1)) hC s_1 rfl rfl rfl rfl fl_X3_15 dX3_addSwim_1 ?_
  refine v_bipush (pc := 4) (64 : Int32) rfl hC dX3_addSwim_4 ?_
  refine v_ic_lt (pc := 6) (tgt := 12) hC dX3_addSwim_6 rfl (fun c5 => ?_) (fun c5 => ?_)
  · replace h := (if_pos c5).symm.trans h
    refine v_aload_n (pc := 12) hC dX3_addSwim_12 rfl ?_
    refine v_gt (pc := 13) 4 (.ref (gad g 4)) hC s_1 rfl rfl rfl rfl fl_X3_25 dX3_addSwim_13 ?_
    refine v_aload_n (pc := 16) hC dX3_addSwim_16 rfl ?_
    refine v_gt (pc := 17) 1 (.int (gI s 1 1)) hC s_1 rfl rfl rfl rfl fl_X3_15 dX3_addSwim_17 ?_
    refine v_iload_n (pc := 20) hC dX3_addSwim_20 rfl ?_
    obtain ⟨s1, hs1, h⟩ := obd_s h
    refine v_wI (pc := 21) hC s_4 hs1 dX3_addSwim_21 ?_
    refine v_aload_n (pc := 22) hC dX3_addSwim_22 rfl ?_
    refine v_gt (pc := 23) 5 (.ref (gad g 5)) hC s_1 rfl rfl rfl rfl fl_X3_28 dX3_addSwim_23 ?_
    refine v_aload_n (pc := 26) hC dX3_addSwim_26 rfl ?_
    refine v_gt (pc := 27) 1 (.int (gI s1 1 1)) hC s_1 rfl rfl rfl rfl fl_X3_15 dX3_addSwim_27 ?_
    refine v_iload_n (pc := 30) hC dX3_addSwim_30 rfl ?_
    obtain ⟨s2, hs2, h⟩ := obd_s h
    refine v_wI (pc := 31) hC s_5 hs2 dX3_addSwim_31 ?_
    refine v_aload_n (pc := 32) hC dX3_addSwim_32 rfl ?_
    refine v_gt (pc := 33) 6 (.ref (gad g 6)) hC s_1 rfl rfl rfl rfl fl_X3_31 dX3_addSwim_33 ?_
    refine v_aload_n (pc := 36) hC dX3_addSwim_36 rfl ?_
    refine v_gt (pc := 37) 1 (.int (gI s2 1 1)) hC s_1 rfl rfl rfl rfl fl_X3_15 dX3_addSwim_37 ?_
    refine v_iload_n (pc := 40) hC dX3_addSwim_40 rfl ?_
    obtain ⟨s3, hs3, h⟩ := obd_s h
    refine v_wI (pc := 41) hC s_6 hs3 dX3_addSwim_41 ?_
    refine v_aload_n (pc := 42) hC dX3_addSwim_42 rfl ?_
    refine v_dup (pc := 43) hC rfl dX3_addSwim_43 ?_
    refine v_gt (pc := 44) 1 (.int (gI s3 1 1)) hC s_1 rfl rfl rfl rfl fl_X3_15 dX3_addSwim_44 ?_
    refine v_iconst (pc := 47) (1 : Int32) rfl hC dX3_addSwim_47 ?_
    refine v_iadd (pc := 48) hC dX3_addSwim_48 ?_
    obtain ⟨s4, hs4, h⟩ := bnd_s h
    refine v_pI (pc := 49) 1 hC s_1 rfl rfl rfl rfl rfl rfl fl_X3_15 hs4 dX3_addSwim_49 ?_
    refine v_aload_n (pc := 52) hC dX3_addSwim_52 rfl ?_
    refine v_gt (pc := 53) 1 (.int (gI s4 1 1)) hC s_1 rfl rfl rfl rfl fl_X3_15 dX3_addSwim_53 ?_
    refine v_iconst (pc := 56) (1 : Int32) rfl hC dX3_addSwim_56 ?_
    refine v_isub (pc := 57) hC dX3_addSwim_57 ?_
    obtain rfl := Option.some.inj h
    exact v_iret (pc := 58) hC rfl dX3_addSwim_58 hP
  · replace h := (if_neg c5).symm.trans h
    refine v_bipush (pc := 9) (-4 : Int32) rfl hC dX3_addSwim_9 ?_
    obtain rfl := Option.some.inj h
    exact v_iret (pc := 11) hC rfl dX3_addSwim_11 hP
theorem dX3_hasSwim_0 : decode cX3_hasSwim 0 = .ok (.iload_n 1, 1) := by decide +kernel
theorem dX3_hasSwim_1 : decode cX3_hasSwim 1 = .ok (.ifCond .lt 15, 3) := by decide +kernel
theorem dX3_hasSwim_4 : decode cX3_hasSwim 4 = .ok (.iload_n 1, 1) := by decide +kernel
theorem dX3_hasSwim_5 : decode cX3_hasSwim 5 = .ok (.aload_n 0, 1) := by decide +kernel
theorem dX3_hasSwim_6 : decode cX3_hasSwim 6 = .ok (.getfield 15, 3) := by decide +kernel
theorem dX3_hasSwim_9 : decode cX3_hasSwim 9 = .ok (.if_icmp .ge 7, 3) := by decide +kernel
theorem dX3_hasSwim_12 : decode cX3_hasSwim 12 = .ok (.iconst 1, 1) := by decide +kernel
theorem dX3_hasSwim_13 : decode cX3_hasSwim 13 = .ok (.goto 4, 3) := by decide +kernel
theorem dX3_hasSwim_16 : decode cX3_hasSwim 16 = .ok (.iconst 0, 1) := by decide +kernel
theorem dX3_hasSwim_17 : decode cX3_hasSwim 17 = .ok (.ireturn, 1) := by decide +kernel
def fX3_hasSwim (x0_ : Int32) (s : Sg) : Option (Int32 × Sg) :=
  if x0_ < 0 then
  some ((0 : Int32), s)
  else
  if (gI s 1 1) ≤ x0_ then
  some ((0 : Int32), s)
  else
  some ((1 : Int32), s)
theorem ct_X3_hasSwim {g : Gl} {x0_ : Int32} {s : Sg} {w : Int32 × Sg}  (h : fX3_hasSwim x0_ s = some w) : Ct SS g iX3_hasSwim 0 0 [.ref (gad g 1), .int x0_] s (Dt (some (.int w.1)) w.2) := by
  refine Ct.ofV (by decide +kernel) 0 (lv0 := [some (.ref (gad g 1)), some (.int x0_)]) rfl rfl (fun M hC => ?_)
  have hP : (Dt (some (.int w.1)) w.2) (some (.int w.1)) w.2 := ⟨rfl, rfl⟩
  generalize Dt (some (.int w.1)) w.2 = P at hP ⊢
  unfold fX3_hasSwim at h
  refine v_iload_n (pc := 0) hC dX3_hasSwim_0 rfl ?_
  refine v_if_lt (pc := 1) (tgt := 16) hC dX3_hasSwim_1 rfl (fun c1 => ?_) (fun c1 => ?_)
  · replace h := (if_pos c1).symm.trans h
    refine v_iconst (pc := 16) (0 : Int32) rfl hC dX3_hasSwim_16 ?_
    obtain rfl := Option.some.inj h
    exact v_zret (pc := 17) hC rfl rfl dX3_hasSwim_17 hP
  · replace h := (if_neg c1).symm.trans h
    refine v_iload_n (pc := 4) hC dX3_hasSwim_4 rfl ?_
    refine v_aload_n (pc := 5) hC dX3_hasSwim_5 rfl ?_
    refine v_gt (pc := 6) 1 (.int (gI s 1 1)) hC s_1 rfl rfl rfl rfl fl_X3_15 dX3_hasSwim_6 ?_
    refine v_ic_ge (pc := 9) (tgt := 16) hC dX3_hasSwim_9 rfl (fun c2 => ?_) (fun c2 => ?_)
    · replace h := (if_pos c2).symm.trans h
      refine v_iconst (pc := 16) (0 : Int32) rfl hC dX3_hasSwim_16 ?_
      obtain rfl := Option.some.inj h
      exact v_zret (pc := 17) hC rfl rfl dX3_hasSwim_17 hP
    · replace h := (if_neg c2).symm.trans h
      refine v_iconst (pc := 12) (1 : Int32) rfl hC dX3_hasSwim_12 ?_
      refine v_goto (pc := 13) (tgt := 17) hC dX3_hasSwim_13 rfl ?_
      obtain rfl := Option.some.inj h
      exact v_zret (pc := 17) hC rfl rfl dX3_hasSwim_17 hP
theorem dX3_lengthsOf_0 : decode cX3_lengthsOf 0 = .ok (.aload_n 0, 1) := by decide +kernel
theorem dX3_lengthsOf_1 : decode cX3_lengthsOf 1 = .ok (.getfield 18, 3) := by decide +kernel
theorem dX3_lengthsOf_4 : decode cX3_lengthsOf 4 = .ok (.aload_n 0, 1) := by decide +kernel
theorem dX3_lengthsOf_5 : decode cX3_lengthsOf 5 = .ok (.getfield 25, 3) := by decide +kernel
theorem dX3_lengthsOf_8 : decode cX3_lengthsOf 8 = .ok (.iload_n 1, 1) := by decide +kernel
theorem dX3_lengthsOf_9 : decode cX3_lengthsOf 9 = .ok (.iaload, 1) := by decide +kernel
theorem dX3_lengthsOf_10 : decode cX3_lengthsOf 10 = .ok (.iaload, 1) := by decide +kernel
theorem dX3_lengthsOf_11 : decode cX3_lengthsOf 11 = .ok (.ireturn, 1) := by decide +kernel
def fX3_lengthsOf (x0_ : Int32) (s : Sg) : Option (Int32 × Sg) :=
  (aI s 4 64 x0_).bind fun v1 =>
  (aI s 2 16 v1).bind fun v2 =>
  some (v2, s)
theorem ct_X3_lengthsOf {g : Gl} {x0_ : Int32} {s : Sg} {w : Int32 × Sg}  (h : fX3_lengthsOf x0_ s = some w) : Ct SS g iX3_lengthsOf 0 0 [.ref (gad g 1), .int x0_] s (Dt (some (.int w.1)) w.2) := by
  refine Ct.ofV (by decide +kernel) 0 (lv0 := [some (.ref (gad g 1)), some (.int x0_)]) rfl rfl (fun M hC => ?_)
  have hP : (Dt (some (.int w.1)) w.2) (some (.int w.1)) w.2 := ⟨rfl, rfl⟩
  generalize Dt (some (.int w.1)) w.2 = P at hP ⊢
  unfold fX3_lengthsOf at h
  refine v_aload_n (pc := 0) hC dX3_lengthsOf_0 rfl ?_
  refine v_gt (pc := 1) 2 (.ref (gad g 2)) hC s_1 rfl rfl rfl rfl fl_X3_18 dX3_lengthsOf_1 ?_
  refine v_aload_n (pc := 4) hC dX3_lengthsOf_4 rfl ?_
  refine v_gt (pc := 5) 4 (.ref (gad g 4)) hC s_1 rfl rfl rfl rfl fl_X3_25 dX3_lengthsOf_5 ?_
  refine v_iload_n (pc := 8) hC dX3_lengthsOf_8 rfl ?_
  obtain ⟨v1, hv1, h⟩ := obd_s h
  refine v_aI (pc := 9) hC s_4 hv1 dX3_lengthsOf_9 ?_
  obtain ⟨v2, hv2, h⟩ := obd_s h
  refine v_aI (pc := 10) hC s_2 hv2 dX3_lengthsOf_10 ?_
  obtain rfl := Option.some.inj h
  exact v_iret (pc := 11) hC rfl dX3_lengthsOf_11 hP
theorem dX2_lot_0 : decode cX2_lot 0 = .ok (.aload_n 0, 1) := by decide +kernel
theorem dX2_lot_1 : decode cX2_lot 1 = .ok (.ldc 91, 2) := by decide +kernel
theorem dX2_lot_3 : decode cX2_lot 3 = .ok (.aload_n 0, 1) := by decide +kernel
theorem dX2_lot_4 : decode cX2_lot 4 = .ok (.getfield 23, 3) := by decide +kernel
theorem dX2_lot_7 : decode cX2_lot 7 = .ok (.imul, 1) := by decide +kernel
theorem dX2_lot_8 : decode cX2_lot 8 = .ok (.sipush 12345, 3) := by decide +kernel
theorem dX2_lot_11 : decode cX2_lot 11 = .ok (.iadd, 1) := by decide +kernel
theorem dX2_lot_12 : decode cX2_lot 12 = .ok (.putfield 23, 3) := by decide +kernel
theorem dX2_lot_15 : decode cX2_lot 15 = .ok (.iload_n 1, 1) := by decide +kernel
theorem dX2_lot_16 : decode cX2_lot 16 = .ok (.ifCond .le 15, 3) := by decide +kernel
theorem dX2_lot_19 : decode cX2_lot 19 = .ok (.aload_n 0, 1) := by decide +kernel
theorem dX2_lot_20 : decode cX2_lot 20 = .ok (.getfield 23, 3) := by decide +kernel
theorem dX2_lot_23 : decode cX2_lot 23 = .ok (.bipush 16, 2) := by decide +kernel
theorem dX2_lot_25 : decode cX2_lot 25 = .ok (.iushr, 1) := by decide +kernel
theorem dX2_lot_26 : decode cX2_lot 26 = .ok (.iload_n 1, 1) := by decide +kernel
theorem dX2_lot_27 : decode cX2_lot 27 = .ok (.irem, 1) := by decide +kernel
theorem dX2_lot_28 : decode cX2_lot 28 = .ok (.goto 4, 3) := by decide +kernel
theorem dX2_lot_31 : decode cX2_lot 31 = .ok (.iconst 0, 1) := by decide +kernel
theorem dX2_lot_32 : decode cX2_lot 32 = .ok (.ireturn, 1) := by decide +kernel
def fX2_lot (x0_ : Int32) (s : Sg) : Option (Int32 × Sg) :=
  bnd (sI s 37 3 (((1103515245 : Int32) * (gI s 37 3)) + (12345 : Int32))) fun s1 =>
  if x0_ ≤ 0 then
  some ((0 : Int32), s1)
  else
  (mI (((gI s1 37 3)).toUInt32 >>> (((16 : Int32)).toUInt32 &&& Int32.toUInt32 31)).toInt32 x0_).bind fun v3 =>
  some (v3, s1)
theorem ct_X2_lot {g : Gl} {x0_ : Int32} {s : Sg} {w : Int32 × Sg}  (h : fX2_lot x0_ s = some w) : Ct SS g iX2_lot 0 0 [.ref (gad g 37), .int x0_] s (Dt (some (.int w.1)) w.2) := by
  refine Ct.ofV (by decide +kernel) 0 (lv0 := [some (.ref (gad g 37)), some (.int x0_)]) rfl rfl (fun M hC => ?_)
  have hP : (Dt (some (.int w.1)) w.2) (some (.int w.1)) w.2 := ⟨rfl, rfl⟩
  generalize Dt (some (.int w.1)) w.2 = P at hP ⊢
  unfold fX2_lot at h
  refine v_aload_n (pc := 0) hC dX2_lot_0 rfl ?_
  refine v_ldc (pc := 1) (1103515245 : Int32) kc_X2_91 hC dX2_lot_1 ?_
  refine v_aload_n (pc := 3) hC dX2_lot_3 rfl ?_
  refine v_gt (pc := 4) 3 (.int (gI s 37 3)) hC s_37 rfl rfl rfl rfl fl_X2_23 dX2_lot_4 ?_
  refine v_imul (pc := 7) hC dX2_lot_7 ?_
  refine v_sipush (pc := 8) (12345 : Int32) rfl hC dX2_lot_8 ?_
  refine v_iadd (pc := 11) hC dX2_lot_11 ?_
  obtain ⟨s1, hs1, h⟩ := bnd_s h
  refine v_pI (pc := 12) 3 hC s_37 rfl rfl rfl rfl rfl rfl fl_X2_23 hs1 dX2_lot_12 ?_
  refine v_iload_n (pc := 15) hC dX2_lot_15 rfl ?_
  refine v_if_le (pc := 16) (tgt := 31) hC dX2_lot_16 rfl (fun c2 => ?_) (fun c2 => ?_)
  · replace h := (if_pos c2).symm.trans h
    refine v_iconst (pc := 31) (0 : Int32) rfl hC dX2_lot_31 ?_
    obtain rfl := Option.some.inj h
    exact v_iret (pc := 32) hC rfl dX2_lot_32 hP
  · replace h := (if_neg c2).symm.trans h
    refine v_aload_n (pc := 19) hC dX2_lot_19 rfl ?_
    refine v_gt (pc := 20) 3 (.int (gI s1 37 3)) hC s_37 rfl rfl rfl rfl fl_X2_23 dX2_lot_20 ?_
    refine v_bipush (pc := 23) (16 : Int32) rfl hC dX2_lot_23 ?_
    refine v_iushr (pc := 25) hC dX2_lot_25 ?_
    refine v_iload_n (pc := 26) hC dX2_lot_26 rfl ?_
    obtain ⟨v3, hv3, h⟩ := obd_s h
    refine v_mI (pc := 27) hC hv3 dX2_lot_27 ?_
    refine v_goto (pc := 28) (tgt := 32) hC dX2_lot_28 rfl ?_
    obtain rfl := Option.some.inj h
    exact v_iret (pc := 32) hC rfl dX2_lot_32 hP
theorem dX3_setTime_0 : decode cX3_setTime 0 = .ok (.aload_n 0, 1) := by decide +kernel
theorem dX3_setTime_1 : decode cX3_setTime 1 = .ok (.getfield 34, 3) := by decide +kernel
theorem dX3_setTime_4 : decode cX3_setTime 4 = .ok (.iload_n 1, 1) := by decide +kernel
theorem dX3_setTime_5 : decode cX3_setTime 5 = .ok (.iconst 4, 1) := by decide +kernel
theorem dX3_setTime_6 : decode cX3_setTime 6 = .ok (.imul, 1) := by decide +kernel
theorem dX3_setTime_7 : decode cX3_setTime 7 = .ok (.iload_n 2, 1) := by decide +kernel
theorem dX3_setTime_8 : decode cX3_setTime 8 = .ok (.iadd, 1) := by decide +kernel
theorem dX3_setTime_9 : decode cX3_setTime 9 = .ok (.iload_n 3, 1) := by decide +kernel
theorem dX3_setTime_10 : decode cX3_setTime 10 = .ok (.iastore, 1) := by decide +kernel
theorem dX3_setTime_11 : decode cX3_setTime 11 = .ok (.return_, 1) := by decide +kernel
def fX3_setTime (x0_ : Int32) (x1_ : Int32) (x2_ : Int32) (s : Sg) : Option (Sg) :=
  (wI s 7 256 ((x0_ * (4 : Int32)) + x1_) x2_).bind fun s1 =>
  some s1
theorem ct_X3_setTime {g : Gl} {x0_ : Int32} {x1_ : Int32} {x2_ : Int32} {s : Sg} {w : Sg}  (h : fX3_setTime x0_ x1_ x2_ s = some w) : Ct SS g iX3_setTime 0 0 [.ref (gad g 1), .int x0_, .int x1_, .int x2_] s (Dt none w) := by
  refine Ct.ofV (by decide +kernel) 0 (lv0 := [some (.ref (gad g 1)), some (.int x0_), some (.int x1_), some (.int x2_)]) rfl rfl (fun M hC => ?_)
  have hP : (Dt none w) none w := ⟨rfl, rfl⟩
  generalize Dt none w = P at hP ⊢
  unfold fX3_setTime at h
  refine v_aload_n (pc := 0) hC dX3_setTime_0 rfl ?_
  refine v_gt (pc := 1) 7 (.ref (gad g 7)) hC s_1 rfl rfl rfl rfl fl_X3_34 dX3_setTime_1 ?_
  refine v_iload_n (pc := 4) hC dX3_setTime_4 rfl ?_
  refine v_iconst (pc := 5) (4 : Int32) rfl hC dX3_setTime_5 ?_
  refine v_imul (pc := 6) hC dX3_setTime_6 ?_
  refine v_iload_n (pc := 7) hC dX3_setTime_7 rfl ?_
  refine v_iadd (pc := 8) hC dX3_setTime_8 ?_
  refine v_iload_n (pc := 9) hC dX3_setTime_9 rfl ?_
  obtain ⟨s1, hs1, h⟩ := obd_s h
  refine v_wI (pc := 10) hC s_7 hs1 dX3_setTime_10 ?_
  obtain rfl := Option.some.inj h
  exact v_vret (pc := 11) hC rfl dX3_setTime_11 hP
theorem dX2_makeTimes_0 : decode cX2_makeTimes 0 = .ok (.aload_n 0, 1) := by decide +kernel
theorem dX2_makeTimes_1 : decode cX2_makeTimes 1 = .ok (.getfield 19, 3) := by decide +kernel
theorem dX2_makeTimes_4 : decode cX2_makeTimes 4 = .ok (.getfield 66, 3) := by decide +kernel
theorem dX2_makeTimes_7 : decode cX2_makeTimes 7 = .ok (.bipush 9, 2) := by decide +kernel
theorem dX2_makeTimes_9 : decode cX2_makeTimes 9 = .ok (.iaload, 1) := by decide +kernel
theorem dX2_makeTimes_10 : decode cX2_makeTimes 10 = .ok (.istore 4, 2) := by decide +kernel
theorem dX2_makeTimes_12 : decode cX2_makeTimes 12 = .ok (.iconst 0, 1) := by decide +kernel
theorem dX2_makeTimes_13 : decode cX2_makeTimes 13 = .ok (.istore 5, 2) := by decide +kernel
theorem dX2_makeTimes_15 : decode cX2_makeTimes 15 = .ok (.iload 5, 2) := by decide +kernel
theorem dX2_makeTimes_17 : decode cX2_makeTimes 17 = .ok (.aload_n 0, 1) := by decide +kernel
theorem dX2_makeTimes_18 : decode cX2_makeTimes 18 = .ok (.getfield 9, 3) := by decide +kernel
theorem dX2_makeTimes_21 : decode cX2_makeTimes 21 = .ok (.iload_n 1, 1) := by decide +kernel
theorem dX2_makeTimes_22 : decode cX2_makeTimes 22 = .ok (.invokevirtual 70, 3) := by decide +kernel
theorem dX2_makeTimes_25 : decode cX2_makeTimes 25 = .ok (.if_icmp .ge 104, 3) := by decide +kernel
theorem dX2_makeTimes_28 : decode cX2_makeTimes 28 = .ok (.iload 5, 2) := by decide +kernel
theorem dX2_makeTimes_30 : decode cX2_makeTimes 30 = .ok (.iconst 2, 1) := by decide +kernel
theorem dX2_makeTimes_31 : decode cX2_makeTimes 31 = .ok (.irem, 1) := by decide +kernel
theorem dX2_makeTimes_32 : decode cX2_makeTimes 32 = .ok (.ifCond .ne 15, 3) := by decide +kernel
theorem dX2_makeTimes_35 : decode cX2_makeTimes 35 = .ok (.aload_n 0, 1) := by decide +kernel
theorem dX2_makeTimes_36 : decode cX2_makeTimes 36 = .ok (.getfield 19, 3) := by decide +kernel
theorem dX2_makeTimes_39 : decode cX2_makeTimes 39 = .ok (.getfield 66, 3) := by decide +kernel
theorem dX2_makeTimes_42 : decode cX2_makeTimes 42 = .ok (.iload_n 3, 1) := by decide +kernel
theorem dX2_makeTimes_43 : decode cX2_makeTimes 43 = .ok (.iaload, 1) := by decide +kernel
theorem dX2_makeTimes_44 : decode cX2_makeTimes 44 = .ok (.goto 13, 3) := by decide +kernel
theorem dX2_makeTimes_47 : decode cX2_makeTimes 47 = .ok (.aload_n 0, 1) := by decide +kernel
theorem dX2_makeTimes_48 : decode cX2_makeTimes 48 = .ok (.getfield 19, 3) := by decide +kernel
theorem dX2_makeTimes_51 : decode cX2_makeTimes 51 = .ok (.getfield 66, 3) := by decide +kernel
theorem dX2_makeTimes_54 : decode cX2_makeTimes 54 = .ok (.iload_n 3, 1) := by decide +kernel
theorem dX2_makeTimes_55 : decode cX2_makeTimes 55 = .ok (.iaload, 1) := by decide +kernel
theorem dX2_makeTimes_56 : decode cX2_makeTimes 56 = .ok (.ineg, 1) := by decide +kernel
theorem dX2_makeTimes_57 : decode cX2_makeTimes 57 = .ok (.istore 6, 2) := by decide +kernel
theorem dX2_makeTimes_59 : decode cX2_makeTimes 59 = .ok (.aload_n 0, 1) := by decide +kernel
theorem dX2_makeTimes_60 : decode cX2_makeTimes 60 = .ok (.getfield 9, 3) := by decide +kernel
theorem dX2_makeTimes_63 : decode cX2_makeTimes 63 = .ok (.getfield 73, 3) := by decide +kernel
theorem dX2_makeTimes_66 : decode cX2_makeTimes 66 = .ok (.iload_n 2, 1) := by decide +kernel
theorem dX2_makeTimes_67 : decode cX2_makeTimes 67 = .ok (.iaload, 1) := by decide +kernel
theorem dX2_makeTimes_68 : decode cX2_makeTimes 68 = .ok (.iload 5, 2) := by decide +kernel
theorem dX2_makeTimes_70 : decode cX2_makeTimes 70 = .ok (.aload_n 0, 1) := by decide +kernel
theorem dX2_makeTimes_71 : decode cX2_makeTimes 71 = .ok (.getfield 19, 3) := by decide +kernel
theorem dX2_makeTimes_74 : decode cX2_makeTimes 74 = .ok (.getfield 66, 3) := by decide +kernel
theorem dX2_makeTimes_77 : decode cX2_makeTimes 77 = .ok (.bipush 8, 2) := by decide +kernel
theorem dX2_makeTimes_79 : decode cX2_makeTimes 79 = .ok (.iaload, 1) := by decide +kernel
theorem dX2_makeTimes_80 : decode cX2_makeTimes 80 = .ok (.imul, 1) := by decide +kernel
theorem dX2_makeTimes_81 : decode cX2_makeTimes 81 = .ok (.iadd, 1) := by decide +kernel
theorem dX2_makeTimes_82 : decode cX2_makeTimes 82 = .ok (.iload 6, 2) := by decide +kernel
theorem dX2_makeTimes_84 : decode cX2_makeTimes 84 = .ok (.iadd, 1) := by decide +kernel
theorem dX2_makeTimes_85 : decode cX2_makeTimes 85 = .ok (.aload_n 0, 1) := by decide +kernel
theorem dX2_makeTimes_86 : decode cX2_makeTimes 86 = .ok (.iconst 2, 1) := by decide +kernel
theorem dX2_makeTimes_87 : decode cX2_makeTimes 87 = .ok (.iload 4, 2) := by decide +kernel
theorem dX2_makeTimes_89 : decode cX2_makeTimes 89 = .ok (.imul, 1) := by decide +kernel
theorem dX2_makeTimes_90 : decode cX2_makeTimes 90 = .ok (.iconst 1, 1) := by decide +kernel
theorem dX2_makeTimes_91 : decode cX2_makeTimes 91 = .ok (.iadd, 1) := by decide +kernel
theorem dX2_makeTimes_92 : decode cX2_makeTimes 92 = .ok (.invokevirtual 76, 3) := by decide +kernel
theorem dX2_makeTimes_95 : decode cX2_makeTimes 95 = .ok (.iadd, 1) := by decide +kernel
theorem dX2_makeTimes_96 : decode cX2_makeTimes 96 = .ok (.iload 4, 2) := by decide +kernel
theorem dX2_makeTimes_98 : decode cX2_makeTimes 98 = .ok (.isub, 1) := by decide +kernel
theorem dX2_makeTimes_99 : decode cX2_makeTimes 99 = .ok (.istore 7, 2) := by decide +kernel
theorem dX2_makeTimes_101 : decode cX2_makeTimes 101 = .ok (.aload_n 0, 1) := by decide +kernel
theorem dX2_makeTimes_102 : decode cX2_makeTimes 102 = .ok (.getfield 9, 3) := by decide +kernel
theorem dX2_makeTimes_105 : decode cX2_makeTimes 105 = .ok (.iload_n 1, 1) := by decide +kernel
theorem dX2_makeTimes_106 : decode cX2_makeTimes 106 = .ok (.iload 5, 2) := by decide +kernel
theorem dX2_makeTimes_108 : decode cX2_makeTimes 108 = .ok (.iconst 1, 1) := by decide +kernel
theorem dX2_makeTimes_109 : decode cX2_makeTimes 109 = .ok (.sipush 9999, 3) := by decide +kernel
theorem dX2_makeTimes_112 : decode cX2_makeTimes 112 = .ok (.iload 7, 2) := by decide +kernel
theorem dX2_makeTimes_114 : decode cX2_makeTimes 114 = .ok (.invokestatic 79, 3) := by decide +kernel
theorem dX2_makeTimes_117 : decode cX2_makeTimes 117 = .ok (.invokestatic 85, 3) := by decide +kernel
theorem dX2_makeTimes_120 : decode cX2_makeTimes 120 = .ok (.invokevirtual 88, 3) := by decide +kernel
theorem dX2_makeTimes_123 : decode cX2_makeTimes 123 = .ok (.iinc 5 1, 3) := by decide +kernel
theorem dX2_makeTimes_126 : decode cX2_makeTimes 126 = .ok (.goto (-111), 3) := by decide +kernel
theorem dX2_makeTimes_129 : decode cX2_makeTimes 129 = .ok (.return_, 1) := by decide +kernel
def fX2_makeTimes_L15 (p1 : Int32) (p2 : Int32) (p3 : Int32) (p4 : Int32) (a : Int32) (s : Sg) : Option (((Int32) ⊕ (Unit)) × Sg) :=
  (fX3_lengthsOf p1 s).bind fun w1 =>
  if w1.1 ≤ a then
  some (.inr (), w1.2)
  else
  (mI a (2 : Int32)).bind fun v3 =>
  ((if v3 = 0 then
  (aI w1.2 36 10 p3).bind fun v14 =>
  some v14
  else
  (aI w1.2 36 10 p3).bind fun v12 =>
  some (-v12)) : Option (Int32)).bind fun w4 =>
  (aI w1.2 8 24 p2).bind fun v6 =>
  (aI w1.2 36 10 (8 : Int32)).bind fun v7 =>
  (fX2_lot (((2 : Int32) * p4) + (1 : Int32)) w1.2).bind fun w8 =>
  bnd ((((v6 + (a * v7)) + w4) + w8.1) - p4) fun x9 =>
  (fX3_setTime p1 a (mxI (1 : Int32) (mnI (9999 : Int32) x9)) w8.2).bind fun w10 =>
  bnd (a + (1 : Int32)) fun x11 =>
  some (.inl x11, w10)
def fX2_makeTimes (x0_ : Int32) (x1_ : Int32) (x2_ : Int32) (s : Sg) : Option (Sg) :=
  (aI s 36 10 (9 : Int32)).bind fun v1 =>
  (lpG (fX2_makeTimes_L15 x0_ x1_ x2_ v1) FU (0 : Int32) s).bind fun w2 =>
  some w2.2
theorem ct_X2_makeTimes {g : Gl} {x0_ : Int32} {x1_ : Int32} {x2_ : Int32} {s : Sg} {w : Sg}  (h : fX2_makeTimes x0_ x1_ x2_ s = some w) : Ct SS g iX2_makeTimes 1 23 [.ref (gad g 37), .int x0_, .int x1_, .int x2_] s (Dt none w) := by
  refine Ct.ofV (by decide +kernel) 4 (lv0 := [some (.ref (gad g 37)), some (.int x0_), some (.int x1_), some (.int x2_), none, none, none, none]) rfl rfl (fun M hC => ?_)
  have hP : (Dt none w) none w := ⟨rfl, rfl⟩
  generalize Dt none w = P at hP ⊢
  unfold fX2_makeTimes at h
  refine v_aload_n (pc := 0) hC dX2_makeTimes_0 rfl ?_
  refine v_gt (pc := 1) 2 (.ref (gad g 35)) hC s_37 rfl rfl rfl rfl fl_X2_19 dX2_makeTimes_1 ?_
  refine v_gtN (pc := 4) 1 (.ref (gad g 36)) hC s_35 rfl rfl rfl rfl fl_X2_66 dX2_makeTimes_4 ?_
  refine v_bipush (pc := 7) (9 : Int32) rfl hC dX2_makeTimes_7 ?_
  obtain ⟨v1, hv1, h⟩ := obd_s h
  refine v_aI (pc := 9) hC s_36 hv1 dX2_makeTimes_9 ?_
  refine v_istore (pc := 10) (lv' := [some (.ref (gad g 37)), some (.int x0_), some (.int x1_), some (.int x2_), some (.int v1), none, none, none]) hC dX2_makeTimes_10 rfl rfl rfl rfl ?_
  refine v_iconst (pc := 12) (0 : Int32) rfl hC dX2_makeTimes_12 ?_
  refine v_istore (pc := 13) (lv' := [some (.ref (gad g 37)), some (.int x0_), some (.int x1_), some (.int x2_), some (.int v1), some (.int (0 : Int32)), none, none]) hC dX2_makeTimes_13 rfl rfl rfl rfl ?_
  obtain ⟨w2, hw2, h⟩ := obd_s h
  have kx23 : V SS g M iX2_makeTimes (PQ SS g M P) 129 [none, none, none, none, none, none, none, none] [] w2.2 := by
    obtain rfl := Option.some.inj h
    exact v_vret (pc := 129) hC rfl dX2_makeTimes_129 hP
  refine V.ls (ls_some (ls_some (ls_some (ls_some (ls_some (ls_some (ls_none (ls_none ls_nil)))))))) (v_loop (pc := 15) (fun a5 => [some (.ref (gad g 37)), some (.int x0_), some (.int x1_), some (.int x2_), some (.int v1), some (.int a5), none, none]) (fun z t => V SS g M iX2_makeTimes (PQ SS g M P) 129 [none, none, none, none, none, none, none, none] [] t) (fun a5 s3 u4 hu4 k6 k7 => ?_) _ _ _ _ hw2 kx23)
  unfold fX2_makeTimes_L15 at hu4
  refine v_iload (pc := 15) hC dX2_makeTimes_15 rfl ?_
  refine v_aload_n (pc := 17) hC dX2_makeTimes_17 rfl ?_
  refine v_gt (pc := 18) 0 (.ref (gad g 1)) hC s_37 rfl rfl rfl rfl fl_X2_9 dX2_makeTimes_18 ?_
  refine v_iload_n (pc := 21) hC dX2_makeTimes_21 rfl ?_
  obtain ⟨w9, hw9, hu4⟩ := obd_s hu4
  refine v_cV (pc := 22) [.int a5] [.int w9.1, .int a5] gm_X3_lengthsOf hC s_1 rfl rfl (ct_X3_lengthsOf  hw9) ml_X2_70 rfl rfl rfl rfl rfl rfl dX2_makeTimes_22 ?_
  refine v_ic_ge (pc := 25) (tgt := 129) hC dX2_makeTimes_25 rfl (fun c10 => ?_) (fun c10 => ?_)
  · replace hu4 := (if_pos c10).symm.trans hu4
    obtain rfl := Option.some.inj hu4
    exact V.ls (ls_none (ls_none (ls_none (ls_none (ls_none (ls_none (ls_none (ls_none ls_nil)))))))) (k7 _ rfl)
  · replace hu4 := (if_neg c10).symm.trans hu4
    refine v_iload (pc := 28) hC dX2_makeTimes_28 rfl ?_
    refine v_iconst (pc := 30) (2 : Int32) rfl hC dX2_makeTimes_30 ?_
    obtain ⟨v11, hv11, hu4⟩ := obd_s hu4
    refine v_mI (pc := 31) hC hv11 dX2_makeTimes_31 ?_
    obtain ⟨w12, hw12, hu4⟩ := obd_s hu4
    have kj13 : V SS g M iX2_makeTimes (PQ SS g M P) 57 [some (.ref (gad g 37)), some (.int x0_), some (.int x1_), some (.int x2_), some (.int v1), some (.int a5), none, none] [.int w12] w9.2 := by
      refine v_istore (pc := 57) (lv' := [some (.ref (gad g 37)), some (.int x0_), some (.int x1_), some (.int x2_), some (.int v1), some (.int a5), some (.int w12), none]) hC dX2_makeTimes_57 rfl rfl rfl rfl ?_
      refine v_aload_n (pc := 59) hC dX2_makeTimes_59 rfl ?_
      refine v_gt (pc := 60) 0 (.ref (gad g 1)) hC s_37 rfl rfl rfl rfl fl_X2_9 dX2_makeTimes_60 ?_
      refine v_gtN (pc := 63) 8 (.ref (gad g 8)) hC s_1 rfl rfl rfl rfl fl_X2_73 dX2_makeTimes_63 ?_
      refine v_iload_n (pc := 66) hC dX2_makeTimes_66 rfl ?_
      obtain ⟨v14, hv14, hu4⟩ := obd_s hu4
      refine v_aI (pc := 67) hC s_8 hv14 dX2_makeTimes_67 ?_
      refine v_iload (pc := 68) hC dX2_makeTimes_68 rfl ?_
      refine v_aload_n (pc := 70) hC dX2_makeTimes_70 rfl ?_
      refine v_gt (pc := 71) 2 (.ref (gad g 35)) hC s_37 rfl rfl rfl rfl fl_X2_19 dX2_makeTimes_71 ?_
      refine v_gtN (pc := 74) 1 (.ref (gad g 36)) hC s_35 rfl rfl rfl rfl fl_X2_66 dX2_makeTimes_74 ?_
      refine v_bipush (pc := 77) (8 : Int32) rfl hC dX2_makeTimes_77 ?_
      obtain ⟨v15, hv15, hu4⟩ := obd_s hu4
      refine v_aI (pc := 79) hC s_36 hv15 dX2_makeTimes_79 ?_
      refine v_imul (pc := 80) hC dX2_makeTimes_80 ?_
      refine v_iadd (pc := 81) hC dX2_makeTimes_81 ?_
      refine v_iload (pc := 82) hC dX2_makeTimes_82 rfl ?_
      refine v_iadd (pc := 84) hC dX2_makeTimes_84 ?_
      refine v_aload_n (pc := 85) hC dX2_makeTimes_85 rfl ?_
      refine v_iconst (pc := 86) (2 : Int32) rfl hC dX2_makeTimes_86 ?_
      refine v_iload (pc := 87) hC dX2_makeTimes_87 rfl ?_
      refine v_imul (pc := 89) hC dX2_makeTimes_89 ?_
      refine v_iconst (pc := 90) (1 : Int32) rfl hC dX2_makeTimes_90 ?_
      refine v_iadd (pc := 91) hC dX2_makeTimes_91 ?_
      obtain ⟨w16, hw16, hu4⟩ := obd_s hu4
      refine v_cV (pc := 92) [.int ((v14 + (a5 * v15)) + w12)] [.int w16.1, .int ((v14 + (a5 * v15)) + w12)] gm_X2_lot hC s_37 rfl rfl (ct_X2_lot  hw16) ml_X2_76 rfl rfl rfl rfl rfl rfl dX2_makeTimes_92 ?_
      refine v_iadd (pc := 95) hC dX2_makeTimes_95 ?_
      refine v_iload (pc := 96) hC dX2_makeTimes_96 rfl ?_
      refine v_isub (pc := 98) hC dX2_makeTimes_98 ?_
      obtain ⟨x17, hx17, hu4⟩ := bnd_s hu4
      refine v_istore (pc := 99) (lv' := [some (.ref (gad g 37)), some (.int x0_), some (.int x1_), some (.int x2_), some (.int v1), some (.int a5), some (.int w12), some (.int x17)]) hC dX2_makeTimes_99 hx17 rfl rfl rfl ?_
      refine v_aload_n (pc := 101) hC dX2_makeTimes_101 rfl ?_
      refine v_gt (pc := 102) 0 (.ref (gad g 1)) hC s_37 rfl rfl rfl rfl fl_X2_9 dX2_makeTimes_102 ?_
      refine v_iload_n (pc := 105) hC dX2_makeTimes_105 rfl ?_
      refine v_iload (pc := 106) hC dX2_makeTimes_106 rfl ?_
      refine v_iconst (pc := 108) (1 : Int32) rfl hC dX2_makeTimes_108 ?_
      refine v_sipush (pc := 109) (9999 : Int32) rfl hC dX2_makeTimes_109 ?_
      refine v_iload (pc := 112) hC dX2_makeTimes_112 rfl ?_
      refine v_mn (pc := 114) hC mm_X2_79 rfl rfl dX2_makeTimes_114 ?_
      refine v_mx (pc := 117) hC mm_X2_85 rfl rfl dX2_makeTimes_117 ?_
      obtain ⟨w18, hw18, hu4⟩ := obd_s hu4
      refine v_cV (pc := 120) [] [] gm_X3_setTime hC s_1 rfl rfl (ct_X3_setTime  hw18) ml_X2_88 rfl rfl rfl rfl rfl rfl dX2_makeTimes_120 ?_
      obtain ⟨x19, hx19, hu4⟩ := bnd_s hu4
      refine v_iinc (pc := 123) (lv' := [some (.ref (gad g 37)), some (.int x0_), some (.int x1_), some (.int x2_), some (.int v1), some (.int x19), some (.int w12), some (.int x17)]) (1 : Int32) rfl hx19 hC dX2_makeTimes_123 rfl rfl rfl rfl ?_
      refine v_goto (pc := 126) (tgt := 15) hC dX2_makeTimes_126 rfl ?_
      obtain rfl := Option.some.inj hu4
      exact V.ls (ls_some (ls_some (ls_some (ls_some (ls_some (ls_some (ls_none (ls_none ls_nil)))))))) (k6 _ rfl)
    refine v_if_ne (pc := 32) (tgt := 47) hC dX2_makeTimes_32 rfl (fun c21 => ?_) (fun c21 => ?_)
    · replace hw12 := (if_neg c21).symm.trans hw12
      refine v_aload_n (pc := 47) hC dX2_makeTimes_47 rfl ?_
      refine v_gt (pc := 48) 2 (.ref (gad g 35)) hC s_37 rfl rfl rfl rfl fl_X2_19 dX2_makeTimes_48 ?_
      refine v_gtN (pc := 51) 1 (.ref (gad g 36)) hC s_35 rfl rfl rfl rfl fl_X2_66 dX2_makeTimes_51 ?_
      refine v_iload_n (pc := 54) hC dX2_makeTimes_54 rfl ?_
      obtain ⟨v20, hv20, hw12⟩ := obd_s hw12
      refine v_aI (pc := 55) hC s_36 hv20 dX2_makeTimes_55 ?_
      refine v_ineg (pc := 56) hC dX2_makeTimes_56 ?_
      obtain rfl := Option.some.inj hw12
      exact V.ls (ls_some (ls_some (ls_some (ls_some (ls_some (ls_some (ls_none (ls_none ls_nil)))))))) kj13
    · replace hw12 := (if_pos c21).symm.trans hw12
      refine v_aload_n (pc := 35) hC dX2_makeTimes_35 rfl ?_
      refine v_gt (pc := 36) 2 (.ref (gad g 35)) hC s_37 rfl rfl rfl rfl fl_X2_19 dX2_makeTimes_36 ?_
      refine v_gtN (pc := 39) 1 (.ref (gad g 36)) hC s_35 rfl rfl rfl rfl fl_X2_66 dX2_makeTimes_39 ?_
      refine v_iload_n (pc := 42) hC dX2_makeTimes_42 rfl ?_
      obtain ⟨v22, hv22, hw12⟩ := obd_s hw12
      refine v_aI (pc := 43) hC s_36 hv22 dX2_makeTimes_43 ?_
      refine v_goto (pc := 44) (tgt := 57) hC dX2_makeTimes_44 rfl ?_
      obtain rfl := Option.some.inj hw12
      exact V.ls (ls_some (ls_some (ls_some (ls_some (ls_some (ls_some (ls_none (ls_none ls_nil)))))))) kj13
theorem dX2_fill_0 : decode cX2_fill 0 = .ok (.aload_n 0, 1) := by decide +kernel
theorem dX2_fill_1 : decode cX2_fill 1 = .ok (.iload 4, 2) := by decide +kernel
theorem dX2_fill_3 : decode cX2_fill 3 = .ok (.putfield 23, 3) := by decide +kernel
theorem dX2_fill_6 : decode cX2_fill 6 = .ok (.aload_n 0, 1) := by decide +kernel
theorem dX2_fill_7 : decode cX2_fill 7 = .ok (.getfield 19, 3) := by decide +kernel
theorem dX2_fill_10 : decode cX2_fill 10 = .ok (.invokevirtual 27, 3) := by decide +kernel
theorem dX2_fill_13 : decode cX2_fill 13 = .ok (.pop, 1) := by decide +kernel
theorem dX2_fill_14 : decode cX2_fill 14 = .ok (.aload_n 0, 1) := by decide +kernel
theorem dX2_fill_15 : decode cX2_fill 15 = .ok (.getfield 15, 3) := by decide +kernel
theorem dX2_fill_18 : decode cX2_fill 18 = .ok (.invokevirtual 33, 3) := by decide +kernel
theorem dX2_fill_21 : decode cX2_fill 21 = .ok (.iconst (-1), 1) := by decide +kernel
theorem dX2_fill_22 : decode cX2_fill 22 = .ok (.if_icmp .ne 7, 3) := by decide +kernel
theorem dX2_fill_25 : decode cX2_fill 25 = .ok (.iconst 1, 1) := by decide +kernel
theorem dX2_fill_26 : decode cX2_fill 26 = .ok (.goto 4, 3) := by decide +kernel
theorem dX2_fill_29 : decode cX2_fill 29 = .ok (.iconst 0, 1) := by decide +kernel
theorem dX2_fill_30 : decode cX2_fill 30 = .ok (.istore 5, 2) := by decide +kernel
theorem dX2_fill_32 : decode cX2_fill 32 = .ok (.iload_n 2, 1) := by decide +kernel
theorem dX2_fill_33 : decode cX2_fill 33 = .ok (.istore 6, 2) := by decide +kernel
theorem dX2_fill_35 : decode cX2_fill 35 = .ok (.iload 6, 2) := by decide +kernel
theorem dX2_fill_37 : decode cX2_fill 37 = .ok (.iload_n 2, 1) := by decide +kernel
theorem dX2_fill_38 : decode cX2_fill 38 = .ok (.iload_n 3, 1) := by decide +kernel
theorem dX2_fill_39 : decode cX2_fill 39 = .ok (.iadd, 1) := by decide +kernel
theorem dX2_fill_40 : decode cX2_fill 40 = .ok (.if_icmp .ge 82, 3) := by decide +kernel
theorem dX2_fill_43 : decode cX2_fill 43 = .ok (.iload 5, 2) := by decide +kernel
theorem dX2_fill_45 : decode cX2_fill 45 = .ok (.ifCond .eq 21, 3) := by decide +kernel
theorem dX2_fill_48 : decode cX2_fill 48 = .ok (.aload_n 0, 1) := by decide +kernel
theorem dX2_fill_49 : decode cX2_fill 49 = .ok (.getfield 15, 3) := by decide +kernel
theorem dX2_fill_52 : decode cX2_fill 52 = .ok (.aload_n 0, 1) := by decide +kernel
theorem dX2_fill_53 : decode cX2_fill 53 = .ok (.iload 6, 2) := by decide +kernel
theorem dX2_fill_55 : decode cX2_fill 55 = .ok (.iload_n 2, 1) := by decide +kernel
theorem dX2_fill_56 : decode cX2_fill 56 = .ok (.iload_n 3, 1) := by decide +kernel
theorem dX2_fill_57 : decode cX2_fill 57 = .ok (.invokevirtual 38, 3) := by decide +kernel
theorem dX2_fill_60 : decode cX2_fill 60 = .ok (.invokevirtual 42, 3) := by decide +kernel
theorem dX2_fill_63 : decode cX2_fill 63 = .ok (.goto 7, 3) := by decide +kernel
theorem dX2_fill_66 : decode cX2_fill 66 = .ok (.iload 6, 2) := by decide +kernel
theorem dX2_fill_68 : decode cX2_fill 68 = .ok (.iload_n 2, 1) := by decide +kernel
theorem dX2_fill_69 : decode cX2_fill 69 = .ok (.isub, 1) := by decide +kernel
theorem dX2_fill_70 : decode cX2_fill 70 = .ok (.istore 7, 2) := by decide +kernel
theorem dX2_fill_72 : decode cX2_fill 72 = .ok (.aload_n 0, 1) := by decide +kernel
theorem dX2_fill_73 : decode cX2_fill 73 = .ok (.getfield 9, 3) := by decide +kernel
theorem dX2_fill_76 : decode cX2_fill 76 = .ok (.iload_n 1, 1) := by decide +kernel
theorem dX2_fill_77 : decode cX2_fill 77 = .ok (.iload 6, 2) := by decide +kernel
theorem dX2_fill_79 : decode cX2_fill 79 = .ok (.iload 7, 2) := by decide +kernel
theorem dX2_fill_81 : decode cX2_fill 81 = .ok (.invokevirtual 46, 3) := by decide +kernel
theorem dX2_fill_84 : decode cX2_fill 84 = .ok (.istore 8, 2) := by decide +kernel
theorem dX2_fill_86 : decode cX2_fill 86 = .ok (.aload_n 0, 1) := by decide +kernel
theorem dX2_fill_87 : decode cX2_fill 87 = .ok (.getfield 9, 3) := by decide +kernel
theorem dX2_fill_90 : decode cX2_fill 90 = .ok (.iload 8, 2) := by decide +kernel
theorem dX2_fill_92 : decode cX2_fill 92 = .ok (.invokevirtual 51, 3) := by decide +kernel
theorem dX2_fill_95 : decode cX2_fill 95 = .ok (.ifCond .eq 21, 3) := by decide +kernel
theorem dX2_fill_98 : decode cX2_fill 98 = .ok (.iload 7, 2) := by decide +kernel
theorem dX2_fill_100 : decode cX2_fill 100 = .ok (.invokestatic 55, 3) := by decide +kernel
theorem dX2_fill_103 : decode cX2_fill 103 = .ok (.ifCond .eq 13, 3) := by decide +kernel
theorem dX2_fill_106 : decode cX2_fill 106 = .ok (.aload_n 0, 1) := by decide +kernel
theorem dX2_fill_107 : decode cX2_fill 107 = .ok (.iload 8, 2) := by decide +kernel
theorem dX2_fill_109 : decode cX2_fill 109 = .ok (.iload 6, 2) := by decide +kernel
theorem dX2_fill_111 : decode cX2_fill 111 = .ok (.iload 7, 2) := by decide +kernel
theorem dX2_fill_113 : decode cX2_fill 113 = .ok (.invokevirtual 58, 3) := by decide +kernel
theorem dX2_fill_116 : decode cX2_fill 116 = .ok (.iinc 6 1, 3) := by decide +kernel
theorem dX2_fill_119 : decode cX2_fill 119 = .ok (.goto (-84), 3) := by decide +kernel
theorem dX2_fill_122 : decode cX2_fill 122 = .ok (.return_, 1) := by decide +kernel
def fX2_fill_L35 (p1 : Int32) (p2 : Int32) (p3 : Int32) (p5 : Int32) (a : Int32) (s : Sg) : Option (((Int32) ⊕ (Unit)) × Sg) :=
  if (p2 + p3) ≤ a then
  some (.inr (), s)
  else
  ((if p5 = 0 then
  some ((a - p2), s)
  else
  (fX2_rankAmong a p2 p3 s).bind fun w14 =>
  (fX4_laneFor w14.1 w14.2).bind fun w15 =>
  some (w15.1, w15.2)) : Option (Int32 × Sg)).bind fun w2 =>
  (fX3_addSwim p1 a w2.1 w2.2).bind fun w4 =>
  (fX3_hasSwim w4.1 w4.2).bind fun w5 =>
  ((if w5.1 = 0 then
  some w5.2
  else
  (fX10_isLane w2.1 w5.2).bind fun w10 =>
  if w10.1 = 0 then
  some w10.2
  else
  (fX2_makeTimes w4.1 a w2.1 w10.2).bind fun w12 =>
  some w12) : Option (Sg)).bind fun w6 =>
  bnd (a + (1 : Int32)) fun x8 =>
  some (.inl x8, w6)
def fX2_fill (x0_ : Int32) (x1_ : Int32) (x2_ : Int32) (x3_ : Int32) (s : Sg) : Option (Sg) :=
  bnd (sI s 37 3 x3_) fun s1 =>
  (fX9_parse s1).bind fun w2 =>
  (fX4_faultAt w2.2).bind fun w3 =>
  ((if w3.1 = (-1 : Int32) then
  some (1 : Int32)
  else
  some (0 : Int32)) : Option (Int32)).bind fun w4 =>
  (lpG (fX2_fill_L35 x0_ x1_ x2_ w4) FU x1_ w3.2).bind fun w6 =>
  some w6.2
theorem ct_X2_fill {g : Gl} {x0_ : Int32} {x1_ : Int32} {x2_ : Int32} {x3_ : Int32} {s : Sg} {w : Sg}  (h : fX2_fill x0_ x1_ x2_ x3_ s = some w) : Ct SS g iX2_fill 5 107 [.ref (gad g 37), .int x0_, .int x1_, .int x2_, .int x3_] s (Dt none w) := by
  refine Ct.ofV (by decide +kernel) 4 (lv0 := [some (.ref (gad g 37)), some (.int x0_), some (.int x1_), some (.int x2_), some (.int x3_), none, none, none, none]) rfl rfl (fun M hC => ?_)
  have hP : (Dt none w) none w := ⟨rfl, rfl⟩
  generalize Dt none w = P at hP ⊢
  unfold fX2_fill at h
  refine v_aload_n (pc := 0) hC dX2_fill_0 rfl ?_
  refine v_iload (pc := 1) hC dX2_fill_1 rfl ?_
  obtain ⟨s1, hs1, h⟩ := bnd_s h
  refine v_pI (pc := 3) 3 hC s_37 rfl rfl rfl rfl rfl rfl fl_X2_23 hs1 dX2_fill_3 ?_
  refine v_aload_n (pc := 6) hC dX2_fill_6 rfl ?_
  refine v_gt (pc := 7) 2 (.ref (gad g 35)) hC s_37 rfl rfl rfl rfl fl_X2_19 dX2_fill_7 ?_
  obtain ⟨w2, hw2, h⟩ := obd_s h
  refine v_cV (pc := 10) [] [.int w2.1] gm_X9_parse hC s_35 rfl rfl (ct_X9_parse  hw2) ml_X2_27 rfl rfl rfl rfl rfl rfl dX2_fill_10 ?_
  refine v_pop (pc := 13) hC rfl dX2_fill_13 ?_
  refine v_aload_n (pc := 14) hC dX2_fill_14 rfl ?_
  refine v_gt (pc := 15) 1 (.ref (gad g 34)) hC s_37 rfl rfl rfl rfl fl_X2_15 dX2_fill_15 ?_
  obtain ⟨w3, hw3, h⟩ := obd_s h
  refine v_cV (pc := 18) [] [.int w3.1] gm_X4_faultAt hC s_34 rfl rfl (ct_X4_faultAt  hw3) ml_X2_33 rfl rfl rfl rfl rfl rfl dX2_fill_18 ?_
  refine v_iconst (pc := 21) (-1 : Int32) rfl hC dX2_fill_21 ?_
  obtain ⟨w4, hw4, h⟩ := obd_s h
  have kj5 : V SS g M iX2_fill (PQ SS g M P) 30 [some (.ref (gad g 37)), some (.int x0_), some (.int x1_), some (.int x2_), none, none, none, none, none] [.int w4] w3.2 := by
    refine v_istore (pc := 30) (lv' := [some (.ref (gad g 37)), some (.int x0_), some (.int x1_), some (.int x2_), none, some (.int w4), none, none, none]) hC dX2_fill_30 rfl rfl rfl rfl ?_
    refine v_iload_n (pc := 32) hC dX2_fill_32 rfl ?_
    refine v_istore (pc := 33) (lv' := [some (.ref (gad g 37)), some (.int x0_), some (.int x1_), some (.int x2_), none, some (.int w4), some (.int x1_), none, none]) hC dX2_fill_33 rfl rfl rfl rfl ?_
    obtain ⟨w6, hw6, h⟩ := obd_s h
    have kx28 : V SS g M iX2_fill (PQ SS g M P) 122 [none, none, none, none, none, none, none, none, none] [] w6.2 := by
      obtain rfl := Option.some.inj h
      exact v_vret (pc := 122) hC rfl dX2_fill_122 hP
    refine V.ls (ls_some (ls_some (ls_some (ls_some (ls_none (ls_some (ls_some (ls_none (ls_none ls_nil))))))))) (v_loop (pc := 35) (fun a9 => [some (.ref (gad g 37)), some (.int x0_), some (.int x1_), some (.int x2_), none, some (.int w4), some (.int a9), none, none]) (fun z t => V SS g M iX2_fill (PQ SS g M P) 122 [none, none, none, none, none, none, none, none, none] [] t) (fun a9 s7 u8 hu8 k10 k11 => ?_) _ _ _ _ hw6 kx28)
    unfold fX2_fill_L35 at hu8
    refine v_iload (pc := 35) hC dX2_fill_35 rfl ?_
    refine v_iload_n (pc := 37) hC dX2_fill_37 rfl ?_
    refine v_iload_n (pc := 38) hC dX2_fill_38 rfl ?_
    refine v_iadd (pc := 39) hC dX2_fill_39 ?_
    refine v_ic_ge (pc := 40) (tgt := 122) hC dX2_fill_40 rfl (fun c13 => ?_) (fun c13 => ?_)
    · replace hu8 := (if_pos c13).symm.trans hu8
      obtain rfl := Option.some.inj hu8
      exact V.ls (ls_none (ls_none (ls_none (ls_none (ls_none (ls_none (ls_none (ls_none (ls_none ls_nil))))))))) (k11 _ rfl)
    · replace hu8 := (if_neg c13).symm.trans hu8
      refine v_iload (pc := 43) hC dX2_fill_43 rfl ?_
      obtain ⟨w14, hw14, hu8⟩ := obd_s hu8
      have kj15 : V SS g M iX2_fill (PQ SS g M P) 70 [some (.ref (gad g 37)), some (.int x0_), some (.int x1_), some (.int x2_), none, some (.int w4), some (.int a9), none, none] [.int w14.1] w14.2 := by
        refine v_istore (pc := 70) (lv' := [some (.ref (gad g 37)), some (.int x0_), some (.int x1_), some (.int x2_), none, some (.int w4), some (.int a9), some (.int w14.1), none]) hC dX2_fill_70 rfl rfl rfl rfl ?_
        refine v_aload_n (pc := 72) hC dX2_fill_72 rfl ?_
        refine v_gt (pc := 73) 0 (.ref (gad g 1)) hC s_37 rfl rfl rfl rfl fl_X2_9 dX2_fill_73 ?_
        refine v_iload_n (pc := 76) hC dX2_fill_76 rfl ?_
        refine v_iload (pc := 77) hC dX2_fill_77 rfl ?_
        refine v_iload (pc := 79) hC dX2_fill_79 rfl ?_
        obtain ⟨w16, hw16, hu8⟩ := obd_s hu8
        refine v_cV (pc := 81) [] [.int w16.1] gm_X3_addSwim hC s_1 rfl rfl (ct_X3_addSwim  hw16) ml_X2_46 rfl rfl rfl rfl rfl rfl dX2_fill_81 ?_
        refine v_istore (pc := 84) (lv' := [some (.ref (gad g 37)), some (.int x0_), some (.int x1_), some (.int x2_), none, some (.int w4), some (.int a9), some (.int w14.1), some (.int w16.1)]) hC dX2_fill_84 rfl rfl rfl rfl ?_
        refine v_aload_n (pc := 86) hC dX2_fill_86 rfl ?_
        refine v_gt (pc := 87) 0 (.ref (gad g 1)) hC s_37 rfl rfl rfl rfl fl_X2_9 dX2_fill_87 ?_
        refine v_iload (pc := 90) hC dX2_fill_90 rfl ?_
        obtain ⟨w17, hw17, hu8⟩ := obd_s hu8
        refine v_cV (pc := 92) [] [.int w17.1] gm_X3_hasSwim hC s_1 rfl rfl (ct_X3_hasSwim  hw17) ml_X2_51 rfl rfl rfl rfl rfl rfl dX2_fill_92 ?_
        obtain ⟨w18, hw18, hu8⟩ := obd_s hu8
        have kj19 : V SS g M iX2_fill (PQ SS g M P) 116 [some (.ref (gad g 37)), some (.int x0_), some (.int x1_), some (.int x2_), none, some (.int w4), some (.int a9), none, none] [] w18 := by
          obtain ⟨x20, hx20, hu8⟩ := bnd_s hu8
          refine v_iinc (pc := 116) (lv' := [some (.ref (gad g 37)), some (.int x0_), some (.int x1_), some (.int x2_), none, some (.int w4), some (.int x20), none, none]) (1 : Int32) rfl hx20 hC dX2_fill_116 rfl rfl rfl rfl ?_
          refine v_goto (pc := 119) (tgt := 35) hC dX2_fill_119 rfl ?_
          obtain rfl := Option.some.inj hu8
          exact V.ls (ls_some (ls_some (ls_some (ls_some (ls_none (ls_some (ls_some (ls_none (ls_none ls_nil))))))))) (k10 _ rfl)
        refine v_if_eq (pc := 95) (tgt := 116) hC dX2_fill_95 rfl (fun c21 => ?_) (fun c21 => ?_)
        · replace hw18 := (if_pos c21).symm.trans hw18
          obtain rfl := Option.some.inj hw18
          exact V.ls (ls_some (ls_some (ls_some (ls_some (ls_none (ls_some (ls_some (ls_none (ls_none ls_nil))))))))) kj19
        · replace hw18 := (if_neg c21).symm.trans hw18
          refine v_iload (pc := 98) hC dX2_fill_98 rfl ?_
          obtain ⟨w22, hw22, hw18⟩ := obd_s hw18
          refine v_cSN (pc := 100) [] [.int w22.1] gm_X10_isLane hC (ct_X10_isLane  hw22) ml_X2_55 rfl rfl rfl rfl rfl rfl dX2_fill_100 ?_
          refine v_if_eq (pc := 103) (tgt := 116) hC dX2_fill_103 rfl (fun c23 => ?_) (fun c23 => ?_)
          · replace hw18 := (if_pos c23).symm.trans hw18
            obtain rfl := Option.some.inj hw18
            exact V.ls (ls_some (ls_some (ls_some (ls_some (ls_none (ls_some (ls_some (ls_none (ls_none ls_nil))))))))) kj19
          · replace hw18 := (if_neg c23).symm.trans hw18
            refine v_aload_n (pc := 106) hC dX2_fill_106 rfl ?_
            refine v_iload (pc := 107) hC dX2_fill_107 rfl ?_
            refine v_iload (pc := 109) hC dX2_fill_109 rfl ?_
            refine v_iload (pc := 111) hC dX2_fill_111 rfl ?_
            obtain ⟨w24, hw24, hw18⟩ := obd_s hw18
            refine v_cV (pc := 113) [] [] gm_X2_makeTimes hC s_37 rfl rfl (ct_X2_makeTimes  hw24) ml_X2_58 rfl rfl rfl rfl rfl rfl dX2_fill_113 ?_
            obtain rfl := Option.some.inj hw18
            exact V.ls (ls_some (ls_some (ls_some (ls_some (ls_none (ls_some (ls_some (ls_none (ls_none ls_nil))))))))) kj19
      refine v_if_eq (pc := 45) (tgt := 66) hC dX2_fill_45 rfl (fun c25 => ?_) (fun c25 => ?_)
      · replace hw14 := (if_pos c25).symm.trans hw14
        refine v_iload (pc := 66) hC dX2_fill_66 rfl ?_
        refine v_iload_n (pc := 68) hC dX2_fill_68 rfl ?_
        refine v_isub (pc := 69) hC dX2_fill_69 ?_
        obtain rfl := Option.some.inj hw14
        exact V.ls (ls_some (ls_some (ls_some (ls_some (ls_none (ls_some (ls_some (ls_none (ls_none ls_nil))))))))) kj15
      · replace hw14 := (if_neg c25).symm.trans hw14
        refine v_aload_n (pc := 48) hC dX2_fill_48 rfl ?_
        refine v_gt (pc := 49) 1 (.ref (gad g 34)) hC s_37 rfl rfl rfl rfl fl_X2_15 dX2_fill_49 ?_
        refine v_aload_n (pc := 52) hC dX2_fill_52 rfl ?_
        refine v_iload (pc := 53) hC dX2_fill_53 rfl ?_
        refine v_iload_n (pc := 55) hC dX2_fill_55 rfl ?_
        refine v_iload_n (pc := 56) hC dX2_fill_56 rfl ?_
        obtain ⟨w26, hw26, hw14⟩ := obd_s hw14
        refine v_cV (pc := 57) [.ref (gad g 34)] [.int w26.1, .ref (gad g 34)] gm_X2_rankAmong hC s_37 rfl rfl (ct_X2_rankAmong  hw26) ml_X2_38 rfl rfl rfl rfl rfl rfl dX2_fill_57 ?_
        obtain ⟨w27, hw27, hw14⟩ := obd_s hw14
        refine v_cV (pc := 60) [] [.int w27.1] gm_X4_laneFor hC s_34 rfl rfl (ct_X4_laneFor  hw27) ml_X2_42 rfl rfl rfl rfl rfl rfl dX2_fill_60 ?_
        refine v_goto (pc := 63) (tgt := 70) hC dX2_fill_63 rfl ?_
        obtain rfl := Option.some.inj hw14
        exact V.ls (ls_some (ls_some (ls_some (ls_some (ls_none (ls_some (ls_some (ls_none (ls_none ls_nil))))))))) kj15
  refine v_ic_ne (pc := 22) (tgt := 29) hC dX2_fill_22 rfl (fun c29 => ?_) (fun c29 => ?_)
  · replace hw4 := (if_neg c29).symm.trans hw4
    refine v_iconst (pc := 29) (0 : Int32) rfl hC dX2_fill_29 ?_
    obtain rfl := Option.some.inj hw4
    exact V.ls (ls_some (ls_some (ls_some (ls_some (ls_none (ls_none (ls_none (ls_none (ls_none ls_nil))))))))) kj5
  · replace hw4 := (if_pos c29).symm.trans hw4
    refine v_iconst (pc := 25) (1 : Int32) rfl hC dX2_fill_25 ?_
    refine v_goto (pc := 26) (tgt := 30) hC dX2_fill_26 rfl ?_
    obtain rfl := Option.some.inj hw4
    exact V.ls (ls_some (ls_some (ls_some (ls_some (ls_none (ls_none (ls_none (ls_none (ls_none ls_nil))))))))) kj5
theorem dX3_hasRace_0 : decode cX3_hasRace 0 = .ok (.iload_n 1, 1) := by decide +kernel
theorem dX3_hasRace_1 : decode cX3_hasRace 1 = .ok (.ifCond .lt 15, 3) := by decide +kernel
theorem dX3_hasRace_4 : decode cX3_hasRace 4 = .ok (.iload_n 1, 1) := by decide +kernel
theorem dX3_hasRace_5 : decode cX3_hasRace 5 = .ok (.aload_n 0, 1) := by decide +kernel
theorem dX3_hasRace_6 : decode cX3_hasRace 6 = .ok (.getfield 9, 3) := by decide +kernel
theorem dX3_hasRace_9 : decode cX3_hasRace 9 = .ok (.if_icmp .ge 7, 3) := by decide +kernel
theorem dX3_hasRace_12 : decode cX3_hasRace 12 = .ok (.iconst 1, 1) := by decide +kernel
theorem dX3_hasRace_13 : decode cX3_hasRace 13 = .ok (.goto 4, 3) := by decide +kernel
theorem dX3_hasRace_16 : decode cX3_hasRace 16 = .ok (.iconst 0, 1) := by decide +kernel
theorem dX3_hasRace_17 : decode cX3_hasRace 17 = .ok (.ireturn, 1) := by decide +kernel
def fX3_hasRace (x0_ : Int32) (s : Sg) : Option (Int32 × Sg) :=
  if x0_ < 0 then
  some ((0 : Int32), s)
  else
  if (gI s 1 0) ≤ x0_ then
  some ((0 : Int32), s)
  else
  some ((1 : Int32), s)
theorem ct_X3_hasRace {g : Gl} {x0_ : Int32} {s : Sg} {w : Int32 × Sg}  (h : fX3_hasRace x0_ s = some w) : Ct SS g iX3_hasRace 0 0 [.ref (gad g 1), .int x0_] s (Dt (some (.int w.1)) w.2) := by
  refine Ct.ofV (by decide +kernel) 0 (lv0 := [some (.ref (gad g 1)), some (.int x0_)]) rfl rfl (fun M hC => ?_)
  have hP : (Dt (some (.int w.1)) w.2) (some (.int w.1)) w.2 := ⟨rfl, rfl⟩
  generalize Dt (some (.int w.1)) w.2 = P at hP ⊢
  unfold fX3_hasRace at h
  refine v_iload_n (pc := 0) hC dX3_hasRace_0 rfl ?_
  refine v_if_lt (pc := 1) (tgt := 16) hC dX3_hasRace_1 rfl (fun c1 => ?_) (fun c1 => ?_)
  · replace h := (if_pos c1).symm.trans h
    refine v_iconst (pc := 16) (0 : Int32) rfl hC dX3_hasRace_16 ?_
    obtain rfl := Option.some.inj h
    exact v_zret (pc := 17) hC rfl rfl dX3_hasRace_17 hP
  · replace h := (if_neg c1).symm.trans h
    refine v_iload_n (pc := 4) hC dX3_hasRace_4 rfl ?_
    refine v_aload_n (pc := 5) hC dX3_hasRace_5 rfl ?_
    refine v_gt (pc := 6) 0 (.int (gI s 1 0)) hC s_1 rfl rfl rfl rfl fl_X3_9 dX3_hasRace_6 ?_
    refine v_ic_ge (pc := 9) (tgt := 16) hC dX3_hasRace_9 rfl (fun c2 => ?_) (fun c2 => ?_)
    · replace h := (if_pos c2).symm.trans h
      refine v_iconst (pc := 16) (0 : Int32) rfl hC dX3_hasRace_16 ?_
      obtain rfl := Option.some.inj h
      exact v_zret (pc := 17) hC rfl rfl dX3_hasRace_17 hP
    · replace h := (if_neg c2).symm.trans h
      refine v_iconst (pc := 12) (1 : Int32) rfl hC dX3_hasRace_12 ?_
      refine v_goto (pc := 13) (tgt := 17) hC dX3_hasRace_13 rfl ?_
      obtain rfl := Option.some.inj h
      exact v_zret (pc := 17) hC rfl rfl dX3_hasRace_17 hP
theorem dX3_isTaken_0 : decode cX3_isTaken 0 = .ok (.iconst 0, 1) := by decide +kernel
theorem dX3_isTaken_1 : decode cX3_isTaken 1 = .ok (.istore 4, 2) := by decide +kernel
theorem dX3_isTaken_3 : decode cX3_isTaken 3 = .ok (.iload 4, 2) := by decide +kernel
theorem dX3_isTaken_5 : decode cX3_isTaken 5 = .ok (.aload_n 0, 1) := by decide +kernel
theorem dX3_isTaken_6 : decode cX3_isTaken 6 = .ok (.getfield 15, 3) := by decide +kernel
theorem dX3_isTaken_9 : decode cX3_isTaken 9 = .ok (.if_icmp .ge 44, 3) := by decide +kernel
theorem dX3_isTaken_12 : decode cX3_isTaken 12 = .ok (.aload_n 0, 1) := by decide +kernel
theorem dX3_isTaken_13 : decode cX3_isTaken 13 = .ok (.getfield 25, 3) := by decide +kernel
theorem dX3_isTaken_16 : decode cX3_isTaken 16 = .ok (.iload 4, 2) := by decide +kernel
theorem dX3_isTaken_18 : decode cX3_isTaken 18 = .ok (.iaload, 1) := by decide +kernel
theorem dX3_isTaken_19 : decode cX3_isTaken 19 = .ok (.iload_n 1, 1) := by decide +kernel
theorem dX3_isTaken_20 : decode cX3_isTaken 20 = .ok (.if_icmp .ne 27, 3) := by decide +kernel
theorem dX3_isTaken_23 : decode cX3_isTaken 23 = .ok (.aload_n 0, 1) := by decide +kernel
theorem dX3_isTaken_24 : decode cX3_isTaken 24 = .ok (.getfield 28, 3) := by decide +kernel
theorem dX3_isTaken_27 : decode cX3_isTaken 27 = .ok (.iload 4, 2) := by decide +kernel
theorem dX3_isTaken_29 : decode cX3_isTaken 29 = .ok (.iaload, 1) := by decide +kernel
theorem dX3_isTaken_30 : decode cX3_isTaken 30 = .ok (.iload_n 2, 1) := by decide +kernel
theorem dX3_isTaken_31 : decode cX3_isTaken 31 = .ok (.if_icmp .eq 14, 3) := by decide +kernel
theorem dX3_isTaken_34 : decode cX3_isTaken 34 = .ok (.aload_n 0, 1) := by decide +kernel
theorem dX3_isTaken_35 : decode cX3_isTaken 35 = .ok (.getfield 31, 3) := by decide +kernel
theorem dX3_isTaken_38 : decode cX3_isTaken 38 = .ok (.iload 4, 2) := by decide +kernel
theorem dX3_isTaken_40 : decode cX3_isTaken 40 = .ok (.iaload, 1) := by decide +kernel
theorem dX3_isTaken_41 : decode cX3_isTaken 41 = .ok (.iload_n 3, 1) := by decide +kernel
theorem dX3_isTaken_42 : decode cX3_isTaken 42 = .ok (.if_icmp .ne 5, 3) := by decide +kernel
theorem dX3_isTaken_45 : decode cX3_isTaken 45 = .ok (.iconst 1, 1) := by decide +kernel
theorem dX3_isTaken_46 : decode cX3_isTaken 46 = .ok (.ireturn, 1) := by decide +kernel
theorem dX3_isTaken_47 : decode cX3_isTaken 47 = .ok (.iinc 4 1, 3) := by decide +kernel
theorem dX3_isTaken_50 : decode cX3_isTaken 50 = .ok (.goto (-47), 3) := by decide +kernel
theorem dX3_isTaken_53 : decode cX3_isTaken 53 = .ok (.iconst 0, 1) := by decide +kernel
theorem dX3_isTaken_54 : decode cX3_isTaken 54 = .ok (.ireturn, 1) := by decide +kernel
def fX3_isTaken_L3 (p1 : Int32) (p2 : Int32) (p3 : Int32) (a : Int32) (s : Sg) : Option (((Int32) ⊕ (Int32 ⊕ (Unit))) × Sg) :=
  if (gI s 1 1) ≤ a then
  some (.inr (.inr ()), s)
  else
  (aI s 4 64 a).bind fun v2 =>
  if v2 = p1 then
  (aI s 5 64 a).bind fun v5 =>
  if v5 = p2 then
  some (.inr (.inl (1 : Int32)), s)
  else
  (aI s 6 64 a).bind fun v7 =>
  if v7 = p3 then
  some (.inr (.inl (1 : Int32)), s)
  else
  bnd (a + (1 : Int32)) fun x8 =>
  some (.inl x8, s)
  else
  bnd (a + (1 : Int32)) fun x3 =>
  some (.inl x3, s)
def fX3_isTaken (x0_ : Int32) (x1_ : Int32) (x2_ : Int32) (s : Sg) : Option (Int32 × Sg) :=
  (lpG (fX3_isTaken_L3 x0_ x1_ x2_) FU (0 : Int32) s).bind fun w1 =>
  Sum.elim (fun r20 => some (r20, w1.2)) (fun e2 => some ((0 : Int32), w1.2)) w1.1
theorem ct_X3_isTaken {g : Gl} {x0_ : Int32} {x1_ : Int32} {x2_ : Int32} {s : Sg} {w : Int32 × Sg}  (h : fX3_isTaken x0_ x1_ x2_ s = some w) : Ct SS g iX3_isTaken 0 0 [.ref (gad g 1), .int x0_, .int x1_, .int x2_] s (Dt (some (.int w.1)) w.2) := by
  refine Ct.ofV (by decide +kernel) 1 (lv0 := [some (.ref (gad g 1)), some (.int x0_), some (.int x1_), some (.int x2_), none]) rfl rfl (fun M hC => ?_)
  have hP : (Dt (some (.int w.1)) w.2) (some (.int w.1)) w.2 := ⟨rfl, rfl⟩
  generalize Dt (some (.int w.1)) w.2 = P at hP ⊢
  unfold fX3_isTaken at h
  refine v_iconst (pc := 0) (0 : Int32) rfl hC dX3_isTaken_0 ?_
  refine v_istore (pc := 1) (lv' := [some (.ref (gad g 1)), some (.int x0_), some (.int x1_), some (.int x2_), some (.int (0 : Int32))]) hC dX3_isTaken_1 rfl rfl rfl rfl ?_
  obtain ⟨w1, hw1, h⟩ := obd_s h
  have kr18 : ∀ r20, w1.1 = .inl r20 → P (some (.int r20)) w1.2 := by
    intro r20 hr20
    rw [hr20] at h
    replace h := (Sum.elim_inl _ _ _).symm.trans h
    obtain rfl := Option.some.inj h
    exact hP
  have ke19 : ∀ e2, w1.1 = .inr e2 → V SS g M iX3_isTaken (PQ SS g M P) 53 [none, none, none, none, none] [] w1.2 := by
    intro e2 he2
    rw [he2] at h
    replace h := (Sum.elim_inr _ _ _).symm.trans h
    refine v_iconst (pc := 53) (0 : Int32) rfl hC dX3_isTaken_53 ?_
    obtain rfl := Option.some.inj h
    exact v_zret (pc := 54) hC rfl rfl dX3_isTaken_54 hP
  refine V.ls (ls_some (ls_some (ls_some (ls_some (ls_some ls_nil))))) (v_loopR (pc := 3) (fun a5 => [some (.ref (gad g 1)), some (.int x0_), some (.int x1_), some (.int x2_), some (.int a5)]) (fun (r20 : Int32) t => P (some (.int r20)) t) (fun z t => V SS g M iX3_isTaken (PQ SS g M P) 53 [none, none, none, none, none] [] t) (fun a5 s3 u4 hu4 k6 k8 k7 => ?_) _ _ _ _ hw1 kr18 ke19)
  unfold fX3_isTaken_L3 at hu4
  refine v_iload (pc := 3) hC dX3_isTaken_3 rfl ?_
  refine v_aload_n (pc := 5) hC dX3_isTaken_5 rfl ?_
  refine v_gt (pc := 6) 1 (.int (gI s3 1 1)) hC s_1 rfl rfl rfl rfl fl_X3_15 dX3_isTaken_6 ?_
  refine v_ic_ge (pc := 9) (tgt := 53) hC dX3_isTaken_9 rfl (fun c9 => ?_) (fun c9 => ?_)
  · replace hu4 := (if_pos c9).symm.trans hu4
    obtain rfl := Option.some.inj hu4
    exact V.ls (ls_none (ls_none (ls_none (ls_none (ls_none ls_nil))))) (k7 _ rfl)
  · replace hu4 := (if_neg c9).symm.trans hu4
    refine v_aload_n (pc := 12) hC dX3_isTaken_12 rfl ?_
    refine v_gt (pc := 13) 4 (.ref (gad g 4)) hC s_1 rfl rfl rfl rfl fl_X3_25 dX3_isTaken_13 ?_
    refine v_iload (pc := 16) hC dX3_isTaken_16 rfl ?_
    obtain ⟨v10, hv10, hu4⟩ := obd_s hu4
    refine v_aI (pc := 18) hC s_4 hv10 dX3_isTaken_18 ?_
    refine v_iload_n (pc := 19) hC dX3_isTaken_19 rfl ?_
    refine v_ic_ne (pc := 20) (tgt := 47) hC dX3_isTaken_20 rfl (fun c12 => ?_) (fun c12 => ?_)
    · replace hu4 := (if_neg c12).symm.trans hu4
      obtain ⟨x11, hx11, hu4⟩ := bnd_s hu4
      refine v_iinc (pc := 47) (lv' := [some (.ref (gad g 1)), some (.int x0_), some (.int x1_), some (.int x2_), some (.int x11)]) (1 : Int32) rfl hx11 hC dX3_isTaken_47 rfl rfl rfl rfl ?_
      refine v_goto (pc := 50) (tgt := 3) hC dX3_isTaken_50 rfl ?_
      obtain rfl := Option.some.inj hu4
      exact V.ls (ls_some (ls_some (ls_some (ls_some (ls_some ls_nil))))) (k6 _ rfl)
    · replace hu4 := (if_pos c12).symm.trans hu4
      refine v_aload_n (pc := 23) hC dX3_isTaken_23 rfl ?_
      refine v_gt (pc := 24) 5 (.ref (gad g 5)) hC s_1 rfl rfl rfl rfl fl_X3_28 dX3_isTaken_24 ?_
      refine v_iload (pc := 27) hC dX3_isTaken_27 rfl ?_
      obtain ⟨v13, hv13, hu4⟩ := obd_s hu4
      refine v_aI (pc := 29) hC s_5 hv13 dX3_isTaken_29 ?_
      refine v_iload_n (pc := 30) hC dX3_isTaken_30 rfl ?_
      refine v_ic_eq (pc := 31) (tgt := 45) hC dX3_isTaken_31 rfl (fun c14 => ?_) (fun c14 => ?_)
      · replace hu4 := (if_pos c14).symm.trans hu4
        refine v_iconst (pc := 45) (1 : Int32) rfl hC dX3_isTaken_45 ?_
        obtain rfl := Option.some.inj hu4
        exact v_zret (pc := 46) hC rfl rfl dX3_isTaken_46 (k8 _ rfl)
      · replace hu4 := (if_neg c14).symm.trans hu4
        refine v_aload_n (pc := 34) hC dX3_isTaken_34 rfl ?_
        refine v_gt (pc := 35) 6 (.ref (gad g 6)) hC s_1 rfl rfl rfl rfl fl_X3_31 dX3_isTaken_35 ?_
        refine v_iload (pc := 38) hC dX3_isTaken_38 rfl ?_
        obtain ⟨v15, hv15, hu4⟩ := obd_s hu4
        refine v_aI (pc := 40) hC s_6 hv15 dX3_isTaken_40 ?_
        refine v_iload_n (pc := 41) hC dX3_isTaken_41 rfl ?_
        refine v_ic_ne (pc := 42) (tgt := 47) hC dX3_isTaken_42 rfl (fun c17 => ?_) (fun c17 => ?_)
        · replace hu4 := (if_neg c17).symm.trans hu4
          obtain ⟨x16, hx16, hu4⟩ := bnd_s hu4
          refine v_iinc (pc := 47) (lv' := [some (.ref (gad g 1)), some (.int x0_), some (.int x1_), some (.int x2_), some (.int x16)]) (1 : Int32) rfl hx16 hC dX3_isTaken_47 rfl rfl rfl rfl ?_
          refine v_goto (pc := 50) (tgt := 3) hC dX3_isTaken_50 rfl ?_
          obtain rfl := Option.some.inj hu4
          exact V.ls (ls_some (ls_some (ls_some (ls_some (ls_some ls_nil))))) (k6 _ rfl)
        · replace hu4 := (if_pos c17).symm.trans hu4
          refine v_iconst (pc := 45) (1 : Int32) rfl hC dX3_isTaken_45 ?_
          obtain rfl := Option.some.inj hu4
          exact v_zret (pc := 46) hC rfl rfl dX3_isTaken_46 (k8 _ rfl)
theorem dX3_addRace_0 : decode cX3_addRace 0 = .ok (.aload_n 0, 1) := by decide +kernel
theorem dX3_addRace_1 : decode cX3_addRace 1 = .ok (.getfield 9, 3) := by decide +kernel
theorem dX3_addRace_4 : decode cX3_addRace 4 = .ok (.bipush 16, 2) := by decide +kernel
theorem dX3_addRace_6 : decode cX3_addRace 6 = .ok (.if_icmp .lt 6, 3) := by decide +kernel
theorem dX3_addRace_9 : decode cX3_addRace 9 = .ok (.bipush (-4), 2) := by decide +kernel
theorem dX3_addRace_11 : decode cX3_addRace 11 = .ok (.ireturn, 1) := by decide +kernel
theorem dX3_addRace_12 : decode cX3_addRace 12 = .ok (.aload_n 0, 1) := by decide +kernel
theorem dX3_addRace_13 : decode cX3_addRace 13 = .ok (.getfield 18, 3) := by decide +kernel
theorem dX3_addRace_16 : decode cX3_addRace 16 = .ok (.aload_n 0, 1) := by decide +kernel
theorem dX3_addRace_17 : decode cX3_addRace 17 = .ok (.getfield 9, 3) := by decide +kernel
theorem dX3_addRace_20 : decode cX3_addRace 20 = .ok (.iload_n 1, 1) := by decide +kernel
theorem dX3_addRace_21 : decode cX3_addRace 21 = .ok (.iastore, 1) := by decide +kernel
theorem dX3_addRace_22 : decode cX3_addRace 22 = .ok (.aload_n 0, 1) := by decide +kernel
theorem dX3_addRace_23 : decode cX3_addRace 23 = .ok (.getfield 22, 3) := by decide +kernel
theorem dX3_addRace_26 : decode cX3_addRace 26 = .ok (.aload_n 0, 1) := by decide +kernel
theorem dX3_addRace_27 : decode cX3_addRace 27 = .ok (.getfield 9, 3) := by decide +kernel
theorem dX3_addRace_30 : decode cX3_addRace 30 = .ok (.iload_n 2, 1) := by decide +kernel
theorem dX3_addRace_31 : decode cX3_addRace 31 = .ok (.iastore, 1) := by decide +kernel
theorem dX3_addRace_32 : decode cX3_addRace 32 = .ok (.aload_n 0, 1) := by decide +kernel
theorem dX3_addRace_33 : decode cX3_addRace 33 = .ok (.dup, 1) := by decide +kernel
theorem dX3_addRace_34 : decode cX3_addRace 34 = .ok (.getfield 9, 3) := by decide +kernel
theorem dX3_addRace_37 : decode cX3_addRace 37 = .ok (.iconst 1, 1) := by decide +kernel
theorem dX3_addRace_38 : decode cX3_addRace 38 = .ok (.iadd, 1) := by decide +kernel
theorem dX3_addRace_39 : decode cX3_addRace 39 = .ok (.putfield 9, 3) := by decide +kernel
theorem dX3_addRace_42 : decode cX3_addRace 42 = .ok (.aload_n 0, 1) := by decide +kernel
theorem dX3_addRace_43 : decode cX3_addRace 43 = .ok (.getfield 9, 3) := by decide +kernel
theorem dX3_addRace_46 : decode cX3_addRace 46 = .ok (.iconst 1, 1) := by decide +kernel
theorem dX3_addRace_47 : decode cX3_addRace 47 = .ok (.isub, 1) := by decide +kernel
theorem dX3_addRace_48 : decode cX3_addRace 48 = .ok (.ireturn, 1) := by decide +kernel
def fX3_addRace (x0_ : Int32) (x1_ : Int32) (s : Sg) : Option (Int32 × Sg) :=
  if (gI s 1 0) < (16 : Int32) then
  (wI s 2 16 (gI s 1 0) x0_).bind fun s1 =>
  (wI s1 3 16 (gI s1 1 0) x1_).bind fun s2 =>
  bnd (sI s2 1 0 ((gI s2 1 0) + (1 : Int32))) fun s3 =>
  some (((gI s3 1 0) - (1 : Int32)), s3)
  else
  some ((-4 : Int32), s)
theorem ct_X3_addRace {g : Gl} {x0_ : Int32} {x1_ : Int32} {s : Sg} {w : Int32 × Sg}  (h : fX3_addRace x0_ x1_ s = some w) : Ct SS g iX3_addRace 0 0 [.ref (gad g 1), .int x0_, .int x1_] s (Dt (some (.int w.1)) w.2) := by
  refine Ct.ofV (by decide +kernel) 0 (lv0 := [some (.ref (gad g 1)), some (.int x0_), some (.int x1_)]) rfl rfl (fun M hC => ?_)
  have hP : (Dt (some (.int w.1)) w.2) (some (.int w.1)) w.2 := ⟨rfl, rfl⟩
  generalize Dt (some (.int w.1)) w.2 = P at hP ⊢
  unfold fX3_addRace at h
  refine v_aload_n (pc := 0) hC dX3_addRace_0 rfl ?_
  refine v_gt (pc := 1) 0 (.int (gI s 1 0)) hC s_1 rfl rfl rfl rfl fl_X3_9 dX3_addRace_1 ?_
  refine v_bipush (pc := 4) (16 : Int32) rfl hC dX3_addRace_4 ?_
  refine v_ic_lt (pc := 6) (tgt := 12) hC dX3_addRace_6 rfl (fun c4 => ?_) (fun c4 => ?_)
  · replace h := (if_pos c4).symm.trans h
    refine v_aload_n (pc := 12) hC dX3_addRace_12 rfl ?_
    refine v_gt (pc := 13) 2 (.ref (gad g 2)) hC s_1 rfl rfl rfl rfl fl_X3_18 dX3_addRace_13 ?_
    refine v_aload_n (pc := 16) hC dX3_addRace_16 rfl ?_
    refine v_gt (pc := 17) 0 (.int (gI s 1 0)) hC s_1 rfl rfl rfl rfl fl_X3_9 dX3_addRace_17 ?_
    refine v_iload_n (pc := 20) hC dX3_addRace_20 rfl ?_
    obtain ⟨s1, hs1, h⟩ := obd_s h
    refine v_wI (pc := 21) hC s_2 hs1 dX3_addRace_21 ?_
    refine v_aload_n (pc := 22) hC dX3_addRace_22 rfl ?_
    refine v_gt (pc := 23) 3 (.ref (gad g 3)) hC s_1 rfl rfl rfl rfl fl_X3_22 dX3_addRace_23 ?_
    refine v_aload_n (pc := 26) hC dX3_addRace_26 rfl ?_
    refine v_gt (pc := 27) 0 (.int (gI s1 1 0)) hC s_1 rfl rfl rfl rfl fl_X3_9 dX3_addRace_27 ?_
    refine v_iload_n (pc := 30) hC dX3_addRace_30 rfl ?_
    obtain ⟨s2, hs2, h⟩ := obd_s h
    refine v_wI (pc := 31) hC s_3 hs2 dX3_addRace_31 ?_
    refine v_aload_n (pc := 32) hC dX3_addRace_32 rfl ?_
    refine v_dup (pc := 33) hC rfl dX3_addRace_33 ?_
    refine v_gt (pc := 34) 0 (.int (gI s2 1 0)) hC s_1 rfl rfl rfl rfl fl_X3_9 dX3_addRace_34 ?_
    refine v_iconst (pc := 37) (1 : Int32) rfl hC dX3_addRace_37 ?_
    refine v_iadd (pc := 38) hC dX3_addRace_38 ?_
    obtain ⟨s3, hs3, h⟩ := bnd_s h
    refine v_pI (pc := 39) 0 hC s_1 rfl rfl rfl rfl rfl rfl fl_X3_9 hs3 dX3_addRace_39 ?_
    refine v_aload_n (pc := 42) hC dX3_addRace_42 rfl ?_
    refine v_gt (pc := 43) 0 (.int (gI s3 1 0)) hC s_1 rfl rfl rfl rfl fl_X3_9 dX3_addRace_43 ?_
    refine v_iconst (pc := 46) (1 : Int32) rfl hC dX3_addRace_46 ?_
    refine v_isub (pc := 47) hC dX3_addRace_47 ?_
    obtain rfl := Option.some.inj h
    exact v_iret (pc := 48) hC rfl dX3_addRace_48 hP
  · replace h := (if_neg c4).symm.trans h
    refine v_bipush (pc := 9) (-4 : Int32) rfl hC dX3_addRace_9 ?_
    obtain rfl := Option.some.inj h
    exact v_iret (pc := 11) hC rfl dX3_addRace_11 hP
theorem dX3_timeOf_0 : decode cX3_timeOf 0 = .ok (.aload_n 0, 1) := by decide +kernel
theorem dX3_timeOf_1 : decode cX3_timeOf 1 = .ok (.getfield 34, 3) := by decide +kernel
theorem dX3_timeOf_4 : decode cX3_timeOf 4 = .ok (.iload_n 1, 1) := by decide +kernel
theorem dX3_timeOf_5 : decode cX3_timeOf 5 = .ok (.iconst 4, 1) := by decide +kernel
theorem dX3_timeOf_6 : decode cX3_timeOf 6 = .ok (.imul, 1) := by decide +kernel
theorem dX3_timeOf_7 : decode cX3_timeOf 7 = .ok (.iload_n 2, 1) := by decide +kernel
theorem dX3_timeOf_8 : decode cX3_timeOf 8 = .ok (.iadd, 1) := by decide +kernel
theorem dX3_timeOf_9 : decode cX3_timeOf 9 = .ok (.iaload, 1) := by decide +kernel
theorem dX3_timeOf_10 : decode cX3_timeOf 10 = .ok (.ireturn, 1) := by decide +kernel
def fX3_timeOf (x0_ : Int32) (x1_ : Int32) (s : Sg) : Option (Int32 × Sg) :=
  (aI s 7 256 ((x0_ * (4 : Int32)) + x1_)).bind fun v1 =>
  some (v1, s)
theorem ct_X3_timeOf {g : Gl} {x0_ : Int32} {x1_ : Int32} {s : Sg} {w : Int32 × Sg}  (h : fX3_timeOf x0_ x1_ s = some w) : Ct SS g iX3_timeOf 0 0 [.ref (gad g 1), .int x0_, .int x1_] s (Dt (some (.int w.1)) w.2) := by
  refine Ct.ofV (by decide +kernel) 0 (lv0 := [some (.ref (gad g 1)), some (.int x0_), some (.int x1_)]) rfl rfl (fun M hC => ?_)
  have hP : (Dt (some (.int w.1)) w.2) (some (.int w.1)) w.2 := ⟨rfl, rfl⟩
  generalize Dt (some (.int w.1)) w.2 = P at hP ⊢
  unfold fX3_timeOf at h
  refine v_aload_n (pc := 0) hC dX3_timeOf_0 rfl ?_
  refine v_gt (pc := 1) 7 (.ref (gad g 7)) hC s_1 rfl rfl rfl rfl fl_X3_34 dX3_timeOf_1 ?_
  refine v_iload_n (pc := 4) hC dX3_timeOf_4 rfl ?_
  refine v_iconst (pc := 5) (4 : Int32) rfl hC dX3_timeOf_5 ?_
  refine v_imul (pc := 6) hC dX3_timeOf_6 ?_
  refine v_iload_n (pc := 7) hC dX3_timeOf_7 rfl ?_
  refine v_iadd (pc := 8) hC dX3_timeOf_8 ?_
  obtain ⟨v1, hv1, h⟩ := obd_s h
  refine v_aI (pc := 9) hC s_7 hv1 dX3_timeOf_9 ?_
  obtain rfl := Option.some.inj h
  exact v_iret (pc := 10) hC rfl dX3_timeOf_10 hP
theorem dX3_feltIn_0 : decode cX3_feltIn 0 = .ok (.iconst 0, 1) := by decide +kernel
theorem dX3_feltIn_1 : decode cX3_feltIn 1 = .ok (.istore_n 2, 1) := by decide +kernel
theorem dX3_feltIn_2 : decode cX3_feltIn 2 = .ok (.iconst 0, 1) := by decide +kernel
theorem dX3_feltIn_3 : decode cX3_feltIn 3 = .ok (.istore_n 3, 1) := by decide +kernel
theorem dX3_feltIn_4 : decode cX3_feltIn 4 = .ok (.iload_n 3, 1) := by decide +kernel
theorem dX3_feltIn_5 : decode cX3_feltIn 5 = .ok (.iconst 4, 1) := by decide +kernel
theorem dX3_feltIn_6 : decode cX3_feltIn 6 = .ok (.if_icmp .ge 22, 3) := by decide +kernel
theorem dX3_feltIn_9 : decode cX3_feltIn 9 = .ok (.aload_n 0, 1) := by decide +kernel
theorem dX3_feltIn_10 : decode cX3_feltIn 10 = .ok (.iload_n 1, 1) := by decide +kernel
theorem dX3_feltIn_11 : decode cX3_feltIn 11 = .ok (.iload_n 3, 1) := by decide +kernel
theorem dX3_feltIn_12 : decode cX3_feltIn 12 = .ok (.invokevirtual 40, 3) := by decide +kernel
theorem dX3_feltIn_15 : decode cX3_feltIn 15 = .ok (.iconst (-1), 1) := by decide +kernel
theorem dX3_feltIn_16 : decode cX3_feltIn 16 = .ok (.if_icmp .eq 6, 3) := by decide +kernel
theorem dX3_feltIn_19 : decode cX3_feltIn 19 = .ok (.iinc 2 1, 3) := by decide +kernel
theorem dX3_feltIn_22 : decode cX3_feltIn 22 = .ok (.iinc 3 1, 3) := by decide +kernel
theorem dX3_feltIn_25 : decode cX3_feltIn 25 = .ok (.goto (-21), 3) := by decide +kernel
theorem dX3_feltIn_28 : decode cX3_feltIn 28 = .ok (.iload_n 2, 1) := by decide +kernel
theorem dX3_feltIn_29 : decode cX3_feltIn 29 = .ok (.ireturn, 1) := by decide +kernel
def fX3_feltIn_L4 (p1 : Int32) (a : Int32 × Int32) (s : Sg) : Option (((Int32 × Int32) ⊕ (Int32)) × Sg) :=
  if (4 : Int32) ≤ a.2 then
  some (.inr a.1, s)
  else
  (fX3_timeOf p1 a.2 s).bind fun w2 =>
  ((if w2.1 = (-1 : Int32) then
  some a.1
  else
  bnd (a.1 + (1 : Int32)) fun x7 =>
  some x7) : Option (Int32)).bind fun w3 =>
  bnd (a.2 + (1 : Int32)) fun x5 =>
  some (.inl (w3, x5), w2.2)
def fX3_feltIn (x0_ : Int32) (s : Sg) : Option (Int32 × Sg) :=
  (lpG (fX3_feltIn_L4 x0_) FU ((0 : Int32), (0 : Int32)) s).bind fun w1 =>
  some (w1.1, w1.2)
theorem ct_X3_feltIn {g : Gl} {x0_ : Int32} {s : Sg} {w : Int32 × Sg}  (h : fX3_feltIn x0_ s = some w) : Ct SS g iX3_feltIn 1 22 [.ref (gad g 1), .int x0_] s (Dt (some (.int w.1)) w.2) := by
  refine Ct.ofV (by decide +kernel) 2 (lv0 := [some (.ref (gad g 1)), some (.int x0_), none, none]) rfl rfl (fun M hC => ?_)
  have hP : (Dt (some (.int w.1)) w.2) (some (.int w.1)) w.2 := ⟨rfl, rfl⟩
  generalize Dt (some (.int w.1)) w.2 = P at hP ⊢
  unfold fX3_feltIn at h
  refine v_iconst (pc := 0) (0 : Int32) rfl hC dX3_feltIn_0 ?_
  refine v_istore_n (pc := 1) (lv' := [some (.ref (gad g 1)), some (.int x0_), some (.int (0 : Int32)), none]) hC dX3_feltIn_1 rfl rfl rfl rfl ?_
  refine v_iconst (pc := 2) (0 : Int32) rfl hC dX3_feltIn_2 ?_
  refine v_istore_n (pc := 3) (lv' := [some (.ref (gad g 1)), some (.int x0_), some (.int (0 : Int32)), some (.int (0 : Int32))]) hC dX3_feltIn_3 rfl rfl rfl rfl ?_
  obtain ⟨w1, hw1, h⟩ := obd_s h
  have kx15 : V SS g M iX3_feltIn (PQ SS g M P) 28 [none, none, some (.int w1.1), none] [] w1.2 := by
    refine v_iload_n (pc := 28) hC dX3_feltIn_28 rfl ?_
    obtain rfl := Option.some.inj h
    exact v_iret (pc := 29) hC rfl dX3_feltIn_29 hP
  refine V.ls (ls_some (ls_some (ls_some (ls_some ls_nil)))) (v_loop (pc := 4) (fun a4 => [some (.ref (gad g 1)), some (.int x0_), some (.int a4.1), some (.int a4.2)]) (fun z t => V SS g M iX3_feltIn (PQ SS g M P) 28 [none, none, some (.int z), none] [] t) (fun a4 s2 u3 hu3 k5 k6 => ?_) _ _ _ _ hw1 kx15)
  unfold fX3_feltIn_L4 at hu3
  refine v_iload_n (pc := 4) hC dX3_feltIn_4 rfl ?_
  refine v_iconst (pc := 5) (4 : Int32) rfl hC dX3_feltIn_5 ?_
  refine v_ic_ge (pc := 6) (tgt := 28) hC dX3_feltIn_6 rfl (fun c8 => ?_) (fun c8 => ?_)
  · replace hu3 := (if_pos c8).symm.trans hu3
    obtain rfl := Option.some.inj hu3
    exact V.ls (ls_none (ls_none (ls_some (ls_none ls_nil)))) (k6 _ rfl)
  · replace hu3 := (if_neg c8).symm.trans hu3
    refine v_aload_n (pc := 9) hC dX3_feltIn_9 rfl ?_
    refine v_iload_n (pc := 10) hC dX3_feltIn_10 rfl ?_
    refine v_iload_n (pc := 11) hC dX3_feltIn_11 rfl ?_
    obtain ⟨w9, hw9, hu3⟩ := obd_s hu3
    refine v_cV (pc := 12) [] [.int w9.1] gm_X3_timeOf hC s_1 rfl rfl (ct_X3_timeOf  hw9) ml_X3_40 rfl rfl rfl rfl rfl rfl dX3_feltIn_12 ?_
    refine v_iconst (pc := 15) (-1 : Int32) rfl hC dX3_feltIn_15 ?_
    obtain ⟨w10, hw10, hu3⟩ := obd_s hu3
    have kj11 : V SS g M iX3_feltIn (PQ SS g M P) 22 [some (.ref (gad g 1)), some (.int x0_), some (.int w10), some (.int a4.2)] [] w9.2 := by
      obtain ⟨x12, hx12, hu3⟩ := bnd_s hu3
      refine v_iinc (pc := 22) (lv' := [some (.ref (gad g 1)), some (.int x0_), some (.int w10), some (.int x12)]) (1 : Int32) rfl hx12 hC dX3_feltIn_22 rfl rfl rfl rfl ?_
      refine v_goto (pc := 25) (tgt := 4) hC dX3_feltIn_25 rfl ?_
      obtain rfl := Option.some.inj hu3
      exact V.ls (ls_some (ls_some (ls_some (ls_some ls_nil)))) (k5 _ rfl)
    refine v_ic_eq (pc := 16) (tgt := 22) hC dX3_feltIn_16 rfl (fun c13 => ?_) (fun c13 => ?_)
    · replace hw10 := (if_pos c13).symm.trans hw10
      obtain rfl := Option.some.inj hw10
      exact V.ls (ls_some (ls_some (ls_some (ls_some ls_nil)))) kj11
    · replace hw10 := (if_neg c13).symm.trans hw10
      obtain ⟨x14, hx14, hw10⟩ := bnd_s hw10
      refine v_iinc (pc := 19) (lv' := [some (.ref (gad g 1)), some (.int x0_), some (.int x14), some (.int a4.2)]) (1 : Int32) rfl hx14 hC dX3_feltIn_19 rfl rfl rfl rfl ?_
      obtain rfl := Option.some.inj hw10
      exact V.ls (ls_some (ls_some (ls_some (ls_some ls_nil)))) kj11
theorem dX3_togetherIn_0 : decode cX3_togetherIn 0 = .ok (.iconst 0, 1) := by decide +kernel
theorem dX3_togetherIn_1 : decode cX3_togetherIn 1 = .ok (.istore_n 2, 1) := by decide +kernel
theorem dX3_togetherIn_2 : decode cX3_togetherIn 2 = .ok (.iconst 0, 1) := by decide +kernel
theorem dX3_togetherIn_3 : decode cX3_togetherIn 3 = .ok (.istore_n 3, 1) := by decide +kernel
theorem dX3_togetherIn_4 : decode cX3_togetherIn 4 = .ok (.iload_n 3, 1) := by decide +kernel
theorem dX3_togetherIn_5 : decode cX3_togetherIn 5 = .ok (.iconst 4, 1) := by decide +kernel
theorem dX3_togetherIn_6 : decode cX3_togetherIn 6 = .ok (.if_icmp .ge 28, 3) := by decide +kernel
theorem dX3_togetherIn_9 : decode cX3_togetherIn 9 = .ok (.aload_n 0, 1) := by decide +kernel
theorem dX3_togetherIn_10 : decode cX3_togetherIn 10 = .ok (.iload_n 1, 1) := by decide +kernel
theorem dX3_togetherIn_11 : decode cX3_togetherIn 11 = .ok (.iload_n 3, 1) := by decide +kernel
theorem dX3_togetherIn_12 : decode cX3_togetherIn 12 = .ok (.invokevirtual 40, 3) := by decide +kernel
theorem dX3_togetherIn_15 : decode cX3_togetherIn 15 = .ok (.iconst (-1), 1) := by decide +kernel
theorem dX3_togetherIn_16 : decode cX3_togetherIn 16 = .ok (.if_icmp .eq 12, 3) := by decide +kernel
theorem dX3_togetherIn_19 : decode cX3_togetherIn 19 = .ok (.iload_n 2, 1) := by decide +kernel
theorem dX3_togetherIn_20 : decode cX3_togetherIn 20 = .ok (.aload_n 0, 1) := by decide +kernel
theorem dX3_togetherIn_21 : decode cX3_togetherIn 21 = .ok (.iload_n 1, 1) := by decide +kernel
theorem dX3_togetherIn_22 : decode cX3_togetherIn 22 = .ok (.iload_n 3, 1) := by decide +kernel
theorem dX3_togetherIn_23 : decode cX3_togetherIn 23 = .ok (.invokevirtual 40, 3) := by decide +kernel
theorem dX3_togetherIn_26 : decode cX3_togetherIn 26 = .ok (.iadd, 1) := by decide +kernel
theorem dX3_togetherIn_27 : decode cX3_togetherIn 27 = .ok (.istore_n 2, 1) := by decide +kernel
theorem dX3_togetherIn_28 : decode cX3_togetherIn 28 = .ok (.iinc 3 1, 3) := by decide +kernel
theorem dX3_togetherIn_31 : decode cX3_togetherIn 31 = .ok (.goto (-27), 3) := by decide +kernel
theorem dX3_togetherIn_34 : decode cX3_togetherIn 34 = .ok (.iload_n 2, 1) := by decide +kernel
theorem dX3_togetherIn_35 : decode cX3_togetherIn 35 = .ok (.ireturn, 1) := by decide +kernel
def fX3_togetherIn_L4 (p1 : Int32) (a : Int32 × Int32) (s : Sg) : Option (((Int32 × Int32) ⊕ (Int32)) × Sg) :=
  if (4 : Int32) ≤ a.2 then
  some (.inr a.1, s)
  else
  (fX3_timeOf p1 a.2 s).bind fun w2 =>
  ((if w2.1 = (-1 : Int32) then
  some (a.1, w2.2)
  else
  (fX3_timeOf p1 a.2 w2.2).bind fun w7 =>
  bnd (a.1 + w7.1) fun x8 =>
  some (x8, w7.2)) : Option (Int32 × Sg)).bind fun w3 =>
  bnd (a.2 + (1 : Int32)) fun x5 =>
  some (.inl (w3.1, x5), w3.2)
def fX3_togetherIn (x0_ : Int32) (s : Sg) : Option (Int32 × Sg) :=
  (lpG (fX3_togetherIn_L4 x0_) FU ((0 : Int32), (0 : Int32)) s).bind fun w1 =>
  some (w1.1, w1.2)
theorem ct_X3_togetherIn {g : Gl} {x0_ : Int32} {s : Sg} {w : Int32 × Sg}  (h : fX3_togetherIn x0_ s = some w) : Ct SS g iX3_togetherIn 1 22 [.ref (gad g 1), .int x0_] s (Dt (some (.int w.1)) w.2) := by
  refine Ct.ofV (by decide +kernel) 2 (lv0 := [some (.ref (gad g 1)), some (.int x0_), none, none]) rfl rfl (fun M hC => ?_)
  have hP : (Dt (some (.int w.1)) w.2) (some (.int w.1)) w.2 := ⟨rfl, rfl⟩
  generalize Dt (some (.int w.1)) w.2 = P at hP ⊢
  unfold fX3_togetherIn at h
  refine v_iconst (pc := 0) (0 : Int32) rfl hC dX3_togetherIn_0 ?_
  refine v_istore_n (pc := 1) (lv' := [some (.ref (gad g 1)), some (.int x0_), some (.int (0 : Int32)), none]) hC dX3_togetherIn_1 rfl rfl rfl rfl ?_
  refine v_iconst (pc := 2) (0 : Int32) rfl hC dX3_togetherIn_2 ?_
  refine v_istore_n (pc := 3) (lv' := [some (.ref (gad g 1)), some (.int x0_), some (.int (0 : Int32)), some (.int (0 : Int32))]) hC dX3_togetherIn_3 rfl rfl rfl rfl ?_
  obtain ⟨w1, hw1, h⟩ := obd_s h
  have kx16 : V SS g M iX3_togetherIn (PQ SS g M P) 34 [none, none, some (.int w1.1), none] [] w1.2 := by
    refine v_iload_n (pc := 34) hC dX3_togetherIn_34 rfl ?_
    obtain rfl := Option.some.inj h
    exact v_iret (pc := 35) hC rfl dX3_togetherIn_35 hP
  refine V.ls (ls_some (ls_some (ls_some (ls_some ls_nil)))) (v_loop (pc := 4) (fun a4 => [some (.ref (gad g 1)), some (.int x0_), some (.int a4.1), some (.int a4.2)]) (fun z t => V SS g M iX3_togetherIn (PQ SS g M P) 34 [none, none, some (.int z), none] [] t) (fun a4 s2 u3 hu3 k5 k6 => ?_) _ _ _ _ hw1 kx16)
  unfold fX3_togetherIn_L4 at hu3
  refine v_iload_n (pc := 4) hC dX3_togetherIn_4 rfl ?_
  refine v_iconst (pc := 5) (4 : Int32) rfl hC dX3_togetherIn_5 ?_
  refine v_ic_ge (pc := 6) (tgt := 34) hC dX3_togetherIn_6 rfl (fun c8 => ?_) (fun c8 => ?_)
  · replace hu3 := (if_pos c8).symm.trans hu3
    obtain rfl := Option.some.inj hu3
    exact V.ls (ls_none (ls_none (ls_some (ls_none ls_nil)))) (k6 _ rfl)
  · replace hu3 := (if_neg c8).symm.trans hu3
    refine v_aload_n (pc := 9) hC dX3_togetherIn_9 rfl ?_
    refine v_iload_n (pc := 10) hC dX3_togetherIn_10 rfl ?_
    refine v_iload_n (pc := 11) hC dX3_togetherIn_11 rfl ?_
    obtain ⟨w9, hw9, hu3⟩ := obd_s hu3
    refine v_cV (pc := 12) [] [.int w9.1] gm_X3_timeOf hC s_1 rfl rfl (ct_X3_timeOf  hw9) ml_X3_40 rfl rfl rfl rfl rfl rfl dX3_togetherIn_12 ?_
    refine v_iconst (pc := 15) (-1 : Int32) rfl hC dX3_togetherIn_15 ?_
    obtain ⟨w10, hw10, hu3⟩ := obd_s hu3
    have kj11 : V SS g M iX3_togetherIn (PQ SS g M P) 28 [some (.ref (gad g 1)), some (.int x0_), some (.int w10.1), some (.int a4.2)] [] w10.2 := by
      obtain ⟨x12, hx12, hu3⟩ := bnd_s hu3
      refine v_iinc (pc := 28) (lv' := [some (.ref (gad g 1)), some (.int x0_), some (.int w10.1), some (.int x12)]) (1 : Int32) rfl hx12 hC dX3_togetherIn_28 rfl rfl rfl rfl ?_
      refine v_goto (pc := 31) (tgt := 4) hC dX3_togetherIn_31 rfl ?_
      obtain rfl := Option.some.inj hu3
      exact V.ls (ls_some (ls_some (ls_some (ls_some ls_nil)))) (k5 _ rfl)
    refine v_ic_eq (pc := 16) (tgt := 28) hC dX3_togetherIn_16 rfl (fun c13 => ?_) (fun c13 => ?_)
    · replace hw10 := (if_pos c13).symm.trans hw10
      obtain rfl := Option.some.inj hw10
      exact V.ls (ls_some (ls_some (ls_some (ls_some ls_nil)))) kj11
    · replace hw10 := (if_neg c13).symm.trans hw10
      refine v_iload_n (pc := 19) hC dX3_togetherIn_19 rfl ?_
      refine v_aload_n (pc := 20) hC dX3_togetherIn_20 rfl ?_
      refine v_iload_n (pc := 21) hC dX3_togetherIn_21 rfl ?_
      refine v_iload_n (pc := 22) hC dX3_togetherIn_22 rfl ?_
      obtain ⟨w14, hw14, hw10⟩ := obd_s hw10
      refine v_cV (pc := 23) [.int a4.1] [.int w14.1, .int a4.1] gm_X3_timeOf hC s_1 rfl rfl (ct_X3_timeOf  hw14) ml_X3_40 rfl rfl rfl rfl rfl rfl dX3_togetherIn_23 ?_
      refine v_iadd (pc := 26) hC dX3_togetherIn_26 ?_
      obtain ⟨x15, hx15, hw10⟩ := bnd_s hw10
      refine v_istore_n (pc := 27) (lv' := [some (.ref (gad g 1)), some (.int x0_), some (.int x15), some (.int a4.2)]) hC dX3_togetherIn_27 hx15 rfl rfl rfl ?_
      obtain rfl := Option.some.inj hw10
      exact V.ls (ls_some (ls_some (ls_some (ls_some ls_nil)))) kj11
theorem dX3_togetherInAll_0 : decode cX3_togetherInAll 0 = .ok (.iconst 0, 1) := by decide +kernel
theorem dX3_togetherInAll_1 : decode cX3_togetherInAll 1 = .ok (.istore_n 1, 1) := by decide +kernel
theorem dX3_togetherInAll_2 : decode cX3_togetherInAll 2 = .ok (.iconst 0, 1) := by decide +kernel
theorem dX3_togetherInAll_3 : decode cX3_togetherInAll 3 = .ok (.istore_n 2, 1) := by decide +kernel
theorem dX3_togetherInAll_4 : decode cX3_togetherInAll 4 = .ok (.iload_n 2, 1) := by decide +kernel
theorem dX3_togetherInAll_5 : decode cX3_togetherInAll 5 = .ok (.aload_n 0, 1) := by decide +kernel
theorem dX3_togetherInAll_6 : decode cX3_togetherInAll 6 = .ok (.getfield 15, 3) := by decide +kernel
theorem dX3_togetherInAll_9 : decode cX3_togetherInAll 9 = .ok (.if_icmp .ge 17, 3) := by decide +kernel
theorem dX3_togetherInAll_12 : decode cX3_togetherInAll 12 = .ok (.iload_n 1, 1) := by decide +kernel
theorem dX3_togetherInAll_13 : decode cX3_togetherInAll 13 = .ok (.aload_n 0, 1) := by decide +kernel
theorem dX3_togetherInAll_14 : decode cX3_togetherInAll 14 = .ok (.iload_n 2, 1) := by decide +kernel
theorem dX3_togetherInAll_15 : decode cX3_togetherInAll 15 = .ok (.invokevirtual 44, 3) := by decide +kernel
theorem dX3_togetherInAll_18 : decode cX3_togetherInAll 18 = .ok (.iadd, 1) := by decide +kernel
theorem dX3_togetherInAll_19 : decode cX3_togetherInAll 19 = .ok (.istore_n 1, 1) := by decide +kernel
theorem dX3_togetherInAll_20 : decode cX3_togetherInAll 20 = .ok (.iinc 2 1, 3) := by decide +kernel
theorem dX3_togetherInAll_23 : decode cX3_togetherInAll 23 = .ok (.goto (-19), 3) := by decide +kernel
theorem dX3_togetherInAll_26 : decode cX3_togetherInAll 26 = .ok (.iload_n 1, 1) := by decide +kernel
theorem dX3_togetherInAll_27 : decode cX3_togetherInAll 27 = .ok (.ireturn, 1) := by decide +kernel
def fX3_togetherInAll_L4  (a : Int32 × Int32) (s : Sg) : Option (((Int32 × Int32) ⊕ (Int32)) × Sg) :=
  if (gI s 1 1) ≤ a.2 then
  some (.inr a.1, s)
  else
  (fX3_togetherIn a.2 s).bind fun w2 =>
  bnd (a.1 + w2.1) fun x3 =>
  bnd (a.2 + (1 : Int32)) fun x4 =>
  some (.inl (x3, x4), w2.2)
def fX3_togetherInAll  (s : Sg) : Option (Int32 × Sg) :=
  (lpG (fX3_togetherInAll_L4) FU ((0 : Int32), (0 : Int32)) s).bind fun w1 =>
  some (w1.1, w1.2)
theorem ct_X3_togetherInAll {g : Gl}  {s : Sg} {w : Int32 × Sg}  (h : fX3_togetherInAll s = some w) : Ct SS g iX3_togetherInAll 2 45 [.ref (gad g 1)] s (Dt (some (.int w.1)) w.2) := by
  refine Ct.ofV (by decide +kernel) 2 (lv0 := [some (.ref (gad g 1)), none, none]) rfl rfl (fun M hC => ?_)
  have hP : (Dt (some (.int w.1)) w.2) (some (.int w.1)) w.2 := ⟨rfl, rfl⟩
  generalize Dt (some (.int w.1)) w.2 = P at hP ⊢
  unfold fX3_togetherInAll at h
  refine v_iconst (pc := 0) (0 : Int32) rfl hC dX3_togetherInAll_0 ?_
  refine v_istore_n (pc := 1) (lv' := [some (.ref (gad g 1)), some (.int (0 : Int32)), none]) hC dX3_togetherInAll_1 rfl rfl rfl rfl ?_
  refine v_iconst (pc := 2) (0 : Int32) rfl hC dX3_togetherInAll_2 ?_
  refine v_istore_n (pc := 3) (lv' := [some (.ref (gad g 1)), some (.int (0 : Int32)), some (.int (0 : Int32))]) hC dX3_togetherInAll_3 rfl rfl rfl rfl ?_
  obtain ⟨w1, hw1, h⟩ := obd_s h
  have kx12 : V SS g M iX3_togetherInAll (PQ SS g M P) 26 [none, some (.int w1.1), none] [] w1.2 := by
    refine v_iload_n (pc := 26) hC dX3_togetherInAll_26 rfl ?_
    obtain rfl := Option.some.inj h
    exact v_iret (pc := 27) hC rfl dX3_togetherInAll_27 hP
  refine V.ls (ls_some (ls_some (ls_some ls_nil))) (v_loop (pc := 4) (fun a4 => [some (.ref (gad g 1)), some (.int a4.1), some (.int a4.2)]) (fun z t => V SS g M iX3_togetherInAll (PQ SS g M P) 26 [none, some (.int z), none] [] t) (fun a4 s2 u3 hu3 k5 k6 => ?_) _ _ _ _ hw1 kx12)
  unfold fX3_togetherInAll_L4 at hu3
  refine v_iload_n (pc := 4) hC dX3_togetherInAll_4 rfl ?_
  refine v_aload_n (pc := 5) hC dX3_togetherInAll_5 rfl ?_
  refine v_gt (pc := 6) 1 (.int (gI s2 1 1)) hC s_1 rfl rfl rfl rfl fl_X3_15 dX3_togetherInAll_6 ?_
  refine v_ic_ge (pc := 9) (tgt := 26) hC dX3_togetherInAll_9 rfl (fun c8 => ?_) (fun c8 => ?_)
  · replace hu3 := (if_pos c8).symm.trans hu3
    obtain rfl := Option.some.inj hu3
    exact V.ls (ls_none (ls_some (ls_none ls_nil))) (k6 _ rfl)
  · replace hu3 := (if_neg c8).symm.trans hu3
    refine v_iload_n (pc := 12) hC dX3_togetherInAll_12 rfl ?_
    refine v_aload_n (pc := 13) hC dX3_togetherInAll_13 rfl ?_
    refine v_iload_n (pc := 14) hC dX3_togetherInAll_14 rfl ?_
    obtain ⟨w9, hw9, hu3⟩ := obd_s hu3
    refine v_cV (pc := 15) [.int a4.1] [.int w9.1, .int a4.1] gm_X3_togetherIn hC s_1 rfl rfl (ct_X3_togetherIn  hw9) ml_X3_44 rfl rfl rfl rfl rfl rfl dX3_togetherInAll_15 ?_
    refine v_iadd (pc := 18) hC dX3_togetherInAll_18 ?_
    obtain ⟨x10, hx10, hu3⟩ := bnd_s hu3
    refine v_istore_n (pc := 19) (lv' := [some (.ref (gad g 1)), some (.int x10), some (.int a4.2)]) hC dX3_togetherInAll_19 hx10 rfl rfl rfl ?_
    obtain ⟨x11, hx11, hu3⟩ := bnd_s hu3
    refine v_iinc (pc := 20) (lv' := [some (.ref (gad g 1)), some (.int x10), some (.int x11)]) (1 : Int32) rfl hx11 hC dX3_togetherInAll_20 rfl rfl rfl rfl ?_
    refine v_goto (pc := 23) (tgt := 4) hC dX3_togetherInAll_23 rfl ?_
    obtain rfl := Option.some.inj hu3
    exact V.ls (ls_some (ls_some (ls_some ls_nil))) (k5 _ rfl)
theorem dX3_doubledMean_0 : decode cX3_doubledMean 0 = .ok (.aload_n 0, 1) := by decide +kernel
theorem dX3_doubledMean_1 : decode cX3_doubledMean 1 = .ok (.iload_n 1, 1) := by decide +kernel
theorem dX3_doubledMean_2 : decode cX3_doubledMean 2 = .ok (.iload_n 2, 1) := by decide +kernel
theorem dX3_doubledMean_3 : decode cX3_doubledMean 3 = .ok (.invokevirtual 40, 3) := by decide +kernel
theorem dX3_doubledMean_6 : decode cX3_doubledMean 6 = .ok (.istore_n 3, 1) := by decide +kernel
theorem dX3_doubledMean_7 : decode cX3_doubledMean 7 = .ok (.aload_n 0, 1) := by decide +kernel
theorem dX3_doubledMean_8 : decode cX3_doubledMean 8 = .ok (.iload_n 1, 1) := by decide +kernel
theorem dX3_doubledMean_9 : decode cX3_doubledMean 9 = .ok (.iload_n 2, 1) := by decide +kernel
theorem dX3_doubledMean_10 : decode cX3_doubledMean 10 = .ok (.iconst 2, 1) := by decide +kernel
theorem dX3_doubledMean_11 : decode cX3_doubledMean 11 = .ok (.iadd, 1) := by decide +kernel
theorem dX3_doubledMean_12 : decode cX3_doubledMean 12 = .ok (.invokevirtual 40, 3) := by decide +kernel
theorem dX3_doubledMean_15 : decode cX3_doubledMean 15 = .ok (.istore 4, 2) := by decide +kernel
theorem dX3_doubledMean_17 : decode cX3_doubledMean 17 = .ok (.iload_n 3, 1) := by decide +kernel
theorem dX3_doubledMean_18 : decode cX3_doubledMean 18 = .ok (.iconst (-1), 1) := by decide +kernel
theorem dX3_doubledMean_19 : decode cX3_doubledMean 19 = .ok (.if_icmp .ne 11, 3) := by decide +kernel
theorem dX3_doubledMean_22 : decode cX3_doubledMean 22 = .ok (.iload 4, 2) := by decide +kernel
theorem dX3_doubledMean_24 : decode cX3_doubledMean 24 = .ok (.iconst (-1), 1) := by decide +kernel
theorem dX3_doubledMean_25 : decode cX3_doubledMean 25 = .ok (.if_icmp .ne 5, 3) := by decide +kernel
theorem dX3_doubledMean_28 : decode cX3_doubledMean 28 = .ok (.iconst 0, 1) := by decide +kernel
theorem dX3_doubledMean_29 : decode cX3_doubledMean 29 = .ok (.ireturn, 1) := by decide +kernel
theorem dX3_doubledMean_30 : decode cX3_doubledMean 30 = .ok (.iload_n 3, 1) := by decide +kernel
theorem dX3_doubledMean_31 : decode cX3_doubledMean 31 = .ok (.iconst (-1), 1) := by decide +kernel
theorem dX3_doubledMean_32 : decode cX3_doubledMean 32 = .ok (.if_icmp .ne 8, 3) := by decide +kernel
theorem dX3_doubledMean_35 : decode cX3_doubledMean 35 = .ok (.iconst 2, 1) := by decide +kernel
theorem dX3_doubledMean_36 : decode cX3_doubledMean 36 = .ok (.iload 4, 2) := by decide +kernel
theorem dX3_doubledMean_38 : decode cX3_doubledMean 38 = .ok (.imul, 1) := by decide +kernel
theorem dX3_doubledMean_39 : decode cX3_doubledMean 39 = .ok (.ireturn, 1) := by decide +kernel
theorem dX3_doubledMean_40 : decode cX3_doubledMean 40 = .ok (.iload 4, 2) := by decide +kernel
theorem dX3_doubledMean_42 : decode cX3_doubledMean 42 = .ok (.iconst (-1), 1) := by decide +kernel
theorem dX3_doubledMean_43 : decode cX3_doubledMean 43 = .ok (.if_icmp .ne 9, 3) := by decide +kernel
theorem dX3_doubledMean_46 : decode cX3_doubledMean 46 = .ok (.iconst 2, 1) := by decide +kernel
theorem dX3_doubledMean_47 : decode cX3_doubledMean 47 = .ok (.iload_n 3, 1) := by decide +kernel
theorem dX3_doubledMean_48 : decode cX3_doubledMean 48 = .ok (.imul, 1) := by decide +kernel
theorem dX3_doubledMean_49 : decode cX3_doubledMean 49 = .ok (.goto 7, 3) := by decide +kernel
theorem dX3_doubledMean_52 : decode cX3_doubledMean 52 = .ok (.iload_n 3, 1) := by decide +kernel
theorem dX3_doubledMean_53 : decode cX3_doubledMean 53 = .ok (.iload 4, 2) := by decide +kernel
theorem dX3_doubledMean_55 : decode cX3_doubledMean 55 = .ok (.iadd, 1) := by decide +kernel
theorem dX3_doubledMean_56 : decode cX3_doubledMean 56 = .ok (.ireturn, 1) := by decide +kernel
def fX3_doubledMean (x0_ : Int32) (x1_ : Int32) (s : Sg) : Option (Int32 × Sg) :=
  (fX3_timeOf x0_ x1_ s).bind fun w1 =>
  (fX3_timeOf x0_ (x1_ + (2 : Int32)) w1.2).bind fun w2 =>
  if w1.1 = (-1 : Int32) then
  if w2.1 = (-1 : Int32) then
  some ((0 : Int32), w2.2)
  else
  if w1.1 = (-1 : Int32) then
  some (((2 : Int32) * w2.1), w2.2)
  else
  if w2.1 = (-1 : Int32) then
  some (((2 : Int32) * w1.1), w2.2)
  else
  some ((w1.1 + w2.1), w2.2)
  else
  if w1.1 = (-1 : Int32) then
  some (((2 : Int32) * w2.1), w2.2)
  else
  if w2.1 = (-1 : Int32) then
  some (((2 : Int32) * w1.1), w2.2)
  else
  some ((w1.1 + w2.1), w2.2)
theorem ct_X3_doubledMean {g : Gl} {x0_ : Int32} {x1_ : Int32} {s : Sg} {w : Int32 × Sg}  (h : fX3_doubledMean x0_ x1_ s = some w) : Ct SS g iX3_doubledMean 1 22 [.ref (gad g 1), .int x0_, .int x1_] s (Dt (some (.int w.1)) w.2) := by
  refine Ct.ofV (by decide +kernel) 2 (lv0 := [some (.ref (gad g 1)), some (.int x0_), some (.int x1_), none, none]) rfl rfl (fun M hC => ?_)
  have hP : (Dt (some (.int w.1)) w.2) (some (.int w.1)) w.2 := ⟨rfl, rfl⟩
  generalize Dt (some (.int w.1)) w.2 = P at hP ⊢
  unfold fX3_doubledMean at h
  refine v_aload_n (pc := 0) hC dX3_doubledMean_0 rfl ?_
  refine v_iload_n (pc := 1) hC dX3_doubledMean_1 rfl ?_
  refine v_iload_n (pc := 2) hC dX3_doubledMean_2 rfl ?_
  obtain ⟨w1, hw1, h⟩ := obd_s h
  refine v_cV (pc := 3) [] [.int w1.1] gm_X3_timeOf hC s_1 rfl rfl (ct_X3_timeOf  hw1) ml_X3_40 rfl rfl rfl rfl rfl rfl dX3_doubledMean_3 ?_
  refine v_istore_n (pc := 6) (lv' := [some (.ref (gad g 1)), some (.int x0_), some (.int x1_), some (.int w1.1), none]) hC dX3_doubledMean_6 rfl rfl rfl rfl ?_
  refine v_aload_n (pc := 7) hC dX3_doubledMean_7 rfl ?_
  refine v_iload_n (pc := 8) hC dX3_doubledMean_8 rfl ?_
  refine v_iload_n (pc := 9) hC dX3_doubledMean_9 rfl ?_
  refine v_iconst (pc := 10) (2 : Int32) rfl hC dX3_doubledMean_10 ?_
  refine v_iadd (pc := 11) hC dX3_doubledMean_11 ?_
  obtain ⟨w2, hw2, h⟩ := obd_s h
  refine v_cV (pc := 12) [] [.int w2.1] gm_X3_timeOf hC s_1 rfl rfl (ct_X3_timeOf  hw2) ml_X3_40 rfl rfl rfl rfl rfl rfl dX3_doubledMean_12 ?_
  refine v_istore (pc := 15) (lv' := [some (.ref (gad g 1)), some (.int x0_), some (.int x1_), some (.int w1.1), some (.int w2.1)]) hC dX3_doubledMean_15 rfl rfl rfl rfl ?_
  refine v_iload_n (pc := 17) hC dX3_doubledMean_17 rfl ?_
  refine v_iconst (pc := 18) (-1 : Int32) rfl hC dX3_doubledMean_18 ?_
  refine v_ic_ne (pc := 19) (tgt := 30) hC dX3_doubledMean_19 rfl (fun c5 => ?_) (fun c5 => ?_)
  · replace h := (if_neg c5).symm.trans h
    refine v_iload_n (pc := 30) hC dX3_doubledMean_30 rfl ?_
    refine v_iconst (pc := 31) (-1 : Int32) rfl hC dX3_doubledMean_31 ?_
    refine v_ic_ne (pc := 32) (tgt := 40) hC dX3_doubledMean_32 rfl (fun c4 => ?_) (fun c4 => ?_)
    · replace h := (if_neg c4).symm.trans h
      refine v_iload (pc := 40) hC dX3_doubledMean_40 rfl ?_
      refine v_iconst (pc := 42) (-1 : Int32) rfl hC dX3_doubledMean_42 ?_
      refine v_ic_ne (pc := 43) (tgt := 52) hC dX3_doubledMean_43 rfl (fun c3 => ?_) (fun c3 => ?_)
      · replace h := (if_neg c3).symm.trans h
        refine v_iload_n (pc := 52) hC dX3_doubledMean_52 rfl ?_
        refine v_iload (pc := 53) hC dX3_doubledMean_53 rfl ?_
        refine v_iadd (pc := 55) hC dX3_doubledMean_55 ?_
        obtain rfl := Option.some.inj h
        exact v_iret (pc := 56) hC rfl dX3_doubledMean_56 hP
      · replace h := (if_pos c3).symm.trans h
        refine v_iconst (pc := 46) (2 : Int32) rfl hC dX3_doubledMean_46 ?_
        refine v_iload_n (pc := 47) hC dX3_doubledMean_47 rfl ?_
        refine v_imul (pc := 48) hC dX3_doubledMean_48 ?_
        refine v_goto (pc := 49) (tgt := 56) hC dX3_doubledMean_49 rfl ?_
        obtain rfl := Option.some.inj h
        exact v_iret (pc := 56) hC rfl dX3_doubledMean_56 hP
    · replace h := (if_pos c4).symm.trans h
      refine v_iconst (pc := 35) (2 : Int32) rfl hC dX3_doubledMean_35 ?_
      refine v_iload (pc := 36) hC dX3_doubledMean_36 rfl ?_
      refine v_imul (pc := 38) hC dX3_doubledMean_38 ?_
      obtain rfl := Option.some.inj h
      exact v_iret (pc := 39) hC rfl dX3_doubledMean_39 hP
  · replace h := (if_pos c5).symm.trans h
    refine v_iload (pc := 22) hC dX3_doubledMean_22 rfl ?_
    refine v_iconst (pc := 24) (-1 : Int32) rfl hC dX3_doubledMean_24 ?_
    refine v_ic_ne (pc := 25) (tgt := 30) hC dX3_doubledMean_25 rfl (fun c8 => ?_) (fun c8 => ?_)
    · replace h := (if_neg c8).symm.trans h
      refine v_iload_n (pc := 30) hC dX3_doubledMean_30 rfl ?_
      refine v_iconst (pc := 31) (-1 : Int32) rfl hC dX3_doubledMean_31 ?_
      refine v_ic_ne (pc := 32) (tgt := 40) hC dX3_doubledMean_32 rfl (fun c7 => ?_) (fun c7 => ?_)
      · replace h := (if_neg c7).symm.trans h
        refine v_iload (pc := 40) hC dX3_doubledMean_40 rfl ?_
        refine v_iconst (pc := 42) (-1 : Int32) rfl hC dX3_doubledMean_42 ?_
        refine v_ic_ne (pc := 43) (tgt := 52) hC dX3_doubledMean_43 rfl (fun c6 => ?_) (fun c6 => ?_)
        · replace h := (if_neg c6).symm.trans h
          refine v_iload_n (pc := 52) hC dX3_doubledMean_52 rfl ?_
          refine v_iload (pc := 53) hC dX3_doubledMean_53 rfl ?_
          refine v_iadd (pc := 55) hC dX3_doubledMean_55 ?_
          obtain rfl := Option.some.inj h
          exact v_iret (pc := 56) hC rfl dX3_doubledMean_56 hP
        · replace h := (if_pos c6).symm.trans h
          refine v_iconst (pc := 46) (2 : Int32) rfl hC dX3_doubledMean_46 ?_
          refine v_iload_n (pc := 47) hC dX3_doubledMean_47 rfl ?_
          refine v_imul (pc := 48) hC dX3_doubledMean_48 ?_
          refine v_goto (pc := 49) (tgt := 56) hC dX3_doubledMean_49 rfl ?_
          obtain rfl := Option.some.inj h
          exact v_iret (pc := 56) hC rfl dX3_doubledMean_56 hP
      · replace h := (if_pos c7).symm.trans h
        refine v_iconst (pc := 35) (2 : Int32) rfl hC dX3_doubledMean_35 ?_
        refine v_iload (pc := 36) hC dX3_doubledMean_36 rfl ?_
        refine v_imul (pc := 38) hC dX3_doubledMean_38 ?_
        obtain rfl := Option.some.inj h
        exact v_iret (pc := 39) hC rfl dX3_doubledMean_39 hP
    · replace h := (if_pos c8).symm.trans h
      refine v_iconst (pc := 28) (0 : Int32) rfl hC dX3_doubledMean_28 ?_
      obtain rfl := Option.some.inj h
      exact v_iret (pc := 29) hC rfl dX3_doubledMean_29 hP
