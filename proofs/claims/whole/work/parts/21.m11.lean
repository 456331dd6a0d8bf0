/-! methods, printed by wip/whole/gen/meth.py: X11_placeNow, X11_place, X11_medalsNow, X11_medals, X11_isText, X11_type, X11_wipe, X11_ruleFault, X11_byteNow, X11_expects, X11_number, X11_part, X11_plain, X11_worldFault -/
theorem dX11_placeNow_0 : decode cX11_placeNow 0 = .ok (.aload_n 0, 1) := by decide +kernel
theorem dX11_placeNow_1 : decode cX11_placeNow 1 = .ok (.invokevirtual 185, 3) := by decide +kernel
theorem dX11_placeNow_4 : decode cX11_placeNow 4 = .ok (.iconst 1, 1) := by decide +kernel
theorem dX11_placeNow_5 : decode cX11_placeNow 5 = .ok (.istore_n 3, 1) := by decide +kernel
theorem dX11_placeNow_6 : decode cX11_placeNow 6 = .ok (.iconst 0, 1) := by decide +kernel
theorem dX11_placeNow_7 : decode cX11_placeNow 7 = .ok (.istore 4, 2) := by decide +kernel
theorem dX11_placeNow_9 : decode cX11_placeNow 9 = .ok (.iload 4, 2) := by decide +kernel
theorem dX11_placeNow_11 : decode cX11_placeNow 11 = .ok (.aload_n 0, 1) := by decide +kernel
theorem dX11_placeNow_12 : decode cX11_placeNow 12 = .ok (.getfield 98, 3) := by decide +kernel
theorem dX11_placeNow_15 : decode cX11_placeNow 15 = .ok (.if_icmp .ge 84, 3) := by decide +kernel
theorem dX11_placeNow_18 : decode cX11_placeNow 18 = .ok (.aload_n 0, 1) := by decide +kernel
theorem dX11_placeNow_19 : decode cX11_placeNow 19 = .ok (.getfield 16, 3) := by decide +kernel
theorem dX11_placeNow_22 : decode cX11_placeNow 22 = .ok (.iload 4, 2) := by decide +kernel
theorem dX11_placeNow_24 : decode cX11_placeNow 24 = .ok (.iaload, 1) := by decide +kernel
theorem dX11_placeNow_25 : decode cX11_placeNow 25 = .ok (.aload_n 0, 1) := by decide +kernel
theorem dX11_placeNow_26 : decode cX11_placeNow 26 = .ok (.getfield 16, 3) := by decide +kernel
theorem dX11_placeNow_29 : decode cX11_placeNow 29 = .ok (.iload_n 1, 1) := by decide +kernel
theorem dX11_placeNow_30 : decode cX11_placeNow 30 = .ok (.iaload, 1) := by decide +kernel
theorem dX11_placeNow_31 : decode cX11_placeNow 31 = .ok (.if_icmp .ne 62, 3) := by decide +kernel
theorem dX11_placeNow_34 : decode cX11_placeNow 34 = .ok (.aload_n 0, 1) := by decide +kernel
theorem dX11_placeNow_35 : decode cX11_placeNow 35 = .ok (.iload 4, 2) := by decide +kernel
theorem dX11_placeNow_37 : decode cX11_placeNow 37 = .ok (.invokevirtual 215, 3) := by decide +kernel
theorem dX11_placeNow_40 : decode cX11_placeNow 40 = .ok (.ifCond .eq 53, 3) := by decide +kernel
theorem dX11_placeNow_43 : decode cX11_placeNow 43 = .ok (.iload_n 3, 1) := by decide +kernel
theorem dX11_placeNow_44 : decode cX11_placeNow 44 = .ok (.iload_n 2, 1) := by decide +kernel
theorem dX11_placeNow_45 : decode cX11_placeNow 45 = .ok (.ifCond .ne 31, 3) := by decide +kernel
theorem dX11_placeNow_48 : decode cX11_placeNow 48 = .ok (.aload_n 0, 1) := by decide +kernel
theorem dX11_placeNow_49 : decode cX11_placeNow 49 = .ok (.getfield 25, 3) := by decide +kernel
theorem dX11_placeNow_52 : decode cX11_placeNow 52 = .ok (.iconst 4, 1) := by decide +kernel
theorem dX11_placeNow_53 : decode cX11_placeNow 53 = .ok (.iload 4, 2) := by decide +kernel
theorem dX11_placeNow_55 : decode cX11_placeNow 55 = .ok (.imul, 1) := by decide +kernel
theorem dX11_placeNow_56 : decode cX11_placeNow 56 = .ok (.iaload, 1) := by decide +kernel
theorem dX11_placeNow_57 : decode cX11_placeNow 57 = .ok (.aload_n 0, 1) := by decide +kernel
theorem dX11_placeNow_58 : decode cX11_placeNow 58 = .ok (.getfield 25, 3) := by decide +kernel
theorem dX11_placeNow_61 : decode cX11_placeNow 61 = .ok (.iconst 4, 1) := by decide +kernel
theorem dX11_placeNow_62 : decode cX11_placeNow 62 = .ok (.iload_n 1, 1) := by decide +kernel
theorem dX11_placeNow_63 : decode cX11_placeNow 63 = .ok (.imul, 1) := by decide +kernel
theorem dX11_placeNow_64 : decode cX11_placeNow 64 = .ok (.iaload, 1) := by decide +kernel
theorem dX11_placeNow_65 : decode cX11_placeNow 65 = .ok (.if_icmp .ge 7, 3) := by decide +kernel
theorem dX11_placeNow_68 : decode cX11_placeNow 68 = .ok (.iconst 1, 1) := by decide +kernel
theorem dX11_placeNow_69 : decode cX11_placeNow 69 = .ok (.goto 22, 3) := by decide +kernel
theorem dX11_placeNow_72 : decode cX11_placeNow 72 = .ok (.iconst 0, 1) := by decide +kernel
theorem dX11_placeNow_73 : decode cX11_placeNow 73 = .ok (.goto 18, 3) := by decide +kernel
theorem dX11_placeNow_76 : decode cX11_placeNow 76 = .ok (.aload_n 0, 1) := by decide +kernel
theorem dX11_placeNow_77 : decode cX11_placeNow 77 = .ok (.iload 4, 2) := by decide +kernel
theorem dX11_placeNow_79 : decode cX11_placeNow 79 = .ok (.iload_n 1, 1) := by decide +kernel
theorem dX11_placeNow_80 : decode cX11_placeNow 80 = .ok (.invokevirtual 240, 3) := by decide +kernel
theorem dX11_placeNow_83 : decode cX11_placeNow 83 = .ok (.ifCond .eq 7, 3) := by decide +kernel
theorem dX11_placeNow_86 : decode cX11_placeNow 86 = .ok (.iconst 1, 1) := by decide +kernel
theorem dX11_placeNow_87 : decode cX11_placeNow 87 = .ok (.goto 4, 3) := by decide +kernel
theorem dX11_placeNow_90 : decode cX11_placeNow 90 = .ok (.iconst 0, 1) := by decide +kernel
theorem dX11_placeNow_91 : decode cX11_placeNow 91 = .ok (.iadd, 1) := by decide +kernel
theorem dX11_placeNow_92 : decode cX11_placeNow 92 = .ok (.istore_n 3, 1) := by decide +kernel
theorem dX11_placeNow_93 : decode cX11_placeNow 93 = .ok (.iinc 4 1, 3) := by decide +kernel
theorem dX11_placeNow_96 : decode cX11_placeNow 96 = .ok (.goto (-87), 3) := by decide +kernel
theorem dX11_placeNow_99 : decode cX11_placeNow 99 = .ok (.iload_n 3, 1) := by decide +kernel
theorem dX11_placeNow_100 : decode cX11_placeNow 100 = .ok (.ireturn, 1) := by decide +kernel
def fX11_placeNow_L9 (p1 : Int32) (p2 : Int32) (a : Int32 × Int32) (s : Sg) : Option (((Int32 × Int32) ⊕ (Int32)) × Sg) :=
  if (gI s 49 3) ≤ a.2 then
  some (.inr a.1, s)
  else
  (aI s 52 64 a.2).bind fun v2 =>
  (aI s 52 64 p1).bind fun v3 =>
  ((if v2 = v3 then
  (fX11_isSingle a.2 s).bind fun w8 =>
  if w8.1 = 0 then
  some (a.1, w8.2)
  else
  ((if p2 = 0 then
  (aI w8.2 55 256 ((4 : Int32) * a.2)).bind fun v16 =>
  (aI w8.2 55 256 ((4 : Int32) * p1)).bind fun v17 =>
  if v17 ≤ v16 then
  some ((0 : Int32), w8.2)
  else
  some ((1 : Int32), w8.2)
  else
  (fX11_isRightLess a.2 p1 w8.2).bind fun w13 =>
  if w13.1 = 0 then
  some ((0 : Int32), w13.2)
  else
  some ((1 : Int32), w13.2)) : Option (Int32 × Sg)).bind fun w10 =>
  bnd (a.1 + w10.1) fun x12 =>
  some (x12, w10.2)
  else
  some (a.1, s)) : Option (Int32 × Sg)).bind fun w4 =>
  bnd (a.2 + (1 : Int32)) fun x6 =>
  some (.inl (w4.1, x6), w4.2)
def fX11_placeNow (x0_ : Int32) (x1_ : Int32) (s : Sg) : Option (Int32 × Sg) :=
  (fX11_laysShape s).bind fun w1 =>
  (lpG (fX11_placeNow_L9 x0_ x1_) FU ((1 : Int32), (0 : Int32)) w1).bind fun w2 =>
  some (w2.1, w2.2)
theorem ct_X11_placeNow {g : Gl} {x0_ : Int32} {x1_ : Int32} {s : Sg} {w : Int32 × Sg}  (h : fX11_placeNow x0_ x1_ s = some w) : Ct SS g iX11_placeNow 5 130 [.ref (gad g 49), .int x0_, .int x1_] s (Dt (some (.int w.1)) w.2) := by
  refine Ct.ofV (by decide +kernel) 2 (lv0 := [some (.ref (gad g 49)), some (.int x0_), some (.int x1_), none, none]) rfl rfl (fun M hC => ?_)
  have hP : (Dt (some (.int w.1)) w.2) (some (.int w.1)) w.2 := ⟨rfl, rfl⟩
  generalize Dt (some (.int w.1)) w.2 = P at hP ⊢
  unfold fX11_placeNow at h
  refine v_aload_n (pc := 0) hC dX11_placeNow_0 rfl ?_
  obtain ⟨w1, hw1, h⟩ := obd_s h
  refine v_cV (pc := 1) [] [] gm_X11_laysShape hC s_49 rfl rfl (ct_X11_laysShape  hw1) ml_X11_185 rfl rfl rfl rfl rfl rfl dX11_placeNow_1 ?_
  refine v_iconst (pc := 4) (1 : Int32) rfl hC dX11_placeNow_4 ?_
  refine v_istore_n (pc := 5) (lv' := [some (.ref (gad g 49)), some (.int x0_), some (.int x1_), some (.int (1 : Int32)), none]) hC dX11_placeNow_5 rfl rfl rfl rfl ?_
  refine v_iconst (pc := 6) (0 : Int32) rfl hC dX11_placeNow_6 ?_
  refine v_istore (pc := 7) (lv' := [some (.ref (gad g 49)), some (.int x0_), some (.int x1_), some (.int (1 : Int32)), some (.int (0 : Int32))]) hC dX11_placeNow_7 rfl rfl rfl rfl ?_
  obtain ⟨w2, hw2, h⟩ := obd_s h
  have kx27 : V SS g M iX11_placeNow (PQ SS g M P) 99 [none, none, none, some (.int w2.1), none] [] w2.2 := by
    refine v_iload_n (pc := 99) hC dX11_placeNow_99 rfl ?_
    obtain rfl := Option.some.inj h
    exact v_iret (pc := 100) hC rfl dX11_placeNow_100 hP
  refine V.ls (ls_some (ls_some (ls_some (ls_some (ls_some ls_nil))))) (v_loop (pc := 9) (fun a5 => [some (.ref (gad g 49)), some (.int x0_), some (.int x1_), some (.int a5.1), some (.int a5.2)]) (fun z t => V SS g M iX11_placeNow (PQ SS g M P) 99 [none, none, none, some (.int z), none] [] t) (fun a5 s3 u4 hu4 k6 k7 => ?_) _ _ _ _ hw2 kx27)
  unfold fX11_placeNow_L9 at hu4
  refine v_iload (pc := 9) hC dX11_placeNow_9 rfl ?_
  refine v_aload_n (pc := 11) hC dX11_placeNow_11 rfl ?_
  refine v_gt (pc := 12) 3 (.int (gI s3 49 3)) hC s_49 rfl rfl rfl rfl fl_X11_98 dX11_placeNow_12 ?_
  refine v_ic_ge (pc := 15) (tgt := 99) hC dX11_placeNow_15 rfl (fun c9 => ?_) (fun c9 => ?_)
  · replace hu4 := (if_pos c9).symm.trans hu4
    obtain rfl := Option.some.inj hu4
    exact V.ls (ls_none (ls_none (ls_none (ls_some (ls_none ls_nil))))) (k7 _ rfl)
  · replace hu4 := (if_neg c9).symm.trans hu4
    refine v_aload_n (pc := 18) hC dX11_placeNow_18 rfl ?_
    refine v_gt (pc := 19) 4 (.ref (gad g 52)) hC s_49 rfl rfl rfl rfl fl_X11_16 dX11_placeNow_19 ?_
    refine v_iload (pc := 22) hC dX11_placeNow_22 rfl ?_
    obtain ⟨v10, hv10, hu4⟩ := obd_s hu4
    refine v_aI (pc := 24) hC s_52 hv10 dX11_placeNow_24 ?_
    refine v_aload_n (pc := 25) hC dX11_placeNow_25 rfl ?_
    refine v_gt (pc := 26) 4 (.ref (gad g 52)) hC s_49 rfl rfl rfl rfl fl_X11_16 dX11_placeNow_26 ?_
    refine v_iload_n (pc := 29) hC dX11_placeNow_29 rfl ?_
    obtain ⟨v11, hv11, hu4⟩ := obd_s hu4
    refine v_aI (pc := 30) hC s_52 hv11 dX11_placeNow_30 ?_
    obtain ⟨w12, hw12, hu4⟩ := obd_s hu4
    have kj13 : V SS g M iX11_placeNow (PQ SS g M P) 93 [some (.ref (gad g 49)), some (.int x0_), some (.int x1_), some (.int w12.1), some (.int a5.2)] [] w12.2 := by
      obtain ⟨x14, hx14, hu4⟩ := bnd_s hu4
      refine v_iinc (pc := 93) (lv' := [some (.ref (gad g 49)), some (.int x0_), some (.int x1_), some (.int w12.1), some (.int x14)]) (1 : Int32) rfl hx14 hC dX11_placeNow_93 rfl rfl rfl rfl ?_
      refine v_goto (pc := 96) (tgt := 9) hC dX11_placeNow_96 rfl ?_
      obtain rfl := Option.some.inj hu4
      exact V.ls (ls_some (ls_some (ls_some (ls_some (ls_some ls_nil))))) (k6 _ rfl)
    refine v_ic_ne (pc := 31) (tgt := 93) hC dX11_placeNow_31 rfl (fun c15 => ?_) (fun c15 => ?_)
    · replace hw12 := (if_neg c15).symm.trans hw12
      obtain rfl := Option.some.inj hw12
      exact V.ls (ls_some (ls_some (ls_some (ls_some (ls_some ls_nil))))) kj13
    · replace hw12 := (if_pos c15).symm.trans hw12
      refine v_aload_n (pc := 34) hC dX11_placeNow_34 rfl ?_
      refine v_iload (pc := 35) hC dX11_placeNow_35 rfl ?_
      obtain ⟨w16, hw16, hw12⟩ := obd_s hw12
      refine v_cV (pc := 37) [] [.int w16.1] gm_X11_isSingle hC s_49 rfl rfl (ct_X11_isSingle  hw16) ml_X11_215 rfl rfl rfl rfl rfl rfl dX11_placeNow_37 ?_
      refine v_if_eq (pc := 40) (tgt := 93) hC dX11_placeNow_40 rfl (fun c17 => ?_) (fun c17 => ?_)
      · replace hw12 := (if_pos c17).symm.trans hw12
        obtain rfl := Option.some.inj hw12
        exact V.ls (ls_some (ls_some (ls_some (ls_some (ls_some ls_nil))))) kj13
      · replace hw12 := (if_neg c17).symm.trans hw12
        refine v_iload_n (pc := 43) hC dX11_placeNow_43 rfl ?_
        refine v_iload_n (pc := 44) hC dX11_placeNow_44 rfl ?_
        obtain ⟨w18, hw18, hw12⟩ := obd_s hw12
        have kj19 : V SS g M iX11_placeNow (PQ SS g M P) 91 [some (.ref (gad g 49)), some (.int x0_), some (.int x1_), none, some (.int a5.2)] [.int w18.1, .int a5.1] w18.2 := by
          refine v_iadd (pc := 91) hC dX11_placeNow_91 ?_
          obtain ⟨x20, hx20, hw12⟩ := bnd_s hw12
          refine v_istore_n (pc := 92) (lv' := [some (.ref (gad g 49)), some (.int x0_), some (.int x1_), some (.int x20), some (.int a5.2)]) hC dX11_placeNow_92 hx20 rfl rfl rfl ?_
          obtain rfl := Option.some.inj hw12
          exact V.ls (ls_some (ls_some (ls_some (ls_some (ls_some ls_nil))))) kj13
        refine v_if_ne (pc := 45) (tgt := 76) hC dX11_placeNow_45 rfl (fun c23 => ?_) (fun c23 => ?_)
        · replace hw18 := (if_neg c23).symm.trans hw18
          refine v_aload_n (pc := 76) hC dX11_placeNow_76 rfl ?_
          refine v_iload (pc := 77) hC dX11_placeNow_77 rfl ?_
          refine v_iload_n (pc := 79) hC dX11_placeNow_79 rfl ?_
          obtain ⟨w21, hw21, hw18⟩ := obd_s hw18
          refine v_cV (pc := 80) [.int a5.1] [.int w21.1, .int a5.1] gm_X11_isRightLess hC s_49 rfl rfl (ct_X11_isRightLess  hw21) ml_X11_240 rfl rfl rfl rfl rfl rfl dX11_placeNow_80 ?_
          refine v_if_eq (pc := 83) (tgt := 90) hC dX11_placeNow_83 rfl (fun c22 => ?_) (fun c22 => ?_)
          · replace hw18 := (if_pos c22).symm.trans hw18
            refine v_iconst (pc := 90) (0 : Int32) rfl hC dX11_placeNow_90 ?_
            obtain rfl := Option.some.inj hw18
            exact V.ls (ls_some (ls_some (ls_some (ls_none (ls_some ls_nil))))) kj19
          · replace hw18 := (if_neg c22).symm.trans hw18
            refine v_iconst (pc := 86) (1 : Int32) rfl hC dX11_placeNow_86 ?_
            refine v_goto (pc := 87) (tgt := 91) hC dX11_placeNow_87 rfl ?_
            obtain rfl := Option.some.inj hw18
            exact V.ls (ls_some (ls_some (ls_some (ls_none (ls_some ls_nil))))) kj19
        · replace hw18 := (if_pos c23).symm.trans hw18
          refine v_aload_n (pc := 48) hC dX11_placeNow_48 rfl ?_
          refine v_gt (pc := 49) 7 (.ref (gad g 55)) hC s_49 rfl rfl rfl rfl fl_X11_25 dX11_placeNow_49 ?_
          refine v_iconst (pc := 52) (4 : Int32) rfl hC dX11_placeNow_52 ?_
          refine v_iload (pc := 53) hC dX11_placeNow_53 rfl ?_
          refine v_imul (pc := 55) hC dX11_placeNow_55 ?_
          obtain ⟨v24, hv24, hw18⟩ := obd_s hw18
          refine v_aI (pc := 56) hC s_55 hv24 dX11_placeNow_56 ?_
          refine v_aload_n (pc := 57) hC dX11_placeNow_57 rfl ?_
          refine v_gt (pc := 58) 7 (.ref (gad g 55)) hC s_49 rfl rfl rfl rfl fl_X11_25 dX11_placeNow_58 ?_
          refine v_iconst (pc := 61) (4 : Int32) rfl hC dX11_placeNow_61 ?_
          refine v_iload_n (pc := 62) hC dX11_placeNow_62 rfl ?_
          refine v_imul (pc := 63) hC dX11_placeNow_63 ?_
          obtain ⟨v25, hv25, hw18⟩ := obd_s hw18
          refine v_aI (pc := 64) hC s_55 hv25 dX11_placeNow_64 ?_
          refine v_ic_ge (pc := 65) (tgt := 72) hC dX11_placeNow_65 rfl (fun c26 => ?_) (fun c26 => ?_)
          · replace hw18 := (if_pos c26).symm.trans hw18
            refine v_iconst (pc := 72) (0 : Int32) rfl hC dX11_placeNow_72 ?_
            refine v_goto (pc := 73) (tgt := 91) hC dX11_placeNow_73 rfl ?_
            obtain rfl := Option.some.inj hw18
            exact V.ls (ls_some (ls_some (ls_some (ls_none (ls_some ls_nil))))) kj19
          · replace hw18 := (if_neg c26).symm.trans hw18
            refine v_iconst (pc := 68) (1 : Int32) rfl hC dX11_placeNow_68 ?_
            refine v_goto (pc := 69) (tgt := 91) hC dX11_placeNow_69 rfl ?_
            obtain rfl := Option.some.inj hw18
            exact V.ls (ls_some (ls_some (ls_some (ls_none (ls_some ls_nil))))) kj19
theorem dX11_place_0 : decode cX11_place 0 = .ok (.aload_n 0, 1) := by decide +kernel
theorem dX11_place_1 : decode cX11_place 1 = .ok (.iload_n 1, 1) := by decide +kernel
theorem dX11_place_2 : decode cX11_place 2 = .ok (.invokevirtual 119, 3) := by decide +kernel
theorem dX11_place_5 : decode cX11_place 5 = .ok (.ifCond .eq 12, 3) := by decide +kernel
theorem dX11_place_8 : decode cX11_place 8 = .ok (.iload_n 2, 1) := by decide +kernel
theorem dX11_place_9 : decode cX11_place 9 = .ok (.iconst 0, 1) := by decide +kernel
theorem dX11_place_10 : decode cX11_place 10 = .ok (.iconst 1, 1) := by decide +kernel
theorem dX11_place_11 : decode cX11_place 11 = .ok (.invokestatic 94, 3) := by decide +kernel
theorem dX11_place_14 : decode cX11_place 14 = .ok (.ifCond .ne 6, 3) := by decide +kernel
theorem dX11_place_17 : decode cX11_place 17 = .ok (.bipush (-2), 2) := by decide +kernel
theorem dX11_place_19 : decode cX11_place 19 = .ok (.ireturn, 1) := by decide +kernel
theorem dX11_place_20 : decode cX11_place 20 = .ok (.aload_n 0, 1) := by decide +kernel
theorem dX11_place_21 : decode cX11_place 21 = .ok (.iload_n 1, 1) := by decide +kernel
theorem dX11_place_22 : decode cX11_place 22 = .ok (.invokevirtual 215, 3) := by decide +kernel
theorem dX11_place_25 : decode cX11_place 25 = .ok (.ifCond .eq 12, 3) := by decide +kernel
theorem dX11_place_28 : decode cX11_place 28 = .ok (.aload_n 0, 1) := by decide +kernel
theorem dX11_place_29 : decode cX11_place 29 = .ok (.iload_n 1, 1) := by decide +kernel
theorem dX11_place_30 : decode cX11_place 30 = .ok (.iload_n 2, 1) := by decide +kernel
theorem dX11_place_31 : decode cX11_place 31 = .ok (.invokevirtual 243, 3) := by decide +kernel
theorem dX11_place_34 : decode cX11_place 34 = .ok (.goto 5, 3) := by decide +kernel
theorem dX11_place_37 : decode cX11_place 37 = .ok (.bipush (-3), 2) := by decide +kernel
theorem dX11_place_39 : decode cX11_place 39 = .ok (.ireturn, 1) := by decide +kernel
def fX11_place (x0_ : Int32) (x1_ : Int32) (s : Sg) : Option (Int32 × Sg) :=
  (fX11_isSwim x0_ s).bind fun w1 =>
  if w1.1 = 0 then
  some ((-2 : Int32), w1.2)
  else
  (fX11_in x1_ (0 : Int32) (1 : Int32) w1.2).bind fun w3 =>
  if w3.1 = 0 then
  some ((-2 : Int32), w3.2)
  else
  (fX11_isSingle x0_ w3.2).bind fun w4 =>
  if w4.1 = 0 then
  some ((-3 : Int32), w4.2)
  else
  (fX11_placeNow x0_ x1_ w4.2).bind fun w6 =>
  some (w6.1, w6.2)
theorem ct_X11_place {g : Gl} {x0_ : Int32} {x1_ : Int32} {s : Sg} {w : Int32 × Sg}  (h : fX11_place x0_ x1_ s = some w) : Ct SS g iX11_place 6 154 [.ref (gad g 49), .int x0_, .int x1_] s (Dt (some (.int w.1)) w.2) := by
  refine Ct.ofV (by decide +kernel) 0 (lv0 := [some (.ref (gad g 49)), some (.int x0_), some (.int x1_)]) rfl rfl (fun M hC => ?_)
  have hP : (Dt (some (.int w.1)) w.2) (some (.int w.1)) w.2 := ⟨rfl, rfl⟩
  generalize Dt (some (.int w.1)) w.2 = P at hP ⊢
  unfold fX11_place at h
  refine v_aload_n (pc := 0) hC dX11_place_0 rfl ?_
  refine v_iload_n (pc := 1) hC dX11_place_1 rfl ?_
  obtain ⟨w1, hw1, h⟩ := obd_s h
  refine v_cV (pc := 2) [] [.int w1.1] gm_X11_isSwim hC s_49 rfl rfl (ct_X11_isSwim  hw1) ml_X11_119 rfl rfl rfl rfl rfl rfl dX11_place_2 ?_
  refine v_if_eq (pc := 5) (tgt := 17) hC dX11_place_5 rfl (fun c2 => ?_) (fun c2 => ?_)
  · replace h := (if_pos c2).symm.trans h
    refine v_bipush (pc := 17) (-2 : Int32) rfl hC dX11_place_17 ?_
    obtain rfl := Option.some.inj h
    exact v_iret (pc := 19) hC rfl dX11_place_19 hP
  · replace h := (if_neg c2).symm.trans h
    refine v_iload_n (pc := 8) hC dX11_place_8 rfl ?_
    refine v_iconst (pc := 9) (0 : Int32) rfl hC dX11_place_9 ?_
    refine v_iconst (pc := 10) (1 : Int32) rfl hC dX11_place_10 ?_
    obtain ⟨w3, hw3, h⟩ := obd_s h
    refine v_cS (pc := 11) [] [.int w3.1] gm_X11_in hC (ct_X11_in  hw3) ml_X11_94 rfl rfl rfl rfl rfl rfl dX11_place_11 ?_
    refine v_if_ne (pc := 14) (tgt := 20) hC dX11_place_14 rfl (fun c7 => ?_) (fun c7 => ?_)
    · replace h := (if_neg c7).symm.trans h
      refine v_aload_n (pc := 20) hC dX11_place_20 rfl ?_
      refine v_iload_n (pc := 21) hC dX11_place_21 rfl ?_
      obtain ⟨w4, hw4, h⟩ := obd_s h
      refine v_cV (pc := 22) [] [.int w4.1] gm_X11_isSingle hC s_49 rfl rfl (ct_X11_isSingle  hw4) ml_X11_215 rfl rfl rfl rfl rfl rfl dX11_place_22 ?_
      refine v_if_eq (pc := 25) (tgt := 37) hC dX11_place_25 rfl (fun c5 => ?_) (fun c5 => ?_)
      · replace h := (if_pos c5).symm.trans h
        refine v_bipush (pc := 37) (-3 : Int32) rfl hC dX11_place_37 ?_
        obtain rfl := Option.some.inj h
        exact v_iret (pc := 39) hC rfl dX11_place_39 hP
      · replace h := (if_neg c5).symm.trans h
        refine v_aload_n (pc := 28) hC dX11_place_28 rfl ?_
        refine v_iload_n (pc := 29) hC dX11_place_29 rfl ?_
        refine v_iload_n (pc := 30) hC dX11_place_30 rfl ?_
        obtain ⟨w6, hw6, h⟩ := obd_s h
        refine v_cV (pc := 31) [] [.int w6.1] gm_X11_placeNow hC s_49 rfl rfl (ct_X11_placeNow  hw6) ml_X11_243 rfl rfl rfl rfl rfl rfl dX11_place_31 ?_
        refine v_goto (pc := 34) (tgt := 39) hC dX11_place_34 rfl ?_
        obtain rfl := Option.some.inj h
        exact v_iret (pc := 39) hC rfl dX11_place_39 hP
    · replace h := (if_pos c7).symm.trans h
      refine v_bipush (pc := 17) (-2 : Int32) rfl hC dX11_place_17 ?_
      obtain rfl := Option.some.inj h
      exact v_iret (pc := 19) hC rfl dX11_place_19 hP
theorem dX11_medalsNow_0 : decode cX11_medalsNow 0 = .ok (.aload_n 0, 1) := by decide +kernel
theorem dX11_medalsNow_1 : decode cX11_medalsNow 1 = .ok (.getfield 7, 3) := by decide +kernel
theorem dX11_medalsNow_4 : decode cX11_medalsNow 4 = .ok (.iload_n 1, 1) := by decide +kernel
theorem dX11_medalsNow_5 : decode cX11_medalsNow 5 = .ok (.iaload, 1) := by decide +kernel
theorem dX11_medalsNow_6 : decode cX11_medalsNow 6 = .ok (.iconst 1, 1) := by decide +kernel
theorem dX11_medalsNow_7 : decode cX11_medalsNow 7 = .ok (.if_icmp .le 6, 3) := by decide +kernel
theorem dX11_medalsNow_10 : decode cX11_medalsNow 10 = .ok (.bipush (-3), 2) := by decide +kernel
theorem dX11_medalsNow_12 : decode cX11_medalsNow 12 = .ok (.ireturn, 1) := by decide +kernel
theorem dX11_medalsNow_13 : decode cX11_medalsNow 13 = .ok (.iconst 0, 1) := by decide +kernel
theorem dX11_medalsNow_14 : decode cX11_medalsNow 14 = .ok (.istore_n 2, 1) := by decide +kernel
theorem dX11_medalsNow_15 : decode cX11_medalsNow 15 = .ok (.iconst 0, 1) := by decide +kernel
theorem dX11_medalsNow_16 : decode cX11_medalsNow 16 = .ok (.istore_n 3, 1) := by decide +kernel
theorem dX11_medalsNow_17 : decode cX11_medalsNow 17 = .ok (.iload_n 3, 1) := by decide +kernel
theorem dX11_medalsNow_18 : decode cX11_medalsNow 18 = .ok (.aload_n 0, 1) := by decide +kernel
theorem dX11_medalsNow_19 : decode cX11_medalsNow 19 = .ok (.getfield 98, 3) := by decide +kernel
theorem dX11_medalsNow_22 : decode cX11_medalsNow 22 = .ok (.if_icmp .ge 68, 3) := by decide +kernel
theorem dX11_medalsNow_25 : decode cX11_medalsNow 25 = .ok (.iload_n 2, 1) := by decide +kernel
theorem dX11_medalsNow_26 : decode cX11_medalsNow 26 = .ok (.aload_n 0, 1) := by decide +kernel
theorem dX11_medalsNow_27 : decode cX11_medalsNow 27 = .ok (.getfield 16, 3) := by decide +kernel
theorem dX11_medalsNow_30 : decode cX11_medalsNow 30 = .ok (.iload_n 3, 1) := by decide +kernel
theorem dX11_medalsNow_31 : decode cX11_medalsNow 31 = .ok (.iaload, 1) := by decide +kernel
theorem dX11_medalsNow_32 : decode cX11_medalsNow 32 = .ok (.iload_n 1, 1) := by decide +kernel
theorem dX11_medalsNow_33 : decode cX11_medalsNow 33 = .ok (.if_icmp .ne 48, 3) := by decide +kernel
theorem dX11_medalsNow_36 : decode cX11_medalsNow 36 = .ok (.aload_n 0, 1) := by decide +kernel
theorem dX11_medalsNow_37 : decode cX11_medalsNow 37 = .ok (.iload_n 3, 1) := by decide +kernel
theorem dX11_medalsNow_38 : decode cX11_medalsNow 38 = .ok (.invokevirtual 215, 3) := by decide +kernel
theorem dX11_medalsNow_41 : decode cX11_medalsNow 41 = .ok (.ifCond .eq 40, 3) := by decide +kernel
theorem dX11_medalsNow_44 : decode cX11_medalsNow 44 = .ok (.aload_n 0, 1) := by decide +kernel
theorem dX11_medalsNow_45 : decode cX11_medalsNow 45 = .ok (.iload_n 3, 1) := by decide +kernel
theorem dX11_medalsNow_46 : decode cX11_medalsNow 46 = .ok (.iconst 0, 1) := by decide +kernel
theorem dX11_medalsNow_47 : decode cX11_medalsNow 47 = .ok (.invokevirtual 243, 3) := by decide +kernel
theorem dX11_medalsNow_50 : decode cX11_medalsNow 50 = .ok (.iconst 4, 1) := by decide +kernel
theorem dX11_medalsNow_51 : decode cX11_medalsNow 51 = .ok (.if_icmp .ge 7, 3) := by decide +kernel
theorem dX11_medalsNow_54 : decode cX11_medalsNow 54 = .ok (.iconst 1, 1) := by decide +kernel
theorem dX11_medalsNow_55 : decode cX11_medalsNow 55 = .ok (.goto 4, 3) := by decide +kernel
theorem dX11_medalsNow_58 : decode cX11_medalsNow 58 = .ok (.iconst 0, 1) := by decide +kernel
theorem dX11_medalsNow_59 : decode cX11_medalsNow 59 = .ok (.aload_n 0, 1) := by decide +kernel
theorem dX11_medalsNow_60 : decode cX11_medalsNow 60 = .ok (.iload_n 3, 1) := by decide +kernel
theorem dX11_medalsNow_61 : decode cX11_medalsNow 61 = .ok (.iconst 1, 1) := by decide +kernel
theorem dX11_medalsNow_62 : decode cX11_medalsNow 62 = .ok (.invokevirtual 243, 3) := by decide +kernel
theorem dX11_medalsNow_65 : decode cX11_medalsNow 65 = .ok (.iconst 4, 1) := by decide +kernel
theorem dX11_medalsNow_66 : decode cX11_medalsNow 66 = .ok (.if_icmp .ge 7, 3) := by decide +kernel
theorem dX11_medalsNow_69 : decode cX11_medalsNow 69 = .ok (.iconst 1, 1) := by decide +kernel
theorem dX11_medalsNow_70 : decode cX11_medalsNow 70 = .ok (.goto 4, 3) := by decide +kernel
theorem dX11_medalsNow_73 : decode cX11_medalsNow 73 = .ok (.iconst 0, 1) := by decide +kernel
theorem dX11_medalsNow_74 : decode cX11_medalsNow 74 = .ok (.if_icmp .eq 7, 3) := by decide +kernel
theorem dX11_medalsNow_77 : decode cX11_medalsNow 77 = .ok (.iconst 1, 1) := by decide +kernel
theorem dX11_medalsNow_78 : decode cX11_medalsNow 78 = .ok (.goto 4, 3) := by decide +kernel
theorem dX11_medalsNow_81 : decode cX11_medalsNow 81 = .ok (.iconst 0, 1) := by decide +kernel
theorem dX11_medalsNow_82 : decode cX11_medalsNow 82 = .ok (.iadd, 1) := by decide +kernel
theorem dX11_medalsNow_83 : decode cX11_medalsNow 83 = .ok (.istore_n 2, 1) := by decide +kernel
theorem dX11_medalsNow_84 : decode cX11_medalsNow 84 = .ok (.iinc 3 1, 3) := by decide +kernel
theorem dX11_medalsNow_87 : decode cX11_medalsNow 87 = .ok (.goto (-70), 3) := by decide +kernel
theorem dX11_medalsNow_90 : decode cX11_medalsNow 90 = .ok (.iload_n 2, 1) := by decide +kernel
theorem dX11_medalsNow_91 : decode cX11_medalsNow 91 = .ok (.ireturn, 1) := by decide +kernel
def fX11_medalsNow_L17 (p1 : Int32) (a : Int32 × Int32) (s : Sg) : Option (((Int32 × Int32) ⊕ (Int32)) × Sg) :=
  if (gI s 49 3) ≤ a.2 then
  some (.inr a.1, s)
  else
  (aI s 52 64 a.2).bind fun v2 =>
  ((if v2 = p1 then
  (fX11_isSingle a.2 s).bind fun w8 =>
  if w8.1 = 0 then
  some ((0 : Int32), w8.2)
  else
  (fX11_placeNow a.2 (0 : Int32) w8.2).bind fun w10 =>
  ((if (4 : Int32) ≤ w10.1 then
  some (0 : Int32)
  else
  some (1 : Int32)) : Option (Int32)).bind fun w11 =>
  (fX11_placeNow a.2 (1 : Int32) w10.2).bind fun w13 =>
  ((if (4 : Int32) ≤ w13.1 then
  some (0 : Int32)
  else
  some (1 : Int32)) : Option (Int32)).bind fun w14 =>
  if w11 = w14 then
  some ((0 : Int32), w13.2)
  else
  some ((1 : Int32), w13.2)
  else
  some ((0 : Int32), s)) : Option (Int32 × Sg)).bind fun w3 =>
  bnd (a.1 + w3.1) fun x5 =>
  bnd (a.2 + (1 : Int32)) fun x6 =>
  some (.inl (x5, x6), w3.2)
def fX11_medalsNow (x0_ : Int32) (s : Sg) : Option (Int32 × Sg) :=
  (aI s 50 16 x0_).bind fun v1 =>
  if v1 ≤ (1 : Int32) then
  (lpG (fX11_medalsNow_L17 x0_) FU ((0 : Int32), (0 : Int32)) s).bind fun w2 =>
  some (w2.1, w2.2)
  else
  some ((-3 : Int32), s)
theorem ct_X11_medalsNow {g : Gl} {x0_ : Int32} {s : Sg} {w : Int32 × Sg}  (h : fX11_medalsNow x0_ s = some w) : Ct SS g iX11_medalsNow 6 154 [.ref (gad g 49), .int x0_] s (Dt (some (.int w.1)) w.2) := by
  refine Ct.ofV (by decide +kernel) 2 (lv0 := [some (.ref (gad g 49)), some (.int x0_), none, none]) rfl rfl (fun M hC => ?_)
  have hP : (Dt (some (.int w.1)) w.2) (some (.int w.1)) w.2 := ⟨rfl, rfl⟩
  generalize Dt (some (.int w.1)) w.2 = P at hP ⊢
  unfold fX11_medalsNow at h
  refine v_aload_n (pc := 0) hC dX11_medalsNow_0 rfl ?_
  refine v_gt (pc := 1) 1 (.ref (gad g 50)) hC s_49 rfl rfl rfl rfl fl_X11_7 dX11_medalsNow_1 ?_
  refine v_iload_n (pc := 4) hC dX11_medalsNow_4 rfl ?_
  obtain ⟨v1, hv1, h⟩ := obd_s h
  refine v_aI (pc := 5) hC s_50 hv1 dX11_medalsNow_5 ?_
  refine v_iconst (pc := 6) (1 : Int32) rfl hC dX11_medalsNow_6 ?_
  refine v_ic_le (pc := 7) (tgt := 13) hC dX11_medalsNow_7 rfl (fun c28 => ?_) (fun c28 => ?_)
  · replace h := (if_pos c28).symm.trans h
    refine v_iconst (pc := 13) (0 : Int32) rfl hC dX11_medalsNow_13 ?_
    refine v_istore_n (pc := 14) (lv' := [some (.ref (gad g 49)), some (.int x0_), some (.int (0 : Int32)), none]) hC dX11_medalsNow_14 rfl rfl rfl rfl ?_
    refine v_iconst (pc := 15) (0 : Int32) rfl hC dX11_medalsNow_15 ?_
    refine v_istore_n (pc := 16) (lv' := [some (.ref (gad g 49)), some (.int x0_), some (.int (0 : Int32)), some (.int (0 : Int32))]) hC dX11_medalsNow_16 rfl rfl rfl rfl ?_
    obtain ⟨w2, hw2, h⟩ := obd_s h
    have kx27 : V SS g M iX11_medalsNow (PQ SS g M P) 90 [none, none, some (.int w2.1), none] [] w2.2 := by
      refine v_iload_n (pc := 90) hC dX11_medalsNow_90 rfl ?_
      obtain rfl := Option.some.inj h
      exact v_iret (pc := 91) hC rfl dX11_medalsNow_91 hP
    refine V.ls (ls_some (ls_some (ls_some (ls_some ls_nil)))) (v_loop (pc := 17) (fun a5 => [some (.ref (gad g 49)), some (.int x0_), some (.int a5.1), some (.int a5.2)]) (fun z t => V SS g M iX11_medalsNow (PQ SS g M P) 90 [none, none, some (.int z), none] [] t) (fun a5 s3 u4 hu4 k6 k7 => ?_) _ _ _ _ hw2 kx27)
    unfold fX11_medalsNow_L17 at hu4
    refine v_iload_n (pc := 17) hC dX11_medalsNow_17 rfl ?_
    refine v_aload_n (pc := 18) hC dX11_medalsNow_18 rfl ?_
    refine v_gt (pc := 19) 3 (.int (gI s3 49 3)) hC s_49 rfl rfl rfl rfl fl_X11_98 dX11_medalsNow_19 ?_
    refine v_ic_ge (pc := 22) (tgt := 90) hC dX11_medalsNow_22 rfl (fun c9 => ?_) (fun c9 => ?_)
    · replace hu4 := (if_pos c9).symm.trans hu4
      obtain rfl := Option.some.inj hu4
      exact V.ls (ls_none (ls_none (ls_some (ls_none ls_nil)))) (k7 _ rfl)
    · replace hu4 := (if_neg c9).symm.trans hu4
      refine v_iload_n (pc := 25) hC dX11_medalsNow_25 rfl ?_
      refine v_aload_n (pc := 26) hC dX11_medalsNow_26 rfl ?_
      refine v_gt (pc := 27) 4 (.ref (gad g 52)) hC s_49 rfl rfl rfl rfl fl_X11_16 dX11_medalsNow_27 ?_
      refine v_iload_n (pc := 30) hC dX11_medalsNow_30 rfl ?_
      obtain ⟨v10, hv10, hu4⟩ := obd_s hu4
      refine v_aI (pc := 31) hC s_52 hv10 dX11_medalsNow_31 ?_
      refine v_iload_n (pc := 32) hC dX11_medalsNow_32 rfl ?_
      obtain ⟨w11, hw11, hu4⟩ := obd_s hu4
      have kj12 : V SS g M iX11_medalsNow (PQ SS g M P) 82 [some (.ref (gad g 49)), some (.int x0_), none, some (.int a5.2)] [.int w11.1, .int a5.1] w11.2 := by
        refine v_iadd (pc := 82) hC dX11_medalsNow_82 ?_
        obtain ⟨x13, hx13, hu4⟩ := bnd_s hu4
        refine v_istore_n (pc := 83) (lv' := [some (.ref (gad g 49)), some (.int x0_), some (.int x13), some (.int a5.2)]) hC dX11_medalsNow_83 hx13 rfl rfl rfl ?_
        obtain ⟨x14, hx14, hu4⟩ := bnd_s hu4
        refine v_iinc (pc := 84) (lv' := [some (.ref (gad g 49)), some (.int x0_), some (.int x13), some (.int x14)]) (1 : Int32) rfl hx14 hC dX11_medalsNow_84 rfl rfl rfl rfl ?_
        refine v_goto (pc := 87) (tgt := 17) hC dX11_medalsNow_87 rfl ?_
        obtain rfl := Option.some.inj hu4
        exact V.ls (ls_some (ls_some (ls_some (ls_some ls_nil)))) (k6 _ rfl)
      refine v_ic_ne (pc := 33) (tgt := 81) hC dX11_medalsNow_33 rfl (fun c15 => ?_) (fun c15 => ?_)
      · replace hw11 := (if_neg c15).symm.trans hw11
        refine v_iconst (pc := 81) (0 : Int32) rfl hC dX11_medalsNow_81 ?_
        obtain rfl := Option.some.inj hw11
        exact V.ls (ls_some (ls_some (ls_none (ls_some ls_nil)))) kj12
      · replace hw11 := (if_pos c15).symm.trans hw11
        refine v_aload_n (pc := 36) hC dX11_medalsNow_36 rfl ?_
        refine v_iload_n (pc := 37) hC dX11_medalsNow_37 rfl ?_
        obtain ⟨w16, hw16, hw11⟩ := obd_s hw11
        refine v_cV (pc := 38) [.int a5.1] [.int w16.1, .int a5.1] gm_X11_isSingle hC s_49 rfl rfl (ct_X11_isSingle  hw16) ml_X11_215 rfl rfl rfl rfl rfl rfl dX11_medalsNow_38 ?_
        refine v_if_eq (pc := 41) (tgt := 81) hC dX11_medalsNow_41 rfl (fun c17 => ?_) (fun c17 => ?_)
        · replace hw11 := (if_pos c17).symm.trans hw11
          refine v_iconst (pc := 81) (0 : Int32) rfl hC dX11_medalsNow_81 ?_
          obtain rfl := Option.some.inj hw11
          exact V.ls (ls_some (ls_some (ls_none (ls_some ls_nil)))) kj12
        · replace hw11 := (if_neg c17).symm.trans hw11
          refine v_aload_n (pc := 44) hC dX11_medalsNow_44 rfl ?_
          refine v_iload_n (pc := 45) hC dX11_medalsNow_45 rfl ?_
          refine v_iconst (pc := 46) (0 : Int32) rfl hC dX11_medalsNow_46 ?_
          obtain ⟨w18, hw18, hw11⟩ := obd_s hw11
          refine v_cV (pc := 47) [.int a5.1] [.int w18.1, .int a5.1] gm_X11_placeNow hC s_49 rfl rfl (ct_X11_placeNow  hw18) ml_X11_243 rfl rfl rfl rfl rfl rfl dX11_medalsNow_47 ?_
          refine v_iconst (pc := 50) (4 : Int32) rfl hC dX11_medalsNow_50 ?_
          obtain ⟨w19, hw19, hw11⟩ := obd_s hw11
          have kj20 : V SS g M iX11_medalsNow (PQ SS g M P) 59 [some (.ref (gad g 49)), some (.int x0_), none, some (.int a5.2)] [.int w19, .int a5.1] w18.2 := by
            refine v_aload_n (pc := 59) hC dX11_medalsNow_59 rfl ?_
            refine v_iload_n (pc := 60) hC dX11_medalsNow_60 rfl ?_
            refine v_iconst (pc := 61) (1 : Int32) rfl hC dX11_medalsNow_61 ?_
            obtain ⟨w21, hw21, hw11⟩ := obd_s hw11
            refine v_cV (pc := 62) [.int w19, .int a5.1] [.int w21.1, .int w19, .int a5.1] gm_X11_placeNow hC s_49 rfl rfl (ct_X11_placeNow  hw21) ml_X11_243 rfl rfl rfl rfl rfl rfl dX11_medalsNow_62 ?_
            refine v_iconst (pc := 65) (4 : Int32) rfl hC dX11_medalsNow_65 ?_
            obtain ⟨w22, hw22, hw11⟩ := obd_s hw11
            have kj23 : V SS g M iX11_medalsNow (PQ SS g M P) 74 [some (.ref (gad g 49)), some (.int x0_), none, some (.int a5.2)] [.int w22, .int w19, .int a5.1] w21.2 := by
              refine v_ic_eq (pc := 74) (tgt := 81) hC dX11_medalsNow_74 rfl (fun c24 => ?_) (fun c24 => ?_)
              · replace hw11 := (if_pos c24).symm.trans hw11
                refine v_iconst (pc := 81) (0 : Int32) rfl hC dX11_medalsNow_81 ?_
                obtain rfl := Option.some.inj hw11
                exact V.ls (ls_some (ls_some (ls_none (ls_some ls_nil)))) kj12
              · replace hw11 := (if_neg c24).symm.trans hw11
                refine v_iconst (pc := 77) (1 : Int32) rfl hC dX11_medalsNow_77 ?_
                refine v_goto (pc := 78) (tgt := 82) hC dX11_medalsNow_78 rfl ?_
                obtain rfl := Option.some.inj hw11
                exact V.ls (ls_some (ls_some (ls_none (ls_some ls_nil)))) kj12
            refine v_ic_ge (pc := 66) (tgt := 73) hC dX11_medalsNow_66 rfl (fun c25 => ?_) (fun c25 => ?_)
            · replace hw22 := (if_pos c25).symm.trans hw22
              refine v_iconst (pc := 73) (0 : Int32) rfl hC dX11_medalsNow_73 ?_
              obtain rfl := Option.some.inj hw22
              exact V.ls (ls_some (ls_some (ls_none (ls_some ls_nil)))) kj23
            · replace hw22 := (if_neg c25).symm.trans hw22
              refine v_iconst (pc := 69) (1 : Int32) rfl hC dX11_medalsNow_69 ?_
              refine v_goto (pc := 70) (tgt := 74) hC dX11_medalsNow_70 rfl ?_
              obtain rfl := Option.some.inj hw22
              exact V.ls (ls_some (ls_some (ls_none (ls_some ls_nil)))) kj23
          refine v_ic_ge (pc := 51) (tgt := 58) hC dX11_medalsNow_51 rfl (fun c26 => ?_) (fun c26 => ?_)
          · replace hw19 := (if_pos c26).symm.trans hw19
            refine v_iconst (pc := 58) (0 : Int32) rfl hC dX11_medalsNow_58 ?_
            obtain rfl := Option.some.inj hw19
            exact V.ls (ls_some (ls_some (ls_none (ls_some ls_nil)))) kj20
          · replace hw19 := (if_neg c26).symm.trans hw19
            refine v_iconst (pc := 54) (1 : Int32) rfl hC dX11_medalsNow_54 ?_
            refine v_goto (pc := 55) (tgt := 59) hC dX11_medalsNow_55 rfl ?_
            obtain rfl := Option.some.inj hw19
            exact V.ls (ls_some (ls_some (ls_none (ls_some ls_nil)))) kj20
  · replace h := (if_neg c28).symm.trans h
    refine v_bipush (pc := 10) (-3 : Int32) rfl hC dX11_medalsNow_10 ?_
    obtain rfl := Option.some.inj h
    exact v_iret (pc := 12) hC rfl dX11_medalsNow_12 hP
theorem dX11_medals_0 : decode cX11_medals 0 = .ok (.aload_n 0, 1) := by decide +kernel
theorem dX11_medals_1 : decode cX11_medals 1 = .ok (.iload_n 1, 1) := by decide +kernel
theorem dX11_medals_2 : decode cX11_medals 2 = .ok (.invokevirtual 105, 3) := by decide +kernel
theorem dX11_medals_5 : decode cX11_medals 5 = .ok (.ifCond .eq 11, 3) := by decide +kernel
theorem dX11_medals_8 : decode cX11_medals 8 = .ok (.aload_n 0, 1) := by decide +kernel
theorem dX11_medals_9 : decode cX11_medals 9 = .ok (.iload_n 1, 1) := by decide +kernel
theorem dX11_medals_10 : decode cX11_medals 10 = .ok (.invokevirtual 246, 3) := by decide +kernel
theorem dX11_medals_13 : decode cX11_medals 13 = .ok (.goto 5, 3) := by decide +kernel
theorem dX11_medals_16 : decode cX11_medals 16 = .ok (.bipush (-2), 2) := by decide +kernel
theorem dX11_medals_18 : decode cX11_medals 18 = .ok (.ireturn, 1) := by decide +kernel
def fX11_medals (x0_ : Int32) (s : Sg) : Option (Int32 × Sg) :=
  (fX11_isRace x0_ s).bind fun w1 =>
  if w1.1 = 0 then
  some ((-2 : Int32), w1.2)
  else
  (fX11_medalsNow x0_ w1.2).bind fun w3 =>
  some (w3.1, w3.2)
theorem ct_X11_medals {g : Gl} {x0_ : Int32} {s : Sg} {w : Int32 × Sg}  (h : fX11_medals x0_ s = some w) : Ct SS g iX11_medals 7 177 [.ref (gad g 49), .int x0_] s (Dt (some (.int w.1)) w.2) := by
  refine Ct.ofV (by decide +kernel) 0 (lv0 := [some (.ref (gad g 49)), some (.int x0_)]) rfl rfl (fun M hC => ?_)
  have hP : (Dt (some (.int w.1)) w.2) (some (.int w.1)) w.2 := ⟨rfl, rfl⟩
  generalize Dt (some (.int w.1)) w.2 = P at hP ⊢
  unfold fX11_medals at h
  refine v_aload_n (pc := 0) hC dX11_medals_0 rfl ?_
  refine v_iload_n (pc := 1) hC dX11_medals_1 rfl ?_
  obtain ⟨w1, hw1, h⟩ := obd_s h
  refine v_cV (pc := 2) [] [.int w1.1] gm_X11_isRace hC s_49 rfl rfl (ct_X11_isRace  hw1) ml_X11_105 rfl rfl rfl rfl rfl rfl dX11_medals_2 ?_
  refine v_if_eq (pc := 5) (tgt := 16) hC dX11_medals_5 rfl (fun c2 => ?_) (fun c2 => ?_)
  · replace h := (if_pos c2).symm.trans h
    refine v_bipush (pc := 16) (-2 : Int32) rfl hC dX11_medals_16 ?_
    obtain rfl := Option.some.inj h
    exact v_iret (pc := 18) hC rfl dX11_medals_18 hP
  · replace h := (if_neg c2).symm.trans h
    refine v_aload_n (pc := 8) hC dX11_medals_8 rfl ?_
    refine v_iload_n (pc := 9) hC dX11_medals_9 rfl ?_
    obtain ⟨w3, hw3, h⟩ := obd_s h
    refine v_cV (pc := 10) [] [.int w3.1] gm_X11_medalsNow hC s_49 rfl rfl (ct_X11_medalsNow  hw3) ml_X11_246 rfl rfl rfl rfl rfl rfl dX11_medals_10 ?_
    refine v_goto (pc := 13) (tgt := 18) hC dX11_medals_13 rfl ?_
    obtain rfl := Option.some.inj h
    exact v_iret (pc := 18) hC rfl dX11_medals_18 hP
theorem dX11_isText_0 : decode cX11_isText 0 = .ok (.iload_n 0, 1) := by decide +kernel
theorem dX11_isText_1 : decode cX11_isText 1 = .ok (.iconst 0, 1) := by decide +kernel
theorem dX11_isText_2 : decode cX11_isText 2 = .ok (.iconst 1, 1) := by decide +kernel
theorem dX11_isText_3 : decode cX11_isText 3 = .ok (.invokestatic 94, 3) := by decide +kernel
theorem dX11_isText_6 : decode cX11_isText 6 = .ok (.ireturn, 1) := by decide +kernel
def fX11_isText (x0_ : Int32) (s : Sg) : Option (Int32 × Sg) :=
  (fX11_in x0_ (0 : Int32) (1 : Int32) s).bind fun w1 =>
  (zr w1.1).bind fun z2 =>
  some (z2, w1.2)
theorem ct_X11_isText {g : Gl} {x0_ : Int32} {s : Sg} {w : Int32 × Sg}  (h : fX11_isText x0_ s = some w) : Ct SS g iX11_isText 1 22 [.int x0_] s (Dt (some (.int w.1)) w.2) := by
  refine Ct.ofV (by decide +kernel) 0 (lv0 := [some (.int x0_)]) rfl rfl (fun M hC => ?_)
  have hP : (Dt (some (.int w.1)) w.2) (some (.int w.1)) w.2 := ⟨rfl, rfl⟩
  generalize Dt (some (.int w.1)) w.2 = P at hP ⊢
  unfold fX11_isText at h
  refine v_iload_n (pc := 0) hC dX11_isText_0 rfl ?_
  refine v_iconst (pc := 1) (0 : Int32) rfl hC dX11_isText_1 ?_
  refine v_iconst (pc := 2) (1 : Int32) rfl hC dX11_isText_2 ?_
  obtain ⟨w1, hw1, h⟩ := obd_s h
  refine v_cS (pc := 3) [] [.int w1.1] gm_X11_in hC (ct_X11_in  hw1) ml_X11_94 rfl rfl rfl rfl rfl rfl dX11_isText_3 ?_
  obtain ⟨z2, hz2, h⟩ := obd_s h
  obtain rfl := Option.some.inj h
  exact v_zr (pc := 6) hC rfl hz2 dX11_isText_6 hP
theorem dX11_type_0 : decode cX11_type 0 = .ok (.iload_n 1, 1) := by decide +kernel
theorem dX11_type_1 : decode cX11_type 1 = .ok (.invokestatic 249, 3) := by decide +kernel
theorem dX11_type_4 : decode cX11_type 4 = .ok (.ifCond .eq 14, 3) := by decide +kernel
theorem dX11_type_7 : decode cX11_type 7 = .ok (.iload_n 2, 1) := by decide +kernel
theorem dX11_type_8 : decode cX11_type 8 = .ok (.iconst 0, 1) := by decide +kernel
theorem dX11_type_9 : decode cX11_type 9 = .ok (.sipush 255, 3) := by decide +kernel
theorem dX11_type_12 : decode cX11_type 12 = .ok (.invokestatic 94, 3) := by decide +kernel
theorem dX11_type_15 : decode cX11_type 15 = .ok (.ifCond .ne 6, 3) := by decide +kernel
theorem dX11_type_18 : decode cX11_type 18 = .ok (.bipush (-2), 2) := by decide +kernel
theorem dX11_type_20 : decode cX11_type 20 = .ok (.ireturn, 1) := by decide +kernel
theorem dX11_type_21 : decode cX11_type 21 = .ok (.aload_n 0, 1) := by decide +kernel
theorem dX11_type_22 : decode cX11_type 22 = .ok (.getfield 59, 3) := by decide +kernel
theorem dX11_type_25 : decode cX11_type 25 = .ok (.iload_n 1, 1) := by decide +kernel
theorem dX11_type_26 : decode cX11_type 26 = .ok (.iaload, 1) := by decide +kernel
theorem dX11_type_27 : decode cX11_type 27 = .ok (.iload_n 1, 1) := by decide +kernel
theorem dX11_type_28 : decode cX11_type 28 = .ok (.ifCond .ne 8, 3) := by decide +kernel
theorem dX11_type_31 : decode cX11_type 31 = .ok (.bipush 8, 2) := by decide +kernel
theorem dX11_type_33 : decode cX11_type 33 = .ok (.goto 5, 3) := by decide +kernel
theorem dX11_type_36 : decode cX11_type 36 = .ok (.bipush 60, 2) := by decide +kernel
theorem dX11_type_38 : decode cX11_type 38 = .ok (.if_icmp .ne 6, 3) := by decide +kernel
theorem dX11_type_41 : decode cX11_type 41 = .ok (.bipush (-4), 2) := by decide +kernel
theorem dX11_type_43 : decode cX11_type 43 = .ok (.ireturn, 1) := by decide +kernel
theorem dX11_type_44 : decode cX11_type 44 = .ok (.aload_n 0, 1) := by decide +kernel
theorem dX11_type_45 : decode cX11_type 45 = .ok (.getfield 56, 3) := by decide +kernel
theorem dX11_type_48 : decode cX11_type 48 = .ok (.bipush 60, 2) := by decide +kernel
theorem dX11_type_50 : decode cX11_type 50 = .ok (.iload_n 1, 1) := by decide +kernel
theorem dX11_type_51 : decode cX11_type 51 = .ok (.imul, 1) := by decide +kernel
theorem dX11_type_52 : decode cX11_type 52 = .ok (.aload_n 0, 1) := by decide +kernel
theorem dX11_type_53 : decode cX11_type 53 = .ok (.getfield 59, 3) := by decide +kernel
theorem dX11_type_56 : decode cX11_type 56 = .ok (.iload_n 1, 1) := by decide +kernel
theorem dX11_type_57 : decode cX11_type 57 = .ok (.iaload, 1) := by decide +kernel
theorem dX11_type_58 : decode cX11_type 58 = .ok (.iadd, 1) := by decide +kernel
theorem dX11_type_59 : decode cX11_type 59 = .ok (.iload_n 2, 1) := by decide +kernel
theorem dX11_type_60 : decode cX11_type 60 = .ok (.iastore, 1) := by decide +kernel
theorem dX11_type_61 : decode cX11_type 61 = .ok (.aload_n 0, 1) := by decide +kernel
theorem dX11_type_62 : decode cX11_type 62 = .ok (.getfield 59, 3) := by decide +kernel
theorem dX11_type_65 : decode cX11_type 65 = .ok (.iload_n 1, 1) := by decide +kernel
theorem dX11_type_66 : decode cX11_type 66 = .ok (.dup2, 1) := by decide +kernel
theorem dX11_type_67 : decode cX11_type 67 = .ok (.iaload, 1) := by decide +kernel
theorem dX11_type_68 : decode cX11_type 68 = .ok (.iconst 1, 1) := by decide +kernel
theorem dX11_type_69 : decode cX11_type 69 = .ok (.iadd, 1) := by decide +kernel
theorem dX11_type_70 : decode cX11_type 70 = .ok (.iastore, 1) := by decide +kernel
theorem dX11_type_71 : decode cX11_type 71 = .ok (.aload_n 0, 1) := by decide +kernel
theorem dX11_type_72 : decode cX11_type 72 = .ok (.getfield 59, 3) := by decide +kernel
theorem dX11_type_75 : decode cX11_type 75 = .ok (.iload_n 1, 1) := by decide +kernel
theorem dX11_type_76 : decode cX11_type 76 = .ok (.iaload, 1) := by decide +kernel
theorem dX11_type_77 : decode cX11_type 77 = .ok (.ireturn, 1) := by decide +kernel
def fX11_type (x0_ : Int32) (x1_ : Int32) (s : Sg) : Option (Int32 × Sg) :=
  (fX11_isText x0_ s).bind fun w1 =>
  if w1.1 = 0 then
  some ((-2 : Int32), w1.2)
  else
  (fX11_in x1_ (0 : Int32) (255 : Int32) w1.2).bind fun w3 =>
  if w3.1 = 0 then
  some ((-2 : Int32), w3.2)
  else
  (aI w3.2 66 2 x0_).bind fun v4 =>
  ((if x0_ = 0 then
  some (8 : Int32)
  else
  some (60 : Int32)) : Option (Int32)).bind fun w5 =>
  if v4 = w5 then
  some ((-4 : Int32), w3.2)
  else
  (aI w3.2 66 2 x0_).bind fun v7 =>
  (wI w3.2 65 120 (((60 : Int32) * x0_) + v7) x1_).bind fun s8 =>
  (aI s8 66 2 x0_).bind fun v9 =>
  (wI s8 66 2 x0_ (v9 + (1 : Int32))).bind fun s10 =>
  (aI s10 66 2 x0_).bind fun v11 =>
  some (v11, s10)
theorem ct_X11_type {g : Gl} {x0_ : Int32} {x1_ : Int32} {s : Sg} {w : Int32 × Sg}  (h : fX11_type x0_ x1_ s = some w) : Ct SS g iX11_type 2 42 [.ref (gad g 49), .int x0_, .int x1_] s (Dt (some (.int w.1)) w.2) := by
  refine Ct.ofV (by decide +kernel) 0 (lv0 := [some (.ref (gad g 49)), some (.int x0_), some (.int x1_)]) rfl rfl (fun M hC => ?_)
  have hP : (Dt (some (.int w.1)) w.2) (some (.int w.1)) w.2 := ⟨rfl, rfl⟩
  generalize Dt (some (.int w.1)) w.2 = P at hP ⊢
  unfold fX11_type at h
  refine v_iload_n (pc := 0) hC dX11_type_0 rfl ?_
  obtain ⟨w1, hw1, h⟩ := obd_s h
  refine v_cS (pc := 1) [] [.int w1.1] gm_X11_isText hC (ct_X11_isText  hw1) ml_X11_249 rfl rfl rfl rfl rfl rfl dX11_type_1 ?_
  refine v_if_eq (pc := 4) (tgt := 18) hC dX11_type_4 rfl (fun c2 => ?_) (fun c2 => ?_)
  · replace h := (if_pos c2).symm.trans h
    refine v_bipush (pc := 18) (-2 : Int32) rfl hC dX11_type_18 ?_
    obtain rfl := Option.some.inj h
    exact v_iret (pc := 20) hC rfl dX11_type_20 hP
  · replace h := (if_neg c2).symm.trans h
    refine v_iload_n (pc := 7) hC dX11_type_7 rfl ?_
    refine v_iconst (pc := 8) (0 : Int32) rfl hC dX11_type_8 ?_
    refine v_sipush (pc := 9) (255 : Int32) rfl hC dX11_type_9 ?_
    obtain ⟨w3, hw3, h⟩ := obd_s h
    refine v_cS (pc := 12) [] [.int w3.1] gm_X11_in hC (ct_X11_in  hw3) ml_X11_94 rfl rfl rfl rfl rfl rfl dX11_type_12 ?_
    refine v_if_ne (pc := 15) (tgt := 21) hC dX11_type_15 rfl (fun c14 => ?_) (fun c14 => ?_)
    · replace h := (if_neg c14).symm.trans h
      refine v_aload_n (pc := 21) hC dX11_type_21 rfl ?_
      refine v_gt (pc := 22) 20 (.ref (gad g 66)) hC s_49 rfl rfl rfl rfl fl_X11_59 dX11_type_22 ?_
      refine v_iload_n (pc := 25) hC dX11_type_25 rfl ?_
      obtain ⟨v4, hv4, h⟩ := obd_s h
      refine v_aI (pc := 26) hC s_66 hv4 dX11_type_26 ?_
      refine v_iload_n (pc := 27) hC dX11_type_27 rfl ?_
      obtain ⟨w5, hw5, h⟩ := obd_s h
      have kj6 : V SS g M iX11_type (PQ SS g M P) 38 [some (.ref (gad g 49)), some (.int x0_), some (.int x1_)] [.int w5, .int v4] w3.2 := by
        refine v_ic_ne (pc := 38) (tgt := 44) hC dX11_type_38 rfl (fun c12 => ?_) (fun c12 => ?_)
        · replace h := (if_neg c12).symm.trans h
          refine v_aload_n (pc := 44) hC dX11_type_44 rfl ?_
          refine v_gt (pc := 45) 19 (.ref (gad g 65)) hC s_49 rfl rfl rfl rfl fl_X11_56 dX11_type_45 ?_
          refine v_bipush (pc := 48) (60 : Int32) rfl hC dX11_type_48 ?_
          refine v_iload_n (pc := 50) hC dX11_type_50 rfl ?_
          refine v_imul (pc := 51) hC dX11_type_51 ?_
          refine v_aload_n (pc := 52) hC dX11_type_52 rfl ?_
          refine v_gt (pc := 53) 20 (.ref (gad g 66)) hC s_49 rfl rfl rfl rfl fl_X11_59 dX11_type_53 ?_
          refine v_iload_n (pc := 56) hC dX11_type_56 rfl ?_
          obtain ⟨v7, hv7, h⟩ := obd_s h
          refine v_aI (pc := 57) hC s_66 hv7 dX11_type_57 ?_
          refine v_iadd (pc := 58) hC dX11_type_58 ?_
          refine v_iload_n (pc := 59) hC dX11_type_59 rfl ?_
          obtain ⟨s8, hs8, h⟩ := obd_s h
          refine v_wI (pc := 60) hC s_65 hs8 dX11_type_60 ?_
          refine v_aload_n (pc := 61) hC dX11_type_61 rfl ?_
          refine v_gt (pc := 62) 20 (.ref (gad g 66)) hC s_49 rfl rfl rfl rfl fl_X11_59 dX11_type_62 ?_
          refine v_iload_n (pc := 65) hC dX11_type_65 rfl ?_
          refine v_dup2 (pc := 66) hC rfl rfl dX11_type_66 ?_
          obtain ⟨v9, hv9, h⟩ := obd_s h
          refine v_aI (pc := 67) hC s_66 hv9 dX11_type_67 ?_
          refine v_iconst (pc := 68) (1 : Int32) rfl hC dX11_type_68 ?_
          refine v_iadd (pc := 69) hC dX11_type_69 ?_
          obtain ⟨s10, hs10, h⟩ := obd_s h
          refine v_wI (pc := 70) hC s_66 hs10 dX11_type_70 ?_
          refine v_aload_n (pc := 71) hC dX11_type_71 rfl ?_
          refine v_gt (pc := 72) 20 (.ref (gad g 66)) hC s_49 rfl rfl rfl rfl fl_X11_59 dX11_type_72 ?_
          refine v_iload_n (pc := 75) hC dX11_type_75 rfl ?_
          obtain ⟨v11, hv11, h⟩ := obd_s h
          refine v_aI (pc := 76) hC s_66 hv11 dX11_type_76 ?_
          obtain rfl := Option.some.inj h
          exact v_iret (pc := 77) hC rfl dX11_type_77 hP
        · replace h := (if_pos c12).symm.trans h
          refine v_bipush (pc := 41) (-4 : Int32) rfl hC dX11_type_41 ?_
          obtain rfl := Option.some.inj h
          exact v_iret (pc := 43) hC rfl dX11_type_43 hP
      refine v_if_ne (pc := 28) (tgt := 36) hC dX11_type_28 rfl (fun c13 => ?_) (fun c13 => ?_)
      · replace hw5 := (if_neg c13).symm.trans hw5
        refine v_bipush (pc := 36) (60 : Int32) rfl hC dX11_type_36 ?_
        obtain rfl := Option.some.inj hw5
        exact V.ls (ls_some (ls_some (ls_some ls_nil))) kj6
      · replace hw5 := (if_pos c13).symm.trans hw5
        refine v_bipush (pc := 31) (8 : Int32) rfl hC dX11_type_31 ?_
        refine v_goto (pc := 33) (tgt := 38) hC dX11_type_33 rfl ?_
        obtain rfl := Option.some.inj hw5
        exact V.ls (ls_some (ls_some (ls_some ls_nil))) kj6
    · replace h := (if_pos c14).symm.trans h
      refine v_bipush (pc := 18) (-2 : Int32) rfl hC dX11_type_18 ?_
      obtain rfl := Option.some.inj h
      exact v_iret (pc := 20) hC rfl dX11_type_20 hP
theorem dX11_wipe_0 : decode cX11_wipe 0 = .ok (.iload_n 1, 1) := by decide +kernel
theorem dX11_wipe_1 : decode cX11_wipe 1 = .ok (.invokestatic 249, 3) := by decide +kernel
theorem dX11_wipe_4 : decode cX11_wipe 4 = .ok (.ifCond .ne 6, 3) := by decide +kernel
theorem dX11_wipe_7 : decode cX11_wipe 7 = .ok (.bipush (-2), 2) := by decide +kernel
theorem dX11_wipe_9 : decode cX11_wipe 9 = .ok (.ireturn, 1) := by decide +kernel
theorem dX11_wipe_10 : decode cX11_wipe 10 = .ok (.aload_n 0, 1) := by decide +kernel
theorem dX11_wipe_11 : decode cX11_wipe 11 = .ok (.getfield 59, 3) := by decide +kernel
theorem dX11_wipe_14 : decode cX11_wipe 14 = .ok (.iload_n 1, 1) := by decide +kernel
theorem dX11_wipe_15 : decode cX11_wipe 15 = .ok (.iaload, 1) := by decide +kernel
theorem dX11_wipe_16 : decode cX11_wipe 16 = .ok (.istore_n 2, 1) := by decide +kernel
theorem dX11_wipe_17 : decode cX11_wipe 17 = .ok (.aload_n 0, 1) := by decide +kernel
theorem dX11_wipe_18 : decode cX11_wipe 18 = .ok (.getfield 59, 3) := by decide +kernel
theorem dX11_wipe_21 : decode cX11_wipe 21 = .ok (.iload_n 1, 1) := by decide +kernel
theorem dX11_wipe_22 : decode cX11_wipe 22 = .ok (.iconst 0, 1) := by decide +kernel
theorem dX11_wipe_23 : decode cX11_wipe 23 = .ok (.iastore, 1) := by decide +kernel
theorem dX11_wipe_24 : decode cX11_wipe 24 = .ok (.iload_n 2, 1) := by decide +kernel
theorem dX11_wipe_25 : decode cX11_wipe 25 = .ok (.ireturn, 1) := by decide +kernel
def fX11_wipe (x0_ : Int32) (s : Sg) : Option (Int32 × Sg) :=
  (fX11_isText x0_ s).bind fun w1 =>
  if w1.1 = 0 then
  some ((-2 : Int32), w1.2)
  else
  (aI w1.2 66 2 x0_).bind fun v2 =>
  (wI w1.2 66 2 x0_ (0 : Int32)).bind fun s3 =>
  some (v2, s3)
theorem ct_X11_wipe {g : Gl} {x0_ : Int32} {s : Sg} {w : Int32 × Sg}  (h : fX11_wipe x0_ s = some w) : Ct SS g iX11_wipe 2 42 [.ref (gad g 49), .int x0_] s (Dt (some (.int w.1)) w.2) := by
  refine Ct.ofV (by decide +kernel) 1 (lv0 := [some (.ref (gad g 49)), some (.int x0_), none]) rfl rfl (fun M hC => ?_)
  have hP : (Dt (some (.int w.1)) w.2) (some (.int w.1)) w.2 := ⟨rfl, rfl⟩
  generalize Dt (some (.int w.1)) w.2 = P at hP ⊢
  unfold fX11_wipe at h
  refine v_iload_n (pc := 0) hC dX11_wipe_0 rfl ?_
  obtain ⟨w1, hw1, h⟩ := obd_s h
  refine v_cS (pc := 1) [] [.int w1.1] gm_X11_isText hC (ct_X11_isText  hw1) ml_X11_249 rfl rfl rfl rfl rfl rfl dX11_wipe_1 ?_
  refine v_if_ne (pc := 4) (tgt := 10) hC dX11_wipe_4 rfl (fun c4 => ?_) (fun c4 => ?_)
  · replace h := (if_neg c4).symm.trans h
    refine v_aload_n (pc := 10) hC dX11_wipe_10 rfl ?_
    refine v_gt (pc := 11) 20 (.ref (gad g 66)) hC s_49 rfl rfl rfl rfl fl_X11_59 dX11_wipe_11 ?_
    refine v_iload_n (pc := 14) hC dX11_wipe_14 rfl ?_
    obtain ⟨v2, hv2, h⟩ := obd_s h
    refine v_aI (pc := 15) hC s_66 hv2 dX11_wipe_15 ?_
    refine v_istore_n (pc := 16) (lv' := [some (.ref (gad g 49)), some (.int x0_), some (.int v2)]) hC dX11_wipe_16 rfl rfl rfl rfl ?_
    refine v_aload_n (pc := 17) hC dX11_wipe_17 rfl ?_
    refine v_gt (pc := 18) 20 (.ref (gad g 66)) hC s_49 rfl rfl rfl rfl fl_X11_59 dX11_wipe_18 ?_
    refine v_iload_n (pc := 21) hC dX11_wipe_21 rfl ?_
    refine v_iconst (pc := 22) (0 : Int32) rfl hC dX11_wipe_22 ?_
    obtain ⟨s3, hs3, h⟩ := obd_s h
    refine v_wI (pc := 23) hC s_66 hs3 dX11_wipe_23 ?_
    refine v_iload_n (pc := 24) hC dX11_wipe_24 rfl ?_
    obtain rfl := Option.some.inj h
    exact v_iret (pc := 25) hC rfl dX11_wipe_25 hP
  · replace h := (if_pos c4).symm.trans h
    refine v_bipush (pc := 7) (-2 : Int32) rfl hC dX11_wipe_7 ?_
    obtain rfl := Option.some.inj h
    exact v_iret (pc := 9) hC rfl dX11_wipe_9 hP
theorem dX11_ruleFault_0 : decode cX11_ruleFault 0 = .ok (.iconst 0, 1) := by decide +kernel
theorem dX11_ruleFault_1 : decode cX11_ruleFault 1 = .ok (.istore_n 1, 1) := by decide +kernel
theorem dX11_ruleFault_2 : decode cX11_ruleFault 2 = .ok (.iconst 0, 1) := by decide +kernel
theorem dX11_ruleFault_3 : decode cX11_ruleFault 3 = .ok (.istore_n 2, 1) := by decide +kernel
theorem dX11_ruleFault_4 : decode cX11_ruleFault 4 = .ok (.iload_n 2, 1) := by decide +kernel
theorem dX11_ruleFault_5 : decode cX11_ruleFault 5 = .ok (.aload_n 0, 1) := by decide +kernel
theorem dX11_ruleFault_6 : decode cX11_ruleFault 6 = .ok (.getfield 59, 3) := by decide +kernel
theorem dX11_ruleFault_9 : decode cX11_ruleFault 9 = .ok (.iconst 0, 1) := by decide +kernel
theorem dX11_ruleFault_10 : decode cX11_ruleFault 10 = .ok (.iaload, 1) := by decide +kernel
theorem dX11_ruleFault_11 : decode cX11_ruleFault 11 = .ok (.if_icmp .ge 49, 3) := by decide +kernel
theorem dX11_ruleFault_14 : decode cX11_ruleFault 14 = .ok (.aload_n 0, 1) := by decide +kernel
theorem dX11_ruleFault_15 : decode cX11_ruleFault 15 = .ok (.getfield 56, 3) := by decide +kernel
theorem dX11_ruleFault_18 : decode cX11_ruleFault 18 = .ok (.iload_n 2, 1) := by decide +kernel
theorem dX11_ruleFault_19 : decode cX11_ruleFault 19 = .ok (.iaload, 1) := by decide +kernel
theorem dX11_ruleFault_20 : decode cX11_ruleFault 20 = .ok (.bipush 48, 2) := by decide +kernel
theorem dX11_ruleFault_22 : decode cX11_ruleFault 22 = .ok (.isub, 1) := by decide +kernel
theorem dX11_ruleFault_23 : decode cX11_ruleFault 23 = .ok (.istore_n 3, 1) := by decide +kernel
theorem dX11_ruleFault_24 : decode cX11_ruleFault 24 = .ok (.iload_n 3, 1) := by decide +kernel
theorem dX11_ruleFault_25 : decode cX11_ruleFault 25 = .ok (.invokestatic 112, 3) := by decide +kernel
theorem dX11_ruleFault_28 : decode cX11_ruleFault 28 = .ok (.ifCond .eq 11, 3) := by decide +kernel
theorem dX11_ruleFault_31 : decode cX11_ruleFault 31 = .ok (.iload_n 1, 1) := by decide +kernel
theorem dX11_ruleFault_32 : decode cX11_ruleFault 32 = .ok (.iload_n 3, 1) := by decide +kernel
theorem dX11_ruleFault_33 : decode cX11_ruleFault 33 = .ok (.invokestatic 221, 3) := by decide +kernel
theorem dX11_ruleFault_36 : decode cX11_ruleFault 36 = .ok (.ifCond .eq 5, 3) := by decide +kernel
theorem dX11_ruleFault_39 : decode cX11_ruleFault 39 = .ok (.iload_n 2, 1) := by decide +kernel
theorem dX11_ruleFault_40 : decode cX11_ruleFault 40 = .ok (.ireturn, 1) := by decide +kernel
theorem dX11_ruleFault_41 : decode cX11_ruleFault 41 = .ok (.iload_n 1, 1) := by decide +kernel
theorem dX11_ruleFault_42 : decode cX11_ruleFault 42 = .ok (.iconst 1, 1) := by decide +kernel
theorem dX11_ruleFault_43 : decode cX11_ruleFault 43 = .ok (.iload_n 3, 1) := by decide +kernel
theorem dX11_ruleFault_44 : decode cX11_ruleFault 44 = .ok (.ishl, 1) := by decide +kernel
theorem dX11_ruleFault_45 : decode cX11_ruleFault 45 = .ok (.ior, 1) := by decide +kernel
theorem dX11_ruleFault_46 : decode cX11_ruleFault 46 = .ok (.istore_n 1, 1) := by decide +kernel
theorem dX11_ruleFault_47 : decode cX11_ruleFault 47 = .ok (.aload_n 0, 1) := by decide +kernel
theorem dX11_ruleFault_48 : decode cX11_ruleFault 48 = .ok (.getfield 62, 3) := by decide +kernel
theorem dX11_ruleFault_51 : decode cX11_ruleFault 51 = .ok (.iload_n 2, 1) := by decide +kernel
theorem dX11_ruleFault_52 : decode cX11_ruleFault 52 = .ok (.iload_n 3, 1) := by decide +kernel
theorem dX11_ruleFault_53 : decode cX11_ruleFault 53 = .ok (.iastore, 1) := by decide +kernel
theorem dX11_ruleFault_54 : decode cX11_ruleFault 54 = .ok (.iinc 2 1, 3) := by decide +kernel
theorem dX11_ruleFault_57 : decode cX11_ruleFault 57 = .ok (.goto (-53), 3) := by decide +kernel
theorem dX11_ruleFault_60 : decode cX11_ruleFault 60 = .ok (.aload_n 0, 1) := by decide +kernel
theorem dX11_ruleFault_61 : decode cX11_ruleFault 61 = .ok (.getfield 59, 3) := by decide +kernel
theorem dX11_ruleFault_64 : decode cX11_ruleFault 64 = .ok (.iconst 0, 1) := by decide +kernel
theorem dX11_ruleFault_65 : decode cX11_ruleFault 65 = .ok (.iaload, 1) := by decide +kernel
theorem dX11_ruleFault_66 : decode cX11_ruleFault 66 = .ok (.bipush 8, 2) := by decide +kernel
theorem dX11_ruleFault_68 : decode cX11_ruleFault 68 = .ok (.if_icmp .ge 12, 3) := by decide +kernel
theorem dX11_ruleFault_71 : decode cX11_ruleFault 71 = .ok (.aload_n 0, 1) := by decide +kernel
theorem dX11_ruleFault_72 : decode cX11_ruleFault 72 = .ok (.getfield 59, 3) := by decide +kernel
theorem dX11_ruleFault_75 : decode cX11_ruleFault 75 = .ok (.iconst 0, 1) := by decide +kernel
theorem dX11_ruleFault_76 : decode cX11_ruleFault 76 = .ok (.iaload, 1) := by decide +kernel
theorem dX11_ruleFault_77 : decode cX11_ruleFault 77 = .ok (.goto 4, 3) := by decide +kernel
theorem dX11_ruleFault_80 : decode cX11_ruleFault 80 = .ok (.iconst (-1), 1) := by decide +kernel
theorem dX11_ruleFault_81 : decode cX11_ruleFault 81 = .ok (.ireturn, 1) := by decide +kernel
def fX11_ruleFault_L4  (a : Int32 × Int32) (s : Sg) : Option (((Int32 × Int32) ⊕ (Int32 ⊕ (Unit))) × Sg) :=
  (aI s 66 2 (0 : Int32)).bind fun v1 =>
  if v1 ≤ a.2 then
  some (.inr (.inr ()), s)
  else
  (aI s 65 120 a.2).bind fun v3 =>
  bnd (v3 - (48 : Int32)) fun x4 =>
  (fX11_isLane x4 s).bind fun w5 =>
  if w5.1 = 0 then
  some (.inr (.inl a.2), w5.2)
  else
  (fX11_has a.1 x4 w5.2).bind fun w7 =>
  if w7.1 = 0 then
  bnd (a.1 ||| ((1 : Int32) <<< (x4 &&& 31))) fun x8 =>
  (wI w7.2 67 8 a.2 x4).bind fun s9 =>
  bnd (a.2 + (1 : Int32)) fun x10 =>
  some (.inl (x8, x10), s9)
  else
  some (.inr (.inl a.2), w7.2)
def fX11_ruleFault  (s : Sg) : Option (Int32 × Sg) :=
  (lpG (fX11_ruleFault_L4) FU ((0 : Int32), (0 : Int32)) s).bind fun w1 =>
  Sum.elim (fun r25 => some (r25, w1.2)) (fun e2 => (aI w1.2 66 2 (0 : Int32)).bind fun v3 =>
  if (8 : Int32) ≤ v3 then
  some ((-1 : Int32), w1.2)
  else
  (aI w1.2 66 2 (0 : Int32)).bind fun v5 =>
  some (v5, w1.2)) w1.1
theorem ct_X11_ruleFault {g : Gl}  {s : Sg} {w : Int32 × Sg}  (h : fX11_ruleFault s = some w) : Ct SS g iX11_ruleFault 2 42 [.ref (gad g 49)] s (Dt (some (.int w.1)) w.2) := by
  refine Ct.ofV (by decide +kernel) 3 (lv0 := [some (.ref (gad g 49)), none, none, none]) rfl rfl (fun M hC => ?_)
  have hP : (Dt (some (.int w.1)) w.2) (some (.int w.1)) w.2 := ⟨rfl, rfl⟩
  generalize Dt (some (.int w.1)) w.2 = P at hP ⊢
  unfold fX11_ruleFault at h
  refine v_iconst (pc := 0) (0 : Int32) rfl hC dX11_ruleFault_0 ?_
  refine v_istore_n (pc := 1) (lv' := [some (.ref (gad g 49)), some (.int (0 : Int32)), none, none]) hC dX11_ruleFault_1 rfl rfl rfl rfl ?_
  refine v_iconst (pc := 2) (0 : Int32) rfl hC dX11_ruleFault_2 ?_
  refine v_istore_n (pc := 3) (lv' := [some (.ref (gad g 49)), some (.int (0 : Int32)), some (.int (0 : Int32)), none]) hC dX11_ruleFault_3 rfl rfl rfl rfl ?_
  obtain ⟨w1, hw1, h⟩ := obd_s h
  have kr23 : ∀ r25, w1.1 = .inl r25 → P (some (.int r25)) w1.2 := by
    intro r25 hr25
    rw [hr25] at h
    replace h := (Sum.elim_inl _ _ _).symm.trans h
    obtain rfl := Option.some.inj h
    exact hP
  have ke24 : ∀ e2, w1.1 = .inr e2 → V SS g M iX11_ruleFault (PQ SS g M P) 60 [some (.ref (gad g 49)), none, none, none] [] w1.2 := by
    intro e2 he2
    rw [he2] at h
    replace h := (Sum.elim_inr _ _ _).symm.trans h
    refine v_aload_n (pc := 60) hC dX11_ruleFault_60 rfl ?_
    refine v_gt (pc := 61) 20 (.ref (gad g 66)) hC s_49 rfl rfl rfl rfl fl_X11_59 dX11_ruleFault_61 ?_
    refine v_iconst (pc := 64) (0 : Int32) rfl hC dX11_ruleFault_64 ?_
    obtain ⟨v3, hv3, h⟩ := obd_s h
    refine v_aI (pc := 65) hC s_66 hv3 dX11_ruleFault_65 ?_
    refine v_bipush (pc := 66) (8 : Int32) rfl hC dX11_ruleFault_66 ?_
    refine v_ic_ge (pc := 68) (tgt := 80) hC dX11_ruleFault_68 rfl (fun c4 => ?_) (fun c4 => ?_)
    · replace h := (if_pos c4).symm.trans h
      refine v_iconst (pc := 80) (-1 : Int32) rfl hC dX11_ruleFault_80 ?_
      obtain rfl := Option.some.inj h
      exact v_iret (pc := 81) hC rfl dX11_ruleFault_81 hP
    · replace h := (if_neg c4).symm.trans h
      refine v_aload_n (pc := 71) hC dX11_ruleFault_71 rfl ?_
      refine v_gt (pc := 72) 20 (.ref (gad g 66)) hC s_49 rfl rfl rfl rfl fl_X11_59 dX11_ruleFault_72 ?_
      refine v_iconst (pc := 75) (0 : Int32) rfl hC dX11_ruleFault_75 ?_
      obtain ⟨v5, hv5, h⟩ := obd_s h
      refine v_aI (pc := 76) hC s_66 hv5 dX11_ruleFault_76 ?_
      refine v_goto (pc := 77) (tgt := 81) hC dX11_ruleFault_77 rfl ?_
      obtain rfl := Option.some.inj h
      exact v_iret (pc := 81) hC rfl dX11_ruleFault_81 hP
  refine V.ls (ls_some (ls_some (ls_some (ls_none ls_nil)))) (v_loopR (pc := 4) (fun a8 => [some (.ref (gad g 49)), some (.int a8.1), some (.int a8.2), none]) (fun (r25 : Int32) t => P (some (.int r25)) t) (fun z t => V SS g M iX11_ruleFault (PQ SS g M P) 60 [some (.ref (gad g 49)), none, none, none] [] t) (fun a8 s6 u7 hu7 k9 k11 k10 => ?_) _ _ _ _ hw1 kr23 ke24)
  unfold fX11_ruleFault_L4 at hu7
  refine v_iload_n (pc := 4) hC dX11_ruleFault_4 rfl ?_
  refine v_aload_n (pc := 5) hC dX11_ruleFault_5 rfl ?_
  refine v_gt (pc := 6) 20 (.ref (gad g 66)) hC s_49 rfl rfl rfl rfl fl_X11_59 dX11_ruleFault_6 ?_
  refine v_iconst (pc := 9) (0 : Int32) rfl hC dX11_ruleFault_9 ?_
  obtain ⟨v12, hv12, hu7⟩ := obd_s hu7
  refine v_aI (pc := 10) hC s_66 hv12 dX11_ruleFault_10 ?_
  refine v_ic_ge (pc := 11) (tgt := 60) hC dX11_ruleFault_11 rfl (fun c13 => ?_) (fun c13 => ?_)
  · replace hu7 := (if_pos c13).symm.trans hu7
    obtain rfl := Option.some.inj hu7
    exact V.ls (ls_some (ls_none (ls_none (ls_none ls_nil)))) (k10 _ rfl)
  · replace hu7 := (if_neg c13).symm.trans hu7
    refine v_aload_n (pc := 14) hC dX11_ruleFault_14 rfl ?_
    refine v_gt (pc := 15) 19 (.ref (gad g 65)) hC s_49 rfl rfl rfl rfl fl_X11_56 dX11_ruleFault_15 ?_
    refine v_iload_n (pc := 18) hC dX11_ruleFault_18 rfl ?_
    obtain ⟨v14, hv14, hu7⟩ := obd_s hu7
    refine v_aI (pc := 19) hC s_65 hv14 dX11_ruleFault_19 ?_
    refine v_bipush (pc := 20) (48 : Int32) rfl hC dX11_ruleFault_20 ?_
    refine v_isub (pc := 22) hC dX11_ruleFault_22 ?_
    obtain ⟨x15, hx15, hu7⟩ := bnd_s hu7
    refine v_istore_n (pc := 23) (lv' := [some (.ref (gad g 49)), some (.int a8.1), some (.int a8.2), some (.int x15)]) hC dX11_ruleFault_23 hx15 rfl rfl rfl ?_
    refine v_iload_n (pc := 24) hC dX11_ruleFault_24 rfl ?_
    obtain ⟨w16, hw16, hu7⟩ := obd_s hu7
    refine v_cS (pc := 25) [] [.int w16.1] gm_X11_isLane hC (ct_X11_isLane  hw16) ml_X11_112 rfl rfl rfl rfl rfl rfl dX11_ruleFault_25 ?_
    refine v_if_eq (pc := 28) (tgt := 39) hC dX11_ruleFault_28 rfl (fun c17 => ?_) (fun c17 => ?_)
    · replace hu7 := (if_pos c17).symm.trans hu7
      refine v_iload_n (pc := 39) hC dX11_ruleFault_39 rfl ?_
      obtain rfl := Option.some.inj hu7
      exact v_iret (pc := 40) hC rfl dX11_ruleFault_40 (k11 _ rfl)
    · replace hu7 := (if_neg c17).symm.trans hu7
      refine v_iload_n (pc := 31) hC dX11_ruleFault_31 rfl ?_
      refine v_iload_n (pc := 32) hC dX11_ruleFault_32 rfl ?_
      obtain ⟨w18, hw18, hu7⟩ := obd_s hu7
      refine v_cS (pc := 33) [] [.int w18.1] gm_X11_has hC (ct_X11_has  hw18) ml_X11_221 rfl rfl rfl rfl rfl rfl dX11_ruleFault_33 ?_
      refine v_if_eq (pc := 36) (tgt := 41) hC dX11_ruleFault_36 rfl (fun c22 => ?_) (fun c22 => ?_)
      · replace hu7 := (if_pos c22).symm.trans hu7
        refine v_iload_n (pc := 41) hC dX11_ruleFault_41 rfl ?_
        refine v_iconst (pc := 42) (1 : Int32) rfl hC dX11_ruleFault_42 ?_
        refine v_iload_n (pc := 43) hC dX11_ruleFault_43 rfl ?_
        refine v_ishl (pc := 44) hC dX11_ruleFault_44 ?_
        refine v_ior (pc := 45) hC dX11_ruleFault_45 ?_
        obtain ⟨x19, hx19, hu7⟩ := bnd_s hu7
        refine v_istore_n (pc := 46) (lv' := [some (.ref (gad g 49)), some (.int x19), some (.int a8.2), some (.int x15)]) hC dX11_ruleFault_46 hx19 rfl rfl rfl ?_
        refine v_aload_n (pc := 47) hC dX11_ruleFault_47 rfl ?_
        refine v_gt (pc := 48) 21 (.ref (gad g 67)) hC s_49 rfl rfl rfl rfl fl_X11_62 dX11_ruleFault_48 ?_
        refine v_iload_n (pc := 51) hC dX11_ruleFault_51 rfl ?_
        refine v_iload_n (pc := 52) hC dX11_ruleFault_52 rfl ?_
        obtain ⟨s20, hs20, hu7⟩ := obd_s hu7
        refine v_wI (pc := 53) hC s_67 hs20 dX11_ruleFault_53 ?_
        obtain ⟨x21, hx21, hu7⟩ := bnd_s hu7
        refine v_iinc (pc := 54) (lv' := [some (.ref (gad g 49)), some (.int x19), some (.int x21), some (.int x15)]) (1 : Int32) rfl hx21 hC dX11_ruleFault_54 rfl rfl rfl rfl ?_
        refine v_goto (pc := 57) (tgt := 4) hC dX11_ruleFault_57 rfl ?_
        obtain rfl := Option.some.inj hu7
        exact V.ls (ls_some (ls_some (ls_some (ls_none ls_nil)))) (k9 _ rfl)
      · replace hu7 := (if_neg c22).symm.trans hu7
        refine v_iload_n (pc := 39) hC dX11_ruleFault_39 rfl ?_
        obtain rfl := Option.some.inj hu7
        exact v_iret (pc := 40) hC rfl dX11_ruleFault_40 (k11 _ rfl)
theorem dX11_byteNow_0 : decode cX11_byteNow 0 = .ok (.aload_n 0, 1) := by decide +kernel
theorem dX11_byteNow_1 : decode cX11_byteNow 1 = .ok (.getfield 252, 3) := by decide +kernel
theorem dX11_byteNow_4 : decode cX11_byteNow 4 = .ok (.aload_n 0, 1) := by decide +kernel
theorem dX11_byteNow_5 : decode cX11_byteNow 5 = .ok (.getfield 59, 3) := by decide +kernel
theorem dX11_byteNow_8 : decode cX11_byteNow 8 = .ok (.iconst 1, 1) := by decide +kernel
theorem dX11_byteNow_9 : decode cX11_byteNow 9 = .ok (.iaload, 1) := by decide +kernel
theorem dX11_byteNow_10 : decode cX11_byteNow 10 = .ok (.if_icmp .ge 18, 3) := by decide +kernel
theorem dX11_byteNow_13 : decode cX11_byteNow 13 = .ok (.aload_n 0, 1) := by decide +kernel
theorem dX11_byteNow_14 : decode cX11_byteNow 14 = .ok (.getfield 56, 3) := by decide +kernel
theorem dX11_byteNow_17 : decode cX11_byteNow 17 = .ok (.bipush 60, 2) := by decide +kernel
theorem dX11_byteNow_19 : decode cX11_byteNow 19 = .ok (.aload_n 0, 1) := by decide +kernel
theorem dX11_byteNow_20 : decode cX11_byteNow 20 = .ok (.getfield 252, 3) := by decide +kernel
theorem dX11_byteNow_23 : decode cX11_byteNow 23 = .ok (.iadd, 1) := by decide +kernel
theorem dX11_byteNow_24 : decode cX11_byteNow 24 = .ok (.iaload, 1) := by decide +kernel
theorem dX11_byteNow_25 : decode cX11_byteNow 25 = .ok (.goto 4, 3) := by decide +kernel
theorem dX11_byteNow_28 : decode cX11_byteNow 28 = .ok (.iconst (-1), 1) := by decide +kernel
theorem dX11_byteNow_29 : decode cX11_byteNow 29 = .ok (.ireturn, 1) := by decide +kernel
def fX11_byteNow  (s : Sg) : Option (Int32 × Sg) :=
  (aI s 66 2 (1 : Int32)).bind fun v1 =>
  if v1 ≤ (gI s 49 25) then
  some ((-1 : Int32), s)
  else
  (aI s 65 120 ((60 : Int32) + (gI s 49 25))).bind fun v3 =>
  some (v3, s)
theorem ct_X11_byteNow {g : Gl}  {s : Sg} {w : Int32 × Sg}  (h : fX11_byteNow s = some w) : Ct SS g iX11_byteNow 0 0 [.ref (gad g 49)] s (Dt (some (.int w.1)) w.2) := by
  refine Ct.ofV (by decide +kernel) 0 (lv0 := [some (.ref (gad g 49))]) rfl rfl (fun M hC => ?_)
  have hP : (Dt (some (.int w.1)) w.2) (some (.int w.1)) w.2 := ⟨rfl, rfl⟩
  generalize Dt (some (.int w.1)) w.2 = P at hP ⊢
  unfold fX11_byteNow at h
  refine v_aload_n (pc := 0) hC dX11_byteNow_0 rfl ?_
  refine v_gt (pc := 1) 25 (.int (gI s 49 25)) hC s_49 rfl rfl rfl rfl fl_X11_252 dX11_byteNow_1 ?_
  refine v_aload_n (pc := 4) hC dX11_byteNow_4 rfl ?_
  refine v_gt (pc := 5) 20 (.ref (gad g 66)) hC s_49 rfl rfl rfl rfl fl_X11_59 dX11_byteNow_5 ?_
  refine v_iconst (pc := 8) (1 : Int32) rfl hC dX11_byteNow_8 ?_
  obtain ⟨v1, hv1, h⟩ := obd_s h
  refine v_aI (pc := 9) hC s_66 hv1 dX11_byteNow_9 ?_
  refine v_ic_ge (pc := 10) (tgt := 28) hC dX11_byteNow_10 rfl (fun c2 => ?_) (fun c2 => ?_)
  · replace h := (if_pos c2).symm.trans h
    refine v_iconst (pc := 28) (-1 : Int32) rfl hC dX11_byteNow_28 ?_
    obtain rfl := Option.some.inj h
    exact v_iret (pc := 29) hC rfl dX11_byteNow_29 hP
  · replace h := (if_neg c2).symm.trans h
    refine v_aload_n (pc := 13) hC dX11_byteNow_13 rfl ?_
    refine v_gt (pc := 14) 19 (.ref (gad g 65)) hC s_49 rfl rfl rfl rfl fl_X11_56 dX11_byteNow_14 ?_
    refine v_bipush (pc := 17) (60 : Int32) rfl hC dX11_byteNow_17 ?_
    refine v_aload_n (pc := 19) hC dX11_byteNow_19 rfl ?_
    refine v_gt (pc := 20) 25 (.int (gI s 49 25)) hC s_49 rfl rfl rfl rfl fl_X11_252 dX11_byteNow_20 ?_
    refine v_iadd (pc := 23) hC dX11_byteNow_23 ?_
    obtain ⟨v3, hv3, h⟩ := obd_s h
    refine v_aI (pc := 24) hC s_65 hv3 dX11_byteNow_24 ?_
    refine v_goto (pc := 25) (tgt := 29) hC dX11_byteNow_25 rfl ?_
    obtain rfl := Option.some.inj h
    exact v_iret (pc := 29) hC rfl dX11_byteNow_29 hP
theorem dX11_expects_0 : decode cX11_expects 0 = .ok (.aload_n 0, 1) := by decide +kernel
theorem dX11_expects_1 : decode cX11_expects 1 = .ok (.getfield 255, 3) := by decide +kernel
theorem dX11_expects_4 : decode cX11_expects 4 = .ok (.iconst (-1), 1) := by decide +kernel
theorem dX11_expects_5 : decode cX11_expects 5 = .ok (.if_icmp .ne 19, 3) := by decide +kernel
theorem dX11_expects_8 : decode cX11_expects 8 = .ok (.aload_n 0, 1) := by decide +kernel
theorem dX11_expects_9 : decode cX11_expects 9 = .ok (.invokevirtual 258, 3) := by decide +kernel
theorem dX11_expects_12 : decode cX11_expects 12 = .ok (.iload_n 1, 1) := by decide +kernel
theorem dX11_expects_13 : decode cX11_expects 13 = .ok (.if_icmp .eq 11, 3) := by decide +kernel
theorem dX11_expects_16 : decode cX11_expects 16 = .ok (.aload_n 0, 1) := by decide +kernel
theorem dX11_expects_17 : decode cX11_expects 17 = .ok (.aload_n 0, 1) := by decide +kernel
theorem dX11_expects_18 : decode cX11_expects 18 = .ok (.getfield 252, 3) := by decide +kernel
theorem dX11_expects_21 : decode cX11_expects 21 = .ok (.putfield 255, 3) := by decide +kernel
theorem dX11_expects_24 : decode cX11_expects 24 = .ok (.aload_n 0, 1) := by decide +kernel
theorem dX11_expects_25 : decode cX11_expects 25 = .ok (.dup, 1) := by decide +kernel
theorem dX11_expects_26 : decode cX11_expects 26 = .ok (.getfield 252, 3) := by decide +kernel
theorem dX11_expects_29 : decode cX11_expects 29 = .ok (.iconst 1, 1) := by decide +kernel
theorem dX11_expects_30 : decode cX11_expects 30 = .ok (.iadd, 1) := by decide +kernel
theorem dX11_expects_31 : decode cX11_expects 31 = .ok (.putfield 252, 3) := by decide +kernel
theorem dX11_expects_34 : decode cX11_expects 34 = .ok (.return_, 1) := by decide +kernel
def fX11_expects (x0_ : Int32) (s : Sg) : Option (Sg) :=
  ((if (gI s 49 26) = (-1 : Int32) then
  (fX11_byteNow s).bind fun w5 =>
  if w5.1 = x0_ then
  some w5.2
  else
  bnd (sI w5.2 49 26 (gI w5.2 49 25)) fun s7 =>
  some s7
  else
  some s) : Option (Sg)).bind fun w1 =>
  bnd (sI w1 49 25 ((gI w1 49 25) + (1 : Int32))) fun s3 =>
  some s3
theorem ct_X11_expects {g : Gl} {x0_ : Int32} {s : Sg} {w : Sg}  (h : fX11_expects x0_ s = some w) : Ct SS g iX11_expects 1 20 [.ref (gad g 49), .int x0_] s (Dt none w) := by
  refine Ct.ofV (by decide +kernel) 0 (lv0 := [some (.ref (gad g 49)), some (.int x0_)]) rfl rfl (fun M hC => ?_)
  have hP : (Dt none w) none w := ⟨rfl, rfl⟩
  generalize Dt none w = P at hP ⊢
  unfold fX11_expects at h
  refine v_aload_n (pc := 0) hC dX11_expects_0 rfl ?_
  refine v_gt (pc := 1) 26 (.int (gI s 49 26)) hC s_49 rfl rfl rfl rfl fl_X11_255 dX11_expects_1 ?_
  refine v_iconst (pc := 4) (-1 : Int32) rfl hC dX11_expects_4 ?_
  obtain ⟨w1, hw1, h⟩ := obd_s h
  have kj2 : V SS g M iX11_expects (PQ SS g M P) 24 [some (.ref (gad g 49)), none] [] w1 := by
    refine v_aload_n (pc := 24) hC dX11_expects_24 rfl ?_
    refine v_dup (pc := 25) hC rfl dX11_expects_25 ?_
    refine v_gt (pc := 26) 25 (.int (gI w1 49 25)) hC s_49 rfl rfl rfl rfl fl_X11_252 dX11_expects_26 ?_
    refine v_iconst (pc := 29) (1 : Int32) rfl hC dX11_expects_29 ?_
    refine v_iadd (pc := 30) hC dX11_expects_30 ?_
    obtain ⟨s3, hs3, h⟩ := bnd_s h
    refine v_pI (pc := 31) 25 hC s_49 rfl rfl rfl rfl rfl rfl fl_X11_252 hs3 dX11_expects_31 ?_
    obtain rfl := Option.some.inj h
    exact v_vret (pc := 34) hC rfl dX11_expects_34 hP
  refine v_ic_ne (pc := 5) (tgt := 24) hC dX11_expects_5 rfl (fun c4 => ?_) (fun c4 => ?_)
  · replace hw1 := (if_neg c4).symm.trans hw1
    obtain rfl := Option.some.inj hw1
    exact V.ls (ls_some (ls_none ls_nil)) kj2
  · replace hw1 := (if_pos c4).symm.trans hw1
    refine v_aload_n (pc := 8) hC dX11_expects_8 rfl ?_
    obtain ⟨w5, hw5, hw1⟩ := obd_s hw1
    refine v_cV (pc := 9) [] [.int w5.1] gm_X11_byteNow hC s_49 rfl rfl (ct_X11_byteNow  hw5) ml_X11_258 rfl rfl rfl rfl rfl rfl dX11_expects_9 ?_
    refine v_iload_n (pc := 12) hC dX11_expects_12 rfl ?_
    refine v_ic_eq (pc := 13) (tgt := 24) hC dX11_expects_13 rfl (fun c6 => ?_) (fun c6 => ?_)
    · replace hw1 := (if_pos c6).symm.trans hw1
      obtain rfl := Option.some.inj hw1
      exact V.ls (ls_some (ls_none ls_nil)) kj2
    · replace hw1 := (if_neg c6).symm.trans hw1
      refine v_aload_n (pc := 16) hC dX11_expects_16 rfl ?_
      refine v_aload_n (pc := 17) hC dX11_expects_17 rfl ?_
      refine v_gt (pc := 18) 25 (.int (gI w5.2 49 25)) hC s_49 rfl rfl rfl rfl fl_X11_252 dX11_expects_18 ?_
      obtain ⟨s7, hs7, hw1⟩ := bnd_s hw1
      refine v_pI (pc := 21) 26 hC s_49 rfl rfl rfl rfl rfl rfl fl_X11_255 hs7 dX11_expects_21 ?_
      obtain rfl := Option.some.inj hw1
      exact V.ls (ls_some (ls_none ls_nil)) kj2
theorem dX11_number_0 : decode cX11_number 0 = .ok (.aload_n 0, 1) := by decide +kernel
theorem dX11_number_1 : decode cX11_number 1 = .ok (.getfield 252, 3) := by decide +kernel
theorem dX11_number_4 : decode cX11_number 4 = .ok (.istore_n 2, 1) := by decide +kernel
theorem dX11_number_5 : decode cX11_number 5 = .ok (.iconst 0, 1) := by decide +kernel
theorem dX11_number_6 : decode cX11_number 6 = .ok (.istore_n 3, 1) := by decide +kernel
theorem dX11_number_7 : decode cX11_number 7 = .ok (.aload_n 0, 1) := by decide +kernel
theorem dX11_number_8 : decode cX11_number 8 = .ok (.getfield 255, 3) := by decide +kernel
theorem dX11_number_11 : decode cX11_number 11 = .ok (.iconst (-1), 1) := by decide +kernel
theorem dX11_number_12 : decode cX11_number 12 = .ok (.if_icmp .ne 57, 3) := by decide +kernel
theorem dX11_number_15 : decode cX11_number 15 = .ok (.aload_n 0, 1) := by decide +kernel
theorem dX11_number_16 : decode cX11_number 16 = .ok (.getfield 252, 3) := by decide +kernel
theorem dX11_number_19 : decode cX11_number 19 = .ok (.iload_n 2, 1) := by decide +kernel
theorem dX11_number_20 : decode cX11_number 20 = .ok (.iload_n 1, 1) := by decide +kernel
theorem dX11_number_21 : decode cX11_number 21 = .ok (.iadd, 1) := by decide +kernel
theorem dX11_number_22 : decode cX11_number 22 = .ok (.if_icmp .ge 47, 3) := by decide +kernel
theorem dX11_number_25 : decode cX11_number 25 = .ok (.aload_n 0, 1) := by decide +kernel
theorem dX11_number_26 : decode cX11_number 26 = .ok (.invokevirtual 258, 3) := by decide +kernel
theorem dX11_number_29 : decode cX11_number 29 = .ok (.bipush 48, 2) := by decide +kernel
theorem dX11_number_31 : decode cX11_number 31 = .ok (.if_icmp .lt 38, 3) := by decide +kernel
theorem dX11_number_34 : decode cX11_number 34 = .ok (.aload_n 0, 1) := by decide +kernel
theorem dX11_number_35 : decode cX11_number 35 = .ok (.invokevirtual 258, 3) := by decide +kernel
theorem dX11_number_38 : decode cX11_number 38 = .ok (.bipush 57, 2) := by decide +kernel
theorem dX11_number_40 : decode cX11_number 40 = .ok (.if_icmp .gt 29, 3) := by decide +kernel
theorem dX11_number_43 : decode cX11_number 43 = .ok (.bipush 10, 2) := by decide +kernel
theorem dX11_number_45 : decode cX11_number 45 = .ok (.iload_n 3, 1) := by decide +kernel
theorem dX11_number_46 : decode cX11_number 46 = .ok (.imul, 1) := by decide +kernel
theorem dX11_number_47 : decode cX11_number 47 = .ok (.aload_n 0, 1) := by decide +kernel
theorem dX11_number_48 : decode cX11_number 48 = .ok (.invokevirtual 258, 3) := by decide +kernel
theorem dX11_number_51 : decode cX11_number 51 = .ok (.iadd, 1) := by decide +kernel
theorem dX11_number_52 : decode cX11_number 52 = .ok (.bipush 48, 2) := by decide +kernel
theorem dX11_number_54 : decode cX11_number 54 = .ok (.isub, 1) := by decide +kernel
theorem dX11_number_55 : decode cX11_number 55 = .ok (.istore_n 3, 1) := by decide +kernel
theorem dX11_number_56 : decode cX11_number 56 = .ok (.aload_n 0, 1) := by decide +kernel
theorem dX11_number_57 : decode cX11_number 57 = .ok (.dup, 1) := by decide +kernel
theorem dX11_number_58 : decode cX11_number 58 = .ok (.getfield 252, 3) := by decide +kernel
theorem dX11_number_61 : decode cX11_number 61 = .ok (.iconst 1, 1) := by decide +kernel
theorem dX11_number_62 : decode cX11_number 62 = .ok (.iadd, 1) := by decide +kernel
theorem dX11_number_63 : decode cX11_number 63 = .ok (.putfield 252, 3) := by decide +kernel
theorem dX11_number_66 : decode cX11_number 66 = .ok (.goto (-59), 3) := by decide +kernel
theorem dX11_number_69 : decode cX11_number 69 = .ok (.aload_n 0, 1) := by decide +kernel
theorem dX11_number_70 : decode cX11_number 70 = .ok (.getfield 255, 3) := by decide +kernel
theorem dX11_number_73 : decode cX11_number 73 = .ok (.iconst (-1), 1) := by decide +kernel
theorem dX11_number_74 : decode cX11_number 74 = .ok (.if_icmp .ne 19, 3) := by decide +kernel
theorem dX11_number_77 : decode cX11_number 77 = .ok (.aload_n 0, 1) := by decide +kernel
theorem dX11_number_78 : decode cX11_number 78 = .ok (.getfield 252, 3) := by decide +kernel
theorem dX11_number_81 : decode cX11_number 81 = .ok (.iload_n 2, 1) := by decide +kernel
theorem dX11_number_82 : decode cX11_number 82 = .ok (.if_icmp .ne 11, 3) := by decide +kernel
theorem dX11_number_85 : decode cX11_number 85 = .ok (.aload_n 0, 1) := by decide +kernel
theorem dX11_number_86 : decode cX11_number 86 = .ok (.aload_n 0, 1) := by decide +kernel
theorem dX11_number_87 : decode cX11_number 87 = .ok (.getfield 252, 3) := by decide +kernel
theorem dX11_number_90 : decode cX11_number 90 = .ok (.putfield 255, 3) := by decide +kernel
theorem dX11_number_93 : decode cX11_number 93 = .ok (.iload_n 3, 1) := by decide +kernel
theorem dX11_number_94 : decode cX11_number 94 = .ok (.ireturn, 1) := by decide +kernel
def fX11_number_L7 (p1 : Int32) (p2 : Int32) (a : Int32) (s : Sg) : Option (((Int32) ⊕ (Int32)) × Sg) :=
  if (gI s 49 26) = (-1 : Int32) then
  if (p2 + p1) ≤ (gI s 49 25) then
  some (.inr a, s)
  else
  (fX11_byteNow s).bind fun w3 =>
  if w3.1 < (48 : Int32) then
  some (.inr a, w3.2)
  else
  (fX11_byteNow w3.2).bind fun w5 =>
  if (57 : Int32) < w5.1 then
  some (.inr a, w5.2)
  else
  (fX11_byteNow w5.2).bind fun w7 =>
  bnd ((((10 : Int32) * a) + w7.1) - (48 : Int32)) fun x8 =>
  bnd (sI w7.2 49 25 ((gI w7.2 49 25) + (1 : Int32))) fun s9 =>
  some (.inl x8, s9)
  else
  some (.inr a, s)
def fX11_number (x0_ : Int32) (s : Sg) : Option (Int32 × Sg) :=
  bnd (gI s 49 25) fun x1 =>
  (lpG (fX11_number_L7 x0_ x1) FU (0 : Int32) s).bind fun w2 =>
  if (gI w2.2 49 26) = (-1 : Int32) then
  if (gI w2.2 49 25) = x1 then
  bnd (sI w2.2 49 26 (gI w2.2 49 25)) fun s5 =>
  some (w2.1, s5)
  else
  some (w2.1, w2.2)
  else
  some (w2.1, w2.2)
theorem ct_X11_number {g : Gl} {x0_ : Int32} {s : Sg} {w : Int32 × Sg}  (h : fX11_number x0_ s = some w) : Ct SS g iX11_number 1 20 [.ref (gad g 49), .int x0_] s (Dt (some (.int w.1)) w.2) := by
  refine Ct.ofV (by decide +kernel) 2 (lv0 := [some (.ref (gad g 49)), some (.int x0_), none, none]) rfl rfl (fun M hC => ?_)
  have hP : (Dt (some (.int w.1)) w.2) (some (.int w.1)) w.2 := ⟨rfl, rfl⟩
  generalize Dt (some (.int w.1)) w.2 = P at hP ⊢
  unfold fX11_number at h
  refine v_aload_n (pc := 0) hC dX11_number_0 rfl ?_
  refine v_gt (pc := 1) 25 (.int (gI s 49 25)) hC s_49 rfl rfl rfl rfl fl_X11_252 dX11_number_1 ?_
  obtain ⟨x1, hx1, h⟩ := bnd_s h
  refine v_istore_n (pc := 4) (lv' := [some (.ref (gad g 49)), some (.int x0_), some (.int x1), none]) hC dX11_number_4 hx1 rfl rfl rfl ?_
  refine v_iconst (pc := 5) (0 : Int32) rfl hC dX11_number_5 ?_
  refine v_istore_n (pc := 6) (lv' := [some (.ref (gad g 49)), some (.int x0_), some (.int x1), some (.int (0 : Int32))]) hC dX11_number_6 rfl rfl rfl rfl ?_
  obtain ⟨w2, hw2, h⟩ := obd_s h
  have kx21 : V SS g M iX11_number (PQ SS g M P) 69 [some (.ref (gad g 49)), none, some (.int x1), some (.int w2.1)] [] w2.2 := by
    refine v_aload_n (pc := 69) hC dX11_number_69 rfl ?_
    refine v_gt (pc := 70) 26 (.int (gI w2.2 49 26)) hC s_49 rfl rfl rfl rfl fl_X11_255 dX11_number_70 ?_
    refine v_iconst (pc := 73) (-1 : Int32) rfl hC dX11_number_73 ?_
    refine v_ic_ne (pc := 74) (tgt := 93) hC dX11_number_74 rfl (fun c3 => ?_) (fun c3 => ?_)
    · replace h := (if_neg c3).symm.trans h
      refine v_iload_n (pc := 93) hC dX11_number_93 rfl ?_
      obtain rfl := Option.some.inj h
      exact v_iret (pc := 94) hC rfl dX11_number_94 hP
    · replace h := (if_pos c3).symm.trans h
      refine v_aload_n (pc := 77) hC dX11_number_77 rfl ?_
      refine v_gt (pc := 78) 25 (.int (gI w2.2 49 25)) hC s_49 rfl rfl rfl rfl fl_X11_252 dX11_number_78 ?_
      refine v_iload_n (pc := 81) hC dX11_number_81 rfl ?_
      refine v_ic_ne (pc := 82) (tgt := 93) hC dX11_number_82 rfl (fun c4 => ?_) (fun c4 => ?_)
      · replace h := (if_neg c4).symm.trans h
        refine v_iload_n (pc := 93) hC dX11_number_93 rfl ?_
        obtain rfl := Option.some.inj h
        exact v_iret (pc := 94) hC rfl dX11_number_94 hP
      · replace h := (if_pos c4).symm.trans h
        refine v_aload_n (pc := 85) hC dX11_number_85 rfl ?_
        refine v_aload_n (pc := 86) hC dX11_number_86 rfl ?_
        refine v_gt (pc := 87) 25 (.int (gI w2.2 49 25)) hC s_49 rfl rfl rfl rfl fl_X11_252 dX11_number_87 ?_
        obtain ⟨s5, hs5, h⟩ := bnd_s h
        refine v_pI (pc := 90) 26 hC s_49 rfl rfl rfl rfl rfl rfl fl_X11_255 hs5 dX11_number_90 ?_
        refine v_iload_n (pc := 93) hC dX11_number_93 rfl ?_
        obtain rfl := Option.some.inj h
        exact v_iret (pc := 94) hC rfl dX11_number_94 hP
  refine V.ls (ls_some (ls_some (ls_some (ls_some ls_nil)))) (v_loop (pc := 7) (fun a8 => [some (.ref (gad g 49)), some (.int x0_), some (.int x1), some (.int a8)]) (fun z t => V SS g M iX11_number (PQ SS g M P) 69 [some (.ref (gad g 49)), none, some (.int x1), some (.int z)] [] t) (fun a8 s6 u7 hu7 k9 k10 => ?_) _ _ _ _ hw2 kx21)
  unfold fX11_number_L7 at hu7
  refine v_aload_n (pc := 7) hC dX11_number_7 rfl ?_
  refine v_gt (pc := 8) 26 (.int (gI s6 49 26)) hC s_49 rfl rfl rfl rfl fl_X11_255 dX11_number_8 ?_
  refine v_iconst (pc := 11) (-1 : Int32) rfl hC dX11_number_11 ?_
  refine v_ic_ne (pc := 12) (tgt := 69) hC dX11_number_12 rfl (fun c12 => ?_) (fun c12 => ?_)
  · replace hu7 := (if_neg c12).symm.trans hu7
    obtain rfl := Option.some.inj hu7
    exact V.ls (ls_some (ls_none (ls_some (ls_some ls_nil)))) (k10 _ rfl)
  · replace hu7 := (if_pos c12).symm.trans hu7
    refine v_aload_n (pc := 15) hC dX11_number_15 rfl ?_
    refine v_gt (pc := 16) 25 (.int (gI s6 49 25)) hC s_49 rfl rfl rfl rfl fl_X11_252 dX11_number_16 ?_
    refine v_iload_n (pc := 19) hC dX11_number_19 rfl ?_
    refine v_iload_n (pc := 20) hC dX11_number_20 rfl ?_
    refine v_iadd (pc := 21) hC dX11_number_21 ?_
    refine v_ic_ge (pc := 22) (tgt := 69) hC dX11_number_22 rfl (fun c13 => ?_) (fun c13 => ?_)
    · replace hu7 := (if_pos c13).symm.trans hu7
      obtain rfl := Option.some.inj hu7
      exact V.ls (ls_some (ls_none (ls_some (ls_some ls_nil)))) (k10 _ rfl)
    · replace hu7 := (if_neg c13).symm.trans hu7
      refine v_aload_n (pc := 25) hC dX11_number_25 rfl ?_
      obtain ⟨w14, hw14, hu7⟩ := obd_s hu7
      refine v_cV (pc := 26) [] [.int w14.1] gm_X11_byteNow hC s_49 rfl rfl (ct_X11_byteNow  hw14) ml_X11_258 rfl rfl rfl rfl rfl rfl dX11_number_26 ?_
      refine v_bipush (pc := 29) (48 : Int32) rfl hC dX11_number_29 ?_
      refine v_ic_lt (pc := 31) (tgt := 69) hC dX11_number_31 rfl (fun c15 => ?_) (fun c15 => ?_)
      · replace hu7 := (if_pos c15).symm.trans hu7
        obtain rfl := Option.some.inj hu7
        exact V.ls (ls_some (ls_none (ls_some (ls_some ls_nil)))) (k10 _ rfl)
      · replace hu7 := (if_neg c15).symm.trans hu7
        refine v_aload_n (pc := 34) hC dX11_number_34 rfl ?_
        obtain ⟨w16, hw16, hu7⟩ := obd_s hu7
        refine v_cV (pc := 35) [] [.int w16.1] gm_X11_byteNow hC s_49 rfl rfl (ct_X11_byteNow  hw16) ml_X11_258 rfl rfl rfl rfl rfl rfl dX11_number_35 ?_
        refine v_bipush (pc := 38) (57 : Int32) rfl hC dX11_number_38 ?_
        refine v_ic_gt (pc := 40) (tgt := 69) hC dX11_number_40 rfl (fun c17 => ?_) (fun c17 => ?_)
        · replace hu7 := (if_pos c17).symm.trans hu7
          obtain rfl := Option.some.inj hu7
          exact V.ls (ls_some (ls_none (ls_some (ls_some ls_nil)))) (k10 _ rfl)
        · replace hu7 := (if_neg c17).symm.trans hu7
          refine v_bipush (pc := 43) (10 : Int32) rfl hC dX11_number_43 ?_
          refine v_iload_n (pc := 45) hC dX11_number_45 rfl ?_
          refine v_imul (pc := 46) hC dX11_number_46 ?_
          refine v_aload_n (pc := 47) hC dX11_number_47 rfl ?_
          obtain ⟨w18, hw18, hu7⟩ := obd_s hu7
          refine v_cV (pc := 48) [.int ((10 : Int32) * a8)] [.int w18.1, .int ((10 : Int32) * a8)] gm_X11_byteNow hC s_49 rfl rfl (ct_X11_byteNow  hw18) ml_X11_258 rfl rfl rfl rfl rfl rfl dX11_number_48 ?_
          refine v_iadd (pc := 51) hC dX11_number_51 ?_
          refine v_bipush (pc := 52) (48 : Int32) rfl hC dX11_number_52 ?_
          refine v_isub (pc := 54) hC dX11_number_54 ?_
          obtain ⟨x19, hx19, hu7⟩ := bnd_s hu7
          refine v_istore_n (pc := 55) (lv' := [some (.ref (gad g 49)), some (.int x0_), some (.int x1), some (.int x19)]) hC dX11_number_55 hx19 rfl rfl rfl ?_
          refine v_aload_n (pc := 56) hC dX11_number_56 rfl ?_
          refine v_dup (pc := 57) hC rfl dX11_number_57 ?_
          refine v_gt (pc := 58) 25 (.int (gI w18.2 49 25)) hC s_49 rfl rfl rfl rfl fl_X11_252 dX11_number_58 ?_
          refine v_iconst (pc := 61) (1 : Int32) rfl hC dX11_number_61 ?_
          refine v_iadd (pc := 62) hC dX11_number_62 ?_
          obtain ⟨s20, hs20, hu7⟩ := bnd_s hu7
          refine v_pI (pc := 63) 25 hC s_49 rfl rfl rfl rfl rfl rfl fl_X11_252 hs20 dX11_number_63 ?_
          refine v_goto (pc := 66) (tgt := 7) hC dX11_number_66 rfl ?_
          obtain rfl := Option.some.inj hu7
          exact V.ls (ls_some (ls_some (ls_some (ls_some ls_nil)))) (k9 _ rfl)
theorem dX11_part_0 : decode cX11_part 0 = .ok (.aload_n 0, 1) := by decide +kernel
theorem dX11_part_1 : decode cX11_part 1 = .ok (.invokevirtual 258, 3) := by decide +kernel
theorem dX11_part_4 : decode cX11_part 4 = .ok (.istore_n 1, 1) := by decide +kernel
theorem dX11_part_5 : decode cX11_part 5 = .ok (.iload_n 1, 1) := by decide +kernel
theorem dX11_part_6 : decode cX11_part 6 = .ok (.bipush 112, 2) := by decide +kernel
theorem dX11_part_8 : decode cX11_part 8 = .ok (.if_icmp .eq 24, 3) := by decide +kernel
theorem dX11_part_11 : decode cX11_part 11 = .ok (.iload_n 1, 1) := by decide +kernel
theorem dX11_part_12 : decode cX11_part 12 = .ok (.bipush 102, 2) := by decide +kernel
theorem dX11_part_14 : decode cX11_part 14 = .ok (.if_icmp .eq 18, 3) := by decide +kernel
theorem dX11_part_17 : decode cX11_part 17 = .ok (.iload_n 1, 1) := by decide +kernel
theorem dX11_part_18 : decode cX11_part 18 = .ok (.bipush 114, 2) := by decide +kernel
theorem dX11_part_20 : decode cX11_part 20 = .ok (.if_icmp .eq 12, 3) := by decide +kernel
theorem dX11_part_23 : decode cX11_part 23 = .ok (.aload_n 0, 1) := by decide +kernel
theorem dX11_part_24 : decode cX11_part 24 = .ok (.aload_n 0, 1) := by decide +kernel
theorem dX11_part_25 : decode cX11_part 25 = .ok (.getfield 252, 3) := by decide +kernel
theorem dX11_part_28 : decode cX11_part 28 = .ok (.putfield 255, 3) := by decide +kernel
theorem dX11_part_31 : decode cX11_part 31 = .ok (.return_, 1) := by decide +kernel
theorem dX11_part_32 : decode cX11_part 32 = .ok (.aload_n 0, 1) := by decide +kernel
theorem dX11_part_33 : decode cX11_part 33 = .ok (.dup, 1) := by decide +kernel
theorem dX11_part_34 : decode cX11_part 34 = .ok (.getfield 252, 3) := by decide +kernel
theorem dX11_part_37 : decode cX11_part 37 = .ok (.iconst 1, 1) := by decide +kernel
theorem dX11_part_38 : decode cX11_part 38 = .ok (.iadd, 1) := by decide +kernel
theorem dX11_part_39 : decode cX11_part 39 = .ok (.putfield 252, 3) := by decide +kernel
theorem dX11_part_42 : decode cX11_part 42 = .ok (.iconst 0, 1) := by decide +kernel
theorem dX11_part_43 : decode cX11_part 43 = .ok (.istore_n 2, 1) := by decide +kernel
theorem dX11_part_44 : decode cX11_part 44 = .ok (.iload_n 1, 1) := by decide +kernel
theorem dX11_part_45 : decode cX11_part 45 = .ok (.bipush 112, 2) := by decide +kernel
theorem dX11_part_47 : decode cX11_part 47 = .ok (.if_icmp .ne 37, 3) := by decide +kernel
theorem dX11_part_50 : decode cX11_part 50 = .ok (.aload_n 0, 1) := by decide +kernel
theorem dX11_part_51 : decode cX11_part 51 = .ok (.invokevirtual 258, 3) := by decide +kernel
theorem dX11_part_54 : decode cX11_part 54 = .ok (.bipush 48, 2) := by decide +kernel
theorem dX11_part_56 : decode cX11_part 56 = .ok (.isub, 1) := by decide +kernel
theorem dX11_part_57 : decode cX11_part 57 = .ok (.istore_n 2, 1) := by decide +kernel
theorem dX11_part_58 : decode cX11_part 58 = .ok (.iload_n 2, 1) := by decide +kernel
theorem dX11_part_59 : decode cX11_part 59 = .ok (.invokestatic 112, 3) := by decide +kernel
theorem dX11_part_62 : decode cX11_part 62 = .ok (.ifCond .ne 12, 3) := by decide +kernel
theorem dX11_part_65 : decode cX11_part 65 = .ok (.aload_n 0, 1) := by decide +kernel
theorem dX11_part_66 : decode cX11_part 66 = .ok (.aload_n 0, 1) := by decide +kernel
theorem dX11_part_67 : decode cX11_part 67 = .ok (.getfield 252, 3) := by decide +kernel
theorem dX11_part_70 : decode cX11_part 70 = .ok (.putfield 255, 3) := by decide +kernel
theorem dX11_part_73 : decode cX11_part 73 = .ok (.return_, 1) := by decide +kernel
theorem dX11_part_74 : decode cX11_part 74 = .ok (.aload_n 0, 1) := by decide +kernel
theorem dX11_part_75 : decode cX11_part 75 = .ok (.dup, 1) := by decide +kernel
theorem dX11_part_76 : decode cX11_part 76 = .ok (.getfield 252, 3) := by decide +kernel
theorem dX11_part_79 : decode cX11_part 79 = .ok (.iconst 1, 1) := by decide +kernel
theorem dX11_part_80 : decode cX11_part 80 = .ok (.iadd, 1) := by decide +kernel
theorem dX11_part_81 : decode cX11_part 81 = .ok (.putfield 252, 3) := by decide +kernel
theorem dX11_part_84 : decode cX11_part 84 = .ok (.aload_n 0, 1) := by decide +kernel
theorem dX11_part_85 : decode cX11_part 85 = .ok (.bipush 61, 2) := by decide +kernel
theorem dX11_part_87 : decode cX11_part 87 = .ok (.invokevirtual 261, 3) := by decide +kernel
theorem dX11_part_90 : decode cX11_part 90 = .ok (.iload_n 1, 1) := by decide +kernel
theorem dX11_part_91 : decode cX11_part 91 = .ok (.bipush 112, 2) := by decide +kernel
theorem dX11_part_93 : decode cX11_part 93 = .ok (.if_icmp .ne 16, 3) := by decide +kernel
theorem dX11_part_96 : decode cX11_part 96 = .ok (.aload_n 0, 1) := by decide +kernel
theorem dX11_part_97 : decode cX11_part 97 = .ok (.invokevirtual 258, 3) := by decide +kernel
theorem dX11_part_100 : decode cX11_part 100 = .ok (.bipush 45, 2) := by decide +kernel
theorem dX11_part_102 : decode cX11_part 102 = .ok (.if_icmp .ne 7, 3) := by decide +kernel
theorem dX11_part_105 : decode cX11_part 105 = .ok (.iconst 1, 1) := by decide +kernel
theorem dX11_part_106 : decode cX11_part 106 = .ok (.goto 4, 3) := by decide +kernel
theorem dX11_part_109 : decode cX11_part 109 = .ok (.iconst 0, 1) := by decide +kernel
theorem dX11_part_110 : decode cX11_part 110 = .ok (.istore_n 3, 1) := by decide +kernel
theorem dX11_part_111 : decode cX11_part 111 = .ok (.aload_n 0, 1) := by decide +kernel
theorem dX11_part_112 : decode cX11_part 112 = .ok (.dup, 1) := by decide +kernel
theorem dX11_part_113 : decode cX11_part 113 = .ok (.getfield 252, 3) := by decide +kernel
theorem dX11_part_116 : decode cX11_part 116 = .ok (.iload_n 3, 1) := by decide +kernel
theorem dX11_part_117 : decode cX11_part 117 = .ok (.ifCond .eq 7, 3) := by decide +kernel
theorem dX11_part_120 : decode cX11_part 120 = .ok (.iconst 1, 1) := by decide +kernel
theorem dX11_part_121 : decode cX11_part 121 = .ok (.goto 4, 3) := by decide +kernel
theorem dX11_part_124 : decode cX11_part 124 = .ok (.iconst 0, 1) := by decide +kernel
theorem dX11_part_125 : decode cX11_part 125 = .ok (.iadd, 1) := by decide +kernel
theorem dX11_part_126 : decode cX11_part 126 = .ok (.putfield 252, 3) := by decide +kernel
theorem dX11_part_129 : decode cX11_part 129 = .ok (.aload_n 0, 1) := by decide +kernel
theorem dX11_part_130 : decode cX11_part 130 = .ok (.iload_n 1, 1) := by decide +kernel
theorem dX11_part_131 : decode cX11_part 131 = .ok (.bipush 114, 2) := by decide +kernel
theorem dX11_part_133 : decode cX11_part 133 = .ok (.if_icmp .ne 7, 3) := by decide +kernel
theorem dX11_part_136 : decode cX11_part 136 = .ok (.iconst 1, 1) := by decide +kernel
theorem dX11_part_137 : decode cX11_part 137 = .ok (.goto 4, 3) := by decide +kernel
theorem dX11_part_140 : decode cX11_part 140 = .ok (.iconst 2, 1) := by decide +kernel
theorem dX11_part_141 : decode cX11_part 141 = .ok (.invokevirtual 264, 3) := by decide +kernel
theorem dX11_part_144 : decode cX11_part 144 = .ok (.istore 4, 2) := by decide +kernel
theorem dX11_part_146 : decode cX11_part 146 = .ok (.aload_n 0, 1) := by decide +kernel
theorem dX11_part_147 : decode cX11_part 147 = .ok (.getfield 255, 3) := by decide +kernel
theorem dX11_part_150 : decode cX11_part 150 = .ok (.iconst (-1), 1) := by decide +kernel
theorem dX11_part_151 : decode cX11_part 151 = .ok (.if_icmp .ne 65, 3) := by decide +kernel
theorem dX11_part_154 : decode cX11_part 154 = .ok (.iload_n 1, 1) := by decide +kernel
theorem dX11_part_155 : decode cX11_part 155 = .ok (.bipush 112, 2) := by decide +kernel
theorem dX11_part_157 : decode cX11_part 157 = .ok (.if_icmp .ne 21, 3) := by decide +kernel
theorem dX11_part_160 : decode cX11_part 160 = .ok (.aload_n 0, 1) := by decide +kernel
theorem dX11_part_161 : decode cX11_part 161 = .ok (.getfield 65, 3) := by decide +kernel
theorem dX11_part_164 : decode cX11_part 164 = .ok (.iload_n 2, 1) := by decide +kernel
theorem dX11_part_165 : decode cX11_part 165 = .ok (.iload_n 3, 1) := by decide +kernel
theorem dX11_part_166 : decode cX11_part 166 = .ok (.ifCond .eq 9, 3) := by decide +kernel
theorem dX11_part_169 : decode cX11_part 169 = .ok (.iload 4, 2) := by decide +kernel
theorem dX11_part_171 : decode cX11_part 171 = .ok (.ineg, 1) := by decide +kernel
theorem dX11_part_172 : decode cX11_part 172 = .ok (.goto 5, 3) := by decide +kernel
theorem dX11_part_175 : decode cX11_part 175 = .ok (.iload 4, 2) := by decide +kernel
theorem dX11_part_177 : decode cX11_part 177 = .ok (.iastore, 1) := by decide +kernel
theorem dX11_part_178 : decode cX11_part 178 = .ok (.aload_n 0, 1) := by decide +kernel
theorem dX11_part_179 : decode cX11_part 179 = .ok (.iload_n 1, 1) := by decide +kernel
theorem dX11_part_180 : decode cX11_part 180 = .ok (.bipush 102, 2) := by decide +kernel
theorem dX11_part_182 : decode cX11_part 182 = .ok (.if_icmp .ne 8, 3) := by decide +kernel
theorem dX11_part_185 : decode cX11_part 185 = .ok (.iload 4, 2) := by decide +kernel
theorem dX11_part_187 : decode cX11_part 187 = .ok (.goto 7, 3) := by decide +kernel
theorem dX11_part_190 : decode cX11_part 190 = .ok (.aload_n 0, 1) := by decide +kernel
theorem dX11_part_191 : decode cX11_part 191 = .ok (.getfield 267, 3) := by decide +kernel
theorem dX11_part_194 : decode cX11_part 194 = .ok (.putfield 267, 3) := by decide +kernel
theorem dX11_part_197 : decode cX11_part 197 = .ok (.aload_n 0, 1) := by decide +kernel
theorem dX11_part_198 : decode cX11_part 198 = .ok (.iload_n 1, 1) := by decide +kernel
theorem dX11_part_199 : decode cX11_part 199 = .ok (.bipush 114, 2) := by decide +kernel
theorem dX11_part_201 : decode cX11_part 201 = .ok (.if_icmp .ne 8, 3) := by decide +kernel
theorem dX11_part_204 : decode cX11_part 204 = .ok (.iload 4, 2) := by decide +kernel
theorem dX11_part_206 : decode cX11_part 206 = .ok (.goto 7, 3) := by decide +kernel
theorem dX11_part_209 : decode cX11_part 209 = .ok (.aload_n 0, 1) := by decide +kernel
theorem dX11_part_210 : decode cX11_part 210 = .ok (.getfield 270, 3) := by decide +kernel
theorem dX11_part_213 : decode cX11_part 213 = .ok (.putfield 270, 3) := by decide +kernel
theorem dX11_part_216 : decode cX11_part 216 = .ok (.return_, 1) := by decide +kernel
def fX11_part  (s : Sg) : Option (Sg) :=
  (fX11_byteNow s).bind fun w1 =>
  if w1.1 = (112 : Int32) then
  bnd (sI w1.2 49 25 ((gI w1.2 49 25) + (1 : Int32))) fun s2 =>
  if w1.1 = (112 : Int32) then
  (fX11_byteNow s2).bind fun w33 =>
  bnd (w33.1 - (48 : Int32)) fun x34 =>
  (fX11_isLane x34 w33.2).bind fun w35 =>
  if w35.1 = 0 then
  bnd (sI w35.2 49 26 (gI w35.2 49 25)) fun s67 =>
  some s67
  else
  bnd (sI w35.2 49 25 ((gI w35.2 49 25) + (1 : Int32))) fun s36 =>
  (fX11_expects (61 : Int32) s36).bind fun w37 =>
  ((if w1.1 = (112 : Int32) then
  (fX11_byteNow w37).bind fun w64 =>
  if w64.1 = (45 : Int32) then
  some ((1 : Int32), w64.2)
  else
  some ((0 : Int32), w64.2)
  else
  some ((0 : Int32), w37)) : Option (Int32 × Sg)).bind fun w38 =>
  ((if w38.1 = 0 then
  some (0 : Int32)
  else
  some (1 : Int32)) : Option (Int32)).bind fun w40 =>
  bnd (sI w38.2 49 25 ((gI w38.2 49 25) + w40)) fun s42 =>
  ((if w1.1 = (114 : Int32) then
  some (1 : Int32)
  else
  some (2 : Int32)) : Option (Int32)).bind fun w43 =>
  (fX11_number w43 s42).bind fun w45 =>
  if (gI w45.2 49 26) = (-1 : Int32) then
  ((if w1.1 = (112 : Int32) then
  ((if w38.1 = 0 then
  some w45.1
  else
  some (-w45.1)) : Option (Int32)).bind fun w57 =>
  (wI w45.2 68 8 x34 w57).bind fun s59 =>
  some s59
  else
  some w45.2) : Option (Sg)).bind fun w47 =>
  ((if w1.1 = (102 : Int32) then
  some w45.1
  else
  some (gI w47 49 23)) : Option (Int32)).bind fun w49 =>
  bnd (sI w47 49 23 w49) fun s51 =>
  if w1.1 = (114 : Int32) then
  bnd (sI s51 49 24 w45.1) fun s54 =>
  some s54
  else
  bnd (sI s51 49 24 (gI s51 49 24)) fun s52 =>
  some s52
  else
  some w45.2
  else
  (fX11_expects (61 : Int32) s2).bind fun w3 =>
  ((if w1.1 = (112 : Int32) then
  (fX11_byteNow w3).bind fun w30 =>
  if w30.1 = (45 : Int32) then
  some ((1 : Int32), w30.2)
  else
  some ((0 : Int32), w30.2)
  else
  some ((0 : Int32), w3)) : Option (Int32 × Sg)).bind fun w4 =>
  ((if w4.1 = 0 then
  some (0 : Int32)
  else
  some (1 : Int32)) : Option (Int32)).bind fun w6 =>
  bnd (sI w4.2 49 25 ((gI w4.2 49 25) + w6)) fun s8 =>
  ((if w1.1 = (114 : Int32) then
  some (1 : Int32)
  else
  some (2 : Int32)) : Option (Int32)).bind fun w9 =>
  (fX11_number w9 s8).bind fun w11 =>
  if (gI w11.2 49 26) = (-1 : Int32) then
  ((if w1.1 = (112 : Int32) then
  ((if w4.1 = 0 then
  some w11.1
  else
  some (-w11.1)) : Option (Int32)).bind fun w23 =>
  (wI w11.2 68 8 (0 : Int32) w23).bind fun s25 =>
  some s25
  else
  some w11.2) : Option (Sg)).bind fun w13 =>
  ((if w1.1 = (102 : Int32) then
  some w11.1
  else
  some (gI w13 49 23)) : Option (Int32)).bind fun w15 =>
  bnd (sI w13 49 23 w15) fun s17 =>
  if w1.1 = (114 : Int32) then
  bnd (sI s17 49 24 w11.1) fun s20 =>
  some s20
  else
  bnd (sI s17 49 24 (gI s17 49 24)) fun s18 =>
  some s18
  else
  some w11.2
  else
  if w1.1 = (102 : Int32) then
  bnd (sI w1.2 49 25 ((gI w1.2 49 25) + (1 : Int32))) fun s69 =>
  if w1.1 = (112 : Int32) then
  (fX11_byteNow s69).bind fun w100 =>
  bnd (w100.1 - (48 : Int32)) fun x101 =>
  (fX11_isLane x101 w100.2).bind fun w102 =>
  if w102.1 = 0 then
  bnd (sI w102.2 49 26 (gI w102.2 49 25)) fun s134 =>
  some s134
  else
  bnd (sI w102.2 49 25 ((gI w102.2 49 25) + (1 : Int32))) fun s103 =>
  (fX11_expects (61 : Int32) s103).bind fun w104 =>
  ((if w1.1 = (112 : Int32) then
  (fX11_byteNow w104).bind fun w131 =>
  if w131.1 = (45 : Int32) then
  some ((1 : Int32), w131.2)
  else
  some ((0 : Int32), w131.2)
  else
  some ((0 : Int32), w104)) : Option (Int32 × Sg)).bind fun w105 =>
  ((if w105.1 = 0 then
  some (0 : Int32)
  else
  some (1 : Int32)) : Option (Int32)).bind fun w107 =>
  bnd (sI w105.2 49 25 ((gI w105.2 49 25) + w107)) fun s109 =>
  ((if w1.1 = (114 : Int32) then
  some (1 : Int32)
  else
  some (2 : Int32)) : Option (Int32)).bind fun w110 =>
  (fX11_number w110 s109).bind fun w112 =>
  if (gI w112.2 49 26) = (-1 : Int32) then
  ((if w1.1 = (112 : Int32) then
  ((if w105.1 = 0 then
  some w112.1
  else
  some (-w112.1)) : Option (Int32)).bind fun w124 =>
  (wI w112.2 68 8 x101 w124).bind fun s126 =>
  some s126
  else
  some w112.2) : Option (Sg)).bind fun w114 =>
  ((if w1.1 = (102 : Int32) then
  some w112.1
  else
  some (gI w114 49 23)) : Option (Int32)).bind fun w116 =>
  bnd (sI w114 49 23 w116) fun s118 =>
  if w1.1 = (114 : Int32) then
  bnd (sI s118 49 24 w112.1) fun s121 =>
  some s121
  else
  bnd (sI s118 49 24 (gI s118 49 24)) fun s119 =>
  some s119
  else
  some w112.2
  else
  (fX11_expects (61 : Int32) s69).bind fun w70 =>
  ((if w1.1 = (112 : Int32) then
  (fX11_byteNow w70).bind fun w97 =>
  if w97.1 = (45 : Int32) then
  some ((1 : Int32), w97.2)
  else
  some ((0 : Int32), w97.2)
  else
  some ((0 : Int32), w70)) : Option (Int32 × Sg)).bind fun w71 =>
  ((if w71.1 = 0 then
  some (0 : Int32)
  else
  some (1 : Int32)) : Option (Int32)).bind fun w73 =>
  bnd (sI w71.2 49 25 ((gI w71.2 49 25) + w73)) fun s75 =>
  ((if w1.1 = (114 : Int32) then
  some (1 : Int32)
  else
  some (2 : Int32)) : Option (Int32)).bind fun w76 =>
  (fX11_number w76 s75).bind fun w78 =>
  if (gI w78.2 49 26) = (-1 : Int32) then
  ((if w1.1 = (112 : Int32) then
  ((if w71.1 = 0 then
  some w78.1
  else
  some (-w78.1)) : Option (Int32)).bind fun w90 =>
  (wI w78.2 68 8 (0 : Int32) w90).bind fun s92 =>
  some s92
  else
  some w78.2) : Option (Sg)).bind fun w80 =>
  ((if w1.1 = (102 : Int32) then
  some w78.1
  else
  some (gI w80 49 23)) : Option (Int32)).bind fun w82 =>
  bnd (sI w80 49 23 w82) fun s84 =>
  if w1.1 = (114 : Int32) then
  bnd (sI s84 49 24 w78.1) fun s87 =>
  some s87
  else
  bnd (sI s84 49 24 (gI s84 49 24)) fun s85 =>
  some s85
  else
  some w78.2
  else
  if w1.1 = (114 : Int32) then
  bnd (sI w1.2 49 25 ((gI w1.2 49 25) + (1 : Int32))) fun s136 =>
  if w1.1 = (112 : Int32) then
  (fX11_byteNow s136).bind fun w167 =>
  bnd (w167.1 - (48 : Int32)) fun x168 =>
  (fX11_isLane x168 w167.2).bind fun w169 =>
  if w169.1 = 0 then
  bnd (sI w169.2 49 26 (gI w169.2 49 25)) fun s201 =>
  some s201
  else
  bnd (sI w169.2 49 25 ((gI w169.2 49 25) + (1 : Int32))) fun s170 =>
  (fX11_expects (61 : Int32) s170).bind fun w171 =>
  ((if w1.1 = (112 : Int32) then
  (fX11_byteNow w171).bind fun w198 =>
  if w198.1 = (45 : Int32) then
  some ((1 : Int32), w198.2)
  else
  some ((0 : Int32), w198.2)
  else
  some ((0 : Int32), w171)) : Option (Int32 × Sg)).bind fun w172 =>
  ((if w172.1 = 0 then
  some (0 : Int32)
  else
  some (1 : Int32)) : Option (Int32)).bind fun w174 =>
  bnd (sI w172.2 49 25 ((gI w172.2 49 25) + w174)) fun s176 =>
  ((if w1.1 = (114 : Int32) then
  some (1 : Int32)
  else
  some (2 : Int32)) : Option (Int32)).bind fun w177 =>
  (fX11_number w177 s176).bind fun w179 =>
  if (gI w179.2 49 26) = (-1 : Int32) then
  ((if w1.1 = (112 : Int32) then
  ((if w172.1 = 0 then
  some w179.1
  else
  some (-w179.1)) : Option (Int32)).bind fun w191 =>
  (wI w179.2 68 8 x168 w191).bind fun s193 =>
  some s193
  else
  some w179.2) : Option (Sg)).bind fun w181 =>
  ((if w1.1 = (102 : Int32) then
  some w179.1
  else
  some (gI w181 49 23)) : Option (Int32)).bind fun w183 =>
  bnd (sI w181 49 23 w183) fun s185 =>
  if w1.1 = (114 : Int32) then
  bnd (sI s185 49 24 w179.1) fun s188 =>
  some s188
  else
  bnd (sI s185 49 24 (gI s185 49 24)) fun s186 =>
  some s186
  else
  some w179.2
  else
  (fX11_expects (61 : Int32) s136).bind fun w137 =>
  ((if w1.1 = (112 : Int32) then
  (fX11_byteNow w137).bind fun w164 =>
  if w164.1 = (45 : Int32) then
  some ((1 : Int32), w164.2)
  else
  some ((0 : Int32), w164.2)
  else
  some ((0 : Int32), w137)) : Option (Int32 × Sg)).bind fun w138 =>
  ((if w138.1 = 0 then
  some (0 : Int32)
  else
  some (1 : Int32)) : Option (Int32)).bind fun w140 =>
  bnd (sI w138.2 49 25 ((gI w138.2 49 25) + w140)) fun s142 =>
  ((if w1.1 = (114 : Int32) then
  some (1 : Int32)
  else
  some (2 : Int32)) : Option (Int32)).bind fun w143 =>
  (fX11_number w143 s142).bind fun w145 =>
  if (gI w145.2 49 26) = (-1 : Int32) then
  ((if w1.1 = (112 : Int32) then
  ((if w138.1 = 0 then
  some w145.1
  else
  some (-w145.1)) : Option (Int32)).bind fun w157 =>
  (wI w145.2 68 8 (0 : Int32) w157).bind fun s159 =>
  some s159
  else
  some w145.2) : Option (Sg)).bind fun w147 =>
  ((if w1.1 = (102 : Int32) then
  some w145.1
  else
  some (gI w147 49 23)) : Option (Int32)).bind fun w149 =>
  bnd (sI w147 49 23 w149) fun s151 =>
  if w1.1 = (114 : Int32) then
  bnd (sI s151 49 24 w145.1) fun s154 =>
  some s154
  else
  bnd (sI s151 49 24 (gI s151 49 24)) fun s152 =>
  some s152
  else
  some w145.2
  else
  bnd (sI w1.2 49 26 (gI w1.2 49 25)) fun s203 =>
  some s203
theorem ct_X11_part {g : Gl}  {s : Sg} {w : Sg}  (h : fX11_part s = some w) : Ct SS g iX11_part 2 43 [.ref (gad g 49)] s (Dt none w) := by
  refine Ct.ofV (by decide +kernel) 4 (lv0 := [some (.ref (gad g 49)), none, none, none, none]) rfl rfl (fun M hC => ?_)
  have hP : (Dt none w) none w := ⟨rfl, rfl⟩
  generalize Dt none w = P at hP ⊢
  unfold fX11_part at h
  refine v_aload_n (pc := 0) hC dX11_part_0 rfl ?_
  obtain ⟨w1, hw1, h⟩ := obd_s h
  refine v_cV (pc := 1) [] [.int w1.1] gm_X11_byteNow hC s_49 rfl rfl (ct_X11_byteNow  hw1) ml_X11_258 rfl rfl rfl rfl rfl rfl dX11_part_1 ?_
  refine v_istore_n (pc := 4) (lv' := [some (.ref (gad g 49)), some (.int w1.1), none, none, none]) hC dX11_part_4 rfl rfl rfl rfl ?_
  refine v_iload_n (pc := 5) hC dX11_part_5 rfl ?_
  refine v_bipush (pc := 6) (112 : Int32) rfl hC dX11_part_6 ?_
  refine v_ic_eq (pc := 8) (tgt := 32) hC dX11_part_8 rfl (fun c68 => ?_) (fun c68 => ?_)
  · replace h := (if_pos c68).symm.trans h
    refine v_aload_n (pc := 32) hC dX11_part_32 rfl ?_
    refine v_dup (pc := 33) hC rfl dX11_part_33 ?_
    refine v_gt (pc := 34) 25 (.int (gI w1.2 49 25)) hC s_49 rfl rfl rfl rfl fl_X11_252 dX11_part_34 ?_
    refine v_iconst (pc := 37) (1 : Int32) rfl hC dX11_part_37 ?_
    refine v_iadd (pc := 38) hC dX11_part_38 ?_
    obtain ⟨s2, hs2, h⟩ := bnd_s h
    refine v_pI (pc := 39) 25 hC s_49 rfl rfl rfl rfl rfl rfl fl_X11_252 hs2 dX11_part_39 ?_
    refine v_iconst (pc := 42) (0 : Int32) rfl hC dX11_part_42 ?_
    refine v_istore_n (pc := 43) (lv' := [some (.ref (gad g 49)), some (.int w1.1), some (.int (0 : Int32)), none, none]) hC dX11_part_43 rfl rfl rfl rfl ?_
    refine v_iload_n (pc := 44) hC dX11_part_44 rfl ?_
    refine v_bipush (pc := 45) (112 : Int32) rfl hC dX11_part_45 ?_
    refine v_ic_ne (pc := 47) (tgt := 84) hC dX11_part_47 rfl (fun c32 => ?_) (fun c32 => ?_)
    · replace h := (if_neg c32).symm.trans h
      refine v_aload_n (pc := 84) hC dX11_part_84 rfl ?_
      refine v_bipush (pc := 85) (61 : Int32) rfl hC dX11_part_85 ?_
      obtain ⟨w3, hw3, h⟩ := obd_s h
      refine v_cV (pc := 87) [] [] gm_X11_expects hC s_49 rfl rfl (ct_X11_expects  hw3) ml_X11_261 rfl rfl rfl rfl rfl rfl dX11_part_87 ?_
      refine v_iload_n (pc := 90) hC dX11_part_90 rfl ?_
      refine v_bipush (pc := 91) (112 : Int32) rfl hC dX11_part_91 ?_
      obtain ⟨w4, hw4, h⟩ := obd_s h
      have kj5 : V SS g M iX11_part (PQ SS g M P) 110 [some (.ref (gad g 49)), some (.int w1.1), some (.int (0 : Int32)), none, none] [.int w4.1] w4.2 := by
        refine v_istore_n (pc := 110) (lv' := [some (.ref (gad g 49)), some (.int w1.1), some (.int (0 : Int32)), some (.int w4.1), none]) hC dX11_part_110 rfl rfl rfl rfl ?_
        refine v_aload_n (pc := 111) hC dX11_part_111 rfl ?_
        refine v_dup (pc := 112) hC rfl dX11_part_112 ?_
        refine v_gt (pc := 113) 25 (.int (gI w4.2 49 25)) hC s_49 rfl rfl rfl rfl fl_X11_252 dX11_part_113 ?_
        refine v_iload_n (pc := 116) hC dX11_part_116 rfl ?_
        obtain ⟨w6, hw6, h⟩ := obd_s h
        have kj7 : V SS g M iX11_part (PQ SS g M P) 125 [some (.ref (gad g 49)), some (.int w1.1), some (.int (0 : Int32)), some (.int w4.1), none] [.int w6, .int (gI w4.2 49 25), .ref (gad g 49)] w4.2 := by
          refine v_iadd (pc := 125) hC dX11_part_125 ?_
          obtain ⟨s8, hs8, h⟩ := bnd_s h
          refine v_pI (pc := 126) 25 hC s_49 rfl rfl rfl rfl rfl rfl fl_X11_252 hs8 dX11_part_126 ?_
          refine v_aload_n (pc := 129) hC dX11_part_129 rfl ?_
          refine v_iload_n (pc := 130) hC dX11_part_130 rfl ?_
          refine v_bipush (pc := 131) (114 : Int32) rfl hC dX11_part_131 ?_
          obtain ⟨w9, hw9, h⟩ := obd_s h
          have kj10 : V SS g M iX11_part (PQ SS g M P) 141 [some (.ref (gad g 49)), some (.int w1.1), some (.int (0 : Int32)), some (.int w4.1), none] [.int w9, .ref (gad g 49)] s8 := by
            obtain ⟨w11, hw11, h⟩ := obd_s h
            refine v_cV (pc := 141) [] [.int w11.1] gm_X11_number hC s_49 rfl rfl (ct_X11_number  hw11) ml_X11_264 rfl rfl rfl rfl rfl rfl dX11_part_141 ?_
            refine v_istore (pc := 144) (lv' := [some (.ref (gad g 49)), some (.int w1.1), some (.int (0 : Int32)), some (.int w4.1), some (.int w11.1)]) hC dX11_part_144 rfl rfl rfl rfl ?_
            refine v_aload_n (pc := 146) hC dX11_part_146 rfl ?_
            refine v_gt (pc := 147) 26 (.int (gI w11.2 49 26)) hC s_49 rfl rfl rfl rfl fl_X11_255 dX11_part_147 ?_
            refine v_iconst (pc := 150) (-1 : Int32) rfl hC dX11_part_150 ?_
            refine v_ic_ne (pc := 151) (tgt := 216) hC dX11_part_151 rfl (fun c12 => ?_) (fun c12 => ?_)
            · replace h := (if_neg c12).symm.trans h
              obtain rfl := Option.some.inj h
              exact v_vret (pc := 216) hC rfl dX11_part_216 hP
            · replace h := (if_pos c12).symm.trans h
              refine v_iload_n (pc := 154) hC dX11_part_154 rfl ?_
              refine v_bipush (pc := 155) (112 : Int32) rfl hC dX11_part_155 ?_
              obtain ⟨w13, hw13, h⟩ := obd_s h
              have kj14 : V SS g M iX11_part (PQ SS g M P) 178 [some (.ref (gad g 49)), some (.int w1.1), none, none, some (.int w11.1)] [] w13 := by
                refine v_aload_n (pc := 178) hC dX11_part_178 rfl ?_
                refine v_iload_n (pc := 179) hC dX11_part_179 rfl ?_
                refine v_bipush (pc := 180) (102 : Int32) rfl hC dX11_part_180 ?_
                obtain ⟨w15, hw15, h⟩ := obd_s h
                have kj16 : V SS g M iX11_part (PQ SS g M P) 194 [some (.ref (gad g 49)), some (.int w1.1), none, none, some (.int w11.1)] [.int w15, .ref (gad g 49)] w13 := by
                  obtain ⟨s17, hs17, h⟩ := bnd_s h
                  refine v_pI (pc := 194) 23 hC s_49 rfl rfl rfl rfl rfl rfl fl_X11_267 hs17 dX11_part_194 ?_
                  refine v_aload_n (pc := 197) hC dX11_part_197 rfl ?_
                  refine v_iload_n (pc := 198) hC dX11_part_198 rfl ?_
                  refine v_bipush (pc := 199) (114 : Int32) rfl hC dX11_part_199 ?_
                  refine v_ic_ne (pc := 201) (tgt := 209) hC dX11_part_201 rfl (fun c19 => ?_) (fun c19 => ?_)
                  · replace h := (if_neg c19).symm.trans h
                    refine v_aload_n (pc := 209) hC dX11_part_209 rfl ?_
                    refine v_gt (pc := 210) 24 (.int (gI s17 49 24)) hC s_49 rfl rfl rfl rfl fl_X11_270 dX11_part_210 ?_
                    obtain ⟨s18, hs18, h⟩ := bnd_s h
                    refine v_pI (pc := 213) 24 hC s_49 rfl rfl rfl rfl rfl rfl fl_X11_270 hs18 dX11_part_213 ?_
                    obtain rfl := Option.some.inj h
                    exact v_vret (pc := 216) hC rfl dX11_part_216 hP
                  · replace h := (if_pos c19).symm.trans h
                    refine v_iload (pc := 204) hC dX11_part_204 rfl ?_
                    refine v_goto (pc := 206) (tgt := 213) hC dX11_part_206 rfl ?_
                    obtain ⟨s20, hs20, h⟩ := bnd_s h
                    refine v_pI (pc := 213) 24 hC s_49 rfl rfl rfl rfl rfl rfl fl_X11_270 hs20 dX11_part_213 ?_
                    obtain rfl := Option.some.inj h
                    exact v_vret (pc := 216) hC rfl dX11_part_216 hP
                refine v_ic_ne (pc := 182) (tgt := 190) hC dX11_part_182 rfl (fun c21 => ?_) (fun c21 => ?_)
                · replace hw15 := (if_neg c21).symm.trans hw15
                  refine v_aload_n (pc := 190) hC dX11_part_190 rfl ?_
                  refine v_gt (pc := 191) 23 (.int (gI w13 49 23)) hC s_49 rfl rfl rfl rfl fl_X11_267 dX11_part_191 ?_
                  obtain rfl := Option.some.inj hw15
                  exact V.ls (ls_some (ls_some (ls_none (ls_none (ls_some ls_nil))))) kj16
                · replace hw15 := (if_pos c21).symm.trans hw15
                  refine v_iload (pc := 185) hC dX11_part_185 rfl ?_
                  refine v_goto (pc := 187) (tgt := 194) hC dX11_part_187 rfl ?_
                  obtain rfl := Option.some.inj hw15
                  exact V.ls (ls_some (ls_some (ls_none (ls_none (ls_some ls_nil))))) kj16
              refine v_ic_ne (pc := 157) (tgt := 178) hC dX11_part_157 rfl (fun c22 => ?_) (fun c22 => ?_)
              · replace hw13 := (if_neg c22).symm.trans hw13
                obtain rfl := Option.some.inj hw13
                exact V.ls (ls_some (ls_some (ls_none (ls_none (ls_some ls_nil))))) kj14
              · replace hw13 := (if_pos c22).symm.trans hw13
                refine v_aload_n (pc := 160) hC dX11_part_160 rfl ?_
                refine v_gt (pc := 161) 22 (.ref (gad g 68)) hC s_49 rfl rfl rfl rfl fl_X11_65 dX11_part_161 ?_
                refine v_iload_n (pc := 164) hC dX11_part_164 rfl ?_
                refine v_iload_n (pc := 165) hC dX11_part_165 rfl ?_
                obtain ⟨w23, hw23, hw13⟩ := obd_s hw13
                have kj24 : V SS g M iX11_part (PQ SS g M P) 177 [some (.ref (gad g 49)), some (.int w1.1), none, none, some (.int w11.1)] [.int w23, .int (0 : Int32), .ref (gad g 68)] w11.2 := by
                  obtain ⟨s25, hs25, hw13⟩ := obd_s hw13
                  refine v_wI (pc := 177) hC s_68 hs25 dX11_part_177 ?_
                  obtain rfl := Option.some.inj hw13
                  exact V.ls (ls_some (ls_some (ls_none (ls_none (ls_some ls_nil))))) kj14
                refine v_if_eq (pc := 166) (tgt := 175) hC dX11_part_166 rfl (fun c26 => ?_) (fun c26 => ?_)
                · replace hw23 := (if_pos c26).symm.trans hw23
                  refine v_iload (pc := 175) hC dX11_part_175 rfl ?_
                  obtain rfl := Option.some.inj hw23
                  exact V.ls (ls_some (ls_some (ls_none (ls_none (ls_some ls_nil))))) kj24
                · replace hw23 := (if_neg c26).symm.trans hw23
                  refine v_iload (pc := 169) hC dX11_part_169 rfl ?_
                  refine v_ineg (pc := 171) hC dX11_part_171 ?_
                  refine v_goto (pc := 172) (tgt := 177) hC dX11_part_172 rfl ?_
                  obtain rfl := Option.some.inj hw23
                  exact V.ls (ls_some (ls_some (ls_none (ls_none (ls_some ls_nil))))) kj24
          refine v_ic_ne (pc := 133) (tgt := 140) hC dX11_part_133 rfl (fun c27 => ?_) (fun c27 => ?_)
          · replace hw9 := (if_neg c27).symm.trans hw9
            refine v_iconst (pc := 140) (2 : Int32) rfl hC dX11_part_140 ?_
            obtain rfl := Option.some.inj hw9
            exact V.ls (ls_some (ls_some (ls_some (ls_some (ls_none ls_nil))))) kj10
          · replace hw9 := (if_pos c27).symm.trans hw9
            refine v_iconst (pc := 136) (1 : Int32) rfl hC dX11_part_136 ?_
            refine v_goto (pc := 137) (tgt := 141) hC dX11_part_137 rfl ?_
            obtain rfl := Option.some.inj hw9
            exact V.ls (ls_some (ls_some (ls_some (ls_some (ls_none ls_nil))))) kj10
        refine v_if_eq (pc := 117) (tgt := 124) hC dX11_part_117 rfl (fun c28 => ?_) (fun c28 => ?_)
        · replace hw6 := (if_pos c28).symm.trans hw6
          refine v_iconst (pc := 124) (0 : Int32) rfl hC dX11_part_124 ?_
          obtain rfl := Option.some.inj hw6
          exact V.ls (ls_some (ls_some (ls_some (ls_some (ls_none ls_nil))))) kj7
        · replace hw6 := (if_neg c28).symm.trans hw6
          refine v_iconst (pc := 120) (1 : Int32) rfl hC dX11_part_120 ?_
          refine v_goto (pc := 121) (tgt := 125) hC dX11_part_121 rfl ?_
          obtain rfl := Option.some.inj hw6
          exact V.ls (ls_some (ls_some (ls_some (ls_some (ls_none ls_nil))))) kj7
      refine v_ic_ne (pc := 93) (tgt := 109) hC dX11_part_93 rfl (fun c29 => ?_) (fun c29 => ?_)
      · replace hw4 := (if_neg c29).symm.trans hw4
        refine v_iconst (pc := 109) (0 : Int32) rfl hC dX11_part_109 ?_
        obtain rfl := Option.some.inj hw4
        exact V.ls (ls_some (ls_some (ls_some (ls_none (ls_none ls_nil))))) kj5
      · replace hw4 := (if_pos c29).symm.trans hw4
        refine v_aload_n (pc := 96) hC dX11_part_96 rfl ?_
        obtain ⟨w30, hw30, hw4⟩ := obd_s hw4
        refine v_cV (pc := 97) [] [.int w30.1] gm_X11_byteNow hC s_49 rfl rfl (ct_X11_byteNow  hw30) ml_X11_258 rfl rfl rfl rfl rfl rfl dX11_part_97 ?_
        refine v_bipush (pc := 100) (45 : Int32) rfl hC dX11_part_100 ?_
        refine v_ic_ne (pc := 102) (tgt := 109) hC dX11_part_102 rfl (fun c31 => ?_) (fun c31 => ?_)
        · replace hw4 := (if_neg c31).symm.trans hw4
          refine v_iconst (pc := 109) (0 : Int32) rfl hC dX11_part_109 ?_
          obtain rfl := Option.some.inj hw4
          exact V.ls (ls_some (ls_some (ls_some (ls_none (ls_none ls_nil))))) kj5
        · replace hw4 := (if_pos c31).symm.trans hw4
          refine v_iconst (pc := 105) (1 : Int32) rfl hC dX11_part_105 ?_
          refine v_goto (pc := 106) (tgt := 110) hC dX11_part_106 rfl ?_
          obtain rfl := Option.some.inj hw4
          exact V.ls (ls_some (ls_some (ls_some (ls_none (ls_none ls_nil))))) kj5
    · replace h := (if_pos c32).symm.trans h
      refine v_aload_n (pc := 50) hC dX11_part_50 rfl ?_
      obtain ⟨w33, hw33, h⟩ := obd_s h
      refine v_cV (pc := 51) [] [.int w33.1] gm_X11_byteNow hC s_49 rfl rfl (ct_X11_byteNow  hw33) ml_X11_258 rfl rfl rfl rfl rfl rfl dX11_part_51 ?_
      refine v_bipush (pc := 54) (48 : Int32) rfl hC dX11_part_54 ?_
      refine v_isub (pc := 56) hC dX11_part_56 ?_
      obtain ⟨x34, hx34, h⟩ := bnd_s h
      refine v_istore_n (pc := 57) (lv' := [some (.ref (gad g 49)), some (.int w1.1), some (.int x34), none, none]) hC dX11_part_57 hx34 rfl rfl rfl ?_
      refine v_iload_n (pc := 58) hC dX11_part_58 rfl ?_
      obtain ⟨w35, hw35, h⟩ := obd_s h
      refine v_cS (pc := 59) [] [.int w35.1] gm_X11_isLane hC (ct_X11_isLane  hw35) ml_X11_112 rfl rfl rfl rfl rfl rfl dX11_part_59 ?_
      refine v_if_ne (pc := 62) (tgt := 74) hC dX11_part_62 rfl (fun c66 => ?_) (fun c66 => ?_)
      · replace h := (if_neg c66).symm.trans h
        refine v_aload_n (pc := 74) hC dX11_part_74 rfl ?_
        refine v_dup (pc := 75) hC rfl dX11_part_75 ?_
        refine v_gt (pc := 76) 25 (.int (gI w35.2 49 25)) hC s_49 rfl rfl rfl rfl fl_X11_252 dX11_part_76 ?_
        refine v_iconst (pc := 79) (1 : Int32) rfl hC dX11_part_79 ?_
        refine v_iadd (pc := 80) hC dX11_part_80 ?_
        obtain ⟨s36, hs36, h⟩ := bnd_s h
        refine v_pI (pc := 81) 25 hC s_49 rfl rfl rfl rfl rfl rfl fl_X11_252 hs36 dX11_part_81 ?_
        refine v_aload_n (pc := 84) hC dX11_part_84 rfl ?_
        refine v_bipush (pc := 85) (61 : Int32) rfl hC dX11_part_85 ?_
        obtain ⟨w37, hw37, h⟩ := obd_s h
        refine v_cV (pc := 87) [] [] gm_X11_expects hC s_49 rfl rfl (ct_X11_expects  hw37) ml_X11_261 rfl rfl rfl rfl rfl rfl dX11_part_87 ?_
        refine v_iload_n (pc := 90) hC dX11_part_90 rfl ?_
        refine v_bipush (pc := 91) (112 : Int32) rfl hC dX11_part_91 ?_
        obtain ⟨w38, hw38, h⟩ := obd_s h
        have kj39 : V SS g M iX11_part (PQ SS g M P) 110 [some (.ref (gad g 49)), some (.int w1.1), some (.int x34), none, none] [.int w38.1] w38.2 := by
          refine v_istore_n (pc := 110) (lv' := [some (.ref (gad g 49)), some (.int w1.1), some (.int x34), some (.int w38.1), none]) hC dX11_part_110 rfl rfl rfl rfl ?_
          refine v_aload_n (pc := 111) hC dX11_part_111 rfl ?_
          refine v_dup (pc := 112) hC rfl dX11_part_112 ?_
          refine v_gt (pc := 113) 25 (.int (gI w38.2 49 25)) hC s_49 rfl rfl rfl rfl fl_X11_252 dX11_part_113 ?_
          refine v_iload_n (pc := 116) hC dX11_part_116 rfl ?_
          obtain ⟨w40, hw40, h⟩ := obd_s h
          have kj41 : V SS g M iX11_part (PQ SS g M P) 125 [some (.ref (gad g 49)), some (.int w1.1), some (.int x34), some (.int w38.1), none] [.int w40, .int (gI w38.2 49 25), .ref (gad g 49)] w38.2 := by
            refine v_iadd (pc := 125) hC dX11_part_125 ?_
            obtain ⟨s42, hs42, h⟩ := bnd_s h
            refine v_pI (pc := 126) 25 hC s_49 rfl rfl rfl rfl rfl rfl fl_X11_252 hs42 dX11_part_126 ?_
            refine v_aload_n (pc := 129) hC dX11_part_129 rfl ?_
            refine v_iload_n (pc := 130) hC dX11_part_130 rfl ?_
            refine v_bipush (pc := 131) (114 : Int32) rfl hC dX11_part_131 ?_
            obtain ⟨w43, hw43, h⟩ := obd_s h
            have kj44 : V SS g M iX11_part (PQ SS g M P) 141 [some (.ref (gad g 49)), some (.int w1.1), some (.int x34), some (.int w38.1), none] [.int w43, .ref (gad g 49)] s42 := by
              obtain ⟨w45, hw45, h⟩ := obd_s h
              refine v_cV (pc := 141) [] [.int w45.1] gm_X11_number hC s_49 rfl rfl (ct_X11_number  hw45) ml_X11_264 rfl rfl rfl rfl rfl rfl dX11_part_141 ?_
              refine v_istore (pc := 144) (lv' := [some (.ref (gad g 49)), some (.int w1.1), some (.int x34), some (.int w38.1), some (.int w45.1)]) hC dX11_part_144 rfl rfl rfl rfl ?_
              refine v_aload_n (pc := 146) hC dX11_part_146 rfl ?_
              refine v_gt (pc := 147) 26 (.int (gI w45.2 49 26)) hC s_49 rfl rfl rfl rfl fl_X11_255 dX11_part_147 ?_
              refine v_iconst (pc := 150) (-1 : Int32) rfl hC dX11_part_150 ?_
              refine v_ic_ne (pc := 151) (tgt := 216) hC dX11_part_151 rfl (fun c46 => ?_) (fun c46 => ?_)
              · replace h := (if_neg c46).symm.trans h
                obtain rfl := Option.some.inj h
                exact v_vret (pc := 216) hC rfl dX11_part_216 hP
              · replace h := (if_pos c46).symm.trans h
                refine v_iload_n (pc := 154) hC dX11_part_154 rfl ?_
                refine v_bipush (pc := 155) (112 : Int32) rfl hC dX11_part_155 ?_
                obtain ⟨w47, hw47, h⟩ := obd_s h
                have kj48 : V SS g M iX11_part (PQ SS g M P) 178 [some (.ref (gad g 49)), some (.int w1.1), none, none, some (.int w45.1)] [] w47 := by
                  refine v_aload_n (pc := 178) hC dX11_part_178 rfl ?_
                  refine v_iload_n (pc := 179) hC dX11_part_179 rfl ?_
                  refine v_bipush (pc := 180) (102 : Int32) rfl hC dX11_part_180 ?_
                  obtain ⟨w49, hw49, h⟩ := obd_s h
                  have kj50 : V SS g M iX11_part (PQ SS g M P) 194 [some (.ref (gad g 49)), some (.int w1.1), none, none, some (.int w45.1)] [.int w49, .ref (gad g 49)] w47 := by
                    obtain ⟨s51, hs51, h⟩ := bnd_s h
                    refine v_pI (pc := 194) 23 hC s_49 rfl rfl rfl rfl rfl rfl fl_X11_267 hs51 dX11_part_194 ?_
                    refine v_aload_n (pc := 197) hC dX11_part_197 rfl ?_
                    refine v_iload_n (pc := 198) hC dX11_part_198 rfl ?_
                    refine v_bipush (pc := 199) (114 : Int32) rfl hC dX11_part_199 ?_
                    refine v_ic_ne (pc := 201) (tgt := 209) hC dX11_part_201 rfl (fun c53 => ?_) (fun c53 => ?_)
                    · replace h := (if_neg c53).symm.trans h
                      refine v_aload_n (pc := 209) hC dX11_part_209 rfl ?_
                      refine v_gt (pc := 210) 24 (.int (gI s51 49 24)) hC s_49 rfl rfl rfl rfl fl_X11_270 dX11_part_210 ?_
                      obtain ⟨s52, hs52, h⟩ := bnd_s h
                      refine v_pI (pc := 213) 24 hC s_49 rfl rfl rfl rfl rfl rfl fl_X11_270 hs52 dX11_part_213 ?_
                      obtain rfl := Option.some.inj h
                      exact v_vret (pc := 216) hC rfl dX11_part_216 hP
                    · replace h := (if_pos c53).symm.trans h
                      refine v_iload (pc := 204) hC dX11_part_204 rfl ?_
                      refine v_goto (pc := 206) (tgt := 213) hC dX11_part_206 rfl ?_
                      obtain ⟨s54, hs54, h⟩ := bnd_s h
                      refine v_pI (pc := 213) 24 hC s_49 rfl rfl rfl rfl rfl rfl fl_X11_270 hs54 dX11_part_213 ?_
                      obtain rfl := Option.some.inj h
                      exact v_vret (pc := 216) hC rfl dX11_part_216 hP
                  refine v_ic_ne (pc := 182) (tgt := 190) hC dX11_part_182 rfl (fun c55 => ?_) (fun c55 => ?_)
                  · replace hw49 := (if_neg c55).symm.trans hw49
                    refine v_aload_n (pc := 190) hC dX11_part_190 rfl ?_
                    refine v_gt (pc := 191) 23 (.int (gI w47 49 23)) hC s_49 rfl rfl rfl rfl fl_X11_267 dX11_part_191 ?_
                    obtain rfl := Option.some.inj hw49
                    exact V.ls (ls_some (ls_some (ls_none (ls_none (ls_some ls_nil))))) kj50
                  · replace hw49 := (if_pos c55).symm.trans hw49
                    refine v_iload (pc := 185) hC dX11_part_185 rfl ?_
                    refine v_goto (pc := 187) (tgt := 194) hC dX11_part_187 rfl ?_
                    obtain rfl := Option.some.inj hw49
                    exact V.ls (ls_some (ls_some (ls_none (ls_none (ls_some ls_nil))))) kj50
                refine v_ic_ne (pc := 157) (tgt := 178) hC dX11_part_157 rfl (fun c56 => ?_) (fun c56 => ?_)
                · replace hw47 := (if_neg c56).symm.trans hw47
                  obtain rfl := Option.some.inj hw47
                  exact V.ls (ls_some (ls_some (ls_none (ls_none (ls_some ls_nil))))) kj48
                · replace hw47 := (if_pos c56).symm.trans hw47
                  refine v_aload_n (pc := 160) hC dX11_part_160 rfl ?_
                  refine v_gt (pc := 161) 22 (.ref (gad g 68)) hC s_49 rfl rfl rfl rfl fl_X11_65 dX11_part_161 ?_
                  refine v_iload_n (pc := 164) hC dX11_part_164 rfl ?_
                  refine v_iload_n (pc := 165) hC dX11_part_165 rfl ?_
                  obtain ⟨w57, hw57, hw47⟩ := obd_s hw47
                  have kj58 : V SS g M iX11_part (PQ SS g M P) 177 [some (.ref (gad g 49)), some (.int w1.1), none, none, some (.int w45.1)] [.int w57, .int x34, .ref (gad g 68)] w45.2 := by
                    obtain ⟨s59, hs59, hw47⟩ := obd_s hw47
                    refine v_wI (pc := 177) hC s_68 hs59 dX11_part_177 ?_
                    obtain rfl := Option.some.inj hw47
                    exact V.ls (ls_some (ls_some (ls_none (ls_none (ls_some ls_nil))))) kj48
                  refine v_if_eq (pc := 166) (tgt := 175) hC dX11_part_166 rfl (fun c60 => ?_) (fun c60 => ?_)
                  · replace hw57 := (if_pos c60).symm.trans hw57
                    refine v_iload (pc := 175) hC dX11_part_175 rfl ?_
                    obtain rfl := Option.some.inj hw57
                    exact V.ls (ls_some (ls_some (ls_none (ls_none (ls_some ls_nil))))) kj58
                  · replace hw57 := (if_neg c60).symm.trans hw57
                    refine v_iload (pc := 169) hC dX11_part_169 rfl ?_
                    refine v_ineg (pc := 171) hC dX11_part_171 ?_
                    refine v_goto (pc := 172) (tgt := 177) hC dX11_part_172 rfl ?_
                    obtain rfl := Option.some.inj hw57
                    exact V.ls (ls_some (ls_some (ls_none (ls_none (ls_some ls_nil))))) kj58
            refine v_ic_ne (pc := 133) (tgt := 140) hC dX11_part_133 rfl (fun c61 => ?_) (fun c61 => ?_)
            · replace hw43 := (if_neg c61).symm.trans hw43
              refine v_iconst (pc := 140) (2 : Int32) rfl hC dX11_part_140 ?_
              obtain rfl := Option.some.inj hw43
              exact V.ls (ls_some (ls_some (ls_some (ls_some (ls_none ls_nil))))) kj44
            · replace hw43 := (if_pos c61).symm.trans hw43
              refine v_iconst (pc := 136) (1 : Int32) rfl hC dX11_part_136 ?_
              refine v_goto (pc := 137) (tgt := 141) hC dX11_part_137 rfl ?_
              obtain rfl := Option.some.inj hw43
              exact V.ls (ls_some (ls_some (ls_some (ls_some (ls_none ls_nil))))) kj44
          refine v_if_eq (pc := 117) (tgt := 124) hC dX11_part_117 rfl (fun c62 => ?_) (fun c62 => ?_)
          · replace hw40 := (if_pos c62).symm.trans hw40
            refine v_iconst (pc := 124) (0 : Int32) rfl hC dX11_part_124 ?_
            obtain rfl := Option.some.inj hw40
            exact V.ls (ls_some (ls_some (ls_some (ls_some (ls_none ls_nil))))) kj41
          · replace hw40 := (if_neg c62).symm.trans hw40
            refine v_iconst (pc := 120) (1 : Int32) rfl hC dX11_part_120 ?_
            refine v_goto (pc := 121) (tgt := 125) hC dX11_part_121 rfl ?_
            obtain rfl := Option.some.inj hw40
            exact V.ls (ls_some (ls_some (ls_some (ls_some (ls_none ls_nil))))) kj41
        refine v_ic_ne (pc := 93) (tgt := 109) hC dX11_part_93 rfl (fun c63 => ?_) (fun c63 => ?_)
        · replace hw38 := (if_neg c63).symm.trans hw38
          refine v_iconst (pc := 109) (0 : Int32) rfl hC dX11_part_109 ?_
          obtain rfl := Option.some.inj hw38
          exact V.ls (ls_some (ls_some (ls_some (ls_none (ls_none ls_nil))))) kj39
        · replace hw38 := (if_pos c63).symm.trans hw38
          refine v_aload_n (pc := 96) hC dX11_part_96 rfl ?_
          obtain ⟨w64, hw64, hw38⟩ := obd_s hw38
          refine v_cV (pc := 97) [] [.int w64.1] gm_X11_byteNow hC s_49 rfl rfl (ct_X11_byteNow  hw64) ml_X11_258 rfl rfl rfl rfl rfl rfl dX11_part_97 ?_
          refine v_bipush (pc := 100) (45 : Int32) rfl hC dX11_part_100 ?_
          refine v_ic_ne (pc := 102) (tgt := 109) hC dX11_part_102 rfl (fun c65 => ?_) (fun c65 => ?_)
          · replace hw38 := (if_neg c65).symm.trans hw38
            refine v_iconst (pc := 109) (0 : Int32) rfl hC dX11_part_109 ?_
            obtain rfl := Option.some.inj hw38
            exact V.ls (ls_some (ls_some (ls_some (ls_none (ls_none ls_nil))))) kj39
          · replace hw38 := (if_pos c65).symm.trans hw38
            refine v_iconst (pc := 105) (1 : Int32) rfl hC dX11_part_105 ?_
            refine v_goto (pc := 106) (tgt := 110) hC dX11_part_106 rfl ?_
            obtain rfl := Option.some.inj hw38
            exact V.ls (ls_some (ls_some (ls_some (ls_none (ls_none ls_nil))))) kj39
      · replace h := (if_pos c66).symm.trans h
        refine v_aload_n (pc := 65) hC dX11_part_65 rfl ?_
        refine v_aload_n (pc := 66) hC dX11_part_66 rfl ?_
        refine v_gt (pc := 67) 25 (.int (gI w35.2 49 25)) hC s_49 rfl rfl rfl rfl fl_X11_252 dX11_part_67 ?_
        obtain ⟨s67, hs67, h⟩ := bnd_s h
        refine v_pI (pc := 70) 26 hC s_49 rfl rfl rfl rfl rfl rfl fl_X11_255 hs67 dX11_part_70 ?_
        obtain rfl := Option.some.inj h
        exact v_vret (pc := 73) hC rfl dX11_part_73 hP
  · replace h := (if_neg c68).symm.trans h
    refine v_iload_n (pc := 11) hC dX11_part_11 rfl ?_
    refine v_bipush (pc := 12) (102 : Int32) rfl hC dX11_part_12 ?_
    refine v_ic_eq (pc := 14) (tgt := 32) hC dX11_part_14 rfl (fun c135 => ?_) (fun c135 => ?_)
    · replace h := (if_pos c135).symm.trans h
      refine v_aload_n (pc := 32) hC dX11_part_32 rfl ?_
      refine v_dup (pc := 33) hC rfl dX11_part_33 ?_
      refine v_gt (pc := 34) 25 (.int (gI w1.2 49 25)) hC s_49 rfl rfl rfl rfl fl_X11_252 dX11_part_34 ?_
      refine v_iconst (pc := 37) (1 : Int32) rfl hC dX11_part_37 ?_
      refine v_iadd (pc := 38) hC dX11_part_38 ?_
      obtain ⟨s69, hs69, h⟩ := bnd_s h
      refine v_pI (pc := 39) 25 hC s_49 rfl rfl rfl rfl rfl rfl fl_X11_252 hs69 dX11_part_39 ?_
      refine v_iconst (pc := 42) (0 : Int32) rfl hC dX11_part_42 ?_
      refine v_istore_n (pc := 43) (lv' := [some (.ref (gad g 49)), some (.int w1.1), some (.int (0 : Int32)), none, none]) hC dX11_part_43 rfl rfl rfl rfl ?_
      refine v_iload_n (pc := 44) hC dX11_part_44 rfl ?_
      refine v_bipush (pc := 45) (112 : Int32) rfl hC dX11_part_45 ?_
      refine v_ic_ne (pc := 47) (tgt := 84) hC dX11_part_47 rfl (fun c99 => ?_) (fun c99 => ?_)
      · replace h := (if_neg c99).symm.trans h
        refine v_aload_n (pc := 84) hC dX11_part_84 rfl ?_
        refine v_bipush (pc := 85) (61 : Int32) rfl hC dX11_part_85 ?_
        obtain ⟨w70, hw70, h⟩ := obd_s h
        refine v_cV (pc := 87) [] [] gm_X11_expects hC s_49 rfl rfl (ct_X11_expects  hw70) ml_X11_261 rfl rfl rfl rfl rfl rfl dX11_part_87 ?_
        refine v_iload_n (pc := 90) hC dX11_part_90 rfl ?_
        refine v_bipush (pc := 91) (112 : Int32) rfl hC dX11_part_91 ?_
        obtain ⟨w71, hw71, h⟩ := obd_s h
        have kj72 : V SS g M iX11_part (PQ SS g M P) 110 [some (.ref (gad g 49)), some (.int w1.1), some (.int (0 : Int32)), none, none] [.int w71.1] w71.2 := by
          refine v_istore_n (pc := 110) (lv' := [some (.ref (gad g 49)), some (.int w1.1), some (.int (0 : Int32)), some (.int w71.1), none]) hC dX11_part_110 rfl rfl rfl rfl ?_
          refine v_aload_n (pc := 111) hC dX11_part_111 rfl ?_
          refine v_dup (pc := 112) hC rfl dX11_part_112 ?_
          refine v_gt (pc := 113) 25 (.int (gI w71.2 49 25)) hC s_49 rfl rfl rfl rfl fl_X11_252 dX11_part_113 ?_
          refine v_iload_n (pc := 116) hC dX11_part_116 rfl ?_
          obtain ⟨w73, hw73, h⟩ := obd_s h
          have kj74 : V SS g M iX11_part (PQ SS g M P) 125 [some (.ref (gad g 49)), some (.int w1.1), some (.int (0 : Int32)), some (.int w71.1), none] [.int w73, .int (gI w71.2 49 25), .ref (gad g 49)] w71.2 := by
            refine v_iadd (pc := 125) hC dX11_part_125 ?_
            obtain ⟨s75, hs75, h⟩ := bnd_s h
            refine v_pI (pc := 126) 25 hC s_49 rfl rfl rfl rfl rfl rfl fl_X11_252 hs75 dX11_part_126 ?_
            refine v_aload_n (pc := 129) hC dX11_part_129 rfl ?_
            refine v_iload_n (pc := 130) hC dX11_part_130 rfl ?_
            refine v_bipush (pc := 131) (114 : Int32) rfl hC dX11_part_131 ?_
            obtain ⟨w76, hw76, h⟩ := obd_s h
            have kj77 : V SS g M iX11_part (PQ SS g M P) 141 [some (.ref (gad g 49)), some (.int w1.1), some (.int (0 : Int32)), some (.int w71.1), none] [.int w76, .ref (gad g 49)] s75 := by
              obtain ⟨w78, hw78, h⟩ := obd_s h
              refine v_cV (pc := 141) [] [.int w78.1] gm_X11_number hC s_49 rfl rfl (ct_X11_number  hw78) ml_X11_264 rfl rfl rfl rfl rfl rfl dX11_part_141 ?_
              refine v_istore (pc := 144) (lv' := [some (.ref (gad g 49)), some (.int w1.1), some (.int (0 : Int32)), some (.int w71.1), some (.int w78.1)]) hC dX11_part_144 rfl rfl rfl rfl ?_
              refine v_aload_n (pc := 146) hC dX11_part_146 rfl ?_
              refine v_gt (pc := 147) 26 (.int (gI w78.2 49 26)) hC s_49 rfl rfl rfl rfl fl_X11_255 dX11_part_147 ?_
              refine v_iconst (pc := 150) (-1 : Int32) rfl hC dX11_part_150 ?_
              refine v_ic_ne (pc := 151) (tgt := 216) hC dX11_part_151 rfl (fun c79 => ?_) (fun c79 => ?_)
              · replace h := (if_neg c79).symm.trans h
                obtain rfl := Option.some.inj h
                exact v_vret (pc := 216) hC rfl dX11_part_216 hP
              · replace h := (if_pos c79).symm.trans h
                refine v_iload_n (pc := 154) hC dX11_part_154 rfl ?_
                refine v_bipush (pc := 155) (112 : Int32) rfl hC dX11_part_155 ?_
                obtain ⟨w80, hw80, h⟩ := obd_s h
                have kj81 : V SS g M iX11_part (PQ SS g M P) 178 [some (.ref (gad g 49)), some (.int w1.1), none, none, some (.int w78.1)] [] w80 := by
                  refine v_aload_n (pc := 178) hC dX11_part_178 rfl ?_
                  refine v_iload_n (pc := 179) hC dX11_part_179 rfl ?_
                  refine v_bipush (pc := 180) (102 : Int32) rfl hC dX11_part_180 ?_
                  obtain ⟨w82, hw82, h⟩ := obd_s h
                  have kj83 : V SS g M iX11_part (PQ SS g M P) 194 [some (.ref (gad g 49)), some (.int w1.1), none, none, some (.int w78.1)] [.int w82, .ref (gad g 49)] w80 := by
                    obtain ⟨s84, hs84, h⟩ := bnd_s h
                    refine v_pI (pc := 194) 23 hC s_49 rfl rfl rfl rfl rfl rfl fl_X11_267 hs84 dX11_part_194 ?_
                    refine v_aload_n (pc := 197) hC dX11_part_197 rfl ?_
                    refine v_iload_n (pc := 198) hC dX11_part_198 rfl ?_
                    refine v_bipush (pc := 199) (114 : Int32) rfl hC dX11_part_199 ?_
                    refine v_ic_ne (pc := 201) (tgt := 209) hC dX11_part_201 rfl (fun c86 => ?_) (fun c86 => ?_)
                    · replace h := (if_neg c86).symm.trans h
                      refine v_aload_n (pc := 209) hC dX11_part_209 rfl ?_
                      refine v_gt (pc := 210) 24 (.int (gI s84 49 24)) hC s_49 rfl rfl rfl rfl fl_X11_270 dX11_part_210 ?_
                      obtain ⟨s85, hs85, h⟩ := bnd_s h
                      refine v_pI (pc := 213) 24 hC s_49 rfl rfl rfl rfl rfl rfl fl_X11_270 hs85 dX11_part_213 ?_
                      obtain rfl := Option.some.inj h
                      exact v_vret (pc := 216) hC rfl dX11_part_216 hP
                    · replace h := (if_pos c86).symm.trans h
                      refine v_iload (pc := 204) hC dX11_part_204 rfl ?_
                      refine v_goto (pc := 206) (tgt := 213) hC dX11_part_206 rfl ?_
                      obtain ⟨s87, hs87, h⟩ := bnd_s h
                      refine v_pI (pc := 213) 24 hC s_49 rfl rfl rfl rfl rfl rfl fl_X11_270 hs87 dX11_part_213 ?_
                      obtain rfl := Option.some.inj h
                      exact v_vret (pc := 216) hC rfl dX11_part_216 hP
                  refine v_ic_ne (pc := 182) (tgt := 190) hC dX11_part_182 rfl (fun c88 => ?_) (fun c88 => ?_)
                  · replace hw82 := (if_neg c88).symm.trans hw82
                    refine v_aload_n (pc := 190) hC dX11_part_190 rfl ?_
                    refine v_gt (pc := 191) 23 (.int (gI w80 49 23)) hC s_49 rfl rfl rfl rfl fl_X11_267 dX11_part_191 ?_
                    obtain rfl := Option.some.inj hw82
                    exact V.ls (ls_some (ls_some (ls_none (ls_none (ls_some ls_nil))))) kj83
                  · replace hw82 := (if_pos c88).symm.trans hw82
                    refine v_iload (pc := 185) hC dX11_part_185 rfl ?_
                    refine v_goto (pc := 187) (tgt := 194) hC dX11_part_187 rfl ?_
                    obtain rfl := Option.some.inj hw82
                    exact V.ls (ls_some (ls_some (ls_none (ls_none (ls_some ls_nil))))) kj83
                refine v_ic_ne (pc := 157) (tgt := 178) hC dX11_part_157 rfl (fun c89 => ?_) (fun c89 => ?_)
                · replace hw80 := (if_neg c89).symm.trans hw80
                  obtain rfl := Option.some.inj hw80
                  exact V.ls (ls_some (ls_some (ls_none (ls_none (ls_some ls_nil))))) kj81
                · replace hw80 := (if_pos c89).symm.trans hw80
                  refine v_aload_n (pc := 160) hC dX11_part_160 rfl ?_
                  refine v_gt (pc := 161) 22 (.ref (gad g 68)) hC s_49 rfl rfl rfl rfl fl_X11_65 dX11_part_161 ?_
                  refine v_iload_n (pc := 164) hC dX11_part_164 rfl ?_
                  refine v_iload_n (pc := 165) hC dX11_part_165 rfl ?_
                  obtain ⟨w90, hw90, hw80⟩ := obd_s hw80
                  have kj91 : V SS g M iX11_part (PQ SS g M P) 177 [some (.ref (gad g 49)), some (.int w1.1), none, none, some (.int w78.1)] [.int w90, .int (0 : Int32), .ref (gad g 68)] w78.2 := by
                    obtain ⟨s92, hs92, hw80⟩ := obd_s hw80
                    refine v_wI (pc := 177) hC s_68 hs92 dX11_part_177 ?_
                    obtain rfl := Option.some.inj hw80
                    exact V.ls (ls_some (ls_some (ls_none (ls_none (ls_some ls_nil))))) kj81
                  refine v_if_eq (pc := 166) (tgt := 175) hC dX11_part_166 rfl (fun c93 => ?_) (fun c93 => ?_)
                  · replace hw90 := (if_pos c93).symm.trans hw90
                    refine v_iload (pc := 175) hC dX11_part_175 rfl ?_
                    obtain rfl := Option.some.inj hw90
                    exact V.ls (ls_some (ls_some (ls_none (ls_none (ls_some ls_nil))))) kj91
                  · replace hw90 := (if_neg c93).symm.trans hw90
                    refine v_iload (pc := 169) hC dX11_part_169 rfl ?_
                    refine v_ineg (pc := 171) hC dX11_part_171 ?_
                    refine v_goto (pc := 172) (tgt := 177) hC dX11_part_172 rfl ?_
                    obtain rfl := Option.some.inj hw90
                    exact V.ls (ls_some (ls_some (ls_none (ls_none (ls_some ls_nil))))) kj91
            refine v_ic_ne (pc := 133) (tgt := 140) hC dX11_part_133 rfl (fun c94 => ?_) (fun c94 => ?_)
            · replace hw76 := (if_neg c94).symm.trans hw76
              refine v_iconst (pc := 140) (2 : Int32) rfl hC dX11_part_140 ?_
              obtain rfl := Option.some.inj hw76
              exact V.ls (ls_some (ls_some (ls_some (ls_some (ls_none ls_nil))))) kj77
            · replace hw76 := (if_pos c94).symm.trans hw76
              refine v_iconst (pc := 136) (1 : Int32) rfl hC dX11_part_136 ?_
              refine v_goto (pc := 137) (tgt := 141) hC dX11_part_137 rfl ?_
              obtain rfl := Option.some.inj hw76
              exact V.ls (ls_some (ls_some (ls_some (ls_some (ls_none ls_nil))))) kj77
          refine v_if_eq (pc := 117) (tgt := 124) hC dX11_part_117 rfl (fun c95 => ?_) (fun c95 => ?_)
          · replace hw73 := (if_pos c95).symm.trans hw73
            refine v_iconst (pc := 124) (0 : Int32) rfl hC dX11_part_124 ?_
            obtain rfl := Option.some.inj hw73
            exact V.ls (ls_some (ls_some (ls_some (ls_some (ls_none ls_nil))))) kj74
          · replace hw73 := (if_neg c95).symm.trans hw73
            refine v_iconst (pc := 120) (1 : Int32) rfl hC dX11_part_120 ?_
            refine v_goto (pc := 121) (tgt := 125) hC dX11_part_121 rfl ?_
            obtain rfl := Option.some.inj hw73
            exact V.ls (ls_some (ls_some (ls_some (ls_some (ls_none ls_nil))))) kj74
        refine v_ic_ne (pc := 93) (tgt := 109) hC dX11_part_93 rfl (fun c96 => ?_) (fun c96 => ?_)
        · replace hw71 := (if_neg c96).symm.trans hw71
          refine v_iconst (pc := 109) (0 : Int32) rfl hC dX11_part_109 ?_
          obtain rfl := Option.some.inj hw71
          exact V.ls (ls_some (ls_some (ls_some (ls_none (ls_none ls_nil))))) kj72
        · replace hw71 := (if_pos c96).symm.trans hw71
          refine v_aload_n (pc := 96) hC dX11_part_96 rfl ?_
          obtain ⟨w97, hw97, hw71⟩ := obd_s hw71
          refine v_cV (pc := 97) [] [.int w97.1] gm_X11_byteNow hC s_49 rfl rfl (ct_X11_byteNow  hw97) ml_X11_258 rfl rfl rfl rfl rfl rfl dX11_part_97 ?_
          refine v_bipush (pc := 100) (45 : Int32) rfl hC dX11_part_100 ?_
          refine v_ic_ne (pc := 102) (tgt := 109) hC dX11_part_102 rfl (fun c98 => ?_) (fun c98 => ?_)
          · replace hw71 := (if_neg c98).symm.trans hw71
            refine v_iconst (pc := 109) (0 : Int32) rfl hC dX11_part_109 ?_
            obtain rfl := Option.some.inj hw71
            exact V.ls (ls_some (ls_some (ls_some (ls_none (ls_none ls_nil))))) kj72
          · replace hw71 := (if_pos c98).symm.trans hw71
            refine v_iconst (pc := 105) (1 : Int32) rfl hC dX11_part_105 ?_
            refine v_goto (pc := 106) (tgt := 110) hC dX11_part_106 rfl ?_
            obtain rfl := Option.some.inj hw71
            exact V.ls (ls_some (ls_some (ls_some (ls_none (ls_none ls_nil))))) kj72
      · replace h := (if_pos c99).symm.trans h
        refine v_aload_n (pc := 50) hC dX11_part_50 rfl ?_
        obtain ⟨w100, hw100, h⟩ := obd_s h
        refine v_cV (pc := 51) [] [.int w100.1] gm_X11_byteNow hC s_49 rfl rfl (ct_X11_byteNow  hw100) ml_X11_258 rfl rfl rfl rfl rfl rfl dX11_part_51 ?_
        refine v_bipush (pc := 54) (48 : Int32) rfl hC dX11_part_54 ?_
        refine v_isub (pc := 56) hC dX11_part_56 ?_
        obtain ⟨x101, hx101, h⟩ := bnd_s h
        refine v_istore_n (pc := 57) (lv' := [some (.ref (gad g 49)), some (.int w1.1), some (.int x101), none, none]) hC dX11_part_57 hx101 rfl rfl rfl ?_
        refine v_iload_n (pc := 58) hC dX11_part_58 rfl ?_
        obtain ⟨w102, hw102, h⟩ := obd_s h
        refine v_cS (pc := 59) [] [.int w102.1] gm_X11_isLane hC (ct_X11_isLane  hw102) ml_X11_112 rfl rfl rfl rfl rfl rfl dX11_part_59 ?_
        refine v_if_ne (pc := 62) (tgt := 74) hC dX11_part_62 rfl (fun c133 => ?_) (fun c133 => ?_)
        · replace h := (if_neg c133).symm.trans h
          refine v_aload_n (pc := 74) hC dX11_part_74 rfl ?_
          refine v_dup (pc := 75) hC rfl dX11_part_75 ?_
          refine v_gt (pc := 76) 25 (.int (gI w102.2 49 25)) hC s_49 rfl rfl rfl rfl fl_X11_252 dX11_part_76 ?_
          refine v_iconst (pc := 79) (1 : Int32) rfl hC dX11_part_79 ?_
          refine v_iadd (pc := 80) hC dX11_part_80 ?_
          obtain ⟨s103, hs103, h⟩ := bnd_s h
          refine v_pI (pc := 81) 25 hC s_49 rfl rfl rfl rfl rfl rfl fl_X11_252 hs103 dX11_part_81 ?_
          refine v_aload_n (pc := 84) hC dX11_part_84 rfl ?_
          refine v_bipush (pc := 85) (61 : Int32) rfl hC dX11_part_85 ?_
          obtain ⟨w104, hw104, h⟩ := obd_s h
          refine v_cV (pc := 87) [] [] gm_X11_expects hC s_49 rfl rfl (ct_X11_expects  hw104) ml_X11_261 rfl rfl rfl rfl rfl rfl dX11_part_87 ?_
          refine v_iload_n (pc := 90) hC dX11_part_90 rfl ?_
          refine v_bipush (pc := 91) (112 : Int32) rfl hC dX11_part_91 ?_
          obtain ⟨w105, hw105, h⟩ := obd_s h
          have kj106 : V SS g M iX11_part (PQ SS g M P) 110 [some (.ref (gad g 49)), some (.int w1.1), some (.int x101), none, none] [.int w105.1] w105.2 := by
            refine v_istore_n (pc := 110) (lv' := [some (.ref (gad g 49)), some (.int w1.1), some (.int x101), some (.int w105.1), none]) hC dX11_part_110 rfl rfl rfl rfl ?_
            refine v_aload_n (pc := 111) hC dX11_part_111 rfl ?_
            refine v_dup (pc := 112) hC rfl dX11_part_112 ?_
            refine v_gt (pc := 113) 25 (.int (gI w105.2 49 25)) hC s_49 rfl rfl rfl rfl fl_X11_252 dX11_part_113 ?_
            refine v_iload_n (pc := 116) hC dX11_part_116 rfl ?_
            obtain ⟨w107, hw107, h⟩ := obd_s h
            have kj108 : V SS g M iX11_part (PQ SS g M P) 125 [some (.ref (gad g 49)), some (.int w1.1), some (.int x101), some (.int w105.1), none] [.int w107, .int (gI w105.2 49 25), .ref (gad g 49)] w105.2 := by
              refine v_iadd (pc := 125) hC dX11_part_125 ?_
              obtain ⟨s109, hs109, h⟩ := bnd_s h
              refine v_pI (pc := 126) 25 hC s_49 rfl rfl rfl rfl rfl rfl fl_X11_252 hs109 dX11_part_126 ?_
              refine v_aload_n (pc := 129) hC dX11_part_129 rfl ?_
              refine v_iload_n (pc := 130) hC dX11_part_130 rfl ?_
              refine v_bipush (pc := 131) (114 : Int32) rfl hC dX11_part_131 ?_
              obtain ⟨w110, hw110, h⟩ := obd_s h
              have kj111 : V SS g M iX11_part (PQ SS g M P) 141 [some (.ref (gad g 49)), some (.int w1.1), some (.int x101), some (.int w105.1), none] [.int w110, .ref (gad g 49)] s109 := by
                obtain ⟨w112, hw112, h⟩ := obd_s h
                refine v_cV (pc := 141) [] [.int w112.1] gm_X11_number hC s_49 rfl rfl (ct_X11_number  hw112) ml_X11_264 rfl rfl rfl rfl rfl rfl dX11_part_141 ?_
                refine v_istore (pc := 144) (lv' := [some (.ref (gad g 49)), some (.int w1.1), some (.int x101), some (.int w105.1), some (.int w112.1)]) hC dX11_part_144 rfl rfl rfl rfl ?_
                refine v_aload_n (pc := 146) hC dX11_part_146 rfl ?_
                refine v_gt (pc := 147) 26 (.int (gI w112.2 49 26)) hC s_49 rfl rfl rfl rfl fl_X11_255 dX11_part_147 ?_
                refine v_iconst (pc := 150) (-1 : Int32) rfl hC dX11_part_150 ?_
                refine v_ic_ne (pc := 151) (tgt := 216) hC dX11_part_151 rfl (fun c113 => ?_) (fun c113 => ?_)
                · replace h := (if_neg c113).symm.trans h
                  obtain rfl := Option.some.inj h
                  exact v_vret (pc := 216) hC rfl dX11_part_216 hP
                · replace h := (if_pos c113).symm.trans h
                  refine v_iload_n (pc := 154) hC dX11_part_154 rfl ?_
                  refine v_bipush (pc := 155) (112 : Int32) rfl hC dX11_part_155 ?_
                  obtain ⟨w114, hw114, h⟩ := obd_s h
                  have kj115 : V SS g M iX11_part (PQ SS g M P) 178 [some (.ref (gad g 49)), some (.int w1.1), none, none, some (.int w112.1)] [] w114 := by
                    refine v_aload_n (pc := 178) hC dX11_part_178 rfl ?_
                    refine v_iload_n (pc := 179) hC dX11_part_179 rfl ?_
                    refine v_bipush (pc := 180) (102 : Int32) rfl hC dX11_part_180 ?_
                    obtain ⟨w116, hw116, h⟩ := obd_s h
                    have kj117 : V SS g M iX11_part (PQ SS g M P) 194 [some (.ref (gad g 49)), some (.int w1.1), none, none, some (.int w112.1)] [.int w116, .ref (gad g 49)] w114 := by
                      obtain ⟨s118, hs118, h⟩ := bnd_s h
                      refine v_pI (pc := 194) 23 hC s_49 rfl rfl rfl rfl rfl rfl fl_X11_267 hs118 dX11_part_194 ?_
                      refine v_aload_n (pc := 197) hC dX11_part_197 rfl ?_
                      refine v_iload_n (pc := 198) hC dX11_part_198 rfl ?_
                      refine v_bipush (pc := 199) (114 : Int32) rfl hC dX11_part_199 ?_
                      refine v_ic_ne (pc := 201) (tgt := 209) hC dX11_part_201 rfl (fun c120 => ?_) (fun c120 => ?_)
                      · replace h := (if_neg c120).symm.trans h
                        refine v_aload_n (pc := 209) hC dX11_part_209 rfl ?_
                        refine v_gt (pc := 210) 24 (.int (gI s118 49 24)) hC s_49 rfl rfl rfl rfl fl_X11_270 dX11_part_210 ?_
                        obtain ⟨s119, hs119, h⟩ := bnd_s h
                        refine v_pI (pc := 213) 24 hC s_49 rfl rfl rfl rfl rfl rfl fl_X11_270 hs119 dX11_part_213 ?_
                        obtain rfl := Option.some.inj h
                        exact v_vret (pc := 216) hC rfl dX11_part_216 hP
                      · replace h := (if_pos c120).symm.trans h
                        refine v_iload (pc := 204) hC dX11_part_204 rfl ?_
                        refine v_goto (pc := 206) (tgt := 213) hC dX11_part_206 rfl ?_
                        obtain ⟨s121, hs121, h⟩ := bnd_s h
                        refine v_pI (pc := 213) 24 hC s_49 rfl rfl rfl rfl rfl rfl fl_X11_270 hs121 dX11_part_213 ?_
                        obtain rfl := Option.some.inj h
                        exact v_vret (pc := 216) hC rfl dX11_part_216 hP
                    refine v_ic_ne (pc := 182) (tgt := 190) hC dX11_part_182 rfl (fun c122 => ?_) (fun c122 => ?_)
                    · replace hw116 := (if_neg c122).symm.trans hw116
                      refine v_aload_n (pc := 190) hC dX11_part_190 rfl ?_
                      refine v_gt (pc := 191) 23 (.int (gI w114 49 23)) hC s_49 rfl rfl rfl rfl fl_X11_267 dX11_part_191 ?_
                      obtain rfl := Option.some.inj hw116
                      exact V.ls (ls_some (ls_some (ls_none (ls_none (ls_some ls_nil))))) kj117
                    · replace hw116 := (if_pos c122).symm.trans hw116
                      refine v_iload (pc := 185) hC dX11_part_185 rfl ?_
                      refine v_goto (pc := 187) (tgt := 194) hC dX11_part_187 rfl ?_
                      obtain rfl := Option.some.inj hw116
                      exact V.ls (ls_some (ls_some (ls_none (ls_none (ls_some ls_nil))))) kj117
                  refine v_ic_ne (pc := 157) (tgt := 178) hC dX11_part_157 rfl (fun c123 => ?_) (fun c123 => ?_)
                  · replace hw114 := (if_neg c123).symm.trans hw114
                    obtain rfl := Option.some.inj hw114
                    exact V.ls (ls_some (ls_some (ls_none (ls_none (ls_some ls_nil))))) kj115
                  · replace hw114 := (if_pos c123).symm.trans hw114
                    refine v_aload_n (pc := 160) hC dX11_part_160 rfl ?_
                    refine v_gt (pc := 161) 22 (.ref (gad g 68)) hC s_49 rfl rfl rfl rfl fl_X11_65 dX11_part_161 ?_
                    refine v_iload_n (pc := 164) hC dX11_part_164 rfl ?_
                    refine v_iload_n (pc := 165) hC dX11_part_165 rfl ?_
                    obtain ⟨w124, hw124, hw114⟩ := obd_s hw114
                    have kj125 : V SS g M iX11_part (PQ SS g M P) 177 [some (.ref (gad g 49)), some (.int w1.1), none, none, some (.int w112.1)] [.int w124, .int x101, .ref (gad g 68)] w112.2 := by
                      obtain ⟨s126, hs126, hw114⟩ := obd_s hw114
                      refine v_wI (pc := 177) hC s_68 hs126 dX11_part_177 ?_
                      obtain rfl := Option.some.inj hw114
                      exact V.ls (ls_some (ls_some (ls_none (ls_none (ls_some ls_nil))))) kj115
                    refine v_if_eq (pc := 166) (tgt := 175) hC dX11_part_166 rfl (fun c127 => ?_) (fun c127 => ?_)
                    · replace hw124 := (if_pos c127).symm.trans hw124
                      refine v_iload (pc := 175) hC dX11_part_175 rfl ?_
                      obtain rfl := Option.some.inj hw124
                      exact V.ls (ls_some (ls_some (ls_none (ls_none (ls_some ls_nil))))) kj125
                    · replace hw124 := (if_neg c127).symm.trans hw124
                      refine v_iload (pc := 169) hC dX11_part_169 rfl ?_
                      refine v_ineg (pc := 171) hC dX11_part_171 ?_
                      refine v_goto (pc := 172) (tgt := 177) hC dX11_part_172 rfl ?_
                      obtain rfl := Option.some.inj hw124
                      exact V.ls (ls_some (ls_some (ls_none (ls_none (ls_some ls_nil))))) kj125
              refine v_ic_ne (pc := 133) (tgt := 140) hC dX11_part_133 rfl (fun c128 => ?_) (fun c128 => ?_)
              · replace hw110 := (if_neg c128).symm.trans hw110
                refine v_iconst (pc := 140) (2 : Int32) rfl hC dX11_part_140 ?_
                obtain rfl := Option.some.inj hw110
                exact V.ls (ls_some (ls_some (ls_some (ls_some (ls_none ls_nil))))) kj111
              · replace hw110 := (if_pos c128).symm.trans hw110
                refine v_iconst (pc := 136) (1 : Int32) rfl hC dX11_part_136 ?_
                refine v_goto (pc := 137) (tgt := 141) hC dX11_part_137 rfl ?_
                obtain rfl := Option.some.inj hw110
                exact V.ls (ls_some (ls_some (ls_some (ls_some (ls_none ls_nil))))) kj111
            refine v_if_eq (pc := 117) (tgt := 124) hC dX11_part_117 rfl (fun c129 => ?_) (fun c129 => ?_)
            · replace hw107 := (if_pos c129).symm.trans hw107
              refine v_iconst (pc := 124) (0 : Int32) rfl hC dX11_part_124 ?_
              obtain rfl := Option.some.inj hw107
              exact V.ls (ls_some (ls_some (ls_some (ls_some (ls_none ls_nil))))) kj108
            · replace hw107 := (if_neg c129).symm.trans hw107
              refine v_iconst (pc := 120) (1 : Int32) rfl hC dX11_part_120 ?_
              refine v_goto (pc := 121) (tgt := 125) hC dX11_part_121 rfl ?_
              obtain rfl := Option.some.inj hw107
              exact V.ls (ls_some (ls_some (ls_some (ls_some (ls_none ls_nil))))) kj108
          refine v_ic_ne (pc := 93) (tgt := 109) hC dX11_part_93 rfl (fun c130 => ?_) (fun c130 => ?_)
          · replace hw105 := (if_neg c130).symm.trans hw105
            refine v_iconst (pc := 109) (0 : Int32) rfl hC dX11_part_109 ?_
            obtain rfl := Option.some.inj hw105
            exact V.ls (ls_some (ls_some (ls_some (ls_none (ls_none ls_nil))))) kj106
          · replace hw105 := (if_pos c130).symm.trans hw105
            refine v_aload_n (pc := 96) hC dX11_part_96 rfl ?_
            obtain ⟨w131, hw131, hw105⟩ := obd_s hw105
            refine v_cV (pc := 97) [] [.int w131.1] gm_X11_byteNow hC s_49 rfl rfl (ct_X11_byteNow  hw131) ml_X11_258 rfl rfl rfl rfl rfl rfl dX11_part_97 ?_
            refine v_bipush (pc := 100) (45 : Int32) rfl hC dX11_part_100 ?_
            refine v_ic_ne (pc := 102) (tgt := 109) hC dX11_part_102 rfl (fun c132 => ?_) (fun c132 => ?_)
            · replace hw105 := (if_neg c132).symm.trans hw105
              refine v_iconst (pc := 109) (0 : Int32) rfl hC dX11_part_109 ?_
              obtain rfl := Option.some.inj hw105
              exact V.ls (ls_some (ls_some (ls_some (ls_none (ls_none ls_nil))))) kj106
            · replace hw105 := (if_pos c132).symm.trans hw105
              refine v_iconst (pc := 105) (1 : Int32) rfl hC dX11_part_105 ?_
              refine v_goto (pc := 106) (tgt := 110) hC dX11_part_106 rfl ?_
              obtain rfl := Option.some.inj hw105
              exact V.ls (ls_some (ls_some (ls_some (ls_none (ls_none ls_nil))))) kj106
        · replace h := (if_pos c133).symm.trans h
          refine v_aload_n (pc := 65) hC dX11_part_65 rfl ?_
          refine v_aload_n (pc := 66) hC dX11_part_66 rfl ?_
          refine v_gt (pc := 67) 25 (.int (gI w102.2 49 25)) hC s_49 rfl rfl rfl rfl fl_X11_252 dX11_part_67 ?_
          obtain ⟨s134, hs134, h⟩ := bnd_s h
          refine v_pI (pc := 70) 26 hC s_49 rfl rfl rfl rfl rfl rfl fl_X11_255 hs134 dX11_part_70 ?_
          obtain rfl := Option.some.inj h
          exact v_vret (pc := 73) hC rfl dX11_part_73 hP
    · replace h := (if_neg c135).symm.trans h
      refine v_iload_n (pc := 17) hC dX11_part_17 rfl ?_
      refine v_bipush (pc := 18) (114 : Int32) rfl hC dX11_part_18 ?_
      refine v_ic_eq (pc := 20) (tgt := 32) hC dX11_part_20 rfl (fun c202 => ?_) (fun c202 => ?_)
      · replace h := (if_pos c202).symm.trans h
        refine v_aload_n (pc := 32) hC dX11_part_32 rfl ?_
        refine v_dup (pc := 33) hC rfl dX11_part_33 ?_
        refine v_gt (pc := 34) 25 (.int (gI w1.2 49 25)) hC s_49 rfl rfl rfl rfl fl_X11_252 dX11_part_34 ?_
        refine v_iconst (pc := 37) (1 : Int32) rfl hC dX11_part_37 ?_
        refine v_iadd (pc := 38) hC dX11_part_38 ?_
        obtain ⟨s136, hs136, h⟩ := bnd_s h
        refine v_pI (pc := 39) 25 hC s_49 rfl rfl rfl rfl rfl rfl fl_X11_252 hs136 dX11_part_39 ?_
        refine v_iconst (pc := 42) (0 : Int32) rfl hC dX11_part_42 ?_
        refine v_istore_n (pc := 43) (lv' := [some (.ref (gad g 49)), some (.int w1.1), some (.int (0 : Int32)), none, none]) hC dX11_part_43 rfl rfl rfl rfl ?_
        refine v_iload_n (pc := 44) hC dX11_part_44 rfl ?_
        refine v_bipush (pc := 45) (112 : Int32) rfl hC dX11_part_45 ?_
        refine v_ic_ne (pc := 47) (tgt := 84) hC dX11_part_47 rfl (fun c166 => ?_) (fun c166 => ?_)
        · replace h := (if_neg c166).symm.trans h
          refine v_aload_n (pc := 84) hC dX11_part_84 rfl ?_
          refine v_bipush (pc := 85) (61 : Int32) rfl hC dX11_part_85 ?_
          obtain ⟨w137, hw137, h⟩ := obd_s h
          refine v_cV (pc := 87) [] [] gm_X11_expects hC s_49 rfl rfl (ct_X11_expects  hw137) ml_X11_261 rfl rfl rfl rfl rfl rfl dX11_part_87 ?_
          refine v_iload_n (pc := 90) hC dX11_part_90 rfl ?_
          refine v_bipush (pc := 91) (112 : Int32) rfl hC dX11_part_91 ?_
          obtain ⟨w138, hw138, h⟩ := obd_s h
          have kj139 : V SS g M iX11_part (PQ SS g M P) 110 [some (.ref (gad g 49)), some (.int w1.1), some (.int (0 : Int32)), none, none] [.int w138.1] w138.2 := by
            refine v_istore_n (pc := 110) (lv' := [some (.ref (gad g 49)), some (.int w1.1), some (.int (0 : Int32)), some (.int w138.1), none]) hC dX11_part_110 rfl rfl rfl rfl ?_
            refine v_aload_n (pc := 111) hC dX11_part_111 rfl ?_
            refine v_dup (pc := 112) hC rfl dX11_part_112 ?_
            refine v_gt (pc := 113) 25 (.int (gI w138.2 49 25)) hC s_49 rfl rfl rfl rfl fl_X11_252 dX11_part_113 ?_
            refine v_iload_n (pc := 116) hC dX11_part_116 rfl ?_
            obtain ⟨w140, hw140, h⟩ := obd_s h
            have kj141 : V SS g M iX11_part (PQ SS g M P) 125 [some (.ref (gad g 49)), some (.int w1.1), some (.int (0 : Int32)), some (.int w138.1), none] [.int w140, .int (gI w138.2 49 25), .ref (gad g 49)] w138.2 := by
              refine v_iadd (pc := 125) hC dX11_part_125 ?_
              obtain ⟨s142, hs142, h⟩ := bnd_s h
              refine v_pI (pc := 126) 25 hC s_49 rfl rfl rfl rfl rfl rfl fl_X11_252 hs142 dX11_part_126 ?_
              refine v_aload_n (pc := 129) hC dX11_part_129 rfl ?_
              refine v_iload_n (pc := 130) hC dX11_part_130 rfl ?_
              refine v_bipush (pc := 131) (114 : Int32) rfl hC dX11_part_131 ?_
              obtain ⟨w143, hw143, h⟩ := obd_s h
              have kj144 : V SS g M iX11_part (PQ SS g M P) 141 [some (.ref (gad g 49)), some (.int w1.1), some (.int (0 : Int32)), some (.int w138.1), none] [.int w143, .ref (gad g 49)] s142 := by
                obtain ⟨w145, hw145, h⟩ := obd_s h
                refine v_cV (pc := 141) [] [.int w145.1] gm_X11_number hC s_49 rfl rfl (ct_X11_number  hw145) ml_X11_264 rfl rfl rfl rfl rfl rfl dX11_part_141 ?_
                refine v_istore (pc := 144) (lv' := [some (.ref (gad g 49)), some (.int w1.1), some (.int (0 : Int32)), some (.int w138.1), some (.int w145.1)]) hC dX11_part_144 rfl rfl rfl rfl ?_
                refine v_aload_n (pc := 146) hC dX11_part_146 rfl ?_
                refine v_gt (pc := 147) 26 (.int (gI w145.2 49 26)) hC s_49 rfl rfl rfl rfl fl_X11_255 dX11_part_147 ?_
                refine v_iconst (pc := 150) (-1 : Int32) rfl hC dX11_part_150 ?_
                refine v_ic_ne (pc := 151) (tgt := 216) hC dX11_part_151 rfl (fun c146 => ?_) (fun c146 => ?_)
                · replace h := (if_neg c146).symm.trans h
                  obtain rfl := Option.some.inj h
                  exact v_vret (pc := 216) hC rfl dX11_part_216 hP
                · replace h := (if_pos c146).symm.trans h
                  refine v_iload_n (pc := 154) hC dX11_part_154 rfl ?_
                  refine v_bipush (pc := 155) (112 : Int32) rfl hC dX11_part_155 ?_
                  obtain ⟨w147, hw147, h⟩ := obd_s h
                  have kj148 : V SS g M iX11_part (PQ SS g M P) 178 [some (.ref (gad g 49)), some (.int w1.1), none, none, some (.int w145.1)] [] w147 := by
                    refine v_aload_n (pc := 178) hC dX11_part_178 rfl ?_
                    refine v_iload_n (pc := 179) hC dX11_part_179 rfl ?_
                    refine v_bipush (pc := 180) (102 : Int32) rfl hC dX11_part_180 ?_
                    obtain ⟨w149, hw149, h⟩ := obd_s h
                    have kj150 : V SS g M iX11_part (PQ SS g M P) 194 [some (.ref (gad g 49)), some (.int w1.1), none, none, some (.int w145.1)] [.int w149, .ref (gad g 49)] w147 := by
                      obtain ⟨s151, hs151, h⟩ := bnd_s h
                      refine v_pI (pc := 194) 23 hC s_49 rfl rfl rfl rfl rfl rfl fl_X11_267 hs151 dX11_part_194 ?_
                      refine v_aload_n (pc := 197) hC dX11_part_197 rfl ?_
                      refine v_iload_n (pc := 198) hC dX11_part_198 rfl ?_
                      refine v_bipush (pc := 199) (114 : Int32) rfl hC dX11_part_199 ?_
                      refine v_ic_ne (pc := 201) (tgt := 209) hC dX11_part_201 rfl (fun c153 => ?_) (fun c153 => ?_)
                      · replace h := (if_neg c153).symm.trans h
                        refine v_aload_n (pc := 209) hC dX11_part_209 rfl ?_
                        refine v_gt (pc := 210) 24 (.int (gI s151 49 24)) hC s_49 rfl rfl rfl rfl fl_X11_270 dX11_part_210 ?_
                        obtain ⟨s152, hs152, h⟩ := bnd_s h
                        refine v_pI (pc := 213) 24 hC s_49 rfl rfl rfl rfl rfl rfl fl_X11_270 hs152 dX11_part_213 ?_
                        obtain rfl := Option.some.inj h
                        exact v_vret (pc := 216) hC rfl dX11_part_216 hP
                      · replace h := (if_pos c153).symm.trans h
                        refine v_iload (pc := 204) hC dX11_part_204 rfl ?_
                        refine v_goto (pc := 206) (tgt := 213) hC dX11_part_206 rfl ?_
                        obtain ⟨s154, hs154, h⟩ := bnd_s h
                        refine v_pI (pc := 213) 24 hC s_49 rfl rfl rfl rfl rfl rfl fl_X11_270 hs154 dX11_part_213 ?_
                        obtain rfl := Option.some.inj h
                        exact v_vret (pc := 216) hC rfl dX11_part_216 hP
                    refine v_ic_ne (pc := 182) (tgt := 190) hC dX11_part_182 rfl (fun c155 => ?_) (fun c155 => ?_)
                    · replace hw149 := (if_neg c155).symm.trans hw149
                      refine v_aload_n (pc := 190) hC dX11_part_190 rfl ?_
                      refine v_gt (pc := 191) 23 (.int (gI w147 49 23)) hC s_49 rfl rfl rfl rfl fl_X11_267 dX11_part_191 ?_
                      obtain rfl := Option.some.inj hw149
                      exact V.ls (ls_some (ls_some (ls_none (ls_none (ls_some ls_nil))))) kj150
                    · replace hw149 := (if_pos c155).symm.trans hw149
                      refine v_iload (pc := 185) hC dX11_part_185 rfl ?_
                      refine v_goto (pc := 187) (tgt := 194) hC dX11_part_187 rfl ?_
                      obtain rfl := Option.some.inj hw149
                      exact V.ls (ls_some (ls_some (ls_none (ls_none (ls_some ls_nil))))) kj150
                  refine v_ic_ne (pc := 157) (tgt := 178) hC dX11_part_157 rfl (fun c156 => ?_) (fun c156 => ?_)
                  · replace hw147 := (if_neg c156).symm.trans hw147
                    obtain rfl := Option.some.inj hw147
                    exact V.ls (ls_some (ls_some (ls_none (ls_none (ls_some ls_nil))))) kj148
                  · replace hw147 := (if_pos c156).symm.trans hw147
                    refine v_aload_n (pc := 160) hC dX11_part_160 rfl ?_
                    refine v_gt (pc := 161) 22 (.ref (gad g 68)) hC s_49 rfl rfl rfl rfl fl_X11_65 dX11_part_161 ?_
                    refine v_iload_n (pc := 164) hC dX11_part_164 rfl ?_
                    refine v_iload_n (pc := 165) hC dX11_part_165 rfl ?_
                    obtain ⟨w157, hw157, hw147⟩ := obd_s hw147
                    have kj158 : V SS g M iX11_part (PQ SS g M P) 177 [some (.ref (gad g 49)), some (.int w1.1), none, none, some (.int w145.1)] [.int w157, .int (0 : Int32), .ref (gad g 68)] w145.2 := by
                      obtain ⟨s159, hs159, hw147⟩ := obd_s hw147
                      refine v_wI (pc := 177) hC s_68 hs159 dX11_part_177 ?_
                      obtain rfl := Option.some.inj hw147
                      exact V.ls (ls_some (ls_some (ls_none (ls_none (ls_some ls_nil))))) kj148
                    refine v_if_eq (pc := 166) (tgt := 175) hC dX11_part_166 rfl (fun c160 => ?_) (fun c160 => ?_)
                    · replace hw157 := (if_pos c160).symm.trans hw157
                      refine v_iload (pc := 175) hC dX11_part_175 rfl ?_
                      obtain rfl := Option.some.inj hw157
                      exact V.ls (ls_some (ls_some (ls_none (ls_none (ls_some ls_nil))))) kj158
                    · replace hw157 := (if_neg c160).symm.trans hw157
                      refine v_iload (pc := 169) hC dX11_part_169 rfl ?_
                      refine v_ineg (pc := 171) hC dX11_part_171 ?_
                      refine v_goto (pc := 172) (tgt := 177) hC dX11_part_172 rfl ?_
                      obtain rfl := Option.some.inj hw157
                      exact V.ls (ls_some (ls_some (ls_none (ls_none (ls_some ls_nil))))) kj158
              refine v_ic_ne (pc := 133) (tgt := 140) hC dX11_part_133 rfl (fun c161 => ?_) (fun c161 => ?_)
              · replace hw143 := (if_neg c161).symm.trans hw143
                refine v_iconst (pc := 140) (2 : Int32) rfl hC dX11_part_140 ?_
                obtain rfl := Option.some.inj hw143
                exact V.ls (ls_some (ls_some (ls_some (ls_some (ls_none ls_nil))))) kj144
              · replace hw143 := (if_pos c161).symm.trans hw143
                refine v_iconst (pc := 136) (1 : Int32) rfl hC dX11_part_136 ?_
                refine v_goto (pc := 137) (tgt := 141) hC dX11_part_137 rfl ?_
                obtain rfl := Option.some.inj hw143
                exact V.ls (ls_some (ls_some (ls_some (ls_some (ls_none ls_nil))))) kj144
            refine v_if_eq (pc := 117) (tgt := 124) hC dX11_part_117 rfl (fun c162 => ?_) (fun c162 => ?_)
            · replace hw140 := (if_pos c162).symm.trans hw140
              refine v_iconst (pc := 124) (0 : Int32) rfl hC dX11_part_124 ?_
              obtain rfl := Option.some.inj hw140
              exact V.ls (ls_some (ls_some (ls_some (ls_some (ls_none ls_nil))))) kj141
            · replace hw140 := (if_neg c162).symm.trans hw140
              refine v_iconst (pc := 120) (1 : Int32) rfl hC dX11_part_120 ?_
              refine v_goto (pc := 121) (tgt := 125) hC dX11_part_121 rfl ?_
              obtain rfl := Option.some.inj hw140
              exact V.ls (ls_some (ls_some (ls_some (ls_some (ls_none ls_nil))))) kj141
          refine v_ic_ne (pc := 93) (tgt := 109) hC dX11_part_93 rfl (fun c163 => ?_) (fun c163 => ?_)
          · replace hw138 := (if_neg c163).symm.trans hw138
            refine v_iconst (pc := 109) (0 : Int32) rfl hC dX11_part_109 ?_
            obtain rfl := Option.some.inj hw138
            exact V.ls (ls_some (ls_some (ls_some (ls_none (ls_none ls_nil))))) kj139
          · replace hw138 := (if_pos c163).symm.trans hw138
            refine v_aload_n (pc := 96) hC dX11_part_96 rfl ?_
            obtain ⟨w164, hw164, hw138⟩ := obd_s hw138
            refine v_cV (pc := 97) [] [.int w164.1] gm_X11_byteNow hC s_49 rfl rfl (ct_X11_byteNow  hw164) ml_X11_258 rfl rfl rfl rfl rfl rfl dX11_part_97 ?_
            refine v_bipush (pc := 100) (45 : Int32) rfl hC dX11_part_100 ?_
            refine v_ic_ne (pc := 102) (tgt := 109) hC dX11_part_102 rfl (fun c165 => ?_) (fun c165 => ?_)
            · replace hw138 := (if_neg c165).symm.trans hw138
              refine v_iconst (pc := 109) (0 : Int32) rfl hC dX11_part_109 ?_
              obtain rfl := Option.some.inj hw138
              exact V.ls (ls_some (ls_some (ls_some (ls_none (ls_none ls_nil))))) kj139
            · replace hw138 := (if_pos c165).symm.trans hw138
              refine v_iconst (pc := 105) (1 : Int32) rfl hC dX11_part_105 ?_
              refine v_goto (pc := 106) (tgt := 110) hC dX11_part_106 rfl ?_
              obtain rfl := Option.some.inj hw138
              exact V.ls (ls_some (ls_some (ls_some (ls_none (ls_none ls_nil))))) kj139
        · replace h := (if_pos c166).symm.trans h
          refine v_aload_n (pc := 50) hC dX11_part_50 rfl ?_
          obtain ⟨w167, hw167, h⟩ := obd_s h
          refine v_cV (pc := 51) [] [.int w167.1] gm_X11_byteNow hC s_49 rfl rfl (ct_X11_byteNow  hw167) ml_X11_258 rfl rfl rfl rfl rfl rfl dX11_part_51 ?_
          refine v_bipush (pc := 54) (48 : Int32) rfl hC dX11_part_54 ?_
          refine v_isub (pc := 56) hC dX11_part_56 ?_
          obtain ⟨x168, hx168, h⟩ := bnd_s h
          refine v_istore_n (pc := 57) (lv' := [some (.ref (gad g 49)), some (.int w1.1), some (.int x168), none, none]) hC dX11_part_57 hx168 rfl rfl rfl ?_
          refine v_iload_n (pc := 58) hC dX11_part_58 rfl ?_
          obtain ⟨w169, hw169, h⟩ := obd_s h
          refine v_cS (pc := 59) [] [.int w169.1] gm_X11_isLane hC (ct_X11_isLane  hw169) ml_X11_112 rfl rfl rfl rfl rfl rfl dX11_part_59 ?_
          refine v_if_ne (pc := 62) (tgt := 74) hC dX11_part_62 rfl (fun c200 => ?_) (fun c200 => ?_)
          · replace h := (if_neg c200).symm.trans h
            refine v_aload_n (pc := 74) hC dX11_part_74 rfl ?_
            refine v_dup (pc := 75) hC rfl dX11_part_75 ?_
            refine v_gt (pc := 76) 25 (.int (gI w169.2 49 25)) hC s_49 rfl rfl rfl rfl fl_X11_252 dX11_part_76 ?_
            refine v_iconst (pc := 79) (1 : Int32) rfl hC dX11_part_79 ?_
            refine v_iadd (pc := 80) hC dX11_part_80 ?_
            obtain ⟨s170, hs170, h⟩ := bnd_s h
            refine v_pI (pc := 81) 25 hC s_49 rfl rfl rfl rfl rfl rfl fl_X11_252 hs170 dX11_part_81 ?_
            refine v_aload_n (pc := 84) hC dX11_part_84 rfl ?_
            refine v_bipush (pc := 85) (61 : Int32) rfl hC dX11_part_85 ?_
            obtain ⟨w171, hw171, h⟩ := obd_s h
            refine v_cV (pc := 87) [] [] gm_X11_expects hC s_49 rfl rfl (ct_X11_expects  hw171) ml_X11_261 rfl rfl rfl rfl rfl rfl dX11_part_87 ?_
            refine v_iload_n (pc := 90) hC dX11_part_90 rfl ?_
            refine v_bipush (pc := 91) (112 : Int32) rfl hC dX11_part_91 ?_
            obtain ⟨w172, hw172, h⟩ := obd_s h
            have kj173 : V SS g M iX11_part (PQ SS g M P) 110 [some (.ref (gad g 49)), some (.int w1.1), some (.int x168), none, none] [.int w172.1] w172.2 := by
              refine v_istore_n (pc := 110) (lv' := [some (.ref (gad g 49)), some (.int w1.1), some (.int x168), some (.int w172.1), none]) hC dX11_part_110 rfl rfl rfl rfl ?_
              refine v_aload_n (pc := 111) hC dX11_part_111 rfl ?_
              refine v_dup (pc := 112) hC rfl dX11_part_112 ?_
              refine v_gt (pc := 113) 25 (.int (gI w172.2 49 25)) hC s_49 rfl rfl rfl rfl fl_X11_252 dX11_part_113 ?_
              refine v_iload_n (pc := 116) hC dX11_part_116 rfl ?_
              obtain ⟨w174, hw174, h⟩ := obd_s h
              have kj175 : V SS g M iX11_part (PQ SS g M P) 125 [some (.ref (gad g 49)), some (.int w1.1), some (.int x168), some (.int w172.1), none] [.int w174, .int (gI w172.2 49 25), .ref (gad g 49)] w172.2 := by
                refine v_iadd (pc := 125) hC dX11_part_125 ?_
                obtain ⟨s176, hs176, h⟩ := bnd_s h
                refine v_pI (pc := 126) 25 hC s_49 rfl rfl rfl rfl rfl rfl fl_X11_252 hs176 dX11_part_126 ?_
                refine v_aload_n (pc := 129) hC dX11_part_129 rfl ?_
                refine v_iload_n (pc := 130) hC dX11_part_130 rfl ?_
                refine v_bipush (pc := 131) (114 : Int32) rfl hC dX11_part_131 ?_
                obtain ⟨w177, hw177, h⟩ := obd_s h
                have kj178 : V SS g M iX11_part (PQ SS g M P) 141 [some (.ref (gad g 49)), some (.int w1.1), some (.int x168), some (.int w172.1), none] [.int w177, .ref (gad g 49)] s176 := by
                  obtain ⟨w179, hw179, h⟩ := obd_s h
                  refine v_cV (pc := 141) [] [.int w179.1] gm_X11_number hC s_49 rfl rfl (ct_X11_number  hw179) ml_X11_264 rfl rfl rfl rfl rfl rfl dX11_part_141 ?_
                  refine v_istore (pc := 144) (lv' := [some (.ref (gad g 49)), some (.int w1.1), some (.int x168), some (.int w172.1), some (.int w179.1)]) hC dX11_part_144 rfl rfl rfl rfl ?_
                  refine v_aload_n (pc := 146) hC dX11_part_146 rfl ?_
                  refine v_gt (pc := 147) 26 (.int (gI w179.2 49 26)) hC s_49 rfl rfl rfl rfl fl_X11_255 dX11_part_147 ?_
                  refine v_iconst (pc := 150) (-1 : Int32) rfl hC dX11_part_150 ?_
                  refine v_ic_ne (pc := 151) (tgt := 216) hC dX11_part_151 rfl (fun c180 => ?_) (fun c180 => ?_)
                  · replace h := (if_neg c180).symm.trans h
                    obtain rfl := Option.some.inj h
                    exact v_vret (pc := 216) hC rfl dX11_part_216 hP
                  · replace h := (if_pos c180).symm.trans h
                    refine v_iload_n (pc := 154) hC dX11_part_154 rfl ?_
                    refine v_bipush (pc := 155) (112 : Int32) rfl hC dX11_part_155 ?_
                    obtain ⟨w181, hw181, h⟩ := obd_s h
                    have kj182 : V SS g M iX11_part (PQ SS g M P) 178 [some (.ref (gad g 49)), some (.int w1.1), none, none, some (.int w179.1)] [] w181 := by
                      refine v_aload_n (pc := 178) hC dX11_part_178 rfl ?_
                      refine v_iload_n (pc := 179) hC dX11_part_179 rfl ?_
                      refine v_bipush (pc := 180) (102 : Int32) rfl hC dX11_part_180 ?_
                      obtain ⟨w183, hw183, h⟩ := obd_s h
                      have kj184 : V SS g M iX11_part (PQ SS g M P) 194 [some (.ref (gad g 49)), some (.int w1.1), none, none, some (.int w179.1)] [.int w183, .ref (gad g 49)] w181 := by
                        obtain ⟨s185, hs185, h⟩ := bnd_s h
                        refine v_pI (pc := 194) 23 hC s_49 rfl rfl rfl rfl rfl rfl fl_X11_267 hs185 dX11_part_194 ?_
                        refine v_aload_n (pc := 197) hC dX11_part_197 rfl ?_
                        refine v_iload_n (pc := 198) hC dX11_part_198 rfl ?_
                        refine v_bipush (pc := 199) (114 : Int32) rfl hC dX11_part_199 ?_
                        refine v_ic_ne (pc := 201) (tgt := 209) hC dX11_part_201 rfl (fun c187 => ?_) (fun c187 => ?_)
                        · replace h := (if_neg c187).symm.trans h
                          refine v_aload_n (pc := 209) hC dX11_part_209 rfl ?_
                          refine v_gt (pc := 210) 24 (.int (gI s185 49 24)) hC s_49 rfl rfl rfl rfl fl_X11_270 dX11_part_210 ?_
                          obtain ⟨s186, hs186, h⟩ := bnd_s h
                          refine v_pI (pc := 213) 24 hC s_49 rfl rfl rfl rfl rfl rfl fl_X11_270 hs186 dX11_part_213 ?_
                          obtain rfl := Option.some.inj h
                          exact v_vret (pc := 216) hC rfl dX11_part_216 hP
                        · replace h := (if_pos c187).symm.trans h
                          refine v_iload (pc := 204) hC dX11_part_204 rfl ?_
                          refine v_goto (pc := 206) (tgt := 213) hC dX11_part_206 rfl ?_
                          obtain ⟨s188, hs188, h⟩ := bnd_s h
                          refine v_pI (pc := 213) 24 hC s_49 rfl rfl rfl rfl rfl rfl fl_X11_270 hs188 dX11_part_213 ?_
                          obtain rfl := Option.some.inj h
                          exact v_vret (pc := 216) hC rfl dX11_part_216 hP
                      refine v_ic_ne (pc := 182) (tgt := 190) hC dX11_part_182 rfl (fun c189 => ?_) (fun c189 => ?_)
                      · replace hw183 := (if_neg c189).symm.trans hw183
                        refine v_aload_n (pc := 190) hC dX11_part_190 rfl ?_
                        refine v_gt (pc := 191) 23 (.int (gI w181 49 23)) hC s_49 rfl rfl rfl rfl fl_X11_267 dX11_part_191 ?_
                        obtain rfl := Option.some.inj hw183
                        exact V.ls (ls_some (ls_some (ls_none (ls_none (ls_some ls_nil))))) kj184
                      · replace hw183 := (if_pos c189).symm.trans hw183
                        refine v_iload (pc := 185) hC dX11_part_185 rfl ?_
                        refine v_goto (pc := 187) (tgt := 194) hC dX11_part_187 rfl ?_
                        obtain rfl := Option.some.inj hw183
                        exact V.ls (ls_some (ls_some (ls_none (ls_none (ls_some ls_nil))))) kj184
                    refine v_ic_ne (pc := 157) (tgt := 178) hC dX11_part_157 rfl (fun c190 => ?_) (fun c190 => ?_)
                    · replace hw181 := (if_neg c190).symm.trans hw181
                      obtain rfl := Option.some.inj hw181
                      exact V.ls (ls_some (ls_some (ls_none (ls_none (ls_some ls_nil))))) kj182
                    · replace hw181 := (if_pos c190).symm.trans hw181
                      refine v_aload_n (pc := 160) hC dX11_part_160 rfl ?_
                      refine v_gt (pc := 161) 22 (.ref (gad g 68)) hC s_49 rfl rfl rfl rfl fl_X11_65 dX11_part_161 ?_
                      refine v_iload_n (pc := 164) hC dX11_part_164 rfl ?_
                      refine v_iload_n (pc := 165) hC dX11_part_165 rfl ?_
                      obtain ⟨w191, hw191, hw181⟩ := obd_s hw181
                      have kj192 : V SS g M iX11_part (PQ SS g M P) 177 [some (.ref (gad g 49)), some (.int w1.1), none, none, some (.int w179.1)] [.int w191, .int x168, .ref (gad g 68)] w179.2 := by
                        obtain ⟨s193, hs193, hw181⟩ := obd_s hw181
                        refine v_wI (pc := 177) hC s_68 hs193 dX11_part_177 ?_
                        obtain rfl := Option.some.inj hw181
                        exact V.ls (ls_some (ls_some (ls_none (ls_none (ls_some ls_nil))))) kj182
                      refine v_if_eq (pc := 166) (tgt := 175) hC dX11_part_166 rfl (fun c194 => ?_) (fun c194 => ?_)
                      · replace hw191 := (if_pos c194).symm.trans hw191
                        refine v_iload (pc := 175) hC dX11_part_175 rfl ?_
                        obtain rfl := Option.some.inj hw191
                        exact V.ls (ls_some (ls_some (ls_none (ls_none (ls_some ls_nil))))) kj192
                      · replace hw191 := (if_neg c194).symm.trans hw191
                        refine v_iload (pc := 169) hC dX11_part_169 rfl ?_
                        refine v_ineg (pc := 171) hC dX11_part_171 ?_
                        refine v_goto (pc := 172) (tgt := 177) hC dX11_part_172 rfl ?_
                        obtain rfl := Option.some.inj hw191
                        exact V.ls (ls_some (ls_some (ls_none (ls_none (ls_some ls_nil))))) kj192
                refine v_ic_ne (pc := 133) (tgt := 140) hC dX11_part_133 rfl (fun c195 => ?_) (fun c195 => ?_)
                · replace hw177 := (if_neg c195).symm.trans hw177
                  refine v_iconst (pc := 140) (2 : Int32) rfl hC dX11_part_140 ?_
                  obtain rfl := Option.some.inj hw177
                  exact V.ls (ls_some (ls_some (ls_some (ls_some (ls_none ls_nil))))) kj178
                · replace hw177 := (if_pos c195).symm.trans hw177
                  refine v_iconst (pc := 136) (1 : Int32) rfl hC dX11_part_136 ?_
                  refine v_goto (pc := 137) (tgt := 141) hC dX11_part_137 rfl ?_
                  obtain rfl := Option.some.inj hw177
                  exact V.ls (ls_some (ls_some (ls_some (ls_some (ls_none ls_nil))))) kj178
              refine v_if_eq (pc := 117) (tgt := 124) hC dX11_part_117 rfl (fun c196 => ?_) (fun c196 => ?_)
              · replace hw174 := (if_pos c196).symm.trans hw174
                refine v_iconst (pc := 124) (0 : Int32) rfl hC dX11_part_124 ?_
                obtain rfl := Option.some.inj hw174
                exact V.ls (ls_some (ls_some (ls_some (ls_some (ls_none ls_nil))))) kj175
              · replace hw174 := (if_neg c196).symm.trans hw174
                refine v_iconst (pc := 120) (1 : Int32) rfl hC dX11_part_120 ?_
                refine v_goto (pc := 121) (tgt := 125) hC dX11_part_121 rfl ?_
                obtain rfl := Option.some.inj hw174
                exact V.ls (ls_some (ls_some (ls_some (ls_some (ls_none ls_nil))))) kj175
            refine v_ic_ne (pc := 93) (tgt := 109) hC dX11_part_93 rfl (fun c197 => ?_) (fun c197 => ?_)
            · replace hw172 := (if_neg c197).symm.trans hw172
              refine v_iconst (pc := 109) (0 : Int32) rfl hC dX11_part_109 ?_
              obtain rfl := Option.some.inj hw172
              exact V.ls (ls_some (ls_some (ls_some (ls_none (ls_none ls_nil))))) kj173
            · replace hw172 := (if_pos c197).symm.trans hw172
              refine v_aload_n (pc := 96) hC dX11_part_96 rfl ?_
              obtain ⟨w198, hw198, hw172⟩ := obd_s hw172
              refine v_cV (pc := 97) [] [.int w198.1] gm_X11_byteNow hC s_49 rfl rfl (ct_X11_byteNow  hw198) ml_X11_258 rfl rfl rfl rfl rfl rfl dX11_part_97 ?_
              refine v_bipush (pc := 100) (45 : Int32) rfl hC dX11_part_100 ?_
              refine v_ic_ne (pc := 102) (tgt := 109) hC dX11_part_102 rfl (fun c199 => ?_) (fun c199 => ?_)
              · replace hw172 := (if_neg c199).symm.trans hw172
                refine v_iconst (pc := 109) (0 : Int32) rfl hC dX11_part_109 ?_
                obtain rfl := Option.some.inj hw172
                exact V.ls (ls_some (ls_some (ls_some (ls_none (ls_none ls_nil))))) kj173
              · replace hw172 := (if_pos c199).symm.trans hw172
                refine v_iconst (pc := 105) (1 : Int32) rfl hC dX11_part_105 ?_
                refine v_goto (pc := 106) (tgt := 110) hC dX11_part_106 rfl ?_
                obtain rfl := Option.some.inj hw172
                exact V.ls (ls_some (ls_some (ls_some (ls_none (ls_none ls_nil))))) kj173
          · replace h := (if_pos c200).symm.trans h
            refine v_aload_n (pc := 65) hC dX11_part_65 rfl ?_
            refine v_aload_n (pc := 66) hC dX11_part_66 rfl ?_
            refine v_gt (pc := 67) 25 (.int (gI w169.2 49 25)) hC s_49 rfl rfl rfl rfl fl_X11_252 dX11_part_67 ?_
            obtain ⟨s201, hs201, h⟩ := bnd_s h
            refine v_pI (pc := 70) 26 hC s_49 rfl rfl rfl rfl rfl rfl fl_X11_255 hs201 dX11_part_70 ?_
            obtain rfl := Option.some.inj h
            exact v_vret (pc := 73) hC rfl dX11_part_73 hP
      · replace h := (if_neg c202).symm.trans h
        refine v_aload_n (pc := 23) hC dX11_part_23 rfl ?_
        refine v_aload_n (pc := 24) hC dX11_part_24 rfl ?_
        refine v_gt (pc := 25) 25 (.int (gI w1.2 49 25)) hC s_49 rfl rfl rfl rfl fl_X11_252 dX11_part_25 ?_
        obtain ⟨s203, hs203, h⟩ := bnd_s h
        refine v_pI (pc := 28) 26 hC s_49 rfl rfl rfl rfl rfl rfl fl_X11_255 hs203 dX11_part_28 ?_
        obtain rfl := Option.some.inj h
        exact v_vret (pc := 31) hC rfl dX11_part_31 hP
theorem dX11_plain_0 : decode cX11_plain 0 = .ok (.iconst 0, 1) := by decide +kernel
theorem dX11_plain_1 : decode cX11_plain 1 = .ok (.istore_n 1, 1) := by decide +kernel
theorem dX11_plain_2 : decode cX11_plain 2 = .ok (.iload_n 1, 1) := by decide +kernel
theorem dX11_plain_3 : decode cX11_plain 3 = .ok (.bipush 8, 2) := by decide +kernel
theorem dX11_plain_5 : decode cX11_plain 5 = .ok (.if_icmp .ge 16, 3) := by decide +kernel
theorem dX11_plain_8 : decode cX11_plain 8 = .ok (.aload_n 0, 1) := by decide +kernel
theorem dX11_plain_9 : decode cX11_plain 9 = .ok (.getfield 65, 3) := by decide +kernel
theorem dX11_plain_12 : decode cX11_plain 12 = .ok (.iload_n 1, 1) := by decide +kernel
theorem dX11_plain_13 : decode cX11_plain 13 = .ok (.iconst 0, 1) := by decide +kernel
theorem dX11_plain_14 : decode cX11_plain 14 = .ok (.iastore, 1) := by decide +kernel
theorem dX11_plain_15 : decode cX11_plain 15 = .ok (.iinc 1 1, 3) := by decide +kernel
theorem dX11_plain_18 : decode cX11_plain 18 = .ok (.goto (-16), 3) := by decide +kernel
theorem dX11_plain_21 : decode cX11_plain 21 = .ok (.aload_n 0, 1) := by decide +kernel
theorem dX11_plain_22 : decode cX11_plain 22 = .ok (.iconst 0, 1) := by decide +kernel
theorem dX11_plain_23 : decode cX11_plain 23 = .ok (.putfield 267, 3) := by decide +kernel
theorem dX11_plain_26 : decode cX11_plain 26 = .ok (.aload_n 0, 1) := by decide +kernel
theorem dX11_plain_27 : decode cX11_plain 27 = .ok (.iconst 0, 1) := by decide +kernel
theorem dX11_plain_28 : decode cX11_plain 28 = .ok (.putfield 270, 3) := by decide +kernel
theorem dX11_plain_31 : decode cX11_plain 31 = .ok (.return_, 1) := by decide +kernel
def fX11_plain_L2  (a : Int32) (s : Sg) : Option (((Int32) ⊕ (Unit)) × Sg) :=
  if (8 : Int32) ≤ a then
  some (.inr (), s)
  else
  (wI s 68 8 a (0 : Int32)).bind fun s2 =>
  bnd (a + (1 : Int32)) fun x3 =>
  some (.inl x3, s2)
def fX11_plain  (s : Sg) : Option (Sg) :=
  (lpG (fX11_plain_L2) FU (0 : Int32) s).bind fun w1 =>
  bnd (sI w1.2 49 23 (0 : Int32)) fun s2 =>
  bnd (sI s2 49 24 (0 : Int32)) fun s3 =>
  some s3
theorem ct_X11_plain {g : Gl}  {s : Sg} {w : Sg}  (h : fX11_plain s = some w) : Ct SS g iX11_plain 0 0 [.ref (gad g 49)] s (Dt none w) := by
  refine Ct.ofV (by decide +kernel) 1 (lv0 := [some (.ref (gad g 49)), none]) rfl rfl (fun M hC => ?_)
  have hP : (Dt none w) none w := ⟨rfl, rfl⟩
  generalize Dt none w = P at hP ⊢
  unfold fX11_plain at h
  refine v_iconst (pc := 0) (0 : Int32) rfl hC dX11_plain_0 ?_
  refine v_istore_n (pc := 1) (lv' := [some (.ref (gad g 49)), some (.int (0 : Int32))]) hC dX11_plain_1 rfl rfl rfl rfl ?_
  obtain ⟨w1, hw1, h⟩ := obd_s h
  have kx13 : V SS g M iX11_plain (PQ SS g M P) 21 [some (.ref (gad g 49)), none] [] w1.2 := by
    refine v_aload_n (pc := 21) hC dX11_plain_21 rfl ?_
    refine v_iconst (pc := 22) (0 : Int32) rfl hC dX11_plain_22 ?_
    obtain ⟨s2, hs2, h⟩ := bnd_s h
    refine v_pI (pc := 23) 23 hC s_49 rfl rfl rfl rfl rfl rfl fl_X11_267 hs2 dX11_plain_23 ?_
    refine v_aload_n (pc := 26) hC dX11_plain_26 rfl ?_
    refine v_iconst (pc := 27) (0 : Int32) rfl hC dX11_plain_27 ?_
    obtain ⟨s3, hs3, h⟩ := bnd_s h
    refine v_pI (pc := 28) 24 hC s_49 rfl rfl rfl rfl rfl rfl fl_X11_270 hs3 dX11_plain_28 ?_
    obtain rfl := Option.some.inj h
    exact v_vret (pc := 31) hC rfl dX11_plain_31 hP
  refine V.ls (ls_some (ls_some ls_nil)) (v_loop (pc := 2) (fun a6 => [some (.ref (gad g 49)), some (.int a6)]) (fun z t => V SS g M iX11_plain (PQ SS g M P) 21 [some (.ref (gad g 49)), none] [] t) (fun a6 s4 u5 hu5 k7 k8 => ?_) _ _ _ _ hw1 kx13)
  unfold fX11_plain_L2 at hu5
  refine v_iload_n (pc := 2) hC dX11_plain_2 rfl ?_
  refine v_bipush (pc := 3) (8 : Int32) rfl hC dX11_plain_3 ?_
  refine v_ic_ge (pc := 5) (tgt := 21) hC dX11_plain_5 rfl (fun c10 => ?_) (fun c10 => ?_)
  · replace hu5 := (if_pos c10).symm.trans hu5
    obtain rfl := Option.some.inj hu5
    exact V.ls (ls_some (ls_none ls_nil)) (k8 _ rfl)
  · replace hu5 := (if_neg c10).symm.trans hu5
    refine v_aload_n (pc := 8) hC dX11_plain_8 rfl ?_
    refine v_gt (pc := 9) 22 (.ref (gad g 68)) hC s_49 rfl rfl rfl rfl fl_X11_65 dX11_plain_9 ?_
    refine v_iload_n (pc := 12) hC dX11_plain_12 rfl ?_
    refine v_iconst (pc := 13) (0 : Int32) rfl hC dX11_plain_13 ?_
    obtain ⟨s11, hs11, hu5⟩ := obd_s hu5
    refine v_wI (pc := 14) hC s_68 hs11 dX11_plain_14 ?_
    obtain ⟨x12, hx12, hu5⟩ := bnd_s hu5
    refine v_iinc (pc := 15) (lv' := [some (.ref (gad g 49)), some (.int x12)]) (1 : Int32) rfl hx12 hC dX11_plain_15 rfl rfl rfl rfl ?_
    refine v_goto (pc := 18) (tgt := 2) hC dX11_plain_18 rfl ?_
    obtain rfl := Option.some.inj hu5
    exact V.ls (ls_some (ls_some ls_nil)) (k7 _ rfl)
theorem dX11_worldFault_0 : decode cX11_worldFault 0 = .ok (.aload_n 0, 1) := by decide +kernel
theorem dX11_worldFault_1 : decode cX11_worldFault 1 = .ok (.invokevirtual 273, 3) := by decide +kernel
theorem dX11_worldFault_4 : decode cX11_worldFault 4 = .ok (.aload_n 0, 1) := by decide +kernel
theorem dX11_worldFault_5 : decode cX11_worldFault 5 = .ok (.iconst 0, 1) := by decide +kernel
theorem dX11_worldFault_6 : decode cX11_worldFault 6 = .ok (.putfield 252, 3) := by decide +kernel
theorem dX11_worldFault_9 : decode cX11_worldFault 9 = .ok (.aload_n 0, 1) := by decide +kernel
theorem dX11_worldFault_10 : decode cX11_worldFault 10 = .ok (.iconst (-1), 1) := by decide +kernel
theorem dX11_worldFault_11 : decode cX11_worldFault 11 = .ok (.putfield 255, 3) := by decide +kernel
theorem dX11_worldFault_14 : decode cX11_worldFault 14 = .ok (.aload_n 0, 1) := by decide +kernel
theorem dX11_worldFault_15 : decode cX11_worldFault 15 = .ok (.getfield 59, 3) := by decide +kernel
theorem dX11_worldFault_18 : decode cX11_worldFault 18 = .ok (.iconst 1, 1) := by decide +kernel
theorem dX11_worldFault_19 : decode cX11_worldFault 19 = .ok (.iaload, 1) := by decide +kernel
theorem dX11_worldFault_20 : decode cX11_worldFault 20 = .ok (.ifCond .le 7, 3) := by decide +kernel
theorem dX11_worldFault_23 : decode cX11_worldFault 23 = .ok (.iconst 1, 1) := by decide +kernel
theorem dX11_worldFault_24 : decode cX11_worldFault 24 = .ok (.goto 4, 3) := by decide +kernel
theorem dX11_worldFault_27 : decode cX11_worldFault 27 = .ok (.iconst 0, 1) := by decide +kernel
theorem dX11_worldFault_28 : decode cX11_worldFault 28 = .ok (.istore_n 1, 1) := by decide +kernel
theorem dX11_worldFault_29 : decode cX11_worldFault 29 = .ok (.iload_n 1, 1) := by decide +kernel
theorem dX11_worldFault_30 : decode cX11_worldFault 30 = .ok (.ifCond .eq 61, 3) := by decide +kernel
theorem dX11_worldFault_33 : decode cX11_worldFault 33 = .ok (.aload_n 0, 1) := by decide +kernel
theorem dX11_worldFault_34 : decode cX11_worldFault 34 = .ok (.invokevirtual 276, 3) := by decide +kernel
theorem dX11_worldFault_37 : decode cX11_worldFault 37 = .ok (.aload_n 0, 1) := by decide +kernel
theorem dX11_worldFault_38 : decode cX11_worldFault 38 = .ok (.getfield 255, 3) := by decide +kernel
theorem dX11_worldFault_41 : decode cX11_worldFault 41 = .ok (.iconst (-1), 1) := by decide +kernel
theorem dX11_worldFault_42 : decode cX11_worldFault 42 = .ok (.if_icmp .ne 20, 3) := by decide +kernel
theorem dX11_worldFault_45 : decode cX11_worldFault 45 = .ok (.aload_n 0, 1) := by decide +kernel
theorem dX11_worldFault_46 : decode cX11_worldFault 46 = .ok (.getfield 252, 3) := by decide +kernel
theorem dX11_worldFault_49 : decode cX11_worldFault 49 = .ok (.aload_n 0, 1) := by decide +kernel
theorem dX11_worldFault_50 : decode cX11_worldFault 50 = .ok (.getfield 59, 3) := by decide +kernel
theorem dX11_worldFault_53 : decode cX11_worldFault 53 = .ok (.iconst 1, 1) := by decide +kernel
theorem dX11_worldFault_54 : decode cX11_worldFault 54 = .ok (.iaload, 1) := by decide +kernel
theorem dX11_worldFault_55 : decode cX11_worldFault 55 = .ok (.if_icmp .ge 7, 3) := by decide +kernel
theorem dX11_worldFault_58 : decode cX11_worldFault 58 = .ok (.iconst 1, 1) := by decide +kernel
theorem dX11_worldFault_59 : decode cX11_worldFault 59 = .ok (.goto 4, 3) := by decide +kernel
theorem dX11_worldFault_62 : decode cX11_worldFault 62 = .ok (.iconst 0, 1) := by decide +kernel
theorem dX11_worldFault_63 : decode cX11_worldFault 63 = .ok (.istore_n 1, 1) := by decide +kernel
theorem dX11_worldFault_64 : decode cX11_worldFault 64 = .ok (.iload_n 1, 1) := by decide +kernel
theorem dX11_worldFault_65 : decode cX11_worldFault 65 = .ok (.ifCond .eq (-36), 3) := by decide +kernel
theorem dX11_worldFault_68 : decode cX11_worldFault 68 = .ok (.aload_n 0, 1) := by decide +kernel
theorem dX11_worldFault_69 : decode cX11_worldFault 69 = .ok (.bipush 59, 2) := by decide +kernel
theorem dX11_worldFault_71 : decode cX11_worldFault 71 = .ok (.invokevirtual 261, 3) := by decide +kernel
theorem dX11_worldFault_74 : decode cX11_worldFault 74 = .ok (.aload_n 0, 1) := by decide +kernel
theorem dX11_worldFault_75 : decode cX11_worldFault 75 = .ok (.getfield 255, 3) := by decide +kernel
theorem dX11_worldFault_78 : decode cX11_worldFault 78 = .ok (.iconst (-1), 1) := by decide +kernel
theorem dX11_worldFault_79 : decode cX11_worldFault 79 = .ok (.if_icmp .ne 7, 3) := by decide +kernel
theorem dX11_worldFault_82 : decode cX11_worldFault 82 = .ok (.iconst 1, 1) := by decide +kernel
theorem dX11_worldFault_83 : decode cX11_worldFault 83 = .ok (.goto 4, 3) := by decide +kernel
theorem dX11_worldFault_86 : decode cX11_worldFault 86 = .ok (.iconst 0, 1) := by decide +kernel
theorem dX11_worldFault_87 : decode cX11_worldFault 87 = .ok (.istore_n 1, 1) := by decide +kernel
theorem dX11_worldFault_88 : decode cX11_worldFault 88 = .ok (.goto (-59), 3) := by decide +kernel
theorem dX11_worldFault_91 : decode cX11_worldFault 91 = .ok (.aload_n 0, 1) := by decide +kernel
theorem dX11_worldFault_92 : decode cX11_worldFault 92 = .ok (.getfield 255, 3) := by decide +kernel
theorem dX11_worldFault_95 : decode cX11_worldFault 95 = .ok (.iconst (-1), 1) := by decide +kernel
theorem dX11_worldFault_96 : decode cX11_worldFault 96 = .ok (.if_icmp .eq 7, 3) := by decide +kernel
theorem dX11_worldFault_99 : decode cX11_worldFault 99 = .ok (.aload_n 0, 1) := by decide +kernel
theorem dX11_worldFault_100 : decode cX11_worldFault 100 = .ok (.invokevirtual 273, 3) := by decide +kernel
theorem dX11_worldFault_103 : decode cX11_worldFault 103 = .ok (.aload_n 0, 1) := by decide +kernel
theorem dX11_worldFault_104 : decode cX11_worldFault 104 = .ok (.getfield 255, 3) := by decide +kernel
theorem dX11_worldFault_107 : decode cX11_worldFault 107 = .ok (.ireturn, 1) := by decide +kernel
def fX11_worldFault_L29  (a : Int32) (s : Sg) : Option (((Int32) ⊕ (Unit)) × Sg) :=
  if a = 0 then
  some (.inr (), s)
  else
  (fX11_part s).bind fun w2 =>
  ((if (gI w2 49 26) = (-1 : Int32) then
  (aI w2 66 2 (1 : Int32)).bind fun v11 =>
  if v11 ≤ (gI w2 49 25) then
  some (0 : Int32)
  else
  some (1 : Int32)
  else
  some (0 : Int32)) : Option (Int32)).bind fun w3 =>
  if w3 = 0 then
  some (.inl w3, w2)
  else
  (fX11_expects (59 : Int32) w2).bind fun w6 =>
  ((if (gI w6 49 26) = (-1 : Int32) then
  some (1 : Int32)
  else
  some (0 : Int32)) : Option (Int32)).bind fun w7 =>
  some (.inl w7, w6)
def fX11_worldFault  (s : Sg) : Option (Int32 × Sg) :=
  (fX11_plain s).bind fun w1 =>
  bnd (sI w1 49 25 (0 : Int32)) fun s2 =>
  bnd (sI s2 49 26 (-1 : Int32)) fun s3 =>
  (aI s3 66 2 (1 : Int32)).bind fun v4 =>
  ((if v4 ≤ 0 then
  some (0 : Int32)
  else
  some (1 : Int32)) : Option (Int32)).bind fun w5 =>
  (lpG (fX11_worldFault_L29) FU w5 s3).bind fun w7 =>
  if (gI w7.2 49 26) = (-1 : Int32) then
  some ((gI w7.2 49 26), w7.2)
  else
  (fX11_plain w7.2).bind fun w9 =>
  some ((gI w9 49 26), w9)
theorem ct_X11_worldFault {g : Gl}  {s : Sg} {w : Int32 × Sg}  (h : fX11_worldFault s = some w) : Ct SS g iX11_worldFault 3 67 [.ref (gad g 49)] s (Dt (some (.int w.1)) w.2) := by
  refine Ct.ofV (by decide +kernel) 1 (lv0 := [some (.ref (gad g 49)), none]) rfl rfl (fun M hC => ?_)
  have hP : (Dt (some (.int w.1)) w.2) (some (.int w.1)) w.2 := ⟨rfl, rfl⟩
  generalize Dt (some (.int w.1)) w.2 = P at hP ⊢
  unfold fX11_worldFault at h
  refine v_aload_n (pc := 0) hC dX11_worldFault_0 rfl ?_
  obtain ⟨w1, hw1, h⟩ := obd_s h
  refine v_cV (pc := 1) [] [] gm_X11_plain hC s_49 rfl rfl (ct_X11_plain  hw1) ml_X11_273 rfl rfl rfl rfl rfl rfl dX11_worldFault_1 ?_
  refine v_aload_n (pc := 4) hC dX11_worldFault_4 rfl ?_
  refine v_iconst (pc := 5) (0 : Int32) rfl hC dX11_worldFault_5 ?_
  obtain ⟨s2, hs2, h⟩ := bnd_s h
  refine v_pI (pc := 6) 25 hC s_49 rfl rfl rfl rfl rfl rfl fl_X11_252 hs2 dX11_worldFault_6 ?_
  refine v_aload_n (pc := 9) hC dX11_worldFault_9 rfl ?_
  refine v_iconst (pc := 10) (-1 : Int32) rfl hC dX11_worldFault_10 ?_
  obtain ⟨s3, hs3, h⟩ := bnd_s h
  refine v_pI (pc := 11) 26 hC s_49 rfl rfl rfl rfl rfl rfl fl_X11_255 hs3 dX11_worldFault_11 ?_
  refine v_aload_n (pc := 14) hC dX11_worldFault_14 rfl ?_
  refine v_gt (pc := 15) 20 (.ref (gad g 66)) hC s_49 rfl rfl rfl rfl fl_X11_59 dX11_worldFault_15 ?_
  refine v_iconst (pc := 18) (1 : Int32) rfl hC dX11_worldFault_18 ?_
  obtain ⟨v4, hv4, h⟩ := obd_s h
  refine v_aI (pc := 19) hC s_66 hv4 dX11_worldFault_19 ?_
  obtain ⟨w5, hw5, h⟩ := obd_s h
  have kj6 : V SS g M iX11_worldFault (PQ SS g M P) 28 [some (.ref (gad g 49)), none] [.int w5] s3 := by
    refine v_istore_n (pc := 28) (lv' := [some (.ref (gad g 49)), some (.int w5)]) hC dX11_worldFault_28 rfl rfl rfl rfl ?_
    obtain ⟨w7, hw7, h⟩ := obd_s h
    have kx28 : V SS g M iX11_worldFault (PQ SS g M P) 91 [some (.ref (gad g 49)), none] [] w7.2 := by
      refine v_aload_n (pc := 91) hC dX11_worldFault_91 rfl ?_
      refine v_gt (pc := 92) 26 (.int (gI w7.2 49 26)) hC s_49 rfl rfl rfl rfl fl_X11_255 dX11_worldFault_92 ?_
      refine v_iconst (pc := 95) (-1 : Int32) rfl hC dX11_worldFault_95 ?_
      refine v_ic_eq (pc := 96) (tgt := 103) hC dX11_worldFault_96 rfl (fun c8 => ?_) (fun c8 => ?_)
      · replace h := (if_pos c8).symm.trans h
        refine v_aload_n (pc := 103) hC dX11_worldFault_103 rfl ?_
        refine v_gt (pc := 104) 26 (.int (gI w7.2 49 26)) hC s_49 rfl rfl rfl rfl fl_X11_255 dX11_worldFault_104 ?_
        obtain rfl := Option.some.inj h
        exact v_iret (pc := 107) hC rfl dX11_worldFault_107 hP
      · replace h := (if_neg c8).symm.trans h
        refine v_aload_n (pc := 99) hC dX11_worldFault_99 rfl ?_
        obtain ⟨w9, hw9, h⟩ := obd_s h
        refine v_cV (pc := 100) [] [] gm_X11_plain hC s_49 rfl rfl (ct_X11_plain  hw9) ml_X11_273 rfl rfl rfl rfl rfl rfl dX11_worldFault_100 ?_
        refine v_aload_n (pc := 103) hC dX11_worldFault_103 rfl ?_
        refine v_gt (pc := 104) 26 (.int (gI w9 49 26)) hC s_49 rfl rfl rfl rfl fl_X11_255 dX11_worldFault_104 ?_
        obtain rfl := Option.some.inj h
        exact v_iret (pc := 107) hC rfl dX11_worldFault_107 hP
    refine V.ls (ls_some (ls_some ls_nil)) (v_loop (pc := 29) (fun a12 => [some (.ref (gad g 49)), some (.int a12)]) (fun z t => V SS g M iX11_worldFault (PQ SS g M P) 91 [some (.ref (gad g 49)), none] [] t) (fun a12 s10 u11 hu11 k13 k14 => ?_) _ _ _ _ hw7 kx28)
    unfold fX11_worldFault_L29 at hu11
    refine v_iload_n (pc := 29) hC dX11_worldFault_29 rfl ?_
    refine v_if_eq (pc := 30) (tgt := 91) hC dX11_worldFault_30 rfl (fun c16 => ?_) (fun c16 => ?_)
    · replace hu11 := (if_pos c16).symm.trans hu11
      obtain rfl := Option.some.inj hu11
      exact V.ls (ls_some (ls_none ls_nil)) (k14 _ rfl)
    · replace hu11 := (if_neg c16).symm.trans hu11
      refine v_aload_n (pc := 33) hC dX11_worldFault_33 rfl ?_
      obtain ⟨w17, hw17, hu11⟩ := obd_s hu11
      refine v_cV (pc := 34) [] [] gm_X11_part hC s_49 rfl rfl (ct_X11_part  hw17) ml_X11_276 rfl rfl rfl rfl rfl rfl dX11_worldFault_34 ?_
      refine v_aload_n (pc := 37) hC dX11_worldFault_37 rfl ?_
      refine v_gt (pc := 38) 26 (.int (gI w17 49 26)) hC s_49 rfl rfl rfl rfl fl_X11_255 dX11_worldFault_38 ?_
      refine v_iconst (pc := 41) (-1 : Int32) rfl hC dX11_worldFault_41 ?_
      obtain ⟨w18, hw18, hu11⟩ := obd_s hu11
      have kj19 : V SS g M iX11_worldFault (PQ SS g M P) 63 [some (.ref (gad g 49)), none] [.int w18] w17 := by
        refine v_istore_n (pc := 63) (lv' := [some (.ref (gad g 49)), some (.int w18)]) hC dX11_worldFault_63 rfl rfl rfl rfl ?_
        refine v_iload_n (pc := 64) hC dX11_worldFault_64 rfl ?_
        refine v_if_eq (pc := 65) (tgt := 29) hC dX11_worldFault_65 rfl (fun c20 => ?_) (fun c20 => ?_)
        · replace hu11 := (if_pos c20).symm.trans hu11
          obtain rfl := Option.some.inj hu11
          exact V.ls (ls_some (ls_some ls_nil)) (k13 _ rfl)
        · replace hu11 := (if_neg c20).symm.trans hu11
          refine v_aload_n (pc := 68) hC dX11_worldFault_68 rfl ?_
          refine v_bipush (pc := 69) (59 : Int32) rfl hC dX11_worldFault_69 ?_
          obtain ⟨w21, hw21, hu11⟩ := obd_s hu11
          refine v_cV (pc := 71) [] [] gm_X11_expects hC s_49 rfl rfl (ct_X11_expects  hw21) ml_X11_261 rfl rfl rfl rfl rfl rfl dX11_worldFault_71 ?_
          refine v_aload_n (pc := 74) hC dX11_worldFault_74 rfl ?_
          refine v_gt (pc := 75) 26 (.int (gI w21 49 26)) hC s_49 rfl rfl rfl rfl fl_X11_255 dX11_worldFault_75 ?_
          refine v_iconst (pc := 78) (-1 : Int32) rfl hC dX11_worldFault_78 ?_
          obtain ⟨w22, hw22, hu11⟩ := obd_s hu11
          have kj23 : V SS g M iX11_worldFault (PQ SS g M P) 87 [some (.ref (gad g 49)), none] [.int w22] w21 := by
            refine v_istore_n (pc := 87) (lv' := [some (.ref (gad g 49)), some (.int w22)]) hC dX11_worldFault_87 rfl rfl rfl rfl ?_
            refine v_goto (pc := 88) (tgt := 29) hC dX11_worldFault_88 rfl ?_
            obtain rfl := Option.some.inj hu11
            exact V.ls (ls_some (ls_some ls_nil)) (k13 _ rfl)
          refine v_ic_ne (pc := 79) (tgt := 86) hC dX11_worldFault_79 rfl (fun c24 => ?_) (fun c24 => ?_)
          · replace hw22 := (if_neg c24).symm.trans hw22
            refine v_iconst (pc := 86) (0 : Int32) rfl hC dX11_worldFault_86 ?_
            obtain rfl := Option.some.inj hw22
            exact V.ls (ls_some (ls_none ls_nil)) kj23
          · replace hw22 := (if_pos c24).symm.trans hw22
            refine v_iconst (pc := 82) (1 : Int32) rfl hC dX11_worldFault_82 ?_
            refine v_goto (pc := 83) (tgt := 87) hC dX11_worldFault_83 rfl ?_
            obtain rfl := Option.some.inj hw22
            exact V.ls (ls_some (ls_none ls_nil)) kj23
      refine v_ic_ne (pc := 42) (tgt := 62) hC dX11_worldFault_42 rfl (fun c25 => ?_) (fun c25 => ?_)
      · replace hw18 := (if_neg c25).symm.trans hw18
        refine v_iconst (pc := 62) (0 : Int32) rfl hC dX11_worldFault_62 ?_
        obtain rfl := Option.some.inj hw18
        exact V.ls (ls_some (ls_none ls_nil)) kj19
      · replace hw18 := (if_pos c25).symm.trans hw18
        refine v_aload_n (pc := 45) hC dX11_worldFault_45 rfl ?_
        refine v_gt (pc := 46) 25 (.int (gI w17 49 25)) hC s_49 rfl rfl rfl rfl fl_X11_252 dX11_worldFault_46 ?_
        refine v_aload_n (pc := 49) hC dX11_worldFault_49 rfl ?_
        refine v_gt (pc := 50) 20 (.ref (gad g 66)) hC s_49 rfl rfl rfl rfl fl_X11_59 dX11_worldFault_50 ?_
        refine v_iconst (pc := 53) (1 : Int32) rfl hC dX11_worldFault_53 ?_
        obtain ⟨v26, hv26, hw18⟩ := obd_s hw18
        refine v_aI (pc := 54) hC s_66 hv26 dX11_worldFault_54 ?_
        refine v_ic_ge (pc := 55) (tgt := 62) hC dX11_worldFault_55 rfl (fun c27 => ?_) (fun c27 => ?_)
        · replace hw18 := (if_pos c27).symm.trans hw18
          refine v_iconst (pc := 62) (0 : Int32) rfl hC dX11_worldFault_62 ?_
          obtain rfl := Option.some.inj hw18
          exact V.ls (ls_some (ls_none ls_nil)) kj19
        · replace hw18 := (if_neg c27).symm.trans hw18
          refine v_iconst (pc := 58) (1 : Int32) rfl hC dX11_worldFault_58 ?_
          refine v_goto (pc := 59) (tgt := 63) hC dX11_worldFault_59 rfl ?_
          obtain rfl := Option.some.inj hw18
          exact V.ls (ls_some (ls_none ls_nil)) kj19
  refine v_if_le (pc := 20) (tgt := 27) hC dX11_worldFault_20 rfl (fun c29 => ?_) (fun c29 => ?_)
  · replace hw5 := (if_pos c29).symm.trans hw5
    refine v_iconst (pc := 27) (0 : Int32) rfl hC dX11_worldFault_27 ?_
    obtain rfl := Option.some.inj hw5
    exact V.ls (ls_some (ls_none ls_nil)) kj6
  · replace hw5 := (if_neg c29).symm.trans hw5
    refine v_iconst (pc := 23) (1 : Int32) rfl hC dX11_worldFault_23 ?_
    refine v_goto (pc := 24) (tgt := 28) hC dX11_worldFault_24 rfl ?_
    obtain rfl := Option.some.inj hw5
    exact V.ls (ls_some (ls_none ls_nil)) kj6
