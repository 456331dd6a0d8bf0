/-! methods, printed by wip/whole/gen/meth.py: X11_isSingle, X11_twiceNow, X11_twice, X11_gain, X11_orders, X11_orderNow, X11_order, X11_laysRight, X11_right, X11_isRightLess -/
theorem dX11_isSingle_0 : decode cX11_isSingle 0 = .ok (.aload_n 0, 1) := by decide +kernel
theorem dX11_isSingle_1 : decode cX11_isSingle 1 = .ok (.getfield 7, 3) := by decide +kernel
theorem dX11_isSingle_4 : decode cX11_isSingle 4 = .ok (.aload_n 0, 1) := by decide +kernel
theorem dX11_isSingle_5 : decode cX11_isSingle 5 = .ok (.getfield 16, 3) := by decide +kernel
theorem dX11_isSingle_8 : decode cX11_isSingle 8 = .ok (.iload_n 1, 1) := by decide +kernel
theorem dX11_isSingle_9 : decode cX11_isSingle 9 = .ok (.iaload, 1) := by decide +kernel
theorem dX11_isSingle_10 : decode cX11_isSingle 10 = .ok (.iaload, 1) := by decide +kernel
theorem dX11_isSingle_11 : decode cX11_isSingle 11 = .ok (.iconst 1, 1) := by decide +kernel
theorem dX11_isSingle_12 : decode cX11_isSingle 12 = .ok (.if_icmp .ne 19, 3) := by decide +kernel
theorem dX11_isSingle_15 : decode cX11_isSingle 15 = .ok (.aload_n 0, 1) := by decide +kernel
theorem dX11_isSingle_16 : decode cX11_isSingle 16 = .ok (.getfield 25, 3) := by decide +kernel
theorem dX11_isSingle_19 : decode cX11_isSingle 19 = .ok (.iconst 4, 1) := by decide +kernel
theorem dX11_isSingle_20 : decode cX11_isSingle 20 = .ok (.iload_n 1, 1) := by decide +kernel
theorem dX11_isSingle_21 : decode cX11_isSingle 21 = .ok (.imul, 1) := by decide +kernel
theorem dX11_isSingle_22 : decode cX11_isSingle 22 = .ok (.iaload, 1) := by decide +kernel
theorem dX11_isSingle_23 : decode cX11_isSingle 23 = .ok (.iconst (-1), 1) := by decide +kernel
theorem dX11_isSingle_24 : decode cX11_isSingle 24 = .ok (.if_icmp .eq 7, 3) := by decide +kernel
theorem dX11_isSingle_27 : decode cX11_isSingle 27 = .ok (.iconst 1, 1) := by decide +kernel
theorem dX11_isSingle_28 : decode cX11_isSingle 28 = .ok (.goto 4, 3) := by decide +kernel
theorem dX11_isSingle_31 : decode cX11_isSingle 31 = .ok (.iconst 0, 1) := by decide +kernel
theorem dX11_isSingle_32 : decode cX11_isSingle 32 = .ok (.ireturn, 1) := by decide +kernel
def fX11_isSingle (x0_ : Int32) (s : Sg) : Option (Int32 × Sg) :=
  (aI s 52 64 x0_).bind fun v1 =>
  (aI s 50 16 v1).bind fun v2 =>
  if v2 = (1 : Int32) then
  (aI s 55 256 ((4 : Int32) * x0_)).bind fun v4 =>
  if v4 = (-1 : Int32) then
  some ((0 : Int32), s)
  else
  some ((1 : Int32), s)
  else
  some ((0 : Int32), s)
theorem ct_X11_isSingle {g : Gl} {x0_ : Int32} {s : Sg} {w : Int32 × Sg}  (h : fX11_isSingle x0_ s = some w) : Ct SS g iX11_isSingle 0 0 [.ref (gad g 49), .int x0_] s (Dt (some (.int w.1)) w.2) := by
  refine Ct.ofV (by decide +kernel) 0 (lv0 := [some (.ref (gad g 49)), some (.int x0_)]) rfl rfl (fun M hC => ?_)
  have hP : (Dt (some (.int w.1)) w.2) (some (.int w.1)) w.2 := ⟨rfl, rfl⟩
  generalize Dt (some (.int w.1)) w.2 = P at hP ⊢
  unfold fX11_isSingle at h
  refine v_aload_n (pc := 0) hC dX11_isSingle_0 rfl ?_
  refine v_gt (pc := 1) 1 (.ref (gad g 50)) hC s_49 rfl rfl rfl rfl fl_X11_7 dX11_isSingle_1 ?_
  refine v_aload_n (pc := 4) hC dX11_isSingle_4 rfl ?_
  refine v_gt (pc := 5) 4 (.ref (gad g 52)) hC s_49 rfl rfl rfl rfl fl_X11_16 dX11_isSingle_5 ?_
  refine v_iload_n (pc := 8) hC dX11_isSingle_8 rfl ?_
  obtain ⟨v1, hv1, h⟩ := obd_s h
  refine v_aI (pc := 9) hC s_52 hv1 dX11_isSingle_9 ?_
  obtain ⟨v2, hv2, h⟩ := obd_s h
  refine v_aI (pc := 10) hC s_50 hv2 dX11_isSingle_10 ?_
  refine v_iconst (pc := 11) (1 : Int32) rfl hC dX11_isSingle_11 ?_
  refine v_ic_ne (pc := 12) (tgt := 31) hC dX11_isSingle_12 rfl (fun c3 => ?_) (fun c3 => ?_)
  · replace h := (if_neg c3).symm.trans h
    refine v_iconst (pc := 31) (0 : Int32) rfl hC dX11_isSingle_31 ?_
    obtain rfl := Option.some.inj h
    exact v_zret (pc := 32) hC rfl rfl dX11_isSingle_32 hP
  · replace h := (if_pos c3).symm.trans h
    refine v_aload_n (pc := 15) hC dX11_isSingle_15 rfl ?_
    refine v_gt (pc := 16) 7 (.ref (gad g 55)) hC s_49 rfl rfl rfl rfl fl_X11_25 dX11_isSingle_16 ?_
    refine v_iconst (pc := 19) (4 : Int32) rfl hC dX11_isSingle_19 ?_
    refine v_iload_n (pc := 20) hC dX11_isSingle_20 rfl ?_
    refine v_imul (pc := 21) hC dX11_isSingle_21 ?_
    obtain ⟨v4, hv4, h⟩ := obd_s h
    refine v_aI (pc := 22) hC s_55 hv4 dX11_isSingle_22 ?_
    refine v_iconst (pc := 23) (-1 : Int32) rfl hC dX11_isSingle_23 ?_
    refine v_ic_eq (pc := 24) (tgt := 31) hC dX11_isSingle_24 rfl (fun c5 => ?_) (fun c5 => ?_)
    · replace h := (if_pos c5).symm.trans h
      refine v_iconst (pc := 31) (0 : Int32) rfl hC dX11_isSingle_31 ?_
      obtain rfl := Option.some.inj h
      exact v_zret (pc := 32) hC rfl rfl dX11_isSingle_32 hP
    · replace h := (if_neg c5).symm.trans h
      refine v_iconst (pc := 27) (1 : Int32) rfl hC dX11_isSingle_27 ?_
      refine v_goto (pc := 28) (tgt := 32) hC dX11_isSingle_28 rfl ?_
      obtain rfl := Option.some.inj h
      exact v_zret (pc := 32) hC rfl rfl dX11_isSingle_32 hP
theorem dX11_twiceNow_0 : decode cX11_twiceNow 0 = .ok (.iconst 0, 1) := by decide +kernel
theorem dX11_twiceNow_1 : decode cX11_twiceNow 1 = .ok (.istore_n 3, 1) := by decide +kernel
theorem dX11_twiceNow_2 : decode cX11_twiceNow 2 = .ok (.iconst 0, 1) := by decide +kernel
theorem dX11_twiceNow_3 : decode cX11_twiceNow 3 = .ok (.istore 4, 2) := by decide +kernel
theorem dX11_twiceNow_5 : decode cX11_twiceNow 5 = .ok (.iload 4, 2) := by decide +kernel
theorem dX11_twiceNow_7 : decode cX11_twiceNow 7 = .ok (.aload_n 0, 1) := by decide +kernel
theorem dX11_twiceNow_8 : decode cX11_twiceNow 8 = .ok (.getfield 98, 3) := by decide +kernel
theorem dX11_twiceNow_11 : decode cX11_twiceNow 11 = .ok (.if_icmp .ge 125, 3) := by decide +kernel
theorem dX11_twiceNow_14 : decode cX11_twiceNow 14 = .ok (.iconst 0, 1) := by decide +kernel
theorem dX11_twiceNow_15 : decode cX11_twiceNow 15 = .ok (.istore 5, 2) := by decide +kernel
theorem dX11_twiceNow_17 : decode cX11_twiceNow 17 = .ok (.iload 5, 2) := by decide +kernel
theorem dX11_twiceNow_19 : decode cX11_twiceNow 19 = .ok (.aload_n 0, 1) := by decide +kernel
theorem dX11_twiceNow_20 : decode cX11_twiceNow 20 = .ok (.getfield 98, 3) := by decide +kernel
theorem dX11_twiceNow_23 : decode cX11_twiceNow 23 = .ok (.if_icmp .ge 107, 3) := by decide +kernel
theorem dX11_twiceNow_26 : decode cX11_twiceNow 26 = .ok (.aload_n 0, 1) := by decide +kernel
theorem dX11_twiceNow_27 : decode cX11_twiceNow 27 = .ok (.iload 4, 2) := by decide +kernel
theorem dX11_twiceNow_29 : decode cX11_twiceNow 29 = .ok (.invokevirtual 215, 3) := by decide +kernel
theorem dX11_twiceNow_32 : decode cX11_twiceNow 32 = .ok (.ifCond .eq 55, 3) := by decide +kernel
theorem dX11_twiceNow_35 : decode cX11_twiceNow 35 = .ok (.aload_n 0, 1) := by decide +kernel
theorem dX11_twiceNow_36 : decode cX11_twiceNow 36 = .ok (.iload 5, 2) := by decide +kernel
theorem dX11_twiceNow_38 : decode cX11_twiceNow 38 = .ok (.invokevirtual 215, 3) := by decide +kernel
theorem dX11_twiceNow_41 : decode cX11_twiceNow 41 = .ok (.ifCond .eq 46, 3) := by decide +kernel
theorem dX11_twiceNow_44 : decode cX11_twiceNow 44 = .ok (.aload_n 0, 1) := by decide +kernel
theorem dX11_twiceNow_45 : decode cX11_twiceNow 45 = .ok (.getfield 19, 3) := by decide +kernel
theorem dX11_twiceNow_48 : decode cX11_twiceNow 48 = .ok (.iload 4, 2) := by decide +kernel
theorem dX11_twiceNow_50 : decode cX11_twiceNow 50 = .ok (.iaload, 1) := by decide +kernel
theorem dX11_twiceNow_51 : decode cX11_twiceNow 51 = .ok (.aload_n 0, 1) := by decide +kernel
theorem dX11_twiceNow_52 : decode cX11_twiceNow 52 = .ok (.getfield 19, 3) := by decide +kernel
theorem dX11_twiceNow_55 : decode cX11_twiceNow 55 = .ok (.iload 5, 2) := by decide +kernel
theorem dX11_twiceNow_57 : decode cX11_twiceNow 57 = .ok (.iaload, 1) := by decide +kernel
theorem dX11_twiceNow_58 : decode cX11_twiceNow 58 = .ok (.if_icmp .ne 29, 3) := by decide +kernel
theorem dX11_twiceNow_61 : decode cX11_twiceNow 61 = .ok (.aload_n 0, 1) := by decide +kernel
theorem dX11_twiceNow_62 : decode cX11_twiceNow 62 = .ok (.getfield 22, 3) := by decide +kernel
theorem dX11_twiceNow_65 : decode cX11_twiceNow 65 = .ok (.iload 4, 2) := by decide +kernel
theorem dX11_twiceNow_67 : decode cX11_twiceNow 67 = .ok (.iaload, 1) := by decide +kernel
theorem dX11_twiceNow_68 : decode cX11_twiceNow 68 = .ok (.iload_n 1, 1) := by decide +kernel
theorem dX11_twiceNow_69 : decode cX11_twiceNow 69 = .ok (.if_icmp .ne 18, 3) := by decide +kernel
theorem dX11_twiceNow_72 : decode cX11_twiceNow 72 = .ok (.aload_n 0, 1) := by decide +kernel
theorem dX11_twiceNow_73 : decode cX11_twiceNow 73 = .ok (.getfield 22, 3) := by decide +kernel
theorem dX11_twiceNow_76 : decode cX11_twiceNow 76 = .ok (.iload 5, 2) := by decide +kernel
theorem dX11_twiceNow_78 : decode cX11_twiceNow 78 = .ok (.iaload, 1) := by decide +kernel
theorem dX11_twiceNow_79 : decode cX11_twiceNow 79 = .ok (.iload_n 2, 1) := by decide +kernel
theorem dX11_twiceNow_80 : decode cX11_twiceNow 80 = .ok (.if_icmp .ne 7, 3) := by decide +kernel
theorem dX11_twiceNow_83 : decode cX11_twiceNow 83 = .ok (.iconst 1, 1) := by decide +kernel
theorem dX11_twiceNow_84 : decode cX11_twiceNow 84 = .ok (.goto 4, 3) := by decide +kernel
theorem dX11_twiceNow_87 : decode cX11_twiceNow 87 = .ok (.iconst 0, 1) := by decide +kernel
theorem dX11_twiceNow_88 : decode cX11_twiceNow 88 = .ok (.istore 6, 2) := by decide +kernel
theorem dX11_twiceNow_90 : decode cX11_twiceNow 90 = .ok (.iload_n 3, 1) := by decide +kernel
theorem dX11_twiceNow_91 : decode cX11_twiceNow 91 = .ok (.iload 6, 2) := by decide +kernel
theorem dX11_twiceNow_93 : decode cX11_twiceNow 93 = .ok (.ifCond .eq 28, 3) := by decide +kernel
theorem dX11_twiceNow_96 : decode cX11_twiceNow 96 = .ok (.aload_n 0, 1) := by decide +kernel
theorem dX11_twiceNow_97 : decode cX11_twiceNow 97 = .ok (.getfield 25, 3) := by decide +kernel
theorem dX11_twiceNow_100 : decode cX11_twiceNow 100 = .ok (.iconst 4, 1) := by decide +kernel
theorem dX11_twiceNow_101 : decode cX11_twiceNow 101 = .ok (.iload 4, 2) := by decide +kernel
theorem dX11_twiceNow_103 : decode cX11_twiceNow 103 = .ok (.imul, 1) := by decide +kernel
theorem dX11_twiceNow_104 : decode cX11_twiceNow 104 = .ok (.iaload, 1) := by decide +kernel
theorem dX11_twiceNow_105 : decode cX11_twiceNow 105 = .ok (.aload_n 0, 1) := by decide +kernel
theorem dX11_twiceNow_106 : decode cX11_twiceNow 106 = .ok (.getfield 25, 3) := by decide +kernel
theorem dX11_twiceNow_109 : decode cX11_twiceNow 109 = .ok (.iconst 4, 1) := by decide +kernel
theorem dX11_twiceNow_110 : decode cX11_twiceNow 110 = .ok (.iload 5, 2) := by decide +kernel
theorem dX11_twiceNow_112 : decode cX11_twiceNow 112 = .ok (.imul, 1) := by decide +kernel
theorem dX11_twiceNow_113 : decode cX11_twiceNow 113 = .ok (.iaload, 1) := by decide +kernel
theorem dX11_twiceNow_114 : decode cX11_twiceNow 114 = .ok (.if_icmp .ge 7, 3) := by decide +kernel
theorem dX11_twiceNow_117 : decode cX11_twiceNow 117 = .ok (.iconst 1, 1) := by decide +kernel
theorem dX11_twiceNow_118 : decode cX11_twiceNow 118 = .ok (.goto 4, 3) := by decide +kernel
theorem dX11_twiceNow_121 : decode cX11_twiceNow 121 = .ok (.iconst 0, 1) := by decide +kernel
theorem dX11_twiceNow_122 : decode cX11_twiceNow 122 = .ok (.iadd, 1) := by decide +kernel
theorem dX11_twiceNow_123 : decode cX11_twiceNow 123 = .ok (.istore_n 3, 1) := by decide +kernel
theorem dX11_twiceNow_124 : decode cX11_twiceNow 124 = .ok (.iinc 5 1, 3) := by decide +kernel
theorem dX11_twiceNow_127 : decode cX11_twiceNow 127 = .ok (.goto (-110), 3) := by decide +kernel
theorem dX11_twiceNow_130 : decode cX11_twiceNow 130 = .ok (.iinc 4 1, 3) := by decide +kernel
theorem dX11_twiceNow_133 : decode cX11_twiceNow 133 = .ok (.goto (-128), 3) := by decide +kernel
theorem dX11_twiceNow_136 : decode cX11_twiceNow 136 = .ok (.iload_n 3, 1) := by decide +kernel
theorem dX11_twiceNow_137 : decode cX11_twiceNow 137 = .ok (.ireturn, 1) := by decide +kernel
def fX11_twiceNow_L17 (p1 : Int32) (p2 : Int32) (p4 : Int32) (a : Int32 × Int32) (s : Sg) : Option (((Int32 × Int32) ⊕ (Int32)) × Sg) :=
  if (gI s 49 3) ≤ a.2 then
  some (.inr a.1, s)
  else
  (fX11_isSingle p4 s).bind fun w2 =>
  ((if w2.1 = 0 then
  some ((0 : Int32), w2.2)
  else
  (fX11_isSingle a.2 w2.2).bind fun w14 =>
  if w14.1 = 0 then
  some ((0 : Int32), w14.2)
  else
  (aI w14.2 53 64 p4).bind fun v16 =>
  (aI w14.2 53 64 a.2).bind fun v17 =>
  if v16 = v17 then
  (aI w14.2 54 64 p4).bind fun v19 =>
  if v19 = p1 then
  (aI w14.2 54 64 a.2).bind fun v21 =>
  if v21 = p2 then
  some ((1 : Int32), w14.2)
  else
  some ((0 : Int32), w14.2)
  else
  some ((0 : Int32), w14.2)
  else
  some ((0 : Int32), w14.2)) : Option (Int32 × Sg)).bind fun w3 =>
  ((if w3.1 = 0 then
  some (0 : Int32)
  else
  (aI w3.2 55 256 ((4 : Int32) * p4)).bind fun v10 =>
  (aI w3.2 55 256 ((4 : Int32) * a.2)).bind fun v11 =>
  if v11 ≤ v10 then
  some (0 : Int32)
  else
  some (1 : Int32)) : Option (Int32)).bind fun w5 =>
  bnd (a.1 + w5) fun x7 =>
  bnd (a.2 + (1 : Int32)) fun x8 =>
  some (.inl (x7, x8), w3.2)
def fX11_twiceNow_L5 (p1 : Int32) (p2 : Int32) (a : Int32 × Int32) (s : Sg) : Option (((Int32 × Int32) ⊕ (Int32)) × Sg) :=
  if (gI s 49 3) ≤ a.2 then
  some (.inr a.1, s)
  else
  (lpG (fX11_twiceNow_L17 p1 p2 a.2) FU (a.1, (0 : Int32)) s).bind fun w2 =>
  bnd (a.2 + (1 : Int32)) fun x3 =>
  some (.inl (w2.1, x3), w2.2)
def fX11_twiceNow (x0_ : Int32) (x1_ : Int32) (s : Sg) : Option (Int32 × Sg) :=
  (lpG (fX11_twiceNow_L5 x0_ x1_) FU ((0 : Int32), (0 : Int32)) s).bind fun w1 =>
  some (w1.1, w1.2)
theorem ct_X11_twiceNow {g : Gl} {x0_ : Int32} {x1_ : Int32} {s : Sg} {w : Int32 × Sg}  (h : fX11_twiceNow x0_ x1_ s = some w) : Ct SS g iX11_twiceNow 1 21 [.ref (gad g 49), .int x0_, .int x1_] s (Dt (some (.int w.1)) w.2) := by
  refine Ct.ofV (by decide +kernel) 4 (lv0 := [some (.ref (gad g 49)), some (.int x0_), some (.int x1_), none, none, none, none]) rfl rfl (fun M hC => ?_)
  have hP : (Dt (some (.int w.1)) w.2) (some (.int w.1)) w.2 := ⟨rfl, rfl⟩
  generalize Dt (some (.int w.1)) w.2 = P at hP ⊢
  unfold fX11_twiceNow at h
  refine v_iconst (pc := 0) (0 : Int32) rfl hC dX11_twiceNow_0 ?_
  refine v_istore_n (pc := 1) (lv' := [some (.ref (gad g 49)), some (.int x0_), some (.int x1_), some (.int (0 : Int32)), none, none, none]) hC dX11_twiceNow_1 rfl rfl rfl rfl ?_
  refine v_iconst (pc := 2) (0 : Int32) rfl hC dX11_twiceNow_2 ?_
  refine v_istore (pc := 3) (lv' := [some (.ref (gad g 49)), some (.int x0_), some (.int x1_), some (.int (0 : Int32)), some (.int (0 : Int32)), none, none]) hC dX11_twiceNow_3 rfl rfl rfl rfl ?_
  obtain ⟨w1, hw1, h⟩ := obd_s h
  have kx40 : V SS g M iX11_twiceNow (PQ SS g M P) 136 [none, none, none, some (.int w1.1), none, none, none] [] w1.2 := by
    refine v_iload_n (pc := 136) hC dX11_twiceNow_136 rfl ?_
    obtain rfl := Option.some.inj h
    exact v_iret (pc := 137) hC rfl dX11_twiceNow_137 hP
  refine V.ls (ls_some (ls_some (ls_some (ls_some (ls_some (ls_none (ls_none ls_nil))))))) (v_loop (pc := 5) (fun a4 => [some (.ref (gad g 49)), some (.int x0_), some (.int x1_), some (.int a4.1), some (.int a4.2), none, none]) (fun z t => V SS g M iX11_twiceNow (PQ SS g M P) 136 [none, none, none, some (.int z), none, none, none] [] t) (fun a4 s2 u3 hu3 k5 k6 => ?_) _ _ _ _ hw1 kx40)
  unfold fX11_twiceNow_L5 at hu3
  refine v_iload (pc := 5) hC dX11_twiceNow_5 rfl ?_
  refine v_aload_n (pc := 7) hC dX11_twiceNow_7 rfl ?_
  refine v_gt (pc := 8) 3 (.int (gI s2 49 3)) hC s_49 rfl rfl rfl rfl fl_X11_98 dX11_twiceNow_8 ?_
  refine v_ic_ge (pc := 11) (tgt := 136) hC dX11_twiceNow_11 rfl (fun c8 => ?_) (fun c8 => ?_)
  · replace hu3 := (if_pos c8).symm.trans hu3
    obtain rfl := Option.some.inj hu3
    exact V.ls (ls_none (ls_none (ls_none (ls_some (ls_none (ls_none (ls_none ls_nil))))))) (k6 _ rfl)
  · replace hu3 := (if_neg c8).symm.trans hu3
    refine v_iconst (pc := 14) (0 : Int32) rfl hC dX11_twiceNow_14 ?_
    refine v_istore (pc := 15) (lv' := [some (.ref (gad g 49)), some (.int x0_), some (.int x1_), some (.int a4.1), some (.int a4.2), some (.int (0 : Int32)), none]) hC dX11_twiceNow_15 rfl rfl rfl rfl ?_
    obtain ⟨w9, hw9, hu3⟩ := obd_s hu3
    have kx39 : V SS g M iX11_twiceNow (PQ SS g M P) 130 [some (.ref (gad g 49)), some (.int x0_), some (.int x1_), some (.int w9.1), some (.int a4.2), none, none] [] w9.2 := by
      obtain ⟨x10, hx10, hu3⟩ := bnd_s hu3
      refine v_iinc (pc := 130) (lv' := [some (.ref (gad g 49)), some (.int x0_), some (.int x1_), some (.int w9.1), some (.int x10), none, none]) (1 : Int32) rfl hx10 hC dX11_twiceNow_130 rfl rfl rfl rfl ?_
      refine v_goto (pc := 133) (tgt := 5) hC dX11_twiceNow_133 rfl ?_
      obtain rfl := Option.some.inj hu3
      exact V.ls (ls_some (ls_some (ls_some (ls_some (ls_some (ls_none (ls_none ls_nil))))))) (k5 _ rfl)
    refine V.ls (ls_some (ls_some (ls_some (ls_some (ls_some (ls_some (ls_none ls_nil))))))) (v_loop (pc := 17) (fun a13 => [some (.ref (gad g 49)), some (.int x0_), some (.int x1_), some (.int a13.1), some (.int a4.2), some (.int a13.2), none]) (fun z t => V SS g M iX11_twiceNow (PQ SS g M P) 130 [some (.ref (gad g 49)), some (.int x0_), some (.int x1_), some (.int z), some (.int a4.2), none, none] [] t) (fun a13 s11 u12 hu12 k14 k15 => ?_) _ _ _ _ hw9 kx39)
    unfold fX11_twiceNow_L17 at hu12
    refine v_iload (pc := 17) hC dX11_twiceNow_17 rfl ?_
    refine v_aload_n (pc := 19) hC dX11_twiceNow_19 rfl ?_
    refine v_gt (pc := 20) 3 (.int (gI s11 49 3)) hC s_49 rfl rfl rfl rfl fl_X11_98 dX11_twiceNow_20 ?_
    refine v_ic_ge (pc := 23) (tgt := 130) hC dX11_twiceNow_23 rfl (fun c17 => ?_) (fun c17 => ?_)
    · replace hu12 := (if_pos c17).symm.trans hu12
      obtain rfl := Option.some.inj hu12
      exact V.ls (ls_some (ls_some (ls_some (ls_some (ls_some (ls_none (ls_none ls_nil))))))) (k15 _ rfl)
    · replace hu12 := (if_neg c17).symm.trans hu12
      refine v_aload_n (pc := 26) hC dX11_twiceNow_26 rfl ?_
      refine v_iload (pc := 27) hC dX11_twiceNow_27 rfl ?_
      obtain ⟨w18, hw18, hu12⟩ := obd_s hu12
      refine v_cV (pc := 29) [] [.int w18.1] gm_X11_isSingle hC s_49 rfl rfl (ct_X11_isSingle  hw18) ml_X11_215 rfl rfl rfl rfl rfl rfl dX11_twiceNow_29 ?_
      obtain ⟨w19, hw19, hu12⟩ := obd_s hu12
      have kj20 : V SS g M iX11_twiceNow (PQ SS g M P) 88 [some (.ref (gad g 49)), some (.int x0_), some (.int x1_), some (.int a13.1), some (.int a4.2), some (.int a13.2), none] [.int w19.1] w19.2 := by
        refine v_istore (pc := 88) (lv' := [some (.ref (gad g 49)), some (.int x0_), some (.int x1_), some (.int a13.1), some (.int a4.2), some (.int a13.2), some (.int w19.1)]) hC dX11_twiceNow_88 rfl rfl rfl rfl ?_
        refine v_iload_n (pc := 90) hC dX11_twiceNow_90 rfl ?_
        refine v_iload (pc := 91) hC dX11_twiceNow_91 rfl ?_
        obtain ⟨w21, hw21, hu12⟩ := obd_s hu12
        have kj22 : V SS g M iX11_twiceNow (PQ SS g M P) 122 [some (.ref (gad g 49)), some (.int x0_), some (.int x1_), none, some (.int a4.2), some (.int a13.2), none] [.int w21, .int a13.1] w19.2 := by
          refine v_iadd (pc := 122) hC dX11_twiceNow_122 ?_
          obtain ⟨x23, hx23, hu12⟩ := bnd_s hu12
          refine v_istore_n (pc := 123) (lv' := [some (.ref (gad g 49)), some (.int x0_), some (.int x1_), some (.int x23), some (.int a4.2), some (.int a13.2), none]) hC dX11_twiceNow_123 hx23 rfl rfl rfl ?_
          obtain ⟨x24, hx24, hu12⟩ := bnd_s hu12
          refine v_iinc (pc := 124) (lv' := [some (.ref (gad g 49)), some (.int x0_), some (.int x1_), some (.int x23), some (.int a4.2), some (.int x24), none]) (1 : Int32) rfl hx24 hC dX11_twiceNow_124 rfl rfl rfl rfl ?_
          refine v_goto (pc := 127) (tgt := 17) hC dX11_twiceNow_127 rfl ?_
          obtain rfl := Option.some.inj hu12
          exact V.ls (ls_some (ls_some (ls_some (ls_some (ls_some (ls_some (ls_none ls_nil))))))) (k14 _ rfl)
        refine v_if_eq (pc := 93) (tgt := 121) hC dX11_twiceNow_93 rfl (fun c25 => ?_) (fun c25 => ?_)
        · replace hw21 := (if_pos c25).symm.trans hw21
          refine v_iconst (pc := 121) (0 : Int32) rfl hC dX11_twiceNow_121 ?_
          obtain rfl := Option.some.inj hw21
          exact V.ls (ls_some (ls_some (ls_some (ls_none (ls_some (ls_some (ls_none ls_nil))))))) kj22
        · replace hw21 := (if_neg c25).symm.trans hw21
          refine v_aload_n (pc := 96) hC dX11_twiceNow_96 rfl ?_
          refine v_gt (pc := 97) 7 (.ref (gad g 55)) hC s_49 rfl rfl rfl rfl fl_X11_25 dX11_twiceNow_97 ?_
          refine v_iconst (pc := 100) (4 : Int32) rfl hC dX11_twiceNow_100 ?_
          refine v_iload (pc := 101) hC dX11_twiceNow_101 rfl ?_
          refine v_imul (pc := 103) hC dX11_twiceNow_103 ?_
          obtain ⟨v26, hv26, hw21⟩ := obd_s hw21
          refine v_aI (pc := 104) hC s_55 hv26 dX11_twiceNow_104 ?_
          refine v_aload_n (pc := 105) hC dX11_twiceNow_105 rfl ?_
          refine v_gt (pc := 106) 7 (.ref (gad g 55)) hC s_49 rfl rfl rfl rfl fl_X11_25 dX11_twiceNow_106 ?_
          refine v_iconst (pc := 109) (4 : Int32) rfl hC dX11_twiceNow_109 ?_
          refine v_iload (pc := 110) hC dX11_twiceNow_110 rfl ?_
          refine v_imul (pc := 112) hC dX11_twiceNow_112 ?_
          obtain ⟨v27, hv27, hw21⟩ := obd_s hw21
          refine v_aI (pc := 113) hC s_55 hv27 dX11_twiceNow_113 ?_
          refine v_ic_ge (pc := 114) (tgt := 121) hC dX11_twiceNow_114 rfl (fun c28 => ?_) (fun c28 => ?_)
          · replace hw21 := (if_pos c28).symm.trans hw21
            refine v_iconst (pc := 121) (0 : Int32) rfl hC dX11_twiceNow_121 ?_
            obtain rfl := Option.some.inj hw21
            exact V.ls (ls_some (ls_some (ls_some (ls_none (ls_some (ls_some (ls_none ls_nil))))))) kj22
          · replace hw21 := (if_neg c28).symm.trans hw21
            refine v_iconst (pc := 117) (1 : Int32) rfl hC dX11_twiceNow_117 ?_
            refine v_goto (pc := 118) (tgt := 122) hC dX11_twiceNow_118 rfl ?_
            obtain rfl := Option.some.inj hw21
            exact V.ls (ls_some (ls_some (ls_some (ls_none (ls_some (ls_some (ls_none ls_nil))))))) kj22
      refine v_if_eq (pc := 32) (tgt := 87) hC dX11_twiceNow_32 rfl (fun c29 => ?_) (fun c29 => ?_)
      · replace hw19 := (if_pos c29).symm.trans hw19
        refine v_iconst (pc := 87) (0 : Int32) rfl hC dX11_twiceNow_87 ?_
        obtain rfl := Option.some.inj hw19
        exact V.ls (ls_some (ls_some (ls_some (ls_some (ls_some (ls_some (ls_none ls_nil))))))) kj20
      · replace hw19 := (if_neg c29).symm.trans hw19
        refine v_aload_n (pc := 35) hC dX11_twiceNow_35 rfl ?_
        refine v_iload (pc := 36) hC dX11_twiceNow_36 rfl ?_
        obtain ⟨w30, hw30, hw19⟩ := obd_s hw19
        refine v_cV (pc := 38) [] [.int w30.1] gm_X11_isSingle hC s_49 rfl rfl (ct_X11_isSingle  hw30) ml_X11_215 rfl rfl rfl rfl rfl rfl dX11_twiceNow_38 ?_
        refine v_if_eq (pc := 41) (tgt := 87) hC dX11_twiceNow_41 rfl (fun c31 => ?_) (fun c31 => ?_)
        · replace hw19 := (if_pos c31).symm.trans hw19
          refine v_iconst (pc := 87) (0 : Int32) rfl hC dX11_twiceNow_87 ?_
          obtain rfl := Option.some.inj hw19
          exact V.ls (ls_some (ls_some (ls_some (ls_some (ls_some (ls_some (ls_none ls_nil))))))) kj20
        · replace hw19 := (if_neg c31).symm.trans hw19
          refine v_aload_n (pc := 44) hC dX11_twiceNow_44 rfl ?_
          refine v_gt (pc := 45) 5 (.ref (gad g 53)) hC s_49 rfl rfl rfl rfl fl_X11_19 dX11_twiceNow_45 ?_
          refine v_iload (pc := 48) hC dX11_twiceNow_48 rfl ?_
          obtain ⟨v32, hv32, hw19⟩ := obd_s hw19
          refine v_aI (pc := 50) hC s_53 hv32 dX11_twiceNow_50 ?_
          refine v_aload_n (pc := 51) hC dX11_twiceNow_51 rfl ?_
          refine v_gt (pc := 52) 5 (.ref (gad g 53)) hC s_49 rfl rfl rfl rfl fl_X11_19 dX11_twiceNow_52 ?_
          refine v_iload (pc := 55) hC dX11_twiceNow_55 rfl ?_
          obtain ⟨v33, hv33, hw19⟩ := obd_s hw19
          refine v_aI (pc := 57) hC s_53 hv33 dX11_twiceNow_57 ?_
          refine v_ic_ne (pc := 58) (tgt := 87) hC dX11_twiceNow_58 rfl (fun c34 => ?_) (fun c34 => ?_)
          · replace hw19 := (if_neg c34).symm.trans hw19
            refine v_iconst (pc := 87) (0 : Int32) rfl hC dX11_twiceNow_87 ?_
            obtain rfl := Option.some.inj hw19
            exact V.ls (ls_some (ls_some (ls_some (ls_some (ls_some (ls_some (ls_none ls_nil))))))) kj20
          · replace hw19 := (if_pos c34).symm.trans hw19
            refine v_aload_n (pc := 61) hC dX11_twiceNow_61 rfl ?_
            refine v_gt (pc := 62) 6 (.ref (gad g 54)) hC s_49 rfl rfl rfl rfl fl_X11_22 dX11_twiceNow_62 ?_
            refine v_iload (pc := 65) hC dX11_twiceNow_65 rfl ?_
            obtain ⟨v35, hv35, hw19⟩ := obd_s hw19
            refine v_aI (pc := 67) hC s_54 hv35 dX11_twiceNow_67 ?_
            refine v_iload_n (pc := 68) hC dX11_twiceNow_68 rfl ?_
            refine v_ic_ne (pc := 69) (tgt := 87) hC dX11_twiceNow_69 rfl (fun c36 => ?_) (fun c36 => ?_)
            · replace hw19 := (if_neg c36).symm.trans hw19
              refine v_iconst (pc := 87) (0 : Int32) rfl hC dX11_twiceNow_87 ?_
              obtain rfl := Option.some.inj hw19
              exact V.ls (ls_some (ls_some (ls_some (ls_some (ls_some (ls_some (ls_none ls_nil))))))) kj20
            · replace hw19 := (if_pos c36).symm.trans hw19
              refine v_aload_n (pc := 72) hC dX11_twiceNow_72 rfl ?_
              refine v_gt (pc := 73) 6 (.ref (gad g 54)) hC s_49 rfl rfl rfl rfl fl_X11_22 dX11_twiceNow_73 ?_
              refine v_iload (pc := 76) hC dX11_twiceNow_76 rfl ?_
              obtain ⟨v37, hv37, hw19⟩ := obd_s hw19
              refine v_aI (pc := 78) hC s_54 hv37 dX11_twiceNow_78 ?_
              refine v_iload_n (pc := 79) hC dX11_twiceNow_79 rfl ?_
              refine v_ic_ne (pc := 80) (tgt := 87) hC dX11_twiceNow_80 rfl (fun c38 => ?_) (fun c38 => ?_)
              · replace hw19 := (if_neg c38).symm.trans hw19
                refine v_iconst (pc := 87) (0 : Int32) rfl hC dX11_twiceNow_87 ?_
                obtain rfl := Option.some.inj hw19
                exact V.ls (ls_some (ls_some (ls_some (ls_some (ls_some (ls_some (ls_none ls_nil))))))) kj20
              · replace hw19 := (if_pos c38).symm.trans hw19
                refine v_iconst (pc := 83) (1 : Int32) rfl hC dX11_twiceNow_83 ?_
                refine v_goto (pc := 84) (tgt := 88) hC dX11_twiceNow_84 rfl ?_
                obtain rfl := Option.some.inj hw19
                exact V.ls (ls_some (ls_some (ls_some (ls_some (ls_some (ls_some (ls_none ls_nil))))))) kj20
theorem dX11_twice_0 : decode cX11_twice 0 = .ok (.iload_n 1, 1) := by decide +kernel
theorem dX11_twice_1 : decode cX11_twice 1 = .ok (.invokestatic 112, 3) := by decide +kernel
theorem dX11_twice_4 : decode cX11_twice 4 = .ok (.ifCond .eq 24, 3) := by decide +kernel
theorem dX11_twice_7 : decode cX11_twice 7 = .ok (.iload_n 2, 1) := by decide +kernel
theorem dX11_twice_8 : decode cX11_twice 8 = .ok (.invokestatic 112, 3) := by decide +kernel
theorem dX11_twice_11 : decode cX11_twice 11 = .ok (.ifCond .eq 17, 3) := by decide +kernel
theorem dX11_twice_14 : decode cX11_twice 14 = .ok (.iload_n 1, 1) := by decide +kernel
theorem dX11_twice_15 : decode cX11_twice 15 = .ok (.iload_n 2, 1) := by decide +kernel
theorem dX11_twice_16 : decode cX11_twice 16 = .ok (.if_icmp .eq 12, 3) := by decide +kernel
theorem dX11_twice_19 : decode cX11_twice 19 = .ok (.aload_n 0, 1) := by decide +kernel
theorem dX11_twice_20 : decode cX11_twice 20 = .ok (.iload_n 1, 1) := by decide +kernel
theorem dX11_twice_21 : decode cX11_twice 21 = .ok (.iload_n 2, 1) := by decide +kernel
theorem dX11_twice_22 : decode cX11_twice 22 = .ok (.invokevirtual 218, 3) := by decide +kernel
theorem dX11_twice_25 : decode cX11_twice 25 = .ok (.goto 5, 3) := by decide +kernel
theorem dX11_twice_28 : decode cX11_twice 28 = .ok (.bipush (-2), 2) := by decide +kernel
theorem dX11_twice_30 : decode cX11_twice 30 = .ok (.ireturn, 1) := by decide +kernel
def fX11_twice (x0_ : Int32) (x1_ : Int32) (s : Sg) : Option (Int32 × Sg) :=
  (fX11_isLane x0_ s).bind fun w1 =>
  if w1.1 = 0 then
  some ((-2 : Int32), w1.2)
  else
  (fX11_isLane x1_ w1.2).bind fun w3 =>
  if w3.1 = 0 then
  some ((-2 : Int32), w3.2)
  else
  if x0_ = x1_ then
  some ((-2 : Int32), w3.2)
  else
  (fX11_twiceNow x0_ x1_ w3.2).bind fun w6 =>
  some (w6.1, w6.2)
theorem ct_X11_twice {g : Gl} {x0_ : Int32} {x1_ : Int32} {s : Sg} {w : Int32 × Sg}  (h : fX11_twice x0_ x1_ s = some w) : Ct SS g iX11_twice 2 47 [.ref (gad g 49), .int x0_, .int x1_] s (Dt (some (.int w.1)) w.2) := by
  refine Ct.ofV (by decide +kernel) 0 (lv0 := [some (.ref (gad g 49)), some (.int x0_), some (.int x1_)]) rfl rfl (fun M hC => ?_)
  have hP : (Dt (some (.int w.1)) w.2) (some (.int w.1)) w.2 := ⟨rfl, rfl⟩
  generalize Dt (some (.int w.1)) w.2 = P at hP ⊢
  unfold fX11_twice at h
  refine v_iload_n (pc := 0) hC dX11_twice_0 rfl ?_
  obtain ⟨w1, hw1, h⟩ := obd_s h
  refine v_cS (pc := 1) [] [.int w1.1] gm_X11_isLane hC (ct_X11_isLane  hw1) ml_X11_112 rfl rfl rfl rfl rfl rfl dX11_twice_1 ?_
  refine v_if_eq (pc := 4) (tgt := 28) hC dX11_twice_4 rfl (fun c2 => ?_) (fun c2 => ?_)
  · replace h := (if_pos c2).symm.trans h
    refine v_bipush (pc := 28) (-2 : Int32) rfl hC dX11_twice_28 ?_
    obtain rfl := Option.some.inj h
    exact v_iret (pc := 30) hC rfl dX11_twice_30 hP
  · replace h := (if_neg c2).symm.trans h
    refine v_iload_n (pc := 7) hC dX11_twice_7 rfl ?_
    obtain ⟨w3, hw3, h⟩ := obd_s h
    refine v_cS (pc := 8) [] [.int w3.1] gm_X11_isLane hC (ct_X11_isLane  hw3) ml_X11_112 rfl rfl rfl rfl rfl rfl dX11_twice_8 ?_
    refine v_if_eq (pc := 11) (tgt := 28) hC dX11_twice_11 rfl (fun c4 => ?_) (fun c4 => ?_)
    · replace h := (if_pos c4).symm.trans h
      refine v_bipush (pc := 28) (-2 : Int32) rfl hC dX11_twice_28 ?_
      obtain rfl := Option.some.inj h
      exact v_iret (pc := 30) hC rfl dX11_twice_30 hP
    · replace h := (if_neg c4).symm.trans h
      refine v_iload_n (pc := 14) hC dX11_twice_14 rfl ?_
      refine v_iload_n (pc := 15) hC dX11_twice_15 rfl ?_
      refine v_ic_eq (pc := 16) (tgt := 28) hC dX11_twice_16 rfl (fun c5 => ?_) (fun c5 => ?_)
      · replace h := (if_pos c5).symm.trans h
        refine v_bipush (pc := 28) (-2 : Int32) rfl hC dX11_twice_28 ?_
        obtain rfl := Option.some.inj h
        exact v_iret (pc := 30) hC rfl dX11_twice_30 hP
      · replace h := (if_neg c5).symm.trans h
        refine v_aload_n (pc := 19) hC dX11_twice_19 rfl ?_
        refine v_iload_n (pc := 20) hC dX11_twice_20 rfl ?_
        refine v_iload_n (pc := 21) hC dX11_twice_21 rfl ?_
        obtain ⟨w6, hw6, h⟩ := obd_s h
        refine v_cV (pc := 22) [] [.int w6.1] gm_X11_twiceNow hC s_49 rfl rfl (ct_X11_twiceNow  hw6) ml_X11_218 rfl rfl rfl rfl rfl rfl dX11_twice_22 ?_
        refine v_goto (pc := 25) (tgt := 30) hC dX11_twice_25 rfl ?_
        obtain rfl := Option.some.inj h
        exact v_iret (pc := 30) hC rfl dX11_twice_30 hP
theorem dX11_gain_0 : decode cX11_gain 0 = .ok (.iconst 0, 1) := by decide +kernel
theorem dX11_gain_1 : decode cX11_gain 1 = .ok (.istore_n 3, 1) := by decide +kernel
theorem dX11_gain_2 : decode cX11_gain 2 = .ok (.iconst 0, 1) := by decide +kernel
theorem dX11_gain_3 : decode cX11_gain 3 = .ok (.istore 4, 2) := by decide +kernel
theorem dX11_gain_5 : decode cX11_gain 5 = .ok (.iload 4, 2) := by decide +kernel
theorem dX11_gain_7 : decode cX11_gain 7 = .ok (.bipush 8, 2) := by decide +kernel
theorem dX11_gain_9 : decode cX11_gain 9 = .ok (.if_icmp .ge 43, 3) := by decide +kernel
theorem dX11_gain_12 : decode cX11_gain 12 = .ok (.iload_n 3, 1) := by decide +kernel
theorem dX11_gain_13 : decode cX11_gain 13 = .ok (.iload_n 1, 1) := by decide +kernel
theorem dX11_gain_14 : decode cX11_gain 14 = .ok (.iload 4, 2) := by decide +kernel
theorem dX11_gain_16 : decode cX11_gain 16 = .ok (.invokestatic 221, 3) := by decide +kernel
theorem dX11_gain_19 : decode cX11_gain 19 = .ok (.ifCond .ne 9, 3) := by decide +kernel
theorem dX11_gain_22 : decode cX11_gain 22 = .ok (.iload 4, 2) := by decide +kernel
theorem dX11_gain_24 : decode cX11_gain 24 = .ok (.iload_n 2, 1) := by decide +kernel
theorem dX11_gain_25 : decode cX11_gain 25 = .ok (.if_icmp .ne 7, 3) := by decide +kernel
theorem dX11_gain_28 : decode cX11_gain 28 = .ok (.iconst 0, 1) := by decide +kernel
theorem dX11_gain_29 : decode cX11_gain 29 = .ok (.goto 15, 3) := by decide +kernel
theorem dX11_gain_32 : decode cX11_gain 32 = .ok (.aload_n 0, 1) := by decide +kernel
theorem dX11_gain_33 : decode cX11_gain 33 = .ok (.getfield 50, 3) := by decide +kernel
theorem dX11_gain_36 : decode cX11_gain 36 = .ok (.bipush 8, 2) := by decide +kernel
theorem dX11_gain_38 : decode cX11_gain 38 = .ok (.iload_n 2, 1) := by decide +kernel
theorem dX11_gain_39 : decode cX11_gain 39 = .ok (.imul, 1) := by decide +kernel
theorem dX11_gain_40 : decode cX11_gain 40 = .ok (.iload 4, 2) := by decide +kernel
theorem dX11_gain_42 : decode cX11_gain 42 = .ok (.iadd, 1) := by decide +kernel
theorem dX11_gain_43 : decode cX11_gain 43 = .ok (.iaload, 1) := by decide +kernel
theorem dX11_gain_44 : decode cX11_gain 44 = .ok (.iadd, 1) := by decide +kernel
theorem dX11_gain_45 : decode cX11_gain 45 = .ok (.istore_n 3, 1) := by decide +kernel
theorem dX11_gain_46 : decode cX11_gain 46 = .ok (.iinc 4 1, 3) := by decide +kernel
theorem dX11_gain_49 : decode cX11_gain 49 = .ok (.goto (-44), 3) := by decide +kernel
theorem dX11_gain_52 : decode cX11_gain 52 = .ok (.iload_n 3, 1) := by decide +kernel
theorem dX11_gain_53 : decode cX11_gain 53 = .ok (.ireturn, 1) := by decide +kernel
def fX11_gain_L5 (p1 : Int32) (p2 : Int32) (a : Int32 × Int32) (s : Sg) : Option (((Int32 × Int32) ⊕ (Int32)) × Sg) :=
  if (8 : Int32) ≤ a.2 then
  some (.inr a.1, s)
  else
  (fX11_has p1 a.2 s).bind fun w2 =>
  ((if w2.1 = 0 then
  if a.2 = p2 then
  some (0 : Int32)
  else
  (aI w2.2 63 64 (((8 : Int32) * p2) + a.2)).bind fun v8 =>
  some v8
  else
  some (0 : Int32)) : Option (Int32)).bind fun w3 =>
  bnd (a.1 + w3) fun x5 =>
  bnd (a.2 + (1 : Int32)) fun x6 =>
  some (.inl (x5, x6), w2.2)
def fX11_gain (x0_ : Int32) (x1_ : Int32) (s : Sg) : Option (Int32 × Sg) :=
  (lpG (fX11_gain_L5 x0_ x1_) FU ((0 : Int32), (0 : Int32)) s).bind fun w1 =>
  some (w1.1, w1.2)
theorem ct_X11_gain {g : Gl} {x0_ : Int32} {x1_ : Int32} {s : Sg} {w : Int32 × Sg}  (h : fX11_gain x0_ x1_ s = some w) : Ct SS g iX11_gain 1 21 [.ref (gad g 49), .int x0_, .int x1_] s (Dt (some (.int w.1)) w.2) := by
  refine Ct.ofV (by decide +kernel) 2 (lv0 := [some (.ref (gad g 49)), some (.int x0_), some (.int x1_), none, none]) rfl rfl (fun M hC => ?_)
  have hP : (Dt (some (.int w.1)) w.2) (some (.int w.1)) w.2 := ⟨rfl, rfl⟩
  generalize Dt (some (.int w.1)) w.2 = P at hP ⊢
  unfold fX11_gain at h
  refine v_iconst (pc := 0) (0 : Int32) rfl hC dX11_gain_0 ?_
  refine v_istore_n (pc := 1) (lv' := [some (.ref (gad g 49)), some (.int x0_), some (.int x1_), some (.int (0 : Int32)), none]) hC dX11_gain_1 rfl rfl rfl rfl ?_
  refine v_iconst (pc := 2) (0 : Int32) rfl hC dX11_gain_2 ?_
  refine v_istore (pc := 3) (lv' := [some (.ref (gad g 49)), some (.int x0_), some (.int x1_), some (.int (0 : Int32)), some (.int (0 : Int32))]) hC dX11_gain_3 rfl rfl rfl rfl ?_
  obtain ⟨w1, hw1, h⟩ := obd_s h
  have kx17 : V SS g M iX11_gain (PQ SS g M P) 52 [none, none, none, some (.int w1.1), none] [] w1.2 := by
    refine v_iload_n (pc := 52) hC dX11_gain_52 rfl ?_
    obtain rfl := Option.some.inj h
    exact v_iret (pc := 53) hC rfl dX11_gain_53 hP
  refine V.ls (ls_some (ls_some (ls_some (ls_some (ls_some ls_nil))))) (v_loop (pc := 5) (fun a4 => [some (.ref (gad g 49)), some (.int x0_), some (.int x1_), some (.int a4.1), some (.int a4.2)]) (fun z t => V SS g M iX11_gain (PQ SS g M P) 52 [none, none, none, some (.int z), none] [] t) (fun a4 s2 u3 hu3 k5 k6 => ?_) _ _ _ _ hw1 kx17)
  unfold fX11_gain_L5 at hu3
  refine v_iload (pc := 5) hC dX11_gain_5 rfl ?_
  refine v_bipush (pc := 7) (8 : Int32) rfl hC dX11_gain_7 ?_
  refine v_ic_ge (pc := 9) (tgt := 52) hC dX11_gain_9 rfl (fun c8 => ?_) (fun c8 => ?_)
  · replace hu3 := (if_pos c8).symm.trans hu3
    obtain rfl := Option.some.inj hu3
    exact V.ls (ls_none (ls_none (ls_none (ls_some (ls_none ls_nil))))) (k6 _ rfl)
  · replace hu3 := (if_neg c8).symm.trans hu3
    refine v_iload_n (pc := 12) hC dX11_gain_12 rfl ?_
    refine v_iload_n (pc := 13) hC dX11_gain_13 rfl ?_
    refine v_iload (pc := 14) hC dX11_gain_14 rfl ?_
    obtain ⟨w9, hw9, hu3⟩ := obd_s hu3
    refine v_cS (pc := 16) [.int a4.1] [.int w9.1, .int a4.1] gm_X11_has hC (ct_X11_has  hw9) ml_X11_221 rfl rfl rfl rfl rfl rfl dX11_gain_16 ?_
    obtain ⟨w10, hw10, hu3⟩ := obd_s hu3
    have kj11 : V SS g M iX11_gain (PQ SS g M P) 44 [some (.ref (gad g 49)), some (.int x0_), some (.int x1_), none, some (.int a4.2)] [.int w10, .int a4.1] w9.2 := by
      refine v_iadd (pc := 44) hC dX11_gain_44 ?_
      obtain ⟨x12, hx12, hu3⟩ := bnd_s hu3
      refine v_istore_n (pc := 45) (lv' := [some (.ref (gad g 49)), some (.int x0_), some (.int x1_), some (.int x12), some (.int a4.2)]) hC dX11_gain_45 hx12 rfl rfl rfl ?_
      obtain ⟨x13, hx13, hu3⟩ := bnd_s hu3
      refine v_iinc (pc := 46) (lv' := [some (.ref (gad g 49)), some (.int x0_), some (.int x1_), some (.int x12), some (.int x13)]) (1 : Int32) rfl hx13 hC dX11_gain_46 rfl rfl rfl rfl ?_
      refine v_goto (pc := 49) (tgt := 5) hC dX11_gain_49 rfl ?_
      obtain rfl := Option.some.inj hu3
      exact V.ls (ls_some (ls_some (ls_some (ls_some (ls_some ls_nil))))) (k5 _ rfl)
    refine v_if_ne (pc := 19) (tgt := 28) hC dX11_gain_19 rfl (fun c14 => ?_) (fun c14 => ?_)
    · replace hw10 := (if_neg c14).symm.trans hw10
      refine v_iconst (pc := 28) (0 : Int32) rfl hC dX11_gain_28 ?_
      refine v_goto (pc := 29) (tgt := 44) hC dX11_gain_29 rfl ?_
      obtain rfl := Option.some.inj hw10
      exact V.ls (ls_some (ls_some (ls_some (ls_none (ls_some ls_nil))))) kj11
    · replace hw10 := (if_pos c14).symm.trans hw10
      refine v_iload (pc := 22) hC dX11_gain_22 rfl ?_
      refine v_iload_n (pc := 24) hC dX11_gain_24 rfl ?_
      refine v_ic_ne (pc := 25) (tgt := 32) hC dX11_gain_25 rfl (fun c16 => ?_) (fun c16 => ?_)
      · replace hw10 := (if_neg c16).symm.trans hw10
        refine v_aload_n (pc := 32) hC dX11_gain_32 rfl ?_
        refine v_gt (pc := 33) 17 (.ref (gad g 63)) hC s_49 rfl rfl rfl rfl fl_X11_50 dX11_gain_33 ?_
        refine v_bipush (pc := 36) (8 : Int32) rfl hC dX11_gain_36 ?_
        refine v_iload_n (pc := 38) hC dX11_gain_38 rfl ?_
        refine v_imul (pc := 39) hC dX11_gain_39 ?_
        refine v_iload (pc := 40) hC dX11_gain_40 rfl ?_
        refine v_iadd (pc := 42) hC dX11_gain_42 ?_
        obtain ⟨v15, hv15, hw10⟩ := obd_s hw10
        refine v_aI (pc := 43) hC s_63 hv15 dX11_gain_43 ?_
        obtain rfl := Option.some.inj hw10
        exact V.ls (ls_some (ls_some (ls_some (ls_none (ls_some ls_nil))))) kj11
      · replace hw10 := (if_pos c16).symm.trans hw10
        refine v_iconst (pc := 28) (0 : Int32) rfl hC dX11_gain_28 ?_
        refine v_goto (pc := 29) (tgt := 44) hC dX11_gain_29 rfl ?_
        obtain rfl := Option.some.inj hw10
        exact V.ls (ls_some (ls_some (ls_some (ls_none (ls_some ls_nil))))) kj11
theorem dX11_orders_0 : decode cX11_orders 0 = .ok (.iconst 0, 1) := by decide +kernel
theorem dX11_orders_1 : decode cX11_orders 1 = .ok (.istore_n 1, 1) := by decide +kernel
theorem dX11_orders_2 : decode cX11_orders 2 = .ok (.iload_n 1, 1) := by decide +kernel
theorem dX11_orders_3 : decode cX11_orders 3 = .ok (.bipush 64, 2) := by decide +kernel
theorem dX11_orders_5 : decode cX11_orders 5 = .ok (.if_icmp .ge 16, 3) := by decide +kernel
theorem dX11_orders_8 : decode cX11_orders 8 = .ok (.aload_n 0, 1) := by decide +kernel
theorem dX11_orders_9 : decode cX11_orders 9 = .ok (.getfield 50, 3) := by decide +kernel
theorem dX11_orders_12 : decode cX11_orders 12 = .ok (.iload_n 1, 1) := by decide +kernel
theorem dX11_orders_13 : decode cX11_orders 13 = .ok (.iconst 0, 1) := by decide +kernel
theorem dX11_orders_14 : decode cX11_orders 14 = .ok (.iastore, 1) := by decide +kernel
theorem dX11_orders_15 : decode cX11_orders 15 = .ok (.iinc 1 1, 3) := by decide +kernel
theorem dX11_orders_18 : decode cX11_orders 18 = .ok (.goto (-16), 3) := by decide +kernel
theorem dX11_orders_21 : decode cX11_orders 21 = .ok (.iconst 0, 1) := by decide +kernel
theorem dX11_orders_22 : decode cX11_orders 22 = .ok (.istore_n 1, 1) := by decide +kernel
theorem dX11_orders_23 : decode cX11_orders 23 = .ok (.iload_n 1, 1) := by decide +kernel
theorem dX11_orders_24 : decode cX11_orders 24 = .ok (.aload_n 0, 1) := by decide +kernel
theorem dX11_orders_25 : decode cX11_orders 25 = .ok (.getfield 98, 3) := by decide +kernel
theorem dX11_orders_28 : decode cX11_orders 28 = .ok (.if_icmp .ge 115, 3) := by decide +kernel
theorem dX11_orders_31 : decode cX11_orders 31 = .ok (.iconst 0, 1) := by decide +kernel
theorem dX11_orders_32 : decode cX11_orders 32 = .ok (.istore_n 2, 1) := by decide +kernel
theorem dX11_orders_33 : decode cX11_orders 33 = .ok (.iload_n 2, 1) := by decide +kernel
theorem dX11_orders_34 : decode cX11_orders 34 = .ok (.aload_n 0, 1) := by decide +kernel
theorem dX11_orders_35 : decode cX11_orders 35 = .ok (.getfield 98, 3) := by decide +kernel
theorem dX11_orders_38 : decode cX11_orders 38 = .ok (.if_icmp .ge 99, 3) := by decide +kernel
theorem dX11_orders_41 : decode cX11_orders 41 = .ok (.aload_n 0, 1) := by decide +kernel
theorem dX11_orders_42 : decode cX11_orders 42 = .ok (.iload_n 1, 1) := by decide +kernel
theorem dX11_orders_43 : decode cX11_orders 43 = .ok (.invokevirtual 215, 3) := by decide +kernel
theorem dX11_orders_46 : decode cX11_orders 46 = .ok (.ifCond .eq 85, 3) := by decide +kernel
theorem dX11_orders_49 : decode cX11_orders 49 = .ok (.aload_n 0, 1) := by decide +kernel
theorem dX11_orders_50 : decode cX11_orders 50 = .ok (.iload_n 2, 1) := by decide +kernel
theorem dX11_orders_51 : decode cX11_orders 51 = .ok (.invokevirtual 215, 3) := by decide +kernel
theorem dX11_orders_54 : decode cX11_orders 54 = .ok (.ifCond .eq 77, 3) := by decide +kernel
theorem dX11_orders_57 : decode cX11_orders 57 = .ok (.aload_n 0, 1) := by decide +kernel
theorem dX11_orders_58 : decode cX11_orders 58 = .ok (.getfield 19, 3) := by decide +kernel
theorem dX11_orders_61 : decode cX11_orders 61 = .ok (.iload_n 1, 1) := by decide +kernel
theorem dX11_orders_62 : decode cX11_orders 62 = .ok (.iaload, 1) := by decide +kernel
theorem dX11_orders_63 : decode cX11_orders 63 = .ok (.aload_n 0, 1) := by decide +kernel
theorem dX11_orders_64 : decode cX11_orders 64 = .ok (.getfield 19, 3) := by decide +kernel
theorem dX11_orders_67 : decode cX11_orders 67 = .ok (.iload_n 2, 1) := by decide +kernel
theorem dX11_orders_68 : decode cX11_orders 68 = .ok (.iaload, 1) := by decide +kernel
theorem dX11_orders_69 : decode cX11_orders 69 = .ok (.if_icmp .ne 62, 3) := by decide +kernel
theorem dX11_orders_72 : decode cX11_orders 72 = .ok (.aload_n 0, 1) := by decide +kernel
theorem dX11_orders_73 : decode cX11_orders 73 = .ok (.getfield 22, 3) := by decide +kernel
theorem dX11_orders_76 : decode cX11_orders 76 = .ok (.iload_n 1, 1) := by decide +kernel
theorem dX11_orders_77 : decode cX11_orders 77 = .ok (.iaload, 1) := by decide +kernel
theorem dX11_orders_78 : decode cX11_orders 78 = .ok (.aload_n 0, 1) := by decide +kernel
theorem dX11_orders_79 : decode cX11_orders 79 = .ok (.getfield 22, 3) := by decide +kernel
theorem dX11_orders_82 : decode cX11_orders 82 = .ok (.iload_n 2, 1) := by decide +kernel
theorem dX11_orders_83 : decode cX11_orders 83 = .ok (.iaload, 1) := by decide +kernel
theorem dX11_orders_84 : decode cX11_orders 84 = .ok (.if_icmp .eq 47, 3) := by decide +kernel
theorem dX11_orders_87 : decode cX11_orders 87 = .ok (.aload_n 0, 1) := by decide +kernel
theorem dX11_orders_88 : decode cX11_orders 88 = .ok (.getfield 25, 3) := by decide +kernel
theorem dX11_orders_91 : decode cX11_orders 91 = .ok (.iconst 4, 1) := by decide +kernel
theorem dX11_orders_92 : decode cX11_orders 92 = .ok (.iload_n 1, 1) := by decide +kernel
theorem dX11_orders_93 : decode cX11_orders 93 = .ok (.imul, 1) := by decide +kernel
theorem dX11_orders_94 : decode cX11_orders 94 = .ok (.iaload, 1) := by decide +kernel
theorem dX11_orders_95 : decode cX11_orders 95 = .ok (.aload_n 0, 1) := by decide +kernel
theorem dX11_orders_96 : decode cX11_orders 96 = .ok (.getfield 25, 3) := by decide +kernel
theorem dX11_orders_99 : decode cX11_orders 99 = .ok (.iconst 4, 1) := by decide +kernel
theorem dX11_orders_100 : decode cX11_orders 100 = .ok (.iload_n 2, 1) := by decide +kernel
theorem dX11_orders_101 : decode cX11_orders 101 = .ok (.imul, 1) := by decide +kernel
theorem dX11_orders_102 : decode cX11_orders 102 = .ok (.iaload, 1) := by decide +kernel
theorem dX11_orders_103 : decode cX11_orders 103 = .ok (.if_icmp .ge 28, 3) := by decide +kernel
theorem dX11_orders_106 : decode cX11_orders 106 = .ok (.aload_n 0, 1) := by decide +kernel
theorem dX11_orders_107 : decode cX11_orders 107 = .ok (.getfield 50, 3) := by decide +kernel
theorem dX11_orders_110 : decode cX11_orders 110 = .ok (.bipush 8, 2) := by decide +kernel
theorem dX11_orders_112 : decode cX11_orders 112 = .ok (.aload_n 0, 1) := by decide +kernel
theorem dX11_orders_113 : decode cX11_orders 113 = .ok (.getfield 22, 3) := by decide +kernel
theorem dX11_orders_116 : decode cX11_orders 116 = .ok (.iload_n 1, 1) := by decide +kernel
theorem dX11_orders_117 : decode cX11_orders 117 = .ok (.iaload, 1) := by decide +kernel
theorem dX11_orders_118 : decode cX11_orders 118 = .ok (.imul, 1) := by decide +kernel
theorem dX11_orders_119 : decode cX11_orders 119 = .ok (.aload_n 0, 1) := by decide +kernel
theorem dX11_orders_120 : decode cX11_orders 120 = .ok (.getfield 22, 3) := by decide +kernel
theorem dX11_orders_123 : decode cX11_orders 123 = .ok (.iload_n 2, 1) := by decide +kernel
theorem dX11_orders_124 : decode cX11_orders 124 = .ok (.iaload, 1) := by decide +kernel
theorem dX11_orders_125 : decode cX11_orders 125 = .ok (.iadd, 1) := by decide +kernel
theorem dX11_orders_126 : decode cX11_orders 126 = .ok (.dup2, 1) := by decide +kernel
theorem dX11_orders_127 : decode cX11_orders 127 = .ok (.iaload, 1) := by decide +kernel
theorem dX11_orders_128 : decode cX11_orders 128 = .ok (.iconst 1, 1) := by decide +kernel
theorem dX11_orders_129 : decode cX11_orders 129 = .ok (.iadd, 1) := by decide +kernel
theorem dX11_orders_130 : decode cX11_orders 130 = .ok (.iastore, 1) := by decide +kernel
theorem dX11_orders_131 : decode cX11_orders 131 = .ok (.iinc 2 1, 3) := by decide +kernel
theorem dX11_orders_134 : decode cX11_orders 134 = .ok (.goto (-101), 3) := by decide +kernel
theorem dX11_orders_137 : decode cX11_orders 137 = .ok (.iinc 1 1, 3) := by decide +kernel
theorem dX11_orders_140 : decode cX11_orders 140 = .ok (.goto (-117), 3) := by decide +kernel
theorem dX11_orders_143 : decode cX11_orders 143 = .ok (.sipush 255, 3) := by decide +kernel
theorem dX11_orders_146 : decode cX11_orders 146 = .ok (.istore_n 1, 1) := by decide +kernel
theorem dX11_orders_147 : decode cX11_orders 147 = .ok (.iload_n 1, 1) := by decide +kernel
theorem dX11_orders_148 : decode cX11_orders 148 = .ok (.ifCond .lt 72, 3) := by decide +kernel
theorem dX11_orders_151 : decode cX11_orders 151 = .ok (.iconst 0, 1) := by decide +kernel
theorem dX11_orders_152 : decode cX11_orders 152 = .ok (.istore_n 2, 1) := by decide +kernel
theorem dX11_orders_153 : decode cX11_orders 153 = .ok (.iconst 0, 1) := by decide +kernel
theorem dX11_orders_154 : decode cX11_orders 154 = .ok (.istore_n 3, 1) := by decide +kernel
theorem dX11_orders_155 : decode cX11_orders 155 = .ok (.iload_n 3, 1) := by decide +kernel
theorem dX11_orders_156 : decode cX11_orders 156 = .ok (.bipush 8, 2) := by decide +kernel
theorem dX11_orders_158 : decode cX11_orders 158 = .ok (.if_icmp .ge 49, 3) := by decide +kernel
theorem dX11_orders_161 : decode cX11_orders 161 = .ok (.iload_n 1, 1) := by decide +kernel
theorem dX11_orders_162 : decode cX11_orders 162 = .ok (.iload_n 3, 1) := by decide +kernel
theorem dX11_orders_163 : decode cX11_orders 163 = .ok (.invokestatic 221, 3) := by decide +kernel
theorem dX11_orders_166 : decode cX11_orders 166 = .ok (.ifCond .ne 35, 3) := by decide +kernel
theorem dX11_orders_169 : decode cX11_orders 169 = .ok (.aload_n 0, 1) := by decide +kernel
theorem dX11_orders_170 : decode cX11_orders 170 = .ok (.iload_n 1, 1) := by decide +kernel
theorem dX11_orders_171 : decode cX11_orders 171 = .ok (.iload_n 3, 1) := by decide +kernel
theorem dX11_orders_172 : decode cX11_orders 172 = .ok (.invokevirtual 225, 3) := by decide +kernel
theorem dX11_orders_175 : decode cX11_orders 175 = .ok (.aload_n 0, 1) := by decide +kernel
theorem dX11_orders_176 : decode cX11_orders 176 = .ok (.getfield 53, 3) := by decide +kernel
theorem dX11_orders_179 : decode cX11_orders 179 = .ok (.iload_n 1, 1) := by decide +kernel
theorem dX11_orders_180 : decode cX11_orders 180 = .ok (.iconst 1, 1) := by decide +kernel
theorem dX11_orders_181 : decode cX11_orders 181 = .ok (.iload_n 3, 1) := by decide +kernel
theorem dX11_orders_182 : decode cX11_orders 182 = .ok (.ishl, 1) := by decide +kernel
theorem dX11_orders_183 : decode cX11_orders 183 = .ok (.ior, 1) := by decide +kernel
theorem dX11_orders_184 : decode cX11_orders 184 = .ok (.iaload, 1) := by decide +kernel
theorem dX11_orders_185 : decode cX11_orders 185 = .ok (.iadd, 1) := by decide +kernel
theorem dX11_orders_186 : decode cX11_orders 186 = .ok (.istore 4, 2) := by decide +kernel
theorem dX11_orders_188 : decode cX11_orders 188 = .ok (.iload 4, 2) := by decide +kernel
theorem dX11_orders_190 : decode cX11_orders 190 = .ok (.iload_n 2, 1) := by decide +kernel
theorem dX11_orders_191 : decode cX11_orders 191 = .ok (.if_icmp .le 8, 3) := by decide +kernel
theorem dX11_orders_194 : decode cX11_orders 194 = .ok (.iload 4, 2) := by decide +kernel
theorem dX11_orders_196 : decode cX11_orders 196 = .ok (.goto 4, 3) := by decide +kernel
theorem dX11_orders_199 : decode cX11_orders 199 = .ok (.iload_n 2, 1) := by decide +kernel
theorem dX11_orders_200 : decode cX11_orders 200 = .ok (.istore_n 2, 1) := by decide +kernel
theorem dX11_orders_201 : decode cX11_orders 201 = .ok (.iinc 3 1, 3) := by decide +kernel
theorem dX11_orders_204 : decode cX11_orders 204 = .ok (.goto (-49), 3) := by decide +kernel
theorem dX11_orders_207 : decode cX11_orders 207 = .ok (.aload_n 0, 1) := by decide +kernel
theorem dX11_orders_208 : decode cX11_orders 208 = .ok (.getfield 53, 3) := by decide +kernel
theorem dX11_orders_211 : decode cX11_orders 211 = .ok (.iload_n 1, 1) := by decide +kernel
theorem dX11_orders_212 : decode cX11_orders 212 = .ok (.iload_n 2, 1) := by decide +kernel
theorem dX11_orders_213 : decode cX11_orders 213 = .ok (.iastore, 1) := by decide +kernel
theorem dX11_orders_214 : decode cX11_orders 214 = .ok (.iinc 1 (-1), 3) := by decide +kernel
theorem dX11_orders_217 : decode cX11_orders 217 = .ok (.goto (-70), 3) := by decide +kernel
theorem dX11_orders_220 : decode cX11_orders 220 = .ok (.return_, 1) := by decide +kernel
def fX11_orders_L2  (a : Int32) (s : Sg) : Option (((Int32) ⊕ (Unit)) × Sg) :=
  if (64 : Int32) ≤ a then
  some (.inr (), s)
  else
  (wI s 63 64 a (0 : Int32)).bind fun s2 =>
  bnd (a + (1 : Int32)) fun x3 =>
  some (.inl x3, s2)
def fX11_orders_L33 (p1 : Int32) (a : Int32) (s : Sg) : Option (((Int32) ⊕ (Unit)) × Sg) :=
  if (gI s 49 3) ≤ a then
  some (.inr (), s)
  else
  (fX11_isSingle p1 s).bind fun w2 =>
  ((if w2.1 = 0 then
  some w2.2
  else
  (fX11_isSingle a w2.2).bind fun w7 =>
  if w7.1 = 0 then
  some w7.2
  else
  (aI w7.2 53 64 p1).bind fun v9 =>
  (aI w7.2 53 64 a).bind fun v10 =>
  if v9 = v10 then
  (aI w7.2 54 64 p1).bind fun v12 =>
  (aI w7.2 54 64 a).bind fun v13 =>
  if v12 = v13 then
  some w7.2
  else
  (aI w7.2 55 256 ((4 : Int32) * p1)).bind fun v15 =>
  (aI w7.2 55 256 ((4 : Int32) * a)).bind fun v16 =>
  if v16 ≤ v15 then
  some w7.2
  else
  (aI w7.2 54 64 p1).bind fun v18 =>
  (aI w7.2 54 64 a).bind fun v19 =>
  (aI w7.2 63 64 (((8 : Int32) * v18) + v19)).bind fun v20 =>
  (wI w7.2 63 64 (((8 : Int32) * v18) + v19) (v20 + (1 : Int32))).bind fun s21 =>
  some s21
  else
  some w7.2) : Option (Sg)).bind fun w3 =>
  bnd (a + (1 : Int32)) fun x5 =>
  some (.inl x5, w3)
def fX11_orders_L23  (a : Int32) (s : Sg) : Option (((Int32) ⊕ (Unit)) × Sg) :=
  if (gI s 49 3) ≤ a then
  some (.inr (), s)
  else
  (lpG (fX11_orders_L33 a) FU (0 : Int32) s).bind fun w2 =>
  bnd (a + (1 : Int32)) fun x3 =>
  some (.inl x3, w2.2)
def fX11_orders_L155 (p1 : Int32) (a : Int32 × Int32) (s : Sg) : Option (((Int32 × Int32) ⊕ (Int32)) × Sg) :=
  if (8 : Int32) ≤ a.2 then
  some (.inr a.1, s)
  else
  (fX11_has p1 a.2 s).bind fun w2 =>
  ((if w2.1 = 0 then
  (fX11_gain p1 a.2 w2.2).bind fun w7 =>
  (aI w7.2 64 256 (p1 ||| ((1 : Int32) <<< (a.2 &&& 31)))).bind fun v8 =>
  bnd (w7.1 + v8) fun x9 =>
  ((if x9 ≤ a.1 then
  some a.1
  else
  some x9) : Option (Int32)).bind fun w10 =>
  some (w10, w7.2)
  else
  some (a.1, w2.2)) : Option (Int32 × Sg)).bind fun w3 =>
  bnd (a.2 + (1 : Int32)) fun x5 =>
  some (.inl (w3.1, x5), w3.2)
def fX11_orders_L147  (a : Int32) (s : Sg) : Option (((Int32) ⊕ (Unit)) × Sg) :=
  if a < 0 then
  some (.inr (), s)
  else
  (lpG (fX11_orders_L155 a) FU ((0 : Int32), (0 : Int32)) s).bind fun w2 =>
  (wI w2.2 64 256 a w2.1).bind fun s3 =>
  bnd (a + (-1 : Int32)) fun x4 =>
  some (.inl x4, s3)
def fX11_orders  (s : Sg) : Option (Sg) :=
  (lpG (fX11_orders_L2) FU (0 : Int32) s).bind fun w1 =>
  (lpG (fX11_orders_L23) FU (0 : Int32) w1.2).bind fun w2 =>
  (lpG (fX11_orders_L147) FU (255 : Int32) w2.2).bind fun w3 =>
  some w3.2
theorem ct_X11_orders {g : Gl}  {s : Sg} {w : Sg}  (h : fX11_orders s = some w) : Ct SS g iX11_orders 2 45 [.ref (gad g 49)] s (Dt none w) := by
  refine Ct.ofV (by decide +kernel) 4 (lv0 := [some (.ref (gad g 49)), none, none, none, none]) rfl rfl (fun M hC => ?_)
  have hP : (Dt none w) none w := ⟨rfl, rfl⟩
  generalize Dt none w = P at hP ⊢
  unfold fX11_orders at h
  refine v_iconst (pc := 0) (0 : Int32) rfl hC dX11_orders_0 ?_
  refine v_istore_n (pc := 1) (lv' := [some (.ref (gad g 49)), some (.int (0 : Int32)), none, none, none]) hC dX11_orders_1 rfl rfl rfl rfl ?_
  obtain ⟨w1, hw1, h⟩ := obd_s h
  have kx81 : V SS g M iX11_orders (PQ SS g M P) 21 [some (.ref (gad g 49)), none, none, none, none] [] w1.2 := by
    refine v_iconst (pc := 21) (0 : Int32) rfl hC dX11_orders_21 ?_
    refine v_istore_n (pc := 22) (lv' := [some (.ref (gad g 49)), some (.int (0 : Int32)), none, none, none]) hC dX11_orders_22 rfl rfl rfl rfl ?_
    obtain ⟨w2, hw2, h⟩ := obd_s h
    have kx71 : V SS g M iX11_orders (PQ SS g M P) 143 [some (.ref (gad g 49)), none, none, none, none] [] w2.2 := by
      refine v_sipush (pc := 143) (255 : Int32) rfl hC dX11_orders_143 ?_
      refine v_istore_n (pc := 146) (lv' := [some (.ref (gad g 49)), some (.int (255 : Int32)), none, none, none]) hC dX11_orders_146 rfl rfl rfl rfl ?_
      obtain ⟨w3, hw3, h⟩ := obd_s h
      have kx33 : V SS g M iX11_orders (PQ SS g M P) 220 [none, none, none, none, none] [] w3.2 := by
        obtain rfl := Option.some.inj h
        exact v_vret (pc := 220) hC rfl dX11_orders_220 hP
      refine V.ls (ls_some (ls_some (ls_none (ls_none (ls_none ls_nil))))) (v_loop (pc := 147) (fun a6 => [some (.ref (gad g 49)), some (.int a6), none, none, none]) (fun z t => V SS g M iX11_orders (PQ SS g M P) 220 [none, none, none, none, none] [] t) (fun a6 s4 u5 hu5 k7 k8 => ?_) _ _ _ _ hw3 kx33)
      unfold fX11_orders_L147 at hu5
      refine v_iload_n (pc := 147) hC dX11_orders_147 rfl ?_
      refine v_if_lt (pc := 148) (tgt := 220) hC dX11_orders_148 rfl (fun c10 => ?_) (fun c10 => ?_)
      · replace hu5 := (if_pos c10).symm.trans hu5
        obtain rfl := Option.some.inj hu5
        exact V.ls (ls_none (ls_none (ls_none (ls_none (ls_none ls_nil))))) (k8 _ rfl)
      · replace hu5 := (if_neg c10).symm.trans hu5
        refine v_iconst (pc := 151) (0 : Int32) rfl hC dX11_orders_151 ?_
        refine v_istore_n (pc := 152) (lv' := [some (.ref (gad g 49)), some (.int a6), some (.int (0 : Int32)), none, none]) hC dX11_orders_152 rfl rfl rfl rfl ?_
        refine v_iconst (pc := 153) (0 : Int32) rfl hC dX11_orders_153 ?_
        refine v_istore_n (pc := 154) (lv' := [some (.ref (gad g 49)), some (.int a6), some (.int (0 : Int32)), some (.int (0 : Int32)), none]) hC dX11_orders_154 rfl rfl rfl rfl ?_
        obtain ⟨w11, hw11, hu5⟩ := obd_s hu5
        have kx32 : V SS g M iX11_orders (PQ SS g M P) 207 [some (.ref (gad g 49)), some (.int a6), some (.int w11.1), none, none] [] w11.2 := by
          refine v_aload_n (pc := 207) hC dX11_orders_207 rfl ?_
          refine v_gt (pc := 208) 18 (.ref (gad g 64)) hC s_49 rfl rfl rfl rfl fl_X11_53 dX11_orders_208 ?_
          refine v_iload_n (pc := 211) hC dX11_orders_211 rfl ?_
          refine v_iload_n (pc := 212) hC dX11_orders_212 rfl ?_
          obtain ⟨s12, hs12, hu5⟩ := obd_s hu5
          refine v_wI (pc := 213) hC s_64 hs12 dX11_orders_213 ?_
          obtain ⟨x13, hx13, hu5⟩ := bnd_s hu5
          refine v_iinc (pc := 214) (lv' := [some (.ref (gad g 49)), some (.int x13), some (.int w11.1), none, none]) (-1 : Int32) rfl hx13 hC dX11_orders_214 rfl rfl rfl rfl ?_
          refine v_goto (pc := 217) (tgt := 147) hC dX11_orders_217 rfl ?_
          obtain rfl := Option.some.inj hu5
          exact V.ls (ls_some (ls_some (ls_none (ls_none (ls_none ls_nil))))) (k7 _ rfl)
        refine V.ls (ls_some (ls_some (ls_some (ls_some (ls_none ls_nil))))) (v_loop (pc := 155) (fun a16 => [some (.ref (gad g 49)), some (.int a6), some (.int a16.1), some (.int a16.2), none]) (fun z t => V SS g M iX11_orders (PQ SS g M P) 207 [some (.ref (gad g 49)), some (.int a6), some (.int z), none, none] [] t) (fun a16 s14 u15 hu15 k17 k18 => ?_) _ _ _ _ hw11 kx32)
        unfold fX11_orders_L155 at hu15
        refine v_iload_n (pc := 155) hC dX11_orders_155 rfl ?_
        refine v_bipush (pc := 156) (8 : Int32) rfl hC dX11_orders_156 ?_
        refine v_ic_ge (pc := 158) (tgt := 207) hC dX11_orders_158 rfl (fun c20 => ?_) (fun c20 => ?_)
        · replace hu15 := (if_pos c20).symm.trans hu15
          obtain rfl := Option.some.inj hu15
          exact V.ls (ls_some (ls_some (ls_some (ls_none (ls_none ls_nil))))) (k18 _ rfl)
        · replace hu15 := (if_neg c20).symm.trans hu15
          refine v_iload_n (pc := 161) hC dX11_orders_161 rfl ?_
          refine v_iload_n (pc := 162) hC dX11_orders_162 rfl ?_
          obtain ⟨w21, hw21, hu15⟩ := obd_s hu15
          refine v_cS (pc := 163) [] [.int w21.1] gm_X11_has hC (ct_X11_has  hw21) ml_X11_221 rfl rfl rfl rfl rfl rfl dX11_orders_163 ?_
          obtain ⟨w22, hw22, hu15⟩ := obd_s hu15
          have kj23 : V SS g M iX11_orders (PQ SS g M P) 201 [some (.ref (gad g 49)), some (.int a6), some (.int w22.1), some (.int a16.2), none] [] w22.2 := by
            obtain ⟨x24, hx24, hu15⟩ := bnd_s hu15
            refine v_iinc (pc := 201) (lv' := [some (.ref (gad g 49)), some (.int a6), some (.int w22.1), some (.int x24), none]) (1 : Int32) rfl hx24 hC dX11_orders_201 rfl rfl rfl rfl ?_
            refine v_goto (pc := 204) (tgt := 155) hC dX11_orders_204 rfl ?_
            obtain rfl := Option.some.inj hu15
            exact V.ls (ls_some (ls_some (ls_some (ls_some (ls_none ls_nil))))) (k17 _ rfl)
          refine v_if_ne (pc := 166) (tgt := 201) hC dX11_orders_166 rfl (fun c25 => ?_) (fun c25 => ?_)
          · replace hw22 := (if_neg c25).symm.trans hw22
            obtain rfl := Option.some.inj hw22
            exact V.ls (ls_some (ls_some (ls_some (ls_some (ls_none ls_nil))))) kj23
          · replace hw22 := (if_pos c25).symm.trans hw22
            refine v_aload_n (pc := 169) hC dX11_orders_169 rfl ?_
            refine v_iload_n (pc := 170) hC dX11_orders_170 rfl ?_
            refine v_iload_n (pc := 171) hC dX11_orders_171 rfl ?_
            obtain ⟨w26, hw26, hw22⟩ := obd_s hw22
            refine v_cV (pc := 172) [] [.int w26.1] gm_X11_gain hC s_49 rfl rfl (ct_X11_gain  hw26) ml_X11_225 rfl rfl rfl rfl rfl rfl dX11_orders_172 ?_
            refine v_aload_n (pc := 175) hC dX11_orders_175 rfl ?_
            refine v_gt (pc := 176) 18 (.ref (gad g 64)) hC s_49 rfl rfl rfl rfl fl_X11_53 dX11_orders_176 ?_
            refine v_iload_n (pc := 179) hC dX11_orders_179 rfl ?_
            refine v_iconst (pc := 180) (1 : Int32) rfl hC dX11_orders_180 ?_
            refine v_iload_n (pc := 181) hC dX11_orders_181 rfl ?_
            refine v_ishl (pc := 182) hC dX11_orders_182 ?_
            refine v_ior (pc := 183) hC dX11_orders_183 ?_
            obtain ⟨v27, hv27, hw22⟩ := obd_s hw22
            refine v_aI (pc := 184) hC s_64 hv27 dX11_orders_184 ?_
            refine v_iadd (pc := 185) hC dX11_orders_185 ?_
            obtain ⟨x28, hx28, hw22⟩ := bnd_s hw22
            refine v_istore (pc := 186) (lv' := [some (.ref (gad g 49)), some (.int a6), some (.int a16.1), some (.int a16.2), some (.int x28)]) hC dX11_orders_186 hx28 rfl rfl rfl ?_
            refine v_iload (pc := 188) hC dX11_orders_188 rfl ?_
            refine v_iload_n (pc := 190) hC dX11_orders_190 rfl ?_
            obtain ⟨w29, hw29, hw22⟩ := obd_s hw22
            have kj30 : V SS g M iX11_orders (PQ SS g M P) 200 [some (.ref (gad g 49)), some (.int a6), none, some (.int a16.2), none] [.int w29] w26.2 := by
              refine v_istore_n (pc := 200) (lv' := [some (.ref (gad g 49)), some (.int a6), some (.int w29), some (.int a16.2), none]) hC dX11_orders_200 rfl rfl rfl rfl ?_
              obtain rfl := Option.some.inj hw22
              exact V.ls (ls_some (ls_some (ls_some (ls_some (ls_none ls_nil))))) kj23
            refine v_ic_le (pc := 191) (tgt := 199) hC dX11_orders_191 rfl (fun c31 => ?_) (fun c31 => ?_)
            · replace hw29 := (if_pos c31).symm.trans hw29
              refine v_iload_n (pc := 199) hC dX11_orders_199 rfl ?_
              obtain rfl := Option.some.inj hw29
              exact V.ls (ls_some (ls_some (ls_none (ls_some (ls_none ls_nil))))) kj30
            · replace hw29 := (if_neg c31).symm.trans hw29
              refine v_iload (pc := 194) hC dX11_orders_194 rfl ?_
              refine v_goto (pc := 196) (tgt := 200) hC dX11_orders_196 rfl ?_
              obtain rfl := Option.some.inj hw29
              exact V.ls (ls_some (ls_some (ls_none (ls_some (ls_none ls_nil))))) kj30
    refine V.ls (ls_some (ls_some (ls_none (ls_none (ls_none ls_nil))))) (v_loop (pc := 23) (fun a36 => [some (.ref (gad g 49)), some (.int a36), none, none, none]) (fun z t => V SS g M iX11_orders (PQ SS g M P) 143 [some (.ref (gad g 49)), none, none, none, none] [] t) (fun a36 s34 u35 hu35 k37 k38 => ?_) _ _ _ _ hw2 kx71)
    unfold fX11_orders_L23 at hu35
    refine v_iload_n (pc := 23) hC dX11_orders_23 rfl ?_
    refine v_aload_n (pc := 24) hC dX11_orders_24 rfl ?_
    refine v_gt (pc := 25) 3 (.int (gI s34 49 3)) hC s_49 rfl rfl rfl rfl fl_X11_98 dX11_orders_25 ?_
    refine v_ic_ge (pc := 28) (tgt := 143) hC dX11_orders_28 rfl (fun c40 => ?_) (fun c40 => ?_)
    · replace hu35 := (if_pos c40).symm.trans hu35
      obtain rfl := Option.some.inj hu35
      exact V.ls (ls_some (ls_none (ls_none (ls_none (ls_none ls_nil))))) (k38 _ rfl)
    · replace hu35 := (if_neg c40).symm.trans hu35
      refine v_iconst (pc := 31) (0 : Int32) rfl hC dX11_orders_31 ?_
      refine v_istore_n (pc := 32) (lv' := [some (.ref (gad g 49)), some (.int a36), some (.int (0 : Int32)), none, none]) hC dX11_orders_32 rfl rfl rfl rfl ?_
      obtain ⟨w41, hw41, hu35⟩ := obd_s hu35
      have kx70 : V SS g M iX11_orders (PQ SS g M P) 137 [some (.ref (gad g 49)), some (.int a36), none, none, none] [] w41.2 := by
        obtain ⟨x42, hx42, hu35⟩ := bnd_s hu35
        refine v_iinc (pc := 137) (lv' := [some (.ref (gad g 49)), some (.int x42), none, none, none]) (1 : Int32) rfl hx42 hC dX11_orders_137 rfl rfl rfl rfl ?_
        refine v_goto (pc := 140) (tgt := 23) hC dX11_orders_140 rfl ?_
        obtain rfl := Option.some.inj hu35
        exact V.ls (ls_some (ls_some (ls_none (ls_none (ls_none ls_nil))))) (k37 _ rfl)
      refine V.ls (ls_some (ls_some (ls_some (ls_none (ls_none ls_nil))))) (v_loop (pc := 33) (fun a45 => [some (.ref (gad g 49)), some (.int a36), some (.int a45), none, none]) (fun z t => V SS g M iX11_orders (PQ SS g M P) 137 [some (.ref (gad g 49)), some (.int a36), none, none, none] [] t) (fun a45 s43 u44 hu44 k46 k47 => ?_) _ _ _ _ hw41 kx70)
      unfold fX11_orders_L33 at hu44
      refine v_iload_n (pc := 33) hC dX11_orders_33 rfl ?_
      refine v_aload_n (pc := 34) hC dX11_orders_34 rfl ?_
      refine v_gt (pc := 35) 3 (.int (gI s43 49 3)) hC s_49 rfl rfl rfl rfl fl_X11_98 dX11_orders_35 ?_
      refine v_ic_ge (pc := 38) (tgt := 137) hC dX11_orders_38 rfl (fun c49 => ?_) (fun c49 => ?_)
      · replace hu44 := (if_pos c49).symm.trans hu44
        obtain rfl := Option.some.inj hu44
        exact V.ls (ls_some (ls_some (ls_none (ls_none (ls_none ls_nil))))) (k47 _ rfl)
      · replace hu44 := (if_neg c49).symm.trans hu44
        refine v_aload_n (pc := 41) hC dX11_orders_41 rfl ?_
        refine v_iload_n (pc := 42) hC dX11_orders_42 rfl ?_
        obtain ⟨w50, hw50, hu44⟩ := obd_s hu44
        refine v_cV (pc := 43) [] [.int w50.1] gm_X11_isSingle hC s_49 rfl rfl (ct_X11_isSingle  hw50) ml_X11_215 rfl rfl rfl rfl rfl rfl dX11_orders_43 ?_
        obtain ⟨w51, hw51, hu44⟩ := obd_s hu44
        have kj52 : V SS g M iX11_orders (PQ SS g M P) 131 [some (.ref (gad g 49)), some (.int a36), some (.int a45), none, none] [] w51 := by
          obtain ⟨x53, hx53, hu44⟩ := bnd_s hu44
          refine v_iinc (pc := 131) (lv' := [some (.ref (gad g 49)), some (.int a36), some (.int x53), none, none]) (1 : Int32) rfl hx53 hC dX11_orders_131 rfl rfl rfl rfl ?_
          refine v_goto (pc := 134) (tgt := 33) hC dX11_orders_134 rfl ?_
          obtain rfl := Option.some.inj hu44
          exact V.ls (ls_some (ls_some (ls_some (ls_none (ls_none ls_nil))))) (k46 _ rfl)
        refine v_if_eq (pc := 46) (tgt := 131) hC dX11_orders_46 rfl (fun c54 => ?_) (fun c54 => ?_)
        · replace hw51 := (if_pos c54).symm.trans hw51
          obtain rfl := Option.some.inj hw51
          exact V.ls (ls_some (ls_some (ls_some (ls_none (ls_none ls_nil))))) kj52
        · replace hw51 := (if_neg c54).symm.trans hw51
          refine v_aload_n (pc := 49) hC dX11_orders_49 rfl ?_
          refine v_iload_n (pc := 50) hC dX11_orders_50 rfl ?_
          obtain ⟨w55, hw55, hw51⟩ := obd_s hw51
          refine v_cV (pc := 51) [] [.int w55.1] gm_X11_isSingle hC s_49 rfl rfl (ct_X11_isSingle  hw55) ml_X11_215 rfl rfl rfl rfl rfl rfl dX11_orders_51 ?_
          refine v_if_eq (pc := 54) (tgt := 131) hC dX11_orders_54 rfl (fun c56 => ?_) (fun c56 => ?_)
          · replace hw51 := (if_pos c56).symm.trans hw51
            obtain rfl := Option.some.inj hw51
            exact V.ls (ls_some (ls_some (ls_some (ls_none (ls_none ls_nil))))) kj52
          · replace hw51 := (if_neg c56).symm.trans hw51
            refine v_aload_n (pc := 57) hC dX11_orders_57 rfl ?_
            refine v_gt (pc := 58) 5 (.ref (gad g 53)) hC s_49 rfl rfl rfl rfl fl_X11_19 dX11_orders_58 ?_
            refine v_iload_n (pc := 61) hC dX11_orders_61 rfl ?_
            obtain ⟨v57, hv57, hw51⟩ := obd_s hw51
            refine v_aI (pc := 62) hC s_53 hv57 dX11_orders_62 ?_
            refine v_aload_n (pc := 63) hC dX11_orders_63 rfl ?_
            refine v_gt (pc := 64) 5 (.ref (gad g 53)) hC s_49 rfl rfl rfl rfl fl_X11_19 dX11_orders_64 ?_
            refine v_iload_n (pc := 67) hC dX11_orders_67 rfl ?_
            obtain ⟨v58, hv58, hw51⟩ := obd_s hw51
            refine v_aI (pc := 68) hC s_53 hv58 dX11_orders_68 ?_
            refine v_ic_ne (pc := 69) (tgt := 131) hC dX11_orders_69 rfl (fun c59 => ?_) (fun c59 => ?_)
            · replace hw51 := (if_neg c59).symm.trans hw51
              obtain rfl := Option.some.inj hw51
              exact V.ls (ls_some (ls_some (ls_some (ls_none (ls_none ls_nil))))) kj52
            · replace hw51 := (if_pos c59).symm.trans hw51
              refine v_aload_n (pc := 72) hC dX11_orders_72 rfl ?_
              refine v_gt (pc := 73) 6 (.ref (gad g 54)) hC s_49 rfl rfl rfl rfl fl_X11_22 dX11_orders_73 ?_
              refine v_iload_n (pc := 76) hC dX11_orders_76 rfl ?_
              obtain ⟨v60, hv60, hw51⟩ := obd_s hw51
              refine v_aI (pc := 77) hC s_54 hv60 dX11_orders_77 ?_
              refine v_aload_n (pc := 78) hC dX11_orders_78 rfl ?_
              refine v_gt (pc := 79) 6 (.ref (gad g 54)) hC s_49 rfl rfl rfl rfl fl_X11_22 dX11_orders_79 ?_
              refine v_iload_n (pc := 82) hC dX11_orders_82 rfl ?_
              obtain ⟨v61, hv61, hw51⟩ := obd_s hw51
              refine v_aI (pc := 83) hC s_54 hv61 dX11_orders_83 ?_
              refine v_ic_eq (pc := 84) (tgt := 131) hC dX11_orders_84 rfl (fun c62 => ?_) (fun c62 => ?_)
              · replace hw51 := (if_pos c62).symm.trans hw51
                obtain rfl := Option.some.inj hw51
                exact V.ls (ls_some (ls_some (ls_some (ls_none (ls_none ls_nil))))) kj52
              · replace hw51 := (if_neg c62).symm.trans hw51
                refine v_aload_n (pc := 87) hC dX11_orders_87 rfl ?_
                refine v_gt (pc := 88) 7 (.ref (gad g 55)) hC s_49 rfl rfl rfl rfl fl_X11_25 dX11_orders_88 ?_
                refine v_iconst (pc := 91) (4 : Int32) rfl hC dX11_orders_91 ?_
                refine v_iload_n (pc := 92) hC dX11_orders_92 rfl ?_
                refine v_imul (pc := 93) hC dX11_orders_93 ?_
                obtain ⟨v63, hv63, hw51⟩ := obd_s hw51
                refine v_aI (pc := 94) hC s_55 hv63 dX11_orders_94 ?_
                refine v_aload_n (pc := 95) hC dX11_orders_95 rfl ?_
                refine v_gt (pc := 96) 7 (.ref (gad g 55)) hC s_49 rfl rfl rfl rfl fl_X11_25 dX11_orders_96 ?_
                refine v_iconst (pc := 99) (4 : Int32) rfl hC dX11_orders_99 ?_
                refine v_iload_n (pc := 100) hC dX11_orders_100 rfl ?_
                refine v_imul (pc := 101) hC dX11_orders_101 ?_
                obtain ⟨v64, hv64, hw51⟩ := obd_s hw51
                refine v_aI (pc := 102) hC s_55 hv64 dX11_orders_102 ?_
                refine v_ic_ge (pc := 103) (tgt := 131) hC dX11_orders_103 rfl (fun c65 => ?_) (fun c65 => ?_)
                · replace hw51 := (if_pos c65).symm.trans hw51
                  obtain rfl := Option.some.inj hw51
                  exact V.ls (ls_some (ls_some (ls_some (ls_none (ls_none ls_nil))))) kj52
                · replace hw51 := (if_neg c65).symm.trans hw51
                  refine v_aload_n (pc := 106) hC dX11_orders_106 rfl ?_
                  refine v_gt (pc := 107) 17 (.ref (gad g 63)) hC s_49 rfl rfl rfl rfl fl_X11_50 dX11_orders_107 ?_
                  refine v_bipush (pc := 110) (8 : Int32) rfl hC dX11_orders_110 ?_
                  refine v_aload_n (pc := 112) hC dX11_orders_112 rfl ?_
                  refine v_gt (pc := 113) 6 (.ref (gad g 54)) hC s_49 rfl rfl rfl rfl fl_X11_22 dX11_orders_113 ?_
                  refine v_iload_n (pc := 116) hC dX11_orders_116 rfl ?_
                  obtain ⟨v66, hv66, hw51⟩ := obd_s hw51
                  refine v_aI (pc := 117) hC s_54 hv66 dX11_orders_117 ?_
                  refine v_imul (pc := 118) hC dX11_orders_118 ?_
                  refine v_aload_n (pc := 119) hC dX11_orders_119 rfl ?_
                  refine v_gt (pc := 120) 6 (.ref (gad g 54)) hC s_49 rfl rfl rfl rfl fl_X11_22 dX11_orders_120 ?_
                  refine v_iload_n (pc := 123) hC dX11_orders_123 rfl ?_
                  obtain ⟨v67, hv67, hw51⟩ := obd_s hw51
                  refine v_aI (pc := 124) hC s_54 hv67 dX11_orders_124 ?_
                  refine v_iadd (pc := 125) hC dX11_orders_125 ?_
                  refine v_dup2 (pc := 126) hC rfl rfl dX11_orders_126 ?_
                  obtain ⟨v68, hv68, hw51⟩ := obd_s hw51
                  refine v_aI (pc := 127) hC s_63 hv68 dX11_orders_127 ?_
                  refine v_iconst (pc := 128) (1 : Int32) rfl hC dX11_orders_128 ?_
                  refine v_iadd (pc := 129) hC dX11_orders_129 ?_
                  obtain ⟨s69, hs69, hw51⟩ := obd_s hw51
                  refine v_wI (pc := 130) hC s_63 hs69 dX11_orders_130 ?_
                  obtain rfl := Option.some.inj hw51
                  exact V.ls (ls_some (ls_some (ls_some (ls_none (ls_none ls_nil))))) kj52
  refine V.ls (ls_some (ls_some (ls_none (ls_none (ls_none ls_nil))))) (v_loop (pc := 2) (fun a74 => [some (.ref (gad g 49)), some (.int a74), none, none, none]) (fun z t => V SS g M iX11_orders (PQ SS g M P) 21 [some (.ref (gad g 49)), none, none, none, none] [] t) (fun a74 s72 u73 hu73 k75 k76 => ?_) _ _ _ _ hw1 kx81)
  unfold fX11_orders_L2 at hu73
  refine v_iload_n (pc := 2) hC dX11_orders_2 rfl ?_
  refine v_bipush (pc := 3) (64 : Int32) rfl hC dX11_orders_3 ?_
  refine v_ic_ge (pc := 5) (tgt := 21) hC dX11_orders_5 rfl (fun c78 => ?_) (fun c78 => ?_)
  · replace hu73 := (if_pos c78).symm.trans hu73
    obtain rfl := Option.some.inj hu73
    exact V.ls (ls_some (ls_none (ls_none (ls_none (ls_none ls_nil))))) (k76 _ rfl)
  · replace hu73 := (if_neg c78).symm.trans hu73
    refine v_aload_n (pc := 8) hC dX11_orders_8 rfl ?_
    refine v_gt (pc := 9) 17 (.ref (gad g 63)) hC s_49 rfl rfl rfl rfl fl_X11_50 dX11_orders_9 ?_
    refine v_iload_n (pc := 12) hC dX11_orders_12 rfl ?_
    refine v_iconst (pc := 13) (0 : Int32) rfl hC dX11_orders_13 ?_
    obtain ⟨s79, hs79, hu73⟩ := obd_s hu73
    refine v_wI (pc := 14) hC s_63 hs79 dX11_orders_14 ?_
    obtain ⟨x80, hx80, hu73⟩ := bnd_s hu73
    refine v_iinc (pc := 15) (lv' := [some (.ref (gad g 49)), some (.int x80), none, none, none]) (1 : Int32) rfl hx80 hC dX11_orders_15 rfl rfl rfl rfl ?_
    refine v_goto (pc := 18) (tgt := 2) hC dX11_orders_18 rfl ?_
    obtain rfl := Option.some.inj hu73
    exact V.ls (ls_some (ls_some (ls_none (ls_none (ls_none ls_nil))))) (k75 _ rfl)
theorem dX11_orderNow_0 : decode cX11_orderNow 0 = .ok (.aload_n 0, 1) := by decide +kernel
theorem dX11_orderNow_1 : decode cX11_orderNow 1 = .ok (.invokevirtual 228, 3) := by decide +kernel
theorem dX11_orderNow_4 : decode cX11_orderNow 4 = .ok (.iload_n 1, 1) := by decide +kernel
theorem dX11_orderNow_5 : decode cX11_orderNow 5 = .ok (.iconst (-1), 1) := by decide +kernel
theorem dX11_orderNow_6 : decode cX11_orderNow 6 = .ok (.if_icmp .ne 10, 3) := by decide +kernel
theorem dX11_orderNow_9 : decode cX11_orderNow 9 = .ok (.aload_n 0, 1) := by decide +kernel
theorem dX11_orderNow_10 : decode cX11_orderNow 10 = .ok (.getfield 53, 3) := by decide +kernel
theorem dX11_orderNow_13 : decode cX11_orderNow 13 = .ok (.iconst 0, 1) := by decide +kernel
theorem dX11_orderNow_14 : decode cX11_orderNow 14 = .ok (.iaload, 1) := by decide +kernel
theorem dX11_orderNow_15 : decode cX11_orderNow 15 = .ok (.ireturn, 1) := by decide +kernel
theorem dX11_orderNow_16 : decode cX11_orderNow 16 = .ok (.iconst 0, 1) := by decide +kernel
theorem dX11_orderNow_17 : decode cX11_orderNow 17 = .ok (.istore_n 2, 1) := by decide +kernel
theorem dX11_orderNow_18 : decode cX11_orderNow 18 = .ok (.iconst (-1), 1) := by decide +kernel
theorem dX11_orderNow_19 : decode cX11_orderNow 19 = .ok (.istore_n 3, 1) := by decide +kernel
theorem dX11_orderNow_20 : decode cX11_orderNow 20 = .ok (.iconst 0, 1) := by decide +kernel
theorem dX11_orderNow_21 : decode cX11_orderNow 21 = .ok (.istore 4, 2) := by decide +kernel
theorem dX11_orderNow_23 : decode cX11_orderNow 23 = .ok (.iload 4, 2) := by decide +kernel
theorem dX11_orderNow_25 : decode cX11_orderNow 25 = .ok (.iload_n 1, 1) := by decide +kernel
theorem dX11_orderNow_26 : decode cX11_orderNow 26 = .ok (.if_icmp .gt 82, 3) := by decide +kernel
theorem dX11_orderNow_29 : decode cX11_orderNow 29 = .ok (.iconst (-1), 1) := by decide +kernel
theorem dX11_orderNow_30 : decode cX11_orderNow 30 = .ok (.istore_n 3, 1) := by decide +kernel
theorem dX11_orderNow_31 : decode cX11_orderNow 31 = .ok (.iconst 0, 1) := by decide +kernel
theorem dX11_orderNow_32 : decode cX11_orderNow 32 = .ok (.istore 5, 2) := by decide +kernel
theorem dX11_orderNow_34 : decode cX11_orderNow 34 = .ok (.iload 5, 2) := by decide +kernel
theorem dX11_orderNow_36 : decode cX11_orderNow 36 = .ok (.bipush 8, 2) := by decide +kernel
theorem dX11_orderNow_38 : decode cX11_orderNow 38 = .ok (.if_icmp .ge 58, 3) := by decide +kernel
theorem dX11_orderNow_41 : decode cX11_orderNow 41 = .ok (.iload_n 3, 1) := by decide +kernel
theorem dX11_orderNow_42 : decode cX11_orderNow 42 = .ok (.iconst (-1), 1) := by decide +kernel
theorem dX11_orderNow_43 : decode cX11_orderNow 43 = .ok (.if_icmp .ne 53, 3) := by decide +kernel
theorem dX11_orderNow_46 : decode cX11_orderNow 46 = .ok (.iload_n 2, 1) := by decide +kernel
theorem dX11_orderNow_47 : decode cX11_orderNow 47 = .ok (.iload 5, 2) := by decide +kernel
theorem dX11_orderNow_49 : decode cX11_orderNow 49 = .ok (.invokestatic 221, 3) := by decide +kernel
theorem dX11_orderNow_52 : decode cX11_orderNow 52 = .ok (.ifCond .ne 36, 3) := by decide +kernel
theorem dX11_orderNow_55 : decode cX11_orderNow 55 = .ok (.aload_n 0, 1) := by decide +kernel
theorem dX11_orderNow_56 : decode cX11_orderNow 56 = .ok (.iload_n 2, 1) := by decide +kernel
theorem dX11_orderNow_57 : decode cX11_orderNow 57 = .ok (.iload 5, 2) := by decide +kernel
theorem dX11_orderNow_59 : decode cX11_orderNow 59 = .ok (.invokevirtual 225, 3) := by decide +kernel
theorem dX11_orderNow_62 : decode cX11_orderNow 62 = .ok (.aload_n 0, 1) := by decide +kernel
theorem dX11_orderNow_63 : decode cX11_orderNow 63 = .ok (.getfield 53, 3) := by decide +kernel
theorem dX11_orderNow_66 : decode cX11_orderNow 66 = .ok (.iload_n 2, 1) := by decide +kernel
theorem dX11_orderNow_67 : decode cX11_orderNow 67 = .ok (.iconst 1, 1) := by decide +kernel
theorem dX11_orderNow_68 : decode cX11_orderNow 68 = .ok (.iload 5, 2) := by decide +kernel
theorem dX11_orderNow_70 : decode cX11_orderNow 70 = .ok (.ishl, 1) := by decide +kernel
theorem dX11_orderNow_71 : decode cX11_orderNow 71 = .ok (.ior, 1) := by decide +kernel
theorem dX11_orderNow_72 : decode cX11_orderNow 72 = .ok (.iaload, 1) := by decide +kernel
theorem dX11_orderNow_73 : decode cX11_orderNow 73 = .ok (.iadd, 1) := by decide +kernel
theorem dX11_orderNow_74 : decode cX11_orderNow 74 = .ok (.aload_n 0, 1) := by decide +kernel
theorem dX11_orderNow_75 : decode cX11_orderNow 75 = .ok (.getfield 53, 3) := by decide +kernel
theorem dX11_orderNow_78 : decode cX11_orderNow 78 = .ok (.iload_n 2, 1) := by decide +kernel
theorem dX11_orderNow_79 : decode cX11_orderNow 79 = .ok (.iaload, 1) := by decide +kernel
theorem dX11_orderNow_80 : decode cX11_orderNow 80 = .ok (.if_icmp .ne 8, 3) := by decide +kernel
theorem dX11_orderNow_83 : decode cX11_orderNow 83 = .ok (.iload 5, 2) := by decide +kernel
theorem dX11_orderNow_85 : decode cX11_orderNow 85 = .ok (.goto 4, 3) := by decide +kernel
theorem dX11_orderNow_88 : decode cX11_orderNow 88 = .ok (.iconst (-1), 1) := by decide +kernel
theorem dX11_orderNow_89 : decode cX11_orderNow 89 = .ok (.istore_n 3, 1) := by decide +kernel
theorem dX11_orderNow_90 : decode cX11_orderNow 90 = .ok (.iinc 5 1, 3) := by decide +kernel
theorem dX11_orderNow_93 : decode cX11_orderNow 93 = .ok (.goto (-59), 3) := by decide +kernel
theorem dX11_orderNow_96 : decode cX11_orderNow 96 = .ok (.iload_n 2, 1) := by decide +kernel
theorem dX11_orderNow_97 : decode cX11_orderNow 97 = .ok (.iconst 1, 1) := by decide +kernel
theorem dX11_orderNow_98 : decode cX11_orderNow 98 = .ok (.iload_n 3, 1) := by decide +kernel
theorem dX11_orderNow_99 : decode cX11_orderNow 99 = .ok (.ishl, 1) := by decide +kernel
theorem dX11_orderNow_100 : decode cX11_orderNow 100 = .ok (.ior, 1) := by decide +kernel
theorem dX11_orderNow_101 : decode cX11_orderNow 101 = .ok (.istore_n 2, 1) := by decide +kernel
theorem dX11_orderNow_102 : decode cX11_orderNow 102 = .ok (.iinc 4 1, 3) := by decide +kernel
theorem dX11_orderNow_105 : decode cX11_orderNow 105 = .ok (.goto (-82), 3) := by decide +kernel
theorem dX11_orderNow_108 : decode cX11_orderNow 108 = .ok (.iload_n 3, 1) := by decide +kernel
theorem dX11_orderNow_109 : decode cX11_orderNow 109 = .ok (.ireturn, 1) := by decide +kernel
def fX11_orderNow_L34 (p1 : Int32) (p2 : Int32) (p4 : Int32) (a : Int32 × Int32) (s : Sg) : Option (((Int32 × Int32) ⊕ (Int32)) × Sg) :=
  if (8 : Int32) ≤ a.2 then
  some (.inr a.1, s)
  else
  if a.1 = (-1 : Int32) then
  (fX11_has p2 a.2 s).bind fun w3 =>
  ((if w3.1 = 0 then
  (fX11_gain p2 a.2 w3.2).bind fun w8 =>
  (aI w8.2 64 256 (p2 ||| ((1 : Int32) <<< (a.2 &&& 31)))).bind fun v9 =>
  (aI w8.2 64 256 p2).bind fun v10 =>
  if (w8.1 + v9) = v10 then
  some (a.2, w8.2)
  else
  some ((-1 : Int32), w8.2)
  else
  some ((-1 : Int32), w3.2)) : Option (Int32 × Sg)).bind fun w4 =>
  bnd (a.2 + (1 : Int32)) fun x6 =>
  some (.inl (w4.1, x6), w4.2)
  else
  some (.inr a.1, s)
def fX11_orderNow_L23 (p1 : Int32) (a : Int32 × Int32 × Int32) (s : Sg) : Option (((Int32 × Int32 × Int32) ⊕ (Int32)) × Sg) :=
  if p1 < a.2.2 then
  some (.inr a.2.1, s)
  else
  (lpG (fX11_orderNow_L34 p1 a.1 a.2.2) FU ((-1 : Int32), (0 : Int32)) s).bind fun w2 =>
  bnd (a.1 ||| ((1 : Int32) <<< (w2.1 &&& 31))) fun x3 =>
  bnd (a.2.2 + (1 : Int32)) fun x4 =>
  some (.inl (x3, w2.1, x4), w2.2)
def fX11_orderNow (x0_ : Int32) (s : Sg) : Option (Int32 × Sg) :=
  (fX11_orders s).bind fun w1 =>
  if x0_ = (-1 : Int32) then
  (aI w1 64 256 (0 : Int32)).bind fun v33 =>
  some (v33, w1)
  else
  (lpG (fX11_orderNow_L23 x0_) FU ((0 : Int32), (-1 : Int32), (0 : Int32)) w1).bind fun w2 =>
  some (w2.1, w2.2)
theorem ct_X11_orderNow {g : Gl} {x0_ : Int32} {s : Sg} {w : Int32 × Sg}  (h : fX11_orderNow x0_ s = some w) : Ct SS g iX11_orderNow 3 69 [.ref (gad g 49), .int x0_] s (Dt (some (.int w.1)) w.2) := by
  refine Ct.ofV (by decide +kernel) 4 (lv0 := [some (.ref (gad g 49)), some (.int x0_), none, none, none, none]) rfl rfl (fun M hC => ?_)
  have hP : (Dt (some (.int w.1)) w.2) (some (.int w.1)) w.2 := ⟨rfl, rfl⟩
  generalize Dt (some (.int w.1)) w.2 = P at hP ⊢
  unfold fX11_orderNow at h
  refine v_aload_n (pc := 0) hC dX11_orderNow_0 rfl ?_
  obtain ⟨w1, hw1, h⟩ := obd_s h
  refine v_cV (pc := 1) [] [] gm_X11_orders hC s_49 rfl rfl (ct_X11_orders  hw1) ml_X11_228 rfl rfl rfl rfl rfl rfl dX11_orderNow_1 ?_
  refine v_iload_n (pc := 4) hC dX11_orderNow_4 rfl ?_
  refine v_iconst (pc := 5) (-1 : Int32) rfl hC dX11_orderNow_5 ?_
  refine v_ic_ne (pc := 6) (tgt := 16) hC dX11_orderNow_6 rfl (fun c32 => ?_) (fun c32 => ?_)
  · replace h := (if_neg c32).symm.trans h
    refine v_iconst (pc := 16) (0 : Int32) rfl hC dX11_orderNow_16 ?_
    refine v_istore_n (pc := 17) (lv' := [some (.ref (gad g 49)), some (.int x0_), some (.int (0 : Int32)), none, none, none]) hC dX11_orderNow_17 rfl rfl rfl rfl ?_
    refine v_iconst (pc := 18) (-1 : Int32) rfl hC dX11_orderNow_18 ?_
    refine v_istore_n (pc := 19) (lv' := [some (.ref (gad g 49)), some (.int x0_), some (.int (0 : Int32)), some (.int (-1 : Int32)), none, none]) hC dX11_orderNow_19 rfl rfl rfl rfl ?_
    refine v_iconst (pc := 20) (0 : Int32) rfl hC dX11_orderNow_20 ?_
    refine v_istore (pc := 21) (lv' := [some (.ref (gad g 49)), some (.int x0_), some (.int (0 : Int32)), some (.int (-1 : Int32)), some (.int (0 : Int32)), none]) hC dX11_orderNow_21 rfl rfl rfl rfl ?_
    obtain ⟨w2, hw2, h⟩ := obd_s h
    have kx31 : V SS g M iX11_orderNow (PQ SS g M P) 108 [none, none, none, some (.int w2.1), none, none] [] w2.2 := by
      refine v_iload_n (pc := 108) hC dX11_orderNow_108 rfl ?_
      obtain rfl := Option.some.inj h
      exact v_iret (pc := 109) hC rfl dX11_orderNow_109 hP
    refine V.ls (ls_some (ls_some (ls_some (ls_some (ls_some (ls_none ls_nil)))))) (v_loop (pc := 23) (fun a5 => [some (.ref (gad g 49)), some (.int x0_), some (.int a5.1), some (.int a5.2.1), some (.int a5.2.2), none]) (fun z t => V SS g M iX11_orderNow (PQ SS g M P) 108 [none, none, none, some (.int z), none, none] [] t) (fun a5 s3 u4 hu4 k6 k7 => ?_) _ _ _ _ hw2 kx31)
    unfold fX11_orderNow_L23 at hu4
    refine v_iload (pc := 23) hC dX11_orderNow_23 rfl ?_
    refine v_iload_n (pc := 25) hC dX11_orderNow_25 rfl ?_
    refine v_ic_gt (pc := 26) (tgt := 108) hC dX11_orderNow_26 rfl (fun c9 => ?_) (fun c9 => ?_)
    · replace hu4 := (if_pos c9).symm.trans hu4
      obtain rfl := Option.some.inj hu4
      exact V.ls (ls_none (ls_none (ls_none (ls_some (ls_none (ls_none ls_nil)))))) (k7 _ rfl)
    · replace hu4 := (if_neg c9).symm.trans hu4
      refine v_iconst (pc := 29) (-1 : Int32) rfl hC dX11_orderNow_29 ?_
      refine v_istore_n (pc := 30) (lv' := [some (.ref (gad g 49)), some (.int x0_), some (.int a5.1), some (.int (-1 : Int32)), some (.int a5.2.2), none]) hC dX11_orderNow_30 rfl rfl rfl rfl ?_
      refine v_iconst (pc := 31) (0 : Int32) rfl hC dX11_orderNow_31 ?_
      refine v_istore (pc := 32) (lv' := [some (.ref (gad g 49)), some (.int x0_), some (.int a5.1), some (.int (-1 : Int32)), some (.int a5.2.2), some (.int (0 : Int32))]) hC dX11_orderNow_32 rfl rfl rfl rfl ?_
      obtain ⟨w10, hw10, hu4⟩ := obd_s hu4
      have kx30 : V SS g M iX11_orderNow (PQ SS g M P) 96 [some (.ref (gad g 49)), some (.int x0_), some (.int a5.1), some (.int w10.1), some (.int a5.2.2), none] [] w10.2 := by
        refine v_iload_n (pc := 96) hC dX11_orderNow_96 rfl ?_
        refine v_iconst (pc := 97) (1 : Int32) rfl hC dX11_orderNow_97 ?_
        refine v_iload_n (pc := 98) hC dX11_orderNow_98 rfl ?_
        refine v_ishl (pc := 99) hC dX11_orderNow_99 ?_
        refine v_ior (pc := 100) hC dX11_orderNow_100 ?_
        obtain ⟨x11, hx11, hu4⟩ := bnd_s hu4
        refine v_istore_n (pc := 101) (lv' := [some (.ref (gad g 49)), some (.int x0_), some (.int x11), some (.int w10.1), some (.int a5.2.2), none]) hC dX11_orderNow_101 hx11 rfl rfl rfl ?_
        obtain ⟨x12, hx12, hu4⟩ := bnd_s hu4
        refine v_iinc (pc := 102) (lv' := [some (.ref (gad g 49)), some (.int x0_), some (.int x11), some (.int w10.1), some (.int x12), none]) (1 : Int32) rfl hx12 hC dX11_orderNow_102 rfl rfl rfl rfl ?_
        refine v_goto (pc := 105) (tgt := 23) hC dX11_orderNow_105 rfl ?_
        obtain rfl := Option.some.inj hu4
        exact V.ls (ls_some (ls_some (ls_some (ls_some (ls_some (ls_none ls_nil)))))) (k6 _ rfl)
      refine V.ls (ls_some (ls_some (ls_some (ls_some (ls_some (ls_some ls_nil)))))) (v_loop (pc := 34) (fun a15 => [some (.ref (gad g 49)), some (.int x0_), some (.int a5.1), some (.int a15.1), some (.int a5.2.2), some (.int a15.2)]) (fun z t => V SS g M iX11_orderNow (PQ SS g M P) 96 [some (.ref (gad g 49)), some (.int x0_), some (.int a5.1), some (.int z), some (.int a5.2.2), none] [] t) (fun a15 s13 u14 hu14 k16 k17 => ?_) _ _ _ _ hw10 kx30)
      unfold fX11_orderNow_L34 at hu14
      refine v_iload (pc := 34) hC dX11_orderNow_34 rfl ?_
      refine v_bipush (pc := 36) (8 : Int32) rfl hC dX11_orderNow_36 ?_
      refine v_ic_ge (pc := 38) (tgt := 96) hC dX11_orderNow_38 rfl (fun c19 => ?_) (fun c19 => ?_)
      · replace hu14 := (if_pos c19).symm.trans hu14
        obtain rfl := Option.some.inj hu14
        exact V.ls (ls_some (ls_some (ls_some (ls_some (ls_some (ls_none ls_nil)))))) (k17 _ rfl)
      · replace hu14 := (if_neg c19).symm.trans hu14
        refine v_iload_n (pc := 41) hC dX11_orderNow_41 rfl ?_
        refine v_iconst (pc := 42) (-1 : Int32) rfl hC dX11_orderNow_42 ?_
        refine v_ic_ne (pc := 43) (tgt := 96) hC dX11_orderNow_43 rfl (fun c20 => ?_) (fun c20 => ?_)
        · replace hu14 := (if_neg c20).symm.trans hu14
          obtain rfl := Option.some.inj hu14
          exact V.ls (ls_some (ls_some (ls_some (ls_some (ls_some (ls_none ls_nil)))))) (k17 _ rfl)
        · replace hu14 := (if_pos c20).symm.trans hu14
          refine v_iload_n (pc := 46) hC dX11_orderNow_46 rfl ?_
          refine v_iload (pc := 47) hC dX11_orderNow_47 rfl ?_
          obtain ⟨w21, hw21, hu14⟩ := obd_s hu14
          refine v_cS (pc := 49) [] [.int w21.1] gm_X11_has hC (ct_X11_has  hw21) ml_X11_221 rfl rfl rfl rfl rfl rfl dX11_orderNow_49 ?_
          obtain ⟨w22, hw22, hu14⟩ := obd_s hu14
          have kj23 : V SS g M iX11_orderNow (PQ SS g M P) 89 [some (.ref (gad g 49)), some (.int x0_), some (.int a5.1), none, some (.int a5.2.2), some (.int a15.2)] [.int w22.1] w22.2 := by
            refine v_istore_n (pc := 89) (lv' := [some (.ref (gad g 49)), some (.int x0_), some (.int a5.1), some (.int w22.1), some (.int a5.2.2), some (.int a15.2)]) hC dX11_orderNow_89 rfl rfl rfl rfl ?_
            obtain ⟨x24, hx24, hu14⟩ := bnd_s hu14
            refine v_iinc (pc := 90) (lv' := [some (.ref (gad g 49)), some (.int x0_), some (.int a5.1), some (.int w22.1), some (.int a5.2.2), some (.int x24)]) (1 : Int32) rfl hx24 hC dX11_orderNow_90 rfl rfl rfl rfl ?_
            refine v_goto (pc := 93) (tgt := 34) hC dX11_orderNow_93 rfl ?_
            obtain rfl := Option.some.inj hu14
            exact V.ls (ls_some (ls_some (ls_some (ls_some (ls_some (ls_some ls_nil)))))) (k16 _ rfl)
          refine v_if_ne (pc := 52) (tgt := 88) hC dX11_orderNow_52 rfl (fun c25 => ?_) (fun c25 => ?_)
          · replace hw22 := (if_neg c25).symm.trans hw22
            refine v_iconst (pc := 88) (-1 : Int32) rfl hC dX11_orderNow_88 ?_
            obtain rfl := Option.some.inj hw22
            exact V.ls (ls_some (ls_some (ls_some (ls_none (ls_some (ls_some ls_nil)))))) kj23
          · replace hw22 := (if_pos c25).symm.trans hw22
            refine v_aload_n (pc := 55) hC dX11_orderNow_55 rfl ?_
            refine v_iload_n (pc := 56) hC dX11_orderNow_56 rfl ?_
            refine v_iload (pc := 57) hC dX11_orderNow_57 rfl ?_
            obtain ⟨w26, hw26, hw22⟩ := obd_s hw22
            refine v_cV (pc := 59) [] [.int w26.1] gm_X11_gain hC s_49 rfl rfl (ct_X11_gain  hw26) ml_X11_225 rfl rfl rfl rfl rfl rfl dX11_orderNow_59 ?_
            refine v_aload_n (pc := 62) hC dX11_orderNow_62 rfl ?_
            refine v_gt (pc := 63) 18 (.ref (gad g 64)) hC s_49 rfl rfl rfl rfl fl_X11_53 dX11_orderNow_63 ?_
            refine v_iload_n (pc := 66) hC dX11_orderNow_66 rfl ?_
            refine v_iconst (pc := 67) (1 : Int32) rfl hC dX11_orderNow_67 ?_
            refine v_iload (pc := 68) hC dX11_orderNow_68 rfl ?_
            refine v_ishl (pc := 70) hC dX11_orderNow_70 ?_
            refine v_ior (pc := 71) hC dX11_orderNow_71 ?_
            obtain ⟨v27, hv27, hw22⟩ := obd_s hw22
            refine v_aI (pc := 72) hC s_64 hv27 dX11_orderNow_72 ?_
            refine v_iadd (pc := 73) hC dX11_orderNow_73 ?_
            refine v_aload_n (pc := 74) hC dX11_orderNow_74 rfl ?_
            refine v_gt (pc := 75) 18 (.ref (gad g 64)) hC s_49 rfl rfl rfl rfl fl_X11_53 dX11_orderNow_75 ?_
            refine v_iload_n (pc := 78) hC dX11_orderNow_78 rfl ?_
            obtain ⟨v28, hv28, hw22⟩ := obd_s hw22
            refine v_aI (pc := 79) hC s_64 hv28 dX11_orderNow_79 ?_
            refine v_ic_ne (pc := 80) (tgt := 88) hC dX11_orderNow_80 rfl (fun c29 => ?_) (fun c29 => ?_)
            · replace hw22 := (if_neg c29).symm.trans hw22
              refine v_iconst (pc := 88) (-1 : Int32) rfl hC dX11_orderNow_88 ?_
              obtain rfl := Option.some.inj hw22
              exact V.ls (ls_some (ls_some (ls_some (ls_none (ls_some (ls_some ls_nil)))))) kj23
            · replace hw22 := (if_pos c29).symm.trans hw22
              refine v_iload (pc := 83) hC dX11_orderNow_83 rfl ?_
              refine v_goto (pc := 85) (tgt := 89) hC dX11_orderNow_85 rfl ?_
              obtain rfl := Option.some.inj hw22
              exact V.ls (ls_some (ls_some (ls_some (ls_none (ls_some (ls_some ls_nil)))))) kj23
  · replace h := (if_pos c32).symm.trans h
    refine v_aload_n (pc := 9) hC dX11_orderNow_9 rfl ?_
    refine v_gt (pc := 10) 18 (.ref (gad g 64)) hC s_49 rfl rfl rfl rfl fl_X11_53 dX11_orderNow_10 ?_
    refine v_iconst (pc := 13) (0 : Int32) rfl hC dX11_orderNow_13 ?_
    obtain ⟨v33, hv33, h⟩ := obd_s h
    refine v_aI (pc := 14) hC s_64 hv33 dX11_orderNow_14 ?_
    obtain rfl := Option.some.inj h
    exact v_iret (pc := 15) hC rfl dX11_orderNow_15 hP
theorem dX11_order_0 : decode cX11_order 0 = .ok (.iload_n 1, 1) := by decide +kernel
theorem dX11_order_1 : decode cX11_order 1 = .ok (.iconst (-1), 1) := by decide +kernel
theorem dX11_order_2 : decode cX11_order 2 = .ok (.bipush 7, 2) := by decide +kernel
theorem dX11_order_4 : decode cX11_order 4 = .ok (.invokestatic 94, 3) := by decide +kernel
theorem dX11_order_7 : decode cX11_order 7 = .ok (.ifCond .eq 11, 3) := by decide +kernel
theorem dX11_order_10 : decode cX11_order 10 = .ok (.aload_n 0, 1) := by decide +kernel
theorem dX11_order_11 : decode cX11_order 11 = .ok (.iload_n 1, 1) := by decide +kernel
theorem dX11_order_12 : decode cX11_order 12 = .ok (.invokevirtual 231, 3) := by decide +kernel
theorem dX11_order_15 : decode cX11_order 15 = .ok (.goto 5, 3) := by decide +kernel
theorem dX11_order_18 : decode cX11_order 18 = .ok (.bipush (-2), 2) := by decide +kernel
theorem dX11_order_20 : decode cX11_order 20 = .ok (.ireturn, 1) := by decide +kernel
def fX11_order (x0_ : Int32) (s : Sg) : Option (Int32 × Sg) :=
  (fX11_in x0_ (-1 : Int32) (7 : Int32) s).bind fun w1 =>
  if w1.1 = 0 then
  some ((-2 : Int32), w1.2)
  else
  (fX11_orderNow x0_ w1.2).bind fun w3 =>
  some (w3.1, w3.2)
theorem ct_X11_order {g : Gl} {x0_ : Int32} {s : Sg} {w : Int32 × Sg}  (h : fX11_order x0_ s = some w) : Ct SS g iX11_order 4 94 [.ref (gad g 49), .int x0_] s (Dt (some (.int w.1)) w.2) := by
  refine Ct.ofV (by decide +kernel) 0 (lv0 := [some (.ref (gad g 49)), some (.int x0_)]) rfl rfl (fun M hC => ?_)
  have hP : (Dt (some (.int w.1)) w.2) (some (.int w.1)) w.2 := ⟨rfl, rfl⟩
  generalize Dt (some (.int w.1)) w.2 = P at hP ⊢
  unfold fX11_order at h
  refine v_iload_n (pc := 0) hC dX11_order_0 rfl ?_
  refine v_iconst (pc := 1) (-1 : Int32) rfl hC dX11_order_1 ?_
  refine v_bipush (pc := 2) (7 : Int32) rfl hC dX11_order_2 ?_
  obtain ⟨w1, hw1, h⟩ := obd_s h
  refine v_cS (pc := 4) [] [.int w1.1] gm_X11_in hC (ct_X11_in  hw1) ml_X11_94 rfl rfl rfl rfl rfl rfl dX11_order_4 ?_
  refine v_if_eq (pc := 7) (tgt := 18) hC dX11_order_7 rfl (fun c2 => ?_) (fun c2 => ?_)
  · replace h := (if_pos c2).symm.trans h
    refine v_bipush (pc := 18) (-2 : Int32) rfl hC dX11_order_18 ?_
    obtain rfl := Option.some.inj h
    exact v_iret (pc := 20) hC rfl dX11_order_20 hP
  · replace h := (if_neg c2).symm.trans h
    refine v_aload_n (pc := 10) hC dX11_order_10 rfl ?_
    refine v_iload_n (pc := 11) hC dX11_order_11 rfl ?_
    obtain ⟨w3, hw3, h⟩ := obd_s h
    refine v_cV (pc := 12) [] [.int w3.1] gm_X11_orderNow hC s_49 rfl rfl (ct_X11_orderNow  hw3) ml_X11_231 rfl rfl rfl rfl rfl rfl dX11_order_12 ?_
    refine v_goto (pc := 15) (tgt := 20) hC dX11_order_15 rfl ?_
    obtain rfl := Option.some.inj h
    exact v_iret (pc := 20) hC rfl dX11_order_20 hP
theorem dX11_laysRight_0 : decode cX11_laysRight 0 = .ok (.aload_n 0, 1) := by decide +kernel
theorem dX11_laysRight_1 : decode cX11_laysRight 1 = .ok (.getfield 22, 3) := by decide +kernel
theorem dX11_laysRight_4 : decode cX11_laysRight 4 = .ok (.iload_n 1, 1) := by decide +kernel
theorem dX11_laysRight_5 : decode cX11_laysRight 5 = .ok (.iaload, 1) := by decide +kernel
theorem dX11_laysRight_6 : decode cX11_laysRight 6 = .ok (.istore_n 2, 1) := by decide +kernel
theorem dX11_laysRight_7 : decode cX11_laysRight 7 = .ok (.aload_n 0, 1) := by decide +kernel
theorem dX11_laysRight_8 : decode cX11_laysRight 8 = .ok (.getfield 35, 3) := by decide +kernel
theorem dX11_laysRight_11 : decode cX11_laysRight 11 = .ok (.iload_n 2, 1) := by decide +kernel
theorem dX11_laysRight_12 : decode cX11_laysRight 12 = .ok (.laload, 1) := by decide +kernel
theorem dX11_laysRight_13 : decode cX11_laysRight 13 = .ok (.lconst 0, 1) := by decide +kernel
theorem dX11_laysRight_14 : decode cX11_laysRight 14 = .ok (.lcmp, 1) := by decide +kernel
theorem dX11_laysRight_15 : decode cX11_laysRight 15 = .ok (.ifCond .ne 18, 3) := by decide +kernel
theorem dX11_laysRight_18 : decode cX11_laysRight 18 = .ok (.aload_n 0, 1) := by decide +kernel
theorem dX11_laysRight_19 : decode cX11_laysRight 19 = .ok (.aload_n 0, 1) := by decide +kernel
theorem dX11_laysRight_20 : decode cX11_laysRight 20 = .ok (.getfield 25, 3) := by decide +kernel
theorem dX11_laysRight_23 : decode cX11_laysRight 23 = .ok (.iconst 4, 1) := by decide +kernel
theorem dX11_laysRight_24 : decode cX11_laysRight 24 = .ok (.iload_n 1, 1) := by decide +kernel
theorem dX11_laysRight_25 : decode cX11_laysRight 25 = .ok (.imul, 1) := by decide +kernel
theorem dX11_laysRight_26 : decode cX11_laysRight 26 = .ok (.iaload, 1) := by decide +kernel
theorem dX11_laysRight_27 : decode cX11_laysRight 27 = .ok (.i2l, 1) := by decide +kernel
theorem dX11_laysRight_28 : decode cX11_laysRight 28 = .ok (.lconst 1, 1) := by decide +kernel
theorem dX11_laysRight_29 : decode cX11_laysRight 29 = .ok (.invokevirtual 174, 3) := by decide +kernel
theorem dX11_laysRight_32 : decode cX11_laysRight 32 = .ok (.return_, 1) := by decide +kernel
theorem dX11_laysRight_33 : decode cX11_laysRight 33 = .ok (.aload_n 0, 1) := by decide +kernel
theorem dX11_laysRight_34 : decode cX11_laysRight 34 = .ok (.lconst 0, 1) := by decide +kernel
theorem dX11_laysRight_35 : decode cX11_laysRight 35 = .ok (.lconst 1, 1) := by decide +kernel
theorem dX11_laysRight_36 : decode cX11_laysRight 36 = .ok (.invokevirtual 174, 3) := by decide +kernel
theorem dX11_laysRight_39 : decode cX11_laysRight 39 = .ok (.iconst 0, 1) := by decide +kernel
theorem dX11_laysRight_40 : decode cX11_laysRight 40 = .ok (.istore_n 3, 1) := by decide +kernel
theorem dX11_laysRight_41 : decode cX11_laysRight 41 = .ok (.iload_n 3, 1) := by decide +kernel
theorem dX11_laysRight_42 : decode cX11_laysRight 42 = .ok (.bipush 8, 2) := by decide +kernel
theorem dX11_laysRight_44 : decode cX11_laysRight 44 = .ok (.if_icmp .ge 40, 3) := by decide +kernel
theorem dX11_laysRight_47 : decode cX11_laysRight 47 = .ok (.aload_n 0, 1) := by decide +kernel
theorem dX11_laysRight_48 : decode cX11_laysRight 48 = .ok (.getfield 35, 3) := by decide +kernel
theorem dX11_laysRight_51 : decode cX11_laysRight 51 = .ok (.iload_n 3, 1) := by decide +kernel
theorem dX11_laysRight_52 : decode cX11_laysRight 52 = .ok (.laload, 1) := by decide +kernel
theorem dX11_laysRight_53 : decode cX11_laysRight 53 = .ok (.lconst 0, 1) := by decide +kernel
theorem dX11_laysRight_54 : decode cX11_laysRight 54 = .ok (.lcmp, 1) := by decide +kernel
theorem dX11_laysRight_55 : decode cX11_laysRight 55 = .ok (.ifCond .le 23, 3) := by decide +kernel
theorem dX11_laysRight_58 : decode cX11_laysRight 58 = .ok (.aload_n 0, 1) := by decide +kernel
theorem dX11_laysRight_59 : decode cX11_laysRight 59 = .ok (.aload_n 0, 1) := by decide +kernel
theorem dX11_laysRight_60 : decode cX11_laysRight 60 = .ok (.getfield 38, 3) := by decide +kernel
theorem dX11_laysRight_63 : decode cX11_laysRight 63 = .ok (.iload_n 3, 1) := by decide +kernel
theorem dX11_laysRight_64 : decode cX11_laysRight 64 = .ok (.laload, 1) := by decide +kernel
theorem dX11_laysRight_65 : decode cX11_laysRight 65 = .ok (.ldc2_w 154, 3) := by decide +kernel
theorem dX11_laysRight_68 : decode cX11_laysRight 68 = .ok (.aload_n 0, 1) := by decide +kernel
theorem dX11_laysRight_69 : decode cX11_laysRight 69 = .ok (.getfield 41, 3) := by decide +kernel
theorem dX11_laysRight_72 : decode cX11_laysRight 72 = .ok (.iload_n 3, 1) := by decide +kernel
theorem dX11_laysRight_73 : decode cX11_laysRight 73 = .ok (.laload, 1) := by decide +kernel
theorem dX11_laysRight_74 : decode cX11_laysRight 74 = .ok (.lmul, 1) := by decide +kernel
theorem dX11_laysRight_75 : decode cX11_laysRight 75 = .ok (.invokevirtual 178, 3) := by decide +kernel
theorem dX11_laysRight_78 : decode cX11_laysRight 78 = .ok (.iinc 3 1, 3) := by decide +kernel
theorem dX11_laysRight_81 : decode cX11_laysRight 81 = .ok (.goto (-40), 3) := by decide +kernel
theorem dX11_laysRight_84 : decode cX11_laysRight 84 = .ok (.aload_n 0, 1) := by decide +kernel
theorem dX11_laysRight_85 : decode cX11_laysRight 85 = .ok (.aload_n 0, 1) := by decide +kernel
theorem dX11_laysRight_86 : decode cX11_laysRight 86 = .ok (.getfield 167, 3) := by decide +kernel
theorem dX11_laysRight_89 : decode cX11_laysRight 89 = .ok (.ldc2_w 154, 3) := by decide +kernel
theorem dX11_laysRight_92 : decode cX11_laysRight 92 = .ok (.aload_n 0, 1) := by decide +kernel
theorem dX11_laysRight_93 : decode cX11_laysRight 93 = .ok (.getfield 171, 3) := by decide +kernel
theorem dX11_laysRight_96 : decode cX11_laysRight 96 = .ok (.lmul, 1) := by decide +kernel
theorem dX11_laysRight_97 : decode cX11_laysRight 97 = .ok (.aload_n 0, 1) := by decide +kernel
theorem dX11_laysRight_98 : decode cX11_laysRight 98 = .ok (.invokevirtual 181, 3) := by decide +kernel
theorem dX11_laysRight_101 : decode cX11_laysRight 101 = .ok (.i2l, 1) := by decide +kernel
theorem dX11_laysRight_102 : decode cX11_laysRight 102 = .ok (.lmul, 1) := by decide +kernel
theorem dX11_laysRight_103 : decode cX11_laysRight 103 = .ok (.invokevirtual 174, 3) := by decide +kernel
theorem dX11_laysRight_106 : decode cX11_laysRight 106 = .ok (.aload_n 0, 1) := by decide +kernel
theorem dX11_laysRight_107 : decode cX11_laysRight 107 = .ok (.aload_n 0, 1) := by decide +kernel
theorem dX11_laysRight_108 : decode cX11_laysRight 108 = .ok (.getfield 38, 3) := by decide +kernel
theorem dX11_laysRight_111 : decode cX11_laysRight 111 = .ok (.iload_n 2, 1) := by decide +kernel
theorem dX11_laysRight_112 : decode cX11_laysRight 112 = .ok (.laload, 1) := by decide +kernel
theorem dX11_laysRight_113 : decode cX11_laysRight 113 = .ok (.lneg, 1) := by decide +kernel
theorem dX11_laysRight_114 : decode cX11_laysRight 114 = .ok (.ldc2_w 234, 3) := by decide +kernel
theorem dX11_laysRight_117 : decode cX11_laysRight 117 = .ok (.aload_n 0, 1) := by decide +kernel
theorem dX11_laysRight_118 : decode cX11_laysRight 118 = .ok (.getfield 41, 3) := by decide +kernel
theorem dX11_laysRight_121 : decode cX11_laysRight 121 = .ok (.iload_n 2, 1) := by decide +kernel
theorem dX11_laysRight_122 : decode cX11_laysRight 122 = .ok (.laload, 1) := by decide +kernel
theorem dX11_laysRight_123 : decode cX11_laysRight 123 = .ok (.lmul, 1) := by decide +kernel
theorem dX11_laysRight_124 : decode cX11_laysRight 124 = .ok (.invokevirtual 178, 3) := by decide +kernel
theorem dX11_laysRight_127 : decode cX11_laysRight 127 = .ok (.aload_n 0, 1) := by decide +kernel
theorem dX11_laysRight_128 : decode cX11_laysRight 128 = .ok (.aload_n 0, 1) := by decide +kernel
theorem dX11_laysRight_129 : decode cX11_laysRight 129 = .ok (.getfield 25, 3) := by decide +kernel
theorem dX11_laysRight_132 : decode cX11_laysRight 132 = .ok (.iconst 4, 1) := by decide +kernel
theorem dX11_laysRight_133 : decode cX11_laysRight 133 = .ok (.iload_n 1, 1) := by decide +kernel
theorem dX11_laysRight_134 : decode cX11_laysRight 134 = .ok (.imul, 1) := by decide +kernel
theorem dX11_laysRight_135 : decode cX11_laysRight 135 = .ok (.iaload, 1) := by decide +kernel
theorem dX11_laysRight_136 : decode cX11_laysRight 136 = .ok (.i2l, 1) := by decide +kernel
theorem dX11_laysRight_137 : decode cX11_laysRight 137 = .ok (.lconst 1, 1) := by decide +kernel
theorem dX11_laysRight_138 : decode cX11_laysRight 138 = .ok (.invokevirtual 178, 3) := by decide +kernel
theorem dX11_laysRight_141 : decode cX11_laysRight 141 = .ok (.return_, 1) := by decide +kernel
def fX11_laysRight_L41 (p1 : Int32) (p2 : Int32) (a : Int32) (s : Sg) : Option (((Int32) ⊕ (Unit)) × Sg) :=
  if (8 : Int32) ≤ a then
  some (.inr (), s)
  else
  (aL s 58 8 a).bind fun v2 =>
  ((if (lg_cmp v2 (0 : Int64)) ≤ 0 then
  some s
  else
  (aL s 59 8 a).bind fun v7 =>
  (aL s 60 8 a).bind fun v8 =>
  (fX11_adds v7 ((2 : Int64) * v8) s).bind fun w9 =>
  some w9) : Option (Sg)).bind fun w3 =>
  bnd (a + (1 : Int32)) fun x5 =>
  some (.inl x5, w3)
def fX11_laysRight (x0_ : Int32) (s : Sg) : Option (Sg) :=
  (aI s 54 64 x0_).bind fun v1 =>
  (aL s 58 8 v1).bind fun v2 =>
  if (lg_cmp v2 (0 : Int64)) = 0 then
  (aI s 55 256 ((4 : Int32) * x0_)).bind fun v29 =>
  (fX11_lays ((v29).toInt64) (1 : Int64) s).bind fun w30 =>
  some w30
  else
  (fX11_lays (0 : Int64) (1 : Int64) s).bind fun w3 =>
  (lpG (fX11_laysRight_L41 x0_ v1) FU (0 : Int32) w3).bind fun w4 =>
  (fX11_lanesMany w4.2).bind fun w5 =>
  (fX11_lays (gL w4.2 49 13) (((2 : Int64) * (gL w4.2 49 14)) * ((w5.1).toInt64)) w5.2).bind fun w6 =>
  (aL w6 59 8 v1).bind fun v7 =>
  (aL w6 60 8 v1).bind fun v8 =>
  (fX11_adds (-v7) ((4 : Int64) * v8) w6).bind fun w9 =>
  (aI w9 55 256 ((4 : Int32) * x0_)).bind fun v10 =>
  (fX11_adds ((v10).toInt64) (1 : Int64) w9).bind fun w11 =>
  some w11
theorem ct_X11_laysRight {g : Gl} {x0_ : Int32} {s : Sg} {w : Sg}  (h : fX11_laysRight x0_ s = some w) : Ct SS g iX11_laysRight 3 79 [.ref (gad g 49), .int x0_] s (Dt none w) := by
  refine Ct.ofV (by decide +kernel) 2 (lv0 := [some (.ref (gad g 49)), some (.int x0_), none, none]) rfl rfl (fun M hC => ?_)
  have hP : (Dt none w) none w := ⟨rfl, rfl⟩
  generalize Dt none w = P at hP ⊢
  unfold fX11_laysRight at h
  refine v_aload_n (pc := 0) hC dX11_laysRight_0 rfl ?_
  refine v_gt (pc := 1) 6 (.ref (gad g 54)) hC s_49 rfl rfl rfl rfl fl_X11_22 dX11_laysRight_1 ?_
  refine v_iload_n (pc := 4) hC dX11_laysRight_4 rfl ?_
  obtain ⟨v1, hv1, h⟩ := obd_s h
  refine v_aI (pc := 5) hC s_54 hv1 dX11_laysRight_5 ?_
  refine v_istore_n (pc := 6) (lv' := [some (.ref (gad g 49)), some (.int x0_), some (.int v1), none]) hC dX11_laysRight_6 rfl rfl rfl rfl ?_
  refine v_aload_n (pc := 7) hC dX11_laysRight_7 rfl ?_
  refine v_gt (pc := 8) 10 (.ref (gad g 58)) hC s_49 rfl rfl rfl rfl fl_X11_35 dX11_laysRight_8 ?_
  refine v_iload_n (pc := 11) hC dX11_laysRight_11 rfl ?_
  obtain ⟨v2, hv2, h⟩ := obd_s h
  refine v_aL (pc := 12) hC s_58 hv2 dX11_laysRight_12 ?_
  refine v_lconst (pc := 13) (0 : Int64) rfl hC dX11_laysRight_13 ?_
  refine v_lcmp (pc := 14) hC dX11_laysRight_14 ?_
  refine v_if_ne (pc := 15) (tgt := 33) hC dX11_laysRight_15 rfl (fun c28 => ?_) (fun c28 => ?_)
  · replace h := (if_neg c28).symm.trans h
    refine v_aload_n (pc := 33) hC dX11_laysRight_33 rfl ?_
    refine v_lconst (pc := 34) (0 : Int64) rfl hC dX11_laysRight_34 ?_
    refine v_lconst (pc := 35) (1 : Int64) rfl hC dX11_laysRight_35 ?_
    obtain ⟨w3, hw3, h⟩ := obd_s h
    refine v_cV (pc := 36) [] [] gm_X11_lays hC s_49 rfl rfl (ct_X11_lays  hw3) ml_X11_174 rfl rfl rfl rfl rfl rfl dX11_laysRight_36 ?_
    refine v_iconst (pc := 39) (0 : Int32) rfl hC dX11_laysRight_39 ?_
    refine v_istore_n (pc := 40) (lv' := [some (.ref (gad g 49)), some (.int x0_), some (.int v1), some (.int (0 : Int32))]) hC dX11_laysRight_40 rfl rfl rfl rfl ?_
    obtain ⟨w4, hw4, h⟩ := obd_s h
    have kx27 : V SS g M iX11_laysRight (PQ SS g M P) 84 [some (.ref (gad g 49)), some (.int x0_), some (.int v1), none] [] w4.2 := by
      refine v_aload_n (pc := 84) hC dX11_laysRight_84 rfl ?_
      refine v_aload_n (pc := 85) hC dX11_laysRight_85 rfl ?_
      refine v_gt (pc := 86) 13 (.long (gL w4.2 49 13)) hC s_49 rfl rfl rfl rfl fl_X11_167 dX11_laysRight_86 ?_
      refine v_ldc2 (pc := 89) (2 : Int64) kc_X11_154 hC dX11_laysRight_89 ?_
      refine v_aload_n (pc := 92) hC dX11_laysRight_92 rfl ?_
      refine v_gt (pc := 93) 14 (.long (gL w4.2 49 14)) hC s_49 rfl rfl rfl rfl fl_X11_171 dX11_laysRight_93 ?_
      refine v_lmul (pc := 96) hC dX11_laysRight_96 ?_
      refine v_aload_n (pc := 97) hC dX11_laysRight_97 rfl ?_
      obtain ⟨w5, hw5, h⟩ := obd_s h
      refine v_cV (pc := 98) [.long ((2 : Int64) * (gL w4.2 49 14)), .long (gL w4.2 49 13), .ref (gad g 49)] [.int w5.1, .long ((2 : Int64) * (gL w4.2 49 14)), .long (gL w4.2 49 13), .ref (gad g 49)] gm_X11_lanesMany hC s_49 rfl rfl (ct_X11_lanesMany  hw5) ml_X11_181 rfl rfl rfl rfl rfl rfl dX11_laysRight_98 ?_
      refine v_i2l (pc := 101) hC dX11_laysRight_101 ?_
      refine v_lmul (pc := 102) hC dX11_laysRight_102 ?_
      obtain ⟨w6, hw6, h⟩ := obd_s h
      refine v_cV (pc := 103) [] [] gm_X11_lays hC s_49 rfl rfl (ct_X11_lays  hw6) ml_X11_174 rfl rfl rfl rfl rfl rfl dX11_laysRight_103 ?_
      refine v_aload_n (pc := 106) hC dX11_laysRight_106 rfl ?_
      refine v_aload_n (pc := 107) hC dX11_laysRight_107 rfl ?_
      refine v_gt (pc := 108) 11 (.ref (gad g 59)) hC s_49 rfl rfl rfl rfl fl_X11_38 dX11_laysRight_108 ?_
      refine v_iload_n (pc := 111) hC dX11_laysRight_111 rfl ?_
      obtain ⟨v7, hv7, h⟩ := obd_s h
      refine v_aL (pc := 112) hC s_59 hv7 dX11_laysRight_112 ?_
      refine v_lneg (pc := 113) hC dX11_laysRight_113 ?_
      refine v_ldc2 (pc := 114) (4 : Int64) kc_X11_234 hC dX11_laysRight_114 ?_
      refine v_aload_n (pc := 117) hC dX11_laysRight_117 rfl ?_
      refine v_gt (pc := 118) 12 (.ref (gad g 60)) hC s_49 rfl rfl rfl rfl fl_X11_41 dX11_laysRight_118 ?_
      refine v_iload_n (pc := 121) hC dX11_laysRight_121 rfl ?_
      obtain ⟨v8, hv8, h⟩ := obd_s h
      refine v_aL (pc := 122) hC s_60 hv8 dX11_laysRight_122 ?_
      refine v_lmul (pc := 123) hC dX11_laysRight_123 ?_
      obtain ⟨w9, hw9, h⟩ := obd_s h
      refine v_cV (pc := 124) [] [] gm_X11_adds hC s_49 rfl rfl (ct_X11_adds  hw9) ml_X11_178 rfl rfl rfl rfl rfl rfl dX11_laysRight_124 ?_
      refine v_aload_n (pc := 127) hC dX11_laysRight_127 rfl ?_
      refine v_aload_n (pc := 128) hC dX11_laysRight_128 rfl ?_
      refine v_gt (pc := 129) 7 (.ref (gad g 55)) hC s_49 rfl rfl rfl rfl fl_X11_25 dX11_laysRight_129 ?_
      refine v_iconst (pc := 132) (4 : Int32) rfl hC dX11_laysRight_132 ?_
      refine v_iload_n (pc := 133) hC dX11_laysRight_133 rfl ?_
      refine v_imul (pc := 134) hC dX11_laysRight_134 ?_
      obtain ⟨v10, hv10, h⟩ := obd_s h
      refine v_aI (pc := 135) hC s_55 hv10 dX11_laysRight_135 ?_
      refine v_i2l (pc := 136) hC dX11_laysRight_136 ?_
      refine v_lconst (pc := 137) (1 : Int64) rfl hC dX11_laysRight_137 ?_
      obtain ⟨w11, hw11, h⟩ := obd_s h
      refine v_cV (pc := 138) [] [] gm_X11_adds hC s_49 rfl rfl (ct_X11_adds  hw11) ml_X11_178 rfl rfl rfl rfl rfl rfl dX11_laysRight_138 ?_
      obtain rfl := Option.some.inj h
      exact v_vret (pc := 141) hC rfl dX11_laysRight_141 hP
    refine V.ls (ls_some (ls_some (ls_some (ls_some ls_nil)))) (v_loop (pc := 41) (fun a14 => [some (.ref (gad g 49)), some (.int x0_), some (.int v1), some (.int a14)]) (fun z t => V SS g M iX11_laysRight (PQ SS g M P) 84 [some (.ref (gad g 49)), some (.int x0_), some (.int v1), none] [] t) (fun a14 s12 u13 hu13 k15 k16 => ?_) _ _ _ _ hw4 kx27)
    unfold fX11_laysRight_L41 at hu13
    refine v_iload_n (pc := 41) hC dX11_laysRight_41 rfl ?_
    refine v_bipush (pc := 42) (8 : Int32) rfl hC dX11_laysRight_42 ?_
    refine v_ic_ge (pc := 44) (tgt := 84) hC dX11_laysRight_44 rfl (fun c18 => ?_) (fun c18 => ?_)
    · replace hu13 := (if_pos c18).symm.trans hu13
      obtain rfl := Option.some.inj hu13
      exact V.ls (ls_some (ls_some (ls_some (ls_none ls_nil)))) (k16 _ rfl)
    · replace hu13 := (if_neg c18).symm.trans hu13
      refine v_aload_n (pc := 47) hC dX11_laysRight_47 rfl ?_
      refine v_gt (pc := 48) 10 (.ref (gad g 58)) hC s_49 rfl rfl rfl rfl fl_X11_35 dX11_laysRight_48 ?_
      refine v_iload_n (pc := 51) hC dX11_laysRight_51 rfl ?_
      obtain ⟨v19, hv19, hu13⟩ := obd_s hu13
      refine v_aL (pc := 52) hC s_58 hv19 dX11_laysRight_52 ?_
      refine v_lconst (pc := 53) (0 : Int64) rfl hC dX11_laysRight_53 ?_
      refine v_lcmp (pc := 54) hC dX11_laysRight_54 ?_
      obtain ⟨w20, hw20, hu13⟩ := obd_s hu13
      have kj21 : V SS g M iX11_laysRight (PQ SS g M P) 78 [some (.ref (gad g 49)), some (.int x0_), some (.int v1), some (.int a14)] [] w20 := by
        obtain ⟨x22, hx22, hu13⟩ := bnd_s hu13
        refine v_iinc (pc := 78) (lv' := [some (.ref (gad g 49)), some (.int x0_), some (.int v1), some (.int x22)]) (1 : Int32) rfl hx22 hC dX11_laysRight_78 rfl rfl rfl rfl ?_
        refine v_goto (pc := 81) (tgt := 41) hC dX11_laysRight_81 rfl ?_
        obtain rfl := Option.some.inj hu13
        exact V.ls (ls_some (ls_some (ls_some (ls_some ls_nil)))) (k15 _ rfl)
      refine v_if_le (pc := 55) (tgt := 78) hC dX11_laysRight_55 rfl (fun c23 => ?_) (fun c23 => ?_)
      · replace hw20 := (if_pos c23).symm.trans hw20
        obtain rfl := Option.some.inj hw20
        exact V.ls (ls_some (ls_some (ls_some (ls_some ls_nil)))) kj21
      · replace hw20 := (if_neg c23).symm.trans hw20
        refine v_aload_n (pc := 58) hC dX11_laysRight_58 rfl ?_
        refine v_aload_n (pc := 59) hC dX11_laysRight_59 rfl ?_
        refine v_gt (pc := 60) 11 (.ref (gad g 59)) hC s_49 rfl rfl rfl rfl fl_X11_38 dX11_laysRight_60 ?_
        refine v_iload_n (pc := 63) hC dX11_laysRight_63 rfl ?_
        obtain ⟨v24, hv24, hw20⟩ := obd_s hw20
        refine v_aL (pc := 64) hC s_59 hv24 dX11_laysRight_64 ?_
        refine v_ldc2 (pc := 65) (2 : Int64) kc_X11_154 hC dX11_laysRight_65 ?_
        refine v_aload_n (pc := 68) hC dX11_laysRight_68 rfl ?_
        refine v_gt (pc := 69) 12 (.ref (gad g 60)) hC s_49 rfl rfl rfl rfl fl_X11_41 dX11_laysRight_69 ?_
        refine v_iload_n (pc := 72) hC dX11_laysRight_72 rfl ?_
        obtain ⟨v25, hv25, hw20⟩ := obd_s hw20
        refine v_aL (pc := 73) hC s_60 hv25 dX11_laysRight_73 ?_
        refine v_lmul (pc := 74) hC dX11_laysRight_74 ?_
        obtain ⟨w26, hw26, hw20⟩ := obd_s hw20
        refine v_cV (pc := 75) [] [] gm_X11_adds hC s_49 rfl rfl (ct_X11_adds  hw26) ml_X11_178 rfl rfl rfl rfl rfl rfl dX11_laysRight_75 ?_
        obtain rfl := Option.some.inj hw20
        exact V.ls (ls_some (ls_some (ls_some (ls_some ls_nil)))) kj21
  · replace h := (if_pos c28).symm.trans h
    refine v_aload_n (pc := 18) hC dX11_laysRight_18 rfl ?_
    refine v_aload_n (pc := 19) hC dX11_laysRight_19 rfl ?_
    refine v_gt (pc := 20) 7 (.ref (gad g 55)) hC s_49 rfl rfl rfl rfl fl_X11_25 dX11_laysRight_20 ?_
    refine v_iconst (pc := 23) (4 : Int32) rfl hC dX11_laysRight_23 ?_
    refine v_iload_n (pc := 24) hC dX11_laysRight_24 rfl ?_
    refine v_imul (pc := 25) hC dX11_laysRight_25 ?_
    obtain ⟨v29, hv29, h⟩ := obd_s h
    refine v_aI (pc := 26) hC s_55 hv29 dX11_laysRight_26 ?_
    refine v_i2l (pc := 27) hC dX11_laysRight_27 ?_
    refine v_lconst (pc := 28) (1 : Int64) rfl hC dX11_laysRight_28 ?_
    obtain ⟨w30, hw30, h⟩ := obd_s h
    refine v_cV (pc := 29) [] [] gm_X11_lays hC s_49 rfl rfl (ct_X11_lays  hw30) ml_X11_174 rfl rfl rfl rfl rfl rfl dX11_laysRight_29 ?_
    obtain rfl := Option.some.inj h
    exact v_vret (pc := 32) hC rfl dX11_laysRight_32 hP
theorem dX11_right_0 : decode cX11_right 0 = .ok (.aload_n 0, 1) := by decide +kernel
theorem dX11_right_1 : decode cX11_right 1 = .ok (.iload_n 1, 1) := by decide +kernel
theorem dX11_right_2 : decode cX11_right 2 = .ok (.invokevirtual 119, 3) := by decide +kernel
theorem dX11_right_5 : decode cX11_right 5 = .ok (.ifCond .eq 12, 3) := by decide +kernel
theorem dX11_right_8 : decode cX11_right 8 = .ok (.iload_n 2, 1) := by decide +kernel
theorem dX11_right_9 : decode cX11_right 9 = .ok (.iconst 0, 1) := by decide +kernel
theorem dX11_right_10 : decode cX11_right 10 = .ok (.iconst 1, 1) := by decide +kernel
theorem dX11_right_11 : decode cX11_right 11 = .ok (.invokestatic 94, 3) := by decide +kernel
theorem dX11_right_14 : decode cX11_right 14 = .ok (.ifCond .ne 9, 3) := by decide +kernel
theorem dX11_right_17 : decode cX11_right 17 = .ok (.bipush (-2), 2) := by decide +kernel
theorem dX11_right_19 : decode cX11_right 19 = .ok (.invokestatic 144, 3) := by decide +kernel
theorem dX11_right_22 : decode cX11_right 22 = .ok (.lreturn, 1) := by decide +kernel
theorem dX11_right_23 : decode cX11_right 23 = .ok (.aload_n 0, 1) := by decide +kernel
theorem dX11_right_24 : decode cX11_right 24 = .ok (.iload_n 1, 1) := by decide +kernel
theorem dX11_right_25 : decode cX11_right 25 = .ok (.invokevirtual 215, 3) := by decide +kernel
theorem dX11_right_28 : decode cX11_right 28 = .ok (.ifCond .ne 9, 3) := by decide +kernel
theorem dX11_right_31 : decode cX11_right 31 = .ok (.bipush (-3), 2) := by decide +kernel
theorem dX11_right_33 : decode cX11_right 33 = .ok (.invokestatic 144, 3) := by decide +kernel
theorem dX11_right_36 : decode cX11_right 36 = .ok (.lreturn, 1) := by decide +kernel
theorem dX11_right_37 : decode cX11_right 37 = .ok (.aload_n 0, 1) := by decide +kernel
theorem dX11_right_38 : decode cX11_right 38 = .ok (.invokevirtual 185, 3) := by decide +kernel
theorem dX11_right_41 : decode cX11_right 41 = .ok (.aload_n 0, 1) := by decide +kernel
theorem dX11_right_42 : decode cX11_right 42 = .ok (.iload_n 1, 1) := by decide +kernel
theorem dX11_right_43 : decode cX11_right 43 = .ok (.invokevirtual 236, 3) := by decide +kernel
theorem dX11_right_46 : decode cX11_right 46 = .ok (.iload_n 2, 1) := by decide +kernel
theorem dX11_right_47 : decode cX11_right 47 = .ok (.ifCond .ne 10, 3) := by decide +kernel
theorem dX11_right_50 : decode cX11_right 50 = .ok (.aload_n 0, 1) := by decide +kernel
theorem dX11_right_51 : decode cX11_right 51 = .ok (.getfield 167, 3) := by decide +kernel
theorem dX11_right_54 : decode cX11_right 54 = .ok (.goto 7, 3) := by decide +kernel
theorem dX11_right_57 : decode cX11_right 57 = .ok (.aload_n 0, 1) := by decide +kernel
theorem dX11_right_58 : decode cX11_right 58 = .ok (.getfield 171, 3) := by decide +kernel
theorem dX11_right_61 : decode cX11_right 61 = .ok (.lreturn, 1) := by decide +kernel
def fX11_right (x0_ : Int32) (x1_ : Int32) (s : Sg) : Option (Int64 × Sg) :=
  (fX11_isSwim x0_ s).bind fun w1 =>
  if w1.1 = 0 then
  (fX11_no (-2 : Int32) w1.2).bind fun w2 =>
  some (w2.1, w2.2)
  else
  (fX11_in x1_ (0 : Int32) (1 : Int32) w1.2).bind fun w4 =>
  if w4.1 = 0 then
  (fX11_no (-2 : Int32) w4.2).bind fun w12 =>
  some (w12.1, w12.2)
  else
  (fX11_isSingle x0_ w4.2).bind fun w5 =>
  if w5.1 = 0 then
  (fX11_no (-3 : Int32) w5.2).bind fun w10 =>
  some (w10.1, w10.2)
  else
  (fX11_laysShape w5.2).bind fun w6 =>
  (fX11_laysRight x0_ w6).bind fun w7 =>
  if x1_ = 0 then
  some ((gL w7 49 13), w7)
  else
  some ((gL w7 49 14), w7)
theorem ct_X11_right {g : Gl} {x0_ : Int32} {x1_ : Int32} {s : Sg} {w : Int64 × Sg}  (h : fX11_right x0_ x1_ s = some w) : Ct SS g iX11_right 5 113 [.ref (gad g 49), .int x0_, .int x1_] s (Dt (some (.long w.1)) w.2) := by
  refine Ct.ofV (by decide +kernel) 0 (lv0 := [some (.ref (gad g 49)), some (.int x0_), some (.int x1_)]) rfl rfl (fun M hC => ?_)
  have hP : (Dt (some (.long w.1)) w.2) (some (.long w.1)) w.2 := ⟨rfl, rfl⟩
  generalize Dt (some (.long w.1)) w.2 = P at hP ⊢
  unfold fX11_right at h
  refine v_aload_n (pc := 0) hC dX11_right_0 rfl ?_
  refine v_iload_n (pc := 1) hC dX11_right_1 rfl ?_
  obtain ⟨w1, hw1, h⟩ := obd_s h
  refine v_cV (pc := 2) [] [.int w1.1] gm_X11_isSwim hC s_49 rfl rfl (ct_X11_isSwim  hw1) ml_X11_119 rfl rfl rfl rfl rfl rfl dX11_right_2 ?_
  refine v_if_eq (pc := 5) (tgt := 17) hC dX11_right_5 rfl (fun c3 => ?_) (fun c3 => ?_)
  · replace h := (if_pos c3).symm.trans h
    refine v_bipush (pc := 17) (-2 : Int32) rfl hC dX11_right_17 ?_
    obtain ⟨w2, hw2, h⟩ := obd_s h
    refine v_cS (pc := 19) [] [.long w2.1] gm_X11_no hC (ct_X11_no  hw2) ml_X11_144 rfl rfl rfl rfl rfl rfl dX11_right_19 ?_
    obtain rfl := Option.some.inj h
    exact v_lret (pc := 22) hC rfl dX11_right_22 hP
  · replace h := (if_neg c3).symm.trans h
    refine v_iload_n (pc := 8) hC dX11_right_8 rfl ?_
    refine v_iconst (pc := 9) (0 : Int32) rfl hC dX11_right_9 ?_
    refine v_iconst (pc := 10) (1 : Int32) rfl hC dX11_right_10 ?_
    obtain ⟨w4, hw4, h⟩ := obd_s h
    refine v_cS (pc := 11) [] [.int w4.1] gm_X11_in hC (ct_X11_in  hw4) ml_X11_94 rfl rfl rfl rfl rfl rfl dX11_right_11 ?_
    refine v_if_ne (pc := 14) (tgt := 23) hC dX11_right_14 rfl (fun c11 => ?_) (fun c11 => ?_)
    · replace h := (if_neg c11).symm.trans h
      refine v_aload_n (pc := 23) hC dX11_right_23 rfl ?_
      refine v_iload_n (pc := 24) hC dX11_right_24 rfl ?_
      obtain ⟨w5, hw5, h⟩ := obd_s h
      refine v_cV (pc := 25) [] [.int w5.1] gm_X11_isSingle hC s_49 rfl rfl (ct_X11_isSingle  hw5) ml_X11_215 rfl rfl rfl rfl rfl rfl dX11_right_25 ?_
      refine v_if_ne (pc := 28) (tgt := 37) hC dX11_right_28 rfl (fun c9 => ?_) (fun c9 => ?_)
      · replace h := (if_neg c9).symm.trans h
        refine v_aload_n (pc := 37) hC dX11_right_37 rfl ?_
        obtain ⟨w6, hw6, h⟩ := obd_s h
        refine v_cV (pc := 38) [] [] gm_X11_laysShape hC s_49 rfl rfl (ct_X11_laysShape  hw6) ml_X11_185 rfl rfl rfl rfl rfl rfl dX11_right_38 ?_
        refine v_aload_n (pc := 41) hC dX11_right_41 rfl ?_
        refine v_iload_n (pc := 42) hC dX11_right_42 rfl ?_
        obtain ⟨w7, hw7, h⟩ := obd_s h
        refine v_cV (pc := 43) [] [] gm_X11_laysRight hC s_49 rfl rfl (ct_X11_laysRight  hw7) ml_X11_236 rfl rfl rfl rfl rfl rfl dX11_right_43 ?_
        refine v_iload_n (pc := 46) hC dX11_right_46 rfl ?_
        refine v_if_ne (pc := 47) (tgt := 57) hC dX11_right_47 rfl (fun c8 => ?_) (fun c8 => ?_)
        · replace h := (if_neg c8).symm.trans h
          refine v_aload_n (pc := 57) hC dX11_right_57 rfl ?_
          refine v_gt (pc := 58) 14 (.long (gL w7 49 14)) hC s_49 rfl rfl rfl rfl fl_X11_171 dX11_right_58 ?_
          obtain rfl := Option.some.inj h
          exact v_lret (pc := 61) hC rfl dX11_right_61 hP
        · replace h := (if_pos c8).symm.trans h
          refine v_aload_n (pc := 50) hC dX11_right_50 rfl ?_
          refine v_gt (pc := 51) 13 (.long (gL w7 49 13)) hC s_49 rfl rfl rfl rfl fl_X11_167 dX11_right_51 ?_
          refine v_goto (pc := 54) (tgt := 61) hC dX11_right_54 rfl ?_
          obtain rfl := Option.some.inj h
          exact v_lret (pc := 61) hC rfl dX11_right_61 hP
      · replace h := (if_pos c9).symm.trans h
        refine v_bipush (pc := 31) (-3 : Int32) rfl hC dX11_right_31 ?_
        obtain ⟨w10, hw10, h⟩ := obd_s h
        refine v_cS (pc := 33) [] [.long w10.1] gm_X11_no hC (ct_X11_no  hw10) ml_X11_144 rfl rfl rfl rfl rfl rfl dX11_right_33 ?_
        obtain rfl := Option.some.inj h
        exact v_lret (pc := 36) hC rfl dX11_right_36 hP
    · replace h := (if_pos c11).symm.trans h
      refine v_bipush (pc := 17) (-2 : Int32) rfl hC dX11_right_17 ?_
      obtain ⟨w12, hw12, h⟩ := obd_s h
      refine v_cS (pc := 19) [] [.long w12.1] gm_X11_no hC (ct_X11_no  hw12) ml_X11_144 rfl rfl rfl rfl rfl rfl dX11_right_19 ?_
      obtain rfl := Option.some.inj h
      exact v_lret (pc := 22) hC rfl dX11_right_22 hP
theorem dX11_isRightLess_0 : decode cX11_isRightLess 0 = .ok (.aload_n 0, 1) := by decide +kernel
theorem dX11_isRightLess_1 : decode cX11_isRightLess 1 = .ok (.getfield 22, 3) := by decide +kernel
theorem dX11_isRightLess_4 : decode cX11_isRightLess 4 = .ok (.iload_n 1, 1) := by decide +kernel
theorem dX11_isRightLess_5 : decode cX11_isRightLess 5 = .ok (.iaload, 1) := by decide +kernel
theorem dX11_isRightLess_6 : decode cX11_isRightLess 6 = .ok (.istore_n 3, 1) := by decide +kernel
theorem dX11_isRightLess_7 : decode cX11_isRightLess 7 = .ok (.aload_n 0, 1) := by decide +kernel
theorem dX11_isRightLess_8 : decode cX11_isRightLess 8 = .ok (.getfield 22, 3) := by decide +kernel
theorem dX11_isRightLess_11 : decode cX11_isRightLess 11 = .ok (.iload_n 2, 1) := by decide +kernel
theorem dX11_isRightLess_12 : decode cX11_isRightLess 12 = .ok (.iaload, 1) := by decide +kernel
theorem dX11_isRightLess_13 : decode cX11_isRightLess 13 = .ok (.istore 4, 2) := by decide +kernel
theorem dX11_isRightLess_15 : decode cX11_isRightLess 15 = .ok (.aload_n 0, 1) := by decide +kernel
theorem dX11_isRightLess_16 : decode cX11_isRightLess 16 = .ok (.getfield 35, 3) := by decide +kernel
theorem dX11_isRightLess_19 : decode cX11_isRightLess 19 = .ok (.iload_n 3, 1) := by decide +kernel
theorem dX11_isRightLess_20 : decode cX11_isRightLess 20 = .ok (.laload, 1) := by decide +kernel
theorem dX11_isRightLess_21 : decode cX11_isRightLess 21 = .ok (.lconst 0, 1) := by decide +kernel
theorem dX11_isRightLess_22 : decode cX11_isRightLess 22 = .ok (.lcmp, 1) := by decide +kernel
theorem dX11_isRightLess_23 : decode cX11_isRightLess 23 = .ok (.ifCond .le 96, 3) := by decide +kernel
theorem dX11_isRightLess_26 : decode cX11_isRightLess 26 = .ok (.aload_n 0, 1) := by decide +kernel
theorem dX11_isRightLess_27 : decode cX11_isRightLess 27 = .ok (.getfield 35, 3) := by decide +kernel
theorem dX11_isRightLess_30 : decode cX11_isRightLess 30 = .ok (.iload 4, 2) := by decide +kernel
theorem dX11_isRightLess_32 : decode cX11_isRightLess 32 = .ok (.laload, 1) := by decide +kernel
theorem dX11_isRightLess_33 : decode cX11_isRightLess 33 = .ok (.lconst 0, 1) := by decide +kernel
theorem dX11_isRightLess_34 : decode cX11_isRightLess 34 = .ok (.lcmp, 1) := by decide +kernel
theorem dX11_isRightLess_35 : decode cX11_isRightLess 35 = .ok (.ifCond .le 84, 3) := by decide +kernel
theorem dX11_isRightLess_38 : decode cX11_isRightLess 38 = .ok (.ldc2_w 234, 3) := by decide +kernel
theorem dX11_isRightLess_41 : decode cX11_isRightLess 41 = .ok (.aload_n 0, 1) := by decide +kernel
theorem dX11_isRightLess_42 : decode cX11_isRightLess 42 = .ok (.getfield 41, 3) := by decide +kernel
theorem dX11_isRightLess_45 : decode cX11_isRightLess 45 = .ok (.iload_n 3, 1) := by decide +kernel
theorem dX11_isRightLess_46 : decode cX11_isRightLess 46 = .ok (.laload, 1) := by decide +kernel
theorem dX11_isRightLess_47 : decode cX11_isRightLess 47 = .ok (.lmul, 1) := by decide +kernel
theorem dX11_isRightLess_48 : decode cX11_isRightLess 48 = .ok (.aload_n 0, 1) := by decide +kernel
theorem dX11_isRightLess_49 : decode cX11_isRightLess 49 = .ok (.getfield 25, 3) := by decide +kernel
theorem dX11_isRightLess_52 : decode cX11_isRightLess 52 = .ok (.iconst 4, 1) := by decide +kernel
theorem dX11_isRightLess_53 : decode cX11_isRightLess 53 = .ok (.iload_n 1, 1) := by decide +kernel
theorem dX11_isRightLess_54 : decode cX11_isRightLess 54 = .ok (.imul, 1) := by decide +kernel
theorem dX11_isRightLess_55 : decode cX11_isRightLess 55 = .ok (.iaload, 1) := by decide +kernel
theorem dX11_isRightLess_56 : decode cX11_isRightLess 56 = .ok (.i2l, 1) := by decide +kernel
theorem dX11_isRightLess_57 : decode cX11_isRightLess 57 = .ok (.lmul, 1) := by decide +kernel
theorem dX11_isRightLess_58 : decode cX11_isRightLess 58 = .ok (.aload_n 0, 1) := by decide +kernel
theorem dX11_isRightLess_59 : decode cX11_isRightLess 59 = .ok (.getfield 38, 3) := by decide +kernel
theorem dX11_isRightLess_62 : decode cX11_isRightLess 62 = .ok (.iload_n 3, 1) := by decide +kernel
theorem dX11_isRightLess_63 : decode cX11_isRightLess 63 = .ok (.laload, 1) := by decide +kernel
theorem dX11_isRightLess_64 : decode cX11_isRightLess 64 = .ok (.lsub, 1) := by decide +kernel
theorem dX11_isRightLess_65 : decode cX11_isRightLess 65 = .ok (.aload_n 0, 1) := by decide +kernel
theorem dX11_isRightLess_66 : decode cX11_isRightLess 66 = .ok (.getfield 41, 3) := by decide +kernel
theorem dX11_isRightLess_69 : decode cX11_isRightLess 69 = .ok (.iload 4, 2) := by decide +kernel
theorem dX11_isRightLess_71 : decode cX11_isRightLess 71 = .ok (.laload, 1) := by decide +kernel
theorem dX11_isRightLess_72 : decode cX11_isRightLess 72 = .ok (.lmul, 1) := by decide +kernel
theorem dX11_isRightLess_73 : decode cX11_isRightLess 73 = .ok (.ldc2_w 234, 3) := by decide +kernel
theorem dX11_isRightLess_76 : decode cX11_isRightLess 76 = .ok (.aload_n 0, 1) := by decide +kernel
theorem dX11_isRightLess_77 : decode cX11_isRightLess 77 = .ok (.getfield 41, 3) := by decide +kernel
theorem dX11_isRightLess_80 : decode cX11_isRightLess 80 = .ok (.iload 4, 2) := by decide +kernel
theorem dX11_isRightLess_82 : decode cX11_isRightLess 82 = .ok (.laload, 1) := by decide +kernel
theorem dX11_isRightLess_83 : decode cX11_isRightLess 83 = .ok (.lmul, 1) := by decide +kernel
theorem dX11_isRightLess_84 : decode cX11_isRightLess 84 = .ok (.aload_n 0, 1) := by decide +kernel
theorem dX11_isRightLess_85 : decode cX11_isRightLess 85 = .ok (.getfield 25, 3) := by decide +kernel
theorem dX11_isRightLess_88 : decode cX11_isRightLess 88 = .ok (.iconst 4, 1) := by decide +kernel
theorem dX11_isRightLess_89 : decode cX11_isRightLess 89 = .ok (.iload_n 2, 1) := by decide +kernel
theorem dX11_isRightLess_90 : decode cX11_isRightLess 90 = .ok (.imul, 1) := by decide +kernel
theorem dX11_isRightLess_91 : decode cX11_isRightLess 91 = .ok (.iaload, 1) := by decide +kernel
theorem dX11_isRightLess_92 : decode cX11_isRightLess 92 = .ok (.i2l, 1) := by decide +kernel
theorem dX11_isRightLess_93 : decode cX11_isRightLess 93 = .ok (.lmul, 1) := by decide +kernel
theorem dX11_isRightLess_94 : decode cX11_isRightLess 94 = .ok (.aload_n 0, 1) := by decide +kernel
theorem dX11_isRightLess_95 : decode cX11_isRightLess 95 = .ok (.getfield 38, 3) := by decide +kernel
theorem dX11_isRightLess_98 : decode cX11_isRightLess 98 = .ok (.iload 4, 2) := by decide +kernel
theorem dX11_isRightLess_100 : decode cX11_isRightLess 100 = .ok (.laload, 1) := by decide +kernel
theorem dX11_isRightLess_101 : decode cX11_isRightLess 101 = .ok (.lsub, 1) := by decide +kernel
theorem dX11_isRightLess_102 : decode cX11_isRightLess 102 = .ok (.aload_n 0, 1) := by decide +kernel
theorem dX11_isRightLess_103 : decode cX11_isRightLess 103 = .ok (.getfield 41, 3) := by decide +kernel
theorem dX11_isRightLess_106 : decode cX11_isRightLess 106 = .ok (.iload_n 3, 1) := by decide +kernel
theorem dX11_isRightLess_107 : decode cX11_isRightLess 107 = .ok (.laload, 1) := by decide +kernel
theorem dX11_isRightLess_108 : decode cX11_isRightLess 108 = .ok (.lmul, 1) := by decide +kernel
theorem dX11_isRightLess_109 : decode cX11_isRightLess 109 = .ok (.lcmp, 1) := by decide +kernel
theorem dX11_isRightLess_110 : decode cX11_isRightLess 110 = .ok (.ifCond .ge 7, 3) := by decide +kernel
theorem dX11_isRightLess_113 : decode cX11_isRightLess 113 = .ok (.iconst 1, 1) := by decide +kernel
theorem dX11_isRightLess_114 : decode cX11_isRightLess 114 = .ok (.goto 4, 3) := by decide +kernel
theorem dX11_isRightLess_117 : decode cX11_isRightLess 117 = .ok (.iconst 0, 1) := by decide +kernel
theorem dX11_isRightLess_118 : decode cX11_isRightLess 118 = .ok (.ireturn, 1) := by decide +kernel
theorem dX11_isRightLess_119 : decode cX11_isRightLess 119 = .ok (.aload_n 0, 1) := by decide +kernel
theorem dX11_isRightLess_120 : decode cX11_isRightLess 120 = .ok (.iload_n 1, 1) := by decide +kernel
theorem dX11_isRightLess_121 : decode cX11_isRightLess 121 = .ok (.invokevirtual 236, 3) := by decide +kernel
theorem dX11_isRightLess_124 : decode cX11_isRightLess 124 = .ok (.aload_n 0, 1) := by decide +kernel
theorem dX11_isRightLess_125 : decode cX11_isRightLess 125 = .ok (.getfield 167, 3) := by decide +kernel
theorem dX11_isRightLess_128 : decode cX11_isRightLess 128 = .ok (.lstore 5, 2) := by decide +kernel
theorem dX11_isRightLess_130 : decode cX11_isRightLess 130 = .ok (.aload_n 0, 1) := by decide +kernel
theorem dX11_isRightLess_131 : decode cX11_isRightLess 131 = .ok (.getfield 171, 3) := by decide +kernel
theorem dX11_isRightLess_134 : decode cX11_isRightLess 134 = .ok (.lstore 7, 2) := by decide +kernel
theorem dX11_isRightLess_136 : decode cX11_isRightLess 136 = .ok (.aload_n 0, 1) := by decide +kernel
theorem dX11_isRightLess_137 : decode cX11_isRightLess 137 = .ok (.iload_n 2, 1) := by decide +kernel
theorem dX11_isRightLess_138 : decode cX11_isRightLess 138 = .ok (.invokevirtual 236, 3) := by decide +kernel
theorem dX11_isRightLess_141 : decode cX11_isRightLess 141 = .ok (.lload 5, 2) := by decide +kernel
theorem dX11_isRightLess_143 : decode cX11_isRightLess 143 = .ok (.aload_n 0, 1) := by decide +kernel
theorem dX11_isRightLess_144 : decode cX11_isRightLess 144 = .ok (.getfield 171, 3) := by decide +kernel
theorem dX11_isRightLess_147 : decode cX11_isRightLess 147 = .ok (.lmul, 1) := by decide +kernel
theorem dX11_isRightLess_148 : decode cX11_isRightLess 148 = .ok (.aload_n 0, 1) := by decide +kernel
theorem dX11_isRightLess_149 : decode cX11_isRightLess 149 = .ok (.getfield 167, 3) := by decide +kernel
theorem dX11_isRightLess_152 : decode cX11_isRightLess 152 = .ok (.lload 7, 2) := by decide +kernel
theorem dX11_isRightLess_154 : decode cX11_isRightLess 154 = .ok (.lmul, 1) := by decide +kernel
theorem dX11_isRightLess_155 : decode cX11_isRightLess 155 = .ok (.lcmp, 1) := by decide +kernel
theorem dX11_isRightLess_156 : decode cX11_isRightLess 156 = .ok (.ifCond .ge 7, 3) := by decide +kernel
theorem dX11_isRightLess_159 : decode cX11_isRightLess 159 = .ok (.iconst 1, 1) := by decide +kernel
theorem dX11_isRightLess_160 : decode cX11_isRightLess 160 = .ok (.goto 4, 3) := by decide +kernel
theorem dX11_isRightLess_163 : decode cX11_isRightLess 163 = .ok (.iconst 0, 1) := by decide +kernel
theorem dX11_isRightLess_164 : decode cX11_isRightLess 164 = .ok (.ireturn, 1) := by decide +kernel
def fX11_isRightLess (x0_ : Int32) (x1_ : Int32) (s : Sg) : Option (Int32 × Sg) :=
  (aI s 54 64 x0_).bind fun v1 =>
  (aI s 54 64 x1_).bind fun v2 =>
  (aL s 58 8 v1).bind fun v3 =>
  if (lg_cmp v3 (0 : Int64)) ≤ 0 then
  (fX11_laysRight x0_ s).bind fun w4 =>
  bnd (gL w4 49 13) fun x5 =>
  bnd (gL w4 49 14) fun x6 =>
  (fX11_laysRight x1_ w4).bind fun w7 =>
  if 0 ≤ (lg_cmp (x5 * (gL w7 49 14)) ((gL w7 49 13) * x6)) then
  some ((0 : Int32), w7)
  else
  some ((1 : Int32), w7)
  else
  (aL s 58 8 v2).bind fun v10 =>
  if (lg_cmp v10 (0 : Int64)) ≤ 0 then
  (fX11_laysRight x0_ s).bind fun w11 =>
  bnd (gL w11 49 13) fun x12 =>
  bnd (gL w11 49 14) fun x13 =>
  (fX11_laysRight x1_ w11).bind fun w14 =>
  if 0 ≤ (lg_cmp (x12 * (gL w14 49 14)) ((gL w14 49 13) * x13)) then
  some ((0 : Int32), w14)
  else
  some ((1 : Int32), w14)
  else
  (aL s 60 8 v1).bind fun v17 =>
  (aI s 55 256 ((4 : Int32) * x0_)).bind fun v18 =>
  (aL s 59 8 v1).bind fun v19 =>
  (aL s 60 8 v2).bind fun v20 =>
  (aL s 60 8 v2).bind fun v21 =>
  (aI s 55 256 ((4 : Int32) * x1_)).bind fun v22 =>
  (aL s 59 8 v2).bind fun v23 =>
  (aL s 60 8 v1).bind fun v24 =>
  if 0 ≤ (lg_cmp (((((4 : Int64) * v17) * ((v18).toInt64)) - v19) * v20) (((((4 : Int64) * v21) * ((v22).toInt64)) - v23) * v24)) then
  some ((0 : Int32), s)
  else
  some ((1 : Int32), s)
theorem ct_X11_isRightLess {g : Gl} {x0_ : Int32} {x1_ : Int32} {s : Sg} {w : Int32 × Sg}  (h : fX11_isRightLess x0_ x1_ s = some w) : Ct SS g iX11_isRightLess 4 102 [.ref (gad g 49), .int x0_, .int x1_] s (Dt (some (.int w.1)) w.2) := by
  refine Ct.ofV (by decide +kernel) 6 (lv0 := [some (.ref (gad g 49)), some (.int x0_), some (.int x1_), none, none, none, none, none, none]) rfl rfl (fun M hC => ?_)
  have hP : (Dt (some (.int w.1)) w.2) (some (.int w.1)) w.2 := ⟨rfl, rfl⟩
  generalize Dt (some (.int w.1)) w.2 = P at hP ⊢
  unfold fX11_isRightLess at h
  refine v_aload_n (pc := 0) hC dX11_isRightLess_0 rfl ?_
  refine v_gt (pc := 1) 6 (.ref (gad g 54)) hC s_49 rfl rfl rfl rfl fl_X11_22 dX11_isRightLess_1 ?_
  refine v_iload_n (pc := 4) hC dX11_isRightLess_4 rfl ?_
  obtain ⟨v1, hv1, h⟩ := obd_s h
  refine v_aI (pc := 5) hC s_54 hv1 dX11_isRightLess_5 ?_
  refine v_istore_n (pc := 6) (lv' := [some (.ref (gad g 49)), some (.int x0_), some (.int x1_), some (.int v1), none, none, none, none, none]) hC dX11_isRightLess_6 rfl rfl rfl rfl ?_
  refine v_aload_n (pc := 7) hC dX11_isRightLess_7 rfl ?_
  refine v_gt (pc := 8) 6 (.ref (gad g 54)) hC s_49 rfl rfl rfl rfl fl_X11_22 dX11_isRightLess_8 ?_
  refine v_iload_n (pc := 11) hC dX11_isRightLess_11 rfl ?_
  obtain ⟨v2, hv2, h⟩ := obd_s h
  refine v_aI (pc := 12) hC s_54 hv2 dX11_isRightLess_12 ?_
  refine v_istore (pc := 13) (lv' := [some (.ref (gad g 49)), some (.int x0_), some (.int x1_), some (.int v1), some (.int v2), none, none, none, none]) hC dX11_isRightLess_13 rfl rfl rfl rfl ?_
  refine v_aload_n (pc := 15) hC dX11_isRightLess_15 rfl ?_
  refine v_gt (pc := 16) 10 (.ref (gad g 58)) hC s_49 rfl rfl rfl rfl fl_X11_35 dX11_isRightLess_16 ?_
  refine v_iload_n (pc := 19) hC dX11_isRightLess_19 rfl ?_
  obtain ⟨v3, hv3, h⟩ := obd_s h
  refine v_aL (pc := 20) hC s_58 hv3 dX11_isRightLess_20 ?_
  refine v_lconst (pc := 21) (0 : Int64) rfl hC dX11_isRightLess_21 ?_
  refine v_lcmp (pc := 22) hC dX11_isRightLess_22 ?_
  refine v_if_le (pc := 23) (tgt := 119) hC dX11_isRightLess_23 rfl (fun c9 => ?_) (fun c9 => ?_)
  · replace h := (if_pos c9).symm.trans h
    refine v_aload_n (pc := 119) hC dX11_isRightLess_119 rfl ?_
    refine v_iload_n (pc := 120) hC dX11_isRightLess_120 rfl ?_
    obtain ⟨w4, hw4, h⟩ := obd_s h
    refine v_cV (pc := 121) [] [] gm_X11_laysRight hC s_49 rfl rfl (ct_X11_laysRight  hw4) ml_X11_236 rfl rfl rfl rfl rfl rfl dX11_isRightLess_121 ?_
    refine v_aload_n (pc := 124) hC dX11_isRightLess_124 rfl ?_
    refine v_gt (pc := 125) 13 (.long (gL w4 49 13)) hC s_49 rfl rfl rfl rfl fl_X11_167 dX11_isRightLess_125 ?_
    obtain ⟨x5, hx5, h⟩ := bnd_s h
    refine v_lstore (pc := 128) (lv' := [some (.ref (gad g 49)), some (.int x0_), some (.int x1_), some (.int v1), some (.int v2), some (.long x5), none, none, none]) hC dX11_isRightLess_128 hx5 rfl rfl rfl ?_
    refine v_aload_n (pc := 130) hC dX11_isRightLess_130 rfl ?_
    refine v_gt (pc := 131) 14 (.long (gL w4 49 14)) hC s_49 rfl rfl rfl rfl fl_X11_171 dX11_isRightLess_131 ?_
    obtain ⟨x6, hx6, h⟩ := bnd_s h
    refine v_lstore (pc := 134) (lv' := [some (.ref (gad g 49)), some (.int x0_), some (.int x1_), some (.int v1), some (.int v2), some (.long x5), none, some (.long x6), none]) hC dX11_isRightLess_134 hx6 rfl rfl rfl ?_
    refine v_aload_n (pc := 136) hC dX11_isRightLess_136 rfl ?_
    refine v_iload_n (pc := 137) hC dX11_isRightLess_137 rfl ?_
    obtain ⟨w7, hw7, h⟩ := obd_s h
    refine v_cV (pc := 138) [] [] gm_X11_laysRight hC s_49 rfl rfl (ct_X11_laysRight  hw7) ml_X11_236 rfl rfl rfl rfl rfl rfl dX11_isRightLess_138 ?_
    refine v_lload (pc := 141) hC dX11_isRightLess_141 rfl ?_
    refine v_aload_n (pc := 143) hC dX11_isRightLess_143 rfl ?_
    refine v_gt (pc := 144) 14 (.long (gL w7 49 14)) hC s_49 rfl rfl rfl rfl fl_X11_171 dX11_isRightLess_144 ?_
    refine v_lmul (pc := 147) hC dX11_isRightLess_147 ?_
    refine v_aload_n (pc := 148) hC dX11_isRightLess_148 rfl ?_
    refine v_gt (pc := 149) 13 (.long (gL w7 49 13)) hC s_49 rfl rfl rfl rfl fl_X11_167 dX11_isRightLess_149 ?_
    refine v_lload (pc := 152) hC dX11_isRightLess_152 rfl ?_
    refine v_lmul (pc := 154) hC dX11_isRightLess_154 ?_
    refine v_lcmp (pc := 155) hC dX11_isRightLess_155 ?_
    refine v_if_ge (pc := 156) (tgt := 163) hC dX11_isRightLess_156 rfl (fun c8 => ?_) (fun c8 => ?_)
    · replace h := (if_pos c8).symm.trans h
      refine v_iconst (pc := 163) (0 : Int32) rfl hC dX11_isRightLess_163 ?_
      obtain rfl := Option.some.inj h
      exact v_zret (pc := 164) hC rfl rfl dX11_isRightLess_164 hP
    · replace h := (if_neg c8).symm.trans h
      refine v_iconst (pc := 159) (1 : Int32) rfl hC dX11_isRightLess_159 ?_
      refine v_goto (pc := 160) (tgt := 164) hC dX11_isRightLess_160 rfl ?_
      obtain rfl := Option.some.inj h
      exact v_zret (pc := 164) hC rfl rfl dX11_isRightLess_164 hP
  · replace h := (if_neg c9).symm.trans h
    refine v_aload_n (pc := 26) hC dX11_isRightLess_26 rfl ?_
    refine v_gt (pc := 27) 10 (.ref (gad g 58)) hC s_49 rfl rfl rfl rfl fl_X11_35 dX11_isRightLess_27 ?_
    refine v_iload (pc := 30) hC dX11_isRightLess_30 rfl ?_
    obtain ⟨v10, hv10, h⟩ := obd_s h
    refine v_aL (pc := 32) hC s_58 hv10 dX11_isRightLess_32 ?_
    refine v_lconst (pc := 33) (0 : Int64) rfl hC dX11_isRightLess_33 ?_
    refine v_lcmp (pc := 34) hC dX11_isRightLess_34 ?_
    refine v_if_le (pc := 35) (tgt := 119) hC dX11_isRightLess_35 rfl (fun c16 => ?_) (fun c16 => ?_)
    · replace h := (if_pos c16).symm.trans h
      refine v_aload_n (pc := 119) hC dX11_isRightLess_119 rfl ?_
      refine v_iload_n (pc := 120) hC dX11_isRightLess_120 rfl ?_
      obtain ⟨w11, hw11, h⟩ := obd_s h
      refine v_cV (pc := 121) [] [] gm_X11_laysRight hC s_49 rfl rfl (ct_X11_laysRight  hw11) ml_X11_236 rfl rfl rfl rfl rfl rfl dX11_isRightLess_121 ?_
      refine v_aload_n (pc := 124) hC dX11_isRightLess_124 rfl ?_
      refine v_gt (pc := 125) 13 (.long (gL w11 49 13)) hC s_49 rfl rfl rfl rfl fl_X11_167 dX11_isRightLess_125 ?_
      obtain ⟨x12, hx12, h⟩ := bnd_s h
      refine v_lstore (pc := 128) (lv' := [some (.ref (gad g 49)), some (.int x0_), some (.int x1_), some (.int v1), some (.int v2), some (.long x12), none, none, none]) hC dX11_isRightLess_128 hx12 rfl rfl rfl ?_
      refine v_aload_n (pc := 130) hC dX11_isRightLess_130 rfl ?_
      refine v_gt (pc := 131) 14 (.long (gL w11 49 14)) hC s_49 rfl rfl rfl rfl fl_X11_171 dX11_isRightLess_131 ?_
      obtain ⟨x13, hx13, h⟩ := bnd_s h
      refine v_lstore (pc := 134) (lv' := [some (.ref (gad g 49)), some (.int x0_), some (.int x1_), some (.int v1), some (.int v2), some (.long x12), none, some (.long x13), none]) hC dX11_isRightLess_134 hx13 rfl rfl rfl ?_
      refine v_aload_n (pc := 136) hC dX11_isRightLess_136 rfl ?_
      refine v_iload_n (pc := 137) hC dX11_isRightLess_137 rfl ?_
      obtain ⟨w14, hw14, h⟩ := obd_s h
      refine v_cV (pc := 138) [] [] gm_X11_laysRight hC s_49 rfl rfl (ct_X11_laysRight  hw14) ml_X11_236 rfl rfl rfl rfl rfl rfl dX11_isRightLess_138 ?_
      refine v_lload (pc := 141) hC dX11_isRightLess_141 rfl ?_
      refine v_aload_n (pc := 143) hC dX11_isRightLess_143 rfl ?_
      refine v_gt (pc := 144) 14 (.long (gL w14 49 14)) hC s_49 rfl rfl rfl rfl fl_X11_171 dX11_isRightLess_144 ?_
      refine v_lmul (pc := 147) hC dX11_isRightLess_147 ?_
      refine v_aload_n (pc := 148) hC dX11_isRightLess_148 rfl ?_
      refine v_gt (pc := 149) 13 (.long (gL w14 49 13)) hC s_49 rfl rfl rfl rfl fl_X11_167 dX11_isRightLess_149 ?_
      refine v_lload (pc := 152) hC dX11_isRightLess_152 rfl ?_
      refine v_lmul (pc := 154) hC dX11_isRightLess_154 ?_
      refine v_lcmp (pc := 155) hC dX11_isRightLess_155 ?_
      refine v_if_ge (pc := 156) (tgt := 163) hC dX11_isRightLess_156 rfl (fun c15 => ?_) (fun c15 => ?_)
      · replace h := (if_pos c15).symm.trans h
        refine v_iconst (pc := 163) (0 : Int32) rfl hC dX11_isRightLess_163 ?_
        obtain rfl := Option.some.inj h
        exact v_zret (pc := 164) hC rfl rfl dX11_isRightLess_164 hP
      · replace h := (if_neg c15).symm.trans h
        refine v_iconst (pc := 159) (1 : Int32) rfl hC dX11_isRightLess_159 ?_
        refine v_goto (pc := 160) (tgt := 164) hC dX11_isRightLess_160 rfl ?_
        obtain rfl := Option.some.inj h
        exact v_zret (pc := 164) hC rfl rfl dX11_isRightLess_164 hP
    · replace h := (if_neg c16).symm.trans h
      refine v_ldc2 (pc := 38) (4 : Int64) kc_X11_234 hC dX11_isRightLess_38 ?_
      refine v_aload_n (pc := 41) hC dX11_isRightLess_41 rfl ?_
      refine v_gt (pc := 42) 12 (.ref (gad g 60)) hC s_49 rfl rfl rfl rfl fl_X11_41 dX11_isRightLess_42 ?_
      refine v_iload_n (pc := 45) hC dX11_isRightLess_45 rfl ?_
      obtain ⟨v17, hv17, h⟩ := obd_s h
      refine v_aL (pc := 46) hC s_60 hv17 dX11_isRightLess_46 ?_
      refine v_lmul (pc := 47) hC dX11_isRightLess_47 ?_
      refine v_aload_n (pc := 48) hC dX11_isRightLess_48 rfl ?_
      refine v_gt (pc := 49) 7 (.ref (gad g 55)) hC s_49 rfl rfl rfl rfl fl_X11_25 dX11_isRightLess_49 ?_
      refine v_iconst (pc := 52) (4 : Int32) rfl hC dX11_isRightLess_52 ?_
      refine v_iload_n (pc := 53) hC dX11_isRightLess_53 rfl ?_
      refine v_imul (pc := 54) hC dX11_isRightLess_54 ?_
      obtain ⟨v18, hv18, h⟩ := obd_s h
      refine v_aI (pc := 55) hC s_55 hv18 dX11_isRightLess_55 ?_
      refine v_i2l (pc := 56) hC dX11_isRightLess_56 ?_
      refine v_lmul (pc := 57) hC dX11_isRightLess_57 ?_
      refine v_aload_n (pc := 58) hC dX11_isRightLess_58 rfl ?_
      refine v_gt (pc := 59) 11 (.ref (gad g 59)) hC s_49 rfl rfl rfl rfl fl_X11_38 dX11_isRightLess_59 ?_
      refine v_iload_n (pc := 62) hC dX11_isRightLess_62 rfl ?_
      obtain ⟨v19, hv19, h⟩ := obd_s h
      refine v_aL (pc := 63) hC s_59 hv19 dX11_isRightLess_63 ?_
      refine v_lsub (pc := 64) hC dX11_isRightLess_64 ?_
      refine v_aload_n (pc := 65) hC dX11_isRightLess_65 rfl ?_
      refine v_gt (pc := 66) 12 (.ref (gad g 60)) hC s_49 rfl rfl rfl rfl fl_X11_41 dX11_isRightLess_66 ?_
      refine v_iload (pc := 69) hC dX11_isRightLess_69 rfl ?_
      obtain ⟨v20, hv20, h⟩ := obd_s h
      refine v_aL (pc := 71) hC s_60 hv20 dX11_isRightLess_71 ?_
      refine v_lmul (pc := 72) hC dX11_isRightLess_72 ?_
      refine v_ldc2 (pc := 73) (4 : Int64) kc_X11_234 hC dX11_isRightLess_73 ?_
      refine v_aload_n (pc := 76) hC dX11_isRightLess_76 rfl ?_
      refine v_gt (pc := 77) 12 (.ref (gad g 60)) hC s_49 rfl rfl rfl rfl fl_X11_41 dX11_isRightLess_77 ?_
      refine v_iload (pc := 80) hC dX11_isRightLess_80 rfl ?_
      obtain ⟨v21, hv21, h⟩ := obd_s h
      refine v_aL (pc := 82) hC s_60 hv21 dX11_isRightLess_82 ?_
      refine v_lmul (pc := 83) hC dX11_isRightLess_83 ?_
      refine v_aload_n (pc := 84) hC dX11_isRightLess_84 rfl ?_
      refine v_gt (pc := 85) 7 (.ref (gad g 55)) hC s_49 rfl rfl rfl rfl fl_X11_25 dX11_isRightLess_85 ?_
      refine v_iconst (pc := 88) (4 : Int32) rfl hC dX11_isRightLess_88 ?_
      refine v_iload_n (pc := 89) hC dX11_isRightLess_89 rfl ?_
      refine v_imul (pc := 90) hC dX11_isRightLess_90 ?_
      obtain ⟨v22, hv22, h⟩ := obd_s h
      refine v_aI (pc := 91) hC s_55 hv22 dX11_isRightLess_91 ?_
      refine v_i2l (pc := 92) hC dX11_isRightLess_92 ?_
      refine v_lmul (pc := 93) hC dX11_isRightLess_93 ?_
      refine v_aload_n (pc := 94) hC dX11_isRightLess_94 rfl ?_
      refine v_gt (pc := 95) 11 (.ref (gad g 59)) hC s_49 rfl rfl rfl rfl fl_X11_38 dX11_isRightLess_95 ?_
      refine v_iload (pc := 98) hC dX11_isRightLess_98 rfl ?_
      obtain ⟨v23, hv23, h⟩ := obd_s h
      refine v_aL (pc := 100) hC s_59 hv23 dX11_isRightLess_100 ?_
      refine v_lsub (pc := 101) hC dX11_isRightLess_101 ?_
      refine v_aload_n (pc := 102) hC dX11_isRightLess_102 rfl ?_
      refine v_gt (pc := 103) 12 (.ref (gad g 60)) hC s_49 rfl rfl rfl rfl fl_X11_41 dX11_isRightLess_103 ?_
      refine v_iload_n (pc := 106) hC dX11_isRightLess_106 rfl ?_
      obtain ⟨v24, hv24, h⟩ := obd_s h
      refine v_aL (pc := 107) hC s_60 hv24 dX11_isRightLess_107 ?_
      refine v_lmul (pc := 108) hC dX11_isRightLess_108 ?_
      refine v_lcmp (pc := 109) hC dX11_isRightLess_109 ?_
      refine v_if_ge (pc := 110) (tgt := 117) hC dX11_isRightLess_110 rfl (fun c25 => ?_) (fun c25 => ?_)
      · replace h := (if_pos c25).symm.trans h
        refine v_iconst (pc := 117) (0 : Int32) rfl hC dX11_isRightLess_117 ?_
        obtain rfl := Option.some.inj h
        exact v_zret (pc := 118) hC rfl rfl dX11_isRightLess_118 hP
      · replace h := (if_neg c25).symm.trans h
        refine v_iconst (pc := 113) (1 : Int32) rfl hC dX11_isRightLess_113 ?_
        refine v_goto (pc := 114) (tgt := 118) hC dX11_isRightLess_114 rfl ?_
        obtain rfl := Option.some.inj h
        exact v_zret (pc := 118) hC rfl rfl dX11_isRightLess_118 hP
