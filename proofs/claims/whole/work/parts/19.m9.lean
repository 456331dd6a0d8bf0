/-! methods, printed by wip/whole/gen/meth.py: X11_leanNow, X11_lean, X11_turns, X11_chanceNow, X11_chance, X11_ranNow, X11_ran, X11_laysOwn, X11_own, X11_fast -/
theorem dX11_leanNow_0 : decode cX11_leanNow 0 = .ok (.iconst 0, 1) := by decide +kernel
theorem dX11_leanNow_1 : decode cX11_leanNow 1 = .ok (.istore_n 3, 1) := by decide +kernel
theorem dX11_leanNow_2 : decode cX11_leanNow 2 = .ok (.iconst 0, 1) := by decide +kernel
theorem dX11_leanNow_3 : decode cX11_leanNow 3 = .ok (.istore 4, 2) := by decide +kernel
theorem dX11_leanNow_5 : decode cX11_leanNow 5 = .ok (.iload 4, 2) := by decide +kernel
theorem dX11_leanNow_7 : decode cX11_leanNow 7 = .ok (.aload_n 0, 1) := by decide +kernel
theorem dX11_leanNow_8 : decode cX11_leanNow 8 = .ok (.getfield 98, 3) := by decide +kernel
theorem dX11_leanNow_11 : decode cX11_leanNow 11 = .ok (.if_icmp .ge 136, 3) := by decide +kernel
theorem dX11_leanNow_14 : decode cX11_leanNow 14 = .ok (.iconst 0, 1) := by decide +kernel
theorem dX11_leanNow_15 : decode cX11_leanNow 15 = .ok (.istore 5, 2) := by decide +kernel
theorem dX11_leanNow_17 : decode cX11_leanNow 17 = .ok (.iload 5, 2) := by decide +kernel
theorem dX11_leanNow_19 : decode cX11_leanNow 19 = .ok (.aload_n 0, 1) := by decide +kernel
theorem dX11_leanNow_20 : decode cX11_leanNow 20 = .ok (.getfield 98, 3) := by decide +kernel
theorem dX11_leanNow_23 : decode cX11_leanNow 23 = .ok (.if_icmp .ge 118, 3) := by decide +kernel
theorem dX11_leanNow_26 : decode cX11_leanNow 26 = .ok (.aload_n 0, 1) := by decide +kernel
theorem dX11_leanNow_27 : decode cX11_leanNow 27 = .ok (.getfield 16, 3) := by decide +kernel
theorem dX11_leanNow_30 : decode cX11_leanNow 30 = .ok (.iload 4, 2) := by decide +kernel
theorem dX11_leanNow_32 : decode cX11_leanNow 32 = .ok (.iaload, 1) := by decide +kernel
theorem dX11_leanNow_33 : decode cX11_leanNow 33 = .ok (.aload_n 0, 1) := by decide +kernel
theorem dX11_leanNow_34 : decode cX11_leanNow 34 = .ok (.getfield 16, 3) := by decide +kernel
theorem dX11_leanNow_37 : decode cX11_leanNow 37 = .ok (.iload 5, 2) := by decide +kernel
theorem dX11_leanNow_39 : decode cX11_leanNow 39 = .ok (.iaload, 1) := by decide +kernel
theorem dX11_leanNow_40 : decode cX11_leanNow 40 = .ok (.if_icmp .ne 95, 3) := by decide +kernel
theorem dX11_leanNow_43 : decode cX11_leanNow 43 = .ok (.aload_n 0, 1) := by decide +kernel
theorem dX11_leanNow_44 : decode cX11_leanNow 44 = .ok (.getfield 22, 3) := by decide +kernel
theorem dX11_leanNow_47 : decode cX11_leanNow 47 = .ok (.iload 4, 2) := by decide +kernel
theorem dX11_leanNow_49 : decode cX11_leanNow 49 = .ok (.iaload, 1) := by decide +kernel
theorem dX11_leanNow_50 : decode cX11_leanNow 50 = .ok (.aload_n 0, 1) := by decide +kernel
theorem dX11_leanNow_51 : decode cX11_leanNow 51 = .ok (.getfield 22, 3) := by decide +kernel
theorem dX11_leanNow_54 : decode cX11_leanNow 54 = .ok (.iload 5, 2) := by decide +kernel
theorem dX11_leanNow_56 : decode cX11_leanNow 56 = .ok (.iaload, 1) := by decide +kernel
theorem dX11_leanNow_57 : decode cX11_leanNow 57 = .ok (.if_icmp .le 78, 3) := by decide +kernel
theorem dX11_leanNow_60 : decode cX11_leanNow 60 = .ok (.aload_n 0, 1) := by decide +kernel
theorem dX11_leanNow_61 : decode cX11_leanNow 61 = .ok (.getfield 13, 3) := by decide +kernel
theorem dX11_leanNow_64 : decode cX11_leanNow 64 = .ok (.aload_n 0, 1) := by decide +kernel
theorem dX11_leanNow_65 : decode cX11_leanNow 65 = .ok (.getfield 16, 3) := by decide +kernel
theorem dX11_leanNow_68 : decode cX11_leanNow 68 = .ok (.iload 4, 2) := by decide +kernel
theorem dX11_leanNow_70 : decode cX11_leanNow 70 = .ok (.iaload, 1) := by decide +kernel
theorem dX11_leanNow_71 : decode cX11_leanNow 71 = .ok (.iaload, 1) := by decide +kernel
theorem dX11_leanNow_72 : decode cX11_leanNow 72 = .ok (.iload_n 1, 1) := by decide +kernel
theorem dX11_leanNow_73 : decode cX11_leanNow 73 = .ok (.iload_n 2, 1) := by decide +kernel
theorem dX11_leanNow_74 : decode cX11_leanNow 74 = .ok (.invokestatic 94, 3) := by decide +kernel
theorem dX11_leanNow_77 : decode cX11_leanNow 77 = .ok (.ifCond .eq 58, 3) := by decide +kernel
theorem dX11_leanNow_80 : decode cX11_leanNow 80 = .ok (.aload_n 0, 1) := by decide +kernel
theorem dX11_leanNow_81 : decode cX11_leanNow 81 = .ok (.iload 4, 2) := by decide +kernel
theorem dX11_leanNow_83 : decode cX11_leanNow 83 = .ok (.invokevirtual 148, 3) := by decide +kernel
theorem dX11_leanNow_86 : decode cX11_leanNow 86 = .ok (.ifCond .eq 49, 3) := by decide +kernel
theorem dX11_leanNow_89 : decode cX11_leanNow 89 = .ok (.aload_n 0, 1) := by decide +kernel
theorem dX11_leanNow_90 : decode cX11_leanNow 90 = .ok (.iload 5, 2) := by decide +kernel
theorem dX11_leanNow_92 : decode cX11_leanNow 92 = .ok (.invokevirtual 148, 3) := by decide +kernel
theorem dX11_leanNow_95 : decode cX11_leanNow 95 = .ok (.ifCond .eq 40, 3) := by decide +kernel
theorem dX11_leanNow_98 : decode cX11_leanNow 98 = .ok (.aload_n 0, 1) := by decide +kernel
theorem dX11_leanNow_99 : decode cX11_leanNow 99 = .ok (.iload 4, 2) := by decide +kernel
theorem dX11_leanNow_101 : decode cX11_leanNow 101 = .ok (.invokevirtual 151, 3) := by decide +kernel
theorem dX11_leanNow_104 : decode cX11_leanNow 104 = .ok (.aload_n 0, 1) := by decide +kernel
theorem dX11_leanNow_105 : decode cX11_leanNow 105 = .ok (.iload 5, 2) := by decide +kernel
theorem dX11_leanNow_107 : decode cX11_leanNow 107 = .ok (.invokevirtual 151, 3) := by decide +kernel
theorem dX11_leanNow_110 : decode cX11_leanNow 110 = .ok (.isub, 1) := by decide +kernel
theorem dX11_leanNow_111 : decode cX11_leanNow 111 = .ok (.istore 6, 2) := by decide +kernel
theorem dX11_leanNow_113 : decode cX11_leanNow 113 = .ok (.iload_n 3, 1) := by decide +kernel
theorem dX11_leanNow_114 : decode cX11_leanNow 114 = .ok (.iload 6, 2) := by decide +kernel
theorem dX11_leanNow_116 : decode cX11_leanNow 116 = .ok (.ifCond .le 7, 3) := by decide +kernel
theorem dX11_leanNow_119 : decode cX11_leanNow 119 = .ok (.iconst 1, 1) := by decide +kernel
theorem dX11_leanNow_120 : decode cX11_leanNow 120 = .ok (.goto 13, 3) := by decide +kernel
theorem dX11_leanNow_123 : decode cX11_leanNow 123 = .ok (.iload 6, 2) := by decide +kernel
theorem dX11_leanNow_125 : decode cX11_leanNow 125 = .ok (.ifCond .ge 7, 3) := by decide +kernel
theorem dX11_leanNow_128 : decode cX11_leanNow 128 = .ok (.iconst (-1), 1) := by decide +kernel
theorem dX11_leanNow_129 : decode cX11_leanNow 129 = .ok (.goto 4, 3) := by decide +kernel
theorem dX11_leanNow_132 : decode cX11_leanNow 132 = .ok (.iconst 0, 1) := by decide +kernel
theorem dX11_leanNow_133 : decode cX11_leanNow 133 = .ok (.iadd, 1) := by decide +kernel
theorem dX11_leanNow_134 : decode cX11_leanNow 134 = .ok (.istore_n 3, 1) := by decide +kernel
theorem dX11_leanNow_135 : decode cX11_leanNow 135 = .ok (.iinc 5 1, 3) := by decide +kernel
theorem dX11_leanNow_138 : decode cX11_leanNow 138 = .ok (.goto (-121), 3) := by decide +kernel
theorem dX11_leanNow_141 : decode cX11_leanNow 141 = .ok (.iinc 4 1, 3) := by decide +kernel
theorem dX11_leanNow_144 : decode cX11_leanNow 144 = .ok (.goto (-139), 3) := by decide +kernel
theorem dX11_leanNow_147 : decode cX11_leanNow 147 = .ok (.iload_n 3, 1) := by decide +kernel
theorem dX11_leanNow_148 : decode cX11_leanNow 148 = .ok (.ireturn, 1) := by decide +kernel
def fX11_leanNow_L17 (p1 : Int32) (p2 : Int32) (p4 : Int32) (a : Int32 × Int32) (s : Sg) : Option (((Int32 × Int32) ⊕ (Int32)) × Sg) :=
  if (gI s 49 3) ≤ a.2 then
  some (.inr a.1, s)
  else
  (aI s 52 64 p4).bind fun v2 =>
  (aI s 52 64 a.2).bind fun v3 =>
  ((if v2 = v3 then
  (aI s 54 64 p4).bind fun v8 =>
  (aI s 54 64 a.2).bind fun v9 =>
  if v8 ≤ v9 then
  some (a.1, s)
  else
  (aI s 52 64 p4).bind fun v11 =>
  (aI s 51 16 v11).bind fun v12 =>
  (fX11_in v12 p1 p2 s).bind fun w13 =>
  if w13.1 = 0 then
  some (a.1, w13.2)
  else
  (fX11_hasDiff p4 w13.2).bind fun w15 =>
  if w15.1 = 0 then
  some (a.1, w15.2)
  else
  (fX11_hasDiff a.2 w15.2).bind fun w17 =>
  if w17.1 = 0 then
  some (a.1, w17.2)
  else
  (fX11_twiceDiff p4 w17.2).bind fun w19 =>
  (fX11_twiceDiff a.2 w19.2).bind fun w20 =>
  bnd (w19.1 - w20.1) fun x21 =>
  ((if x21 ≤ 0 then
  if 0 ≤ x21 then
  some (0 : Int32)
  else
  some (-1 : Int32)
  else
  some (1 : Int32)) : Option (Int32)).bind fun w22 =>
  bnd (a.1 + w22) fun x24 =>
  some (x24, w20.2)
  else
  some (a.1, s)) : Option (Int32 × Sg)).bind fun w4 =>
  bnd (a.2 + (1 : Int32)) fun x6 =>
  some (.inl (w4.1, x6), w4.2)
def fX11_leanNow_L5 (p1 : Int32) (p2 : Int32) (a : Int32 × Int32) (s : Sg) : Option (((Int32 × Int32) ⊕ (Int32)) × Sg) :=
  if (gI s 49 3) ≤ a.2 then
  some (.inr a.1, s)
  else
  (lpG (fX11_leanNow_L17 p1 p2 a.2) FU (a.1, (0 : Int32)) s).bind fun w2 =>
  bnd (a.2 + (1 : Int32)) fun x3 =>
  some (.inl (w2.1, x3), w2.2)
def fX11_leanNow (x0_ : Int32) (x1_ : Int32) (s : Sg) : Option (Int32 × Sg) :=
  (lpG (fX11_leanNow_L5 x0_ x1_) FU ((0 : Int32), (0 : Int32)) s).bind fun w1 =>
  some (w1.1, w1.2)
theorem ct_X11_leanNow {g : Gl} {x0_ : Int32} {x1_ : Int32} {s : Sg} {w : Int32 × Sg}  (h : fX11_leanNow x0_ x1_ s = some w) : Ct SS g iX11_leanNow 3 69 [.ref (gad g 49), .int x0_, .int x1_] s (Dt (some (.int w.1)) w.2) := by
  refine Ct.ofV (by decide +kernel) 4 (lv0 := [some (.ref (gad g 49)), some (.int x0_), some (.int x1_), none, none, none, none]) rfl rfl (fun M hC => ?_)
  have hP : (Dt (some (.int w.1)) w.2) (some (.int w.1)) w.2 := ⟨rfl, rfl⟩
  generalize Dt (some (.int w.1)) w.2 = P at hP ⊢
  unfold fX11_leanNow at h
  refine v_iconst (pc := 0) (0 : Int32) rfl hC dX11_leanNow_0 ?_
  refine v_istore_n (pc := 1) (lv' := [some (.ref (gad g 49)), some (.int x0_), some (.int x1_), some (.int (0 : Int32)), none, none, none]) hC dX11_leanNow_1 rfl rfl rfl rfl ?_
  refine v_iconst (pc := 2) (0 : Int32) rfl hC dX11_leanNow_2 ?_
  refine v_istore (pc := 3) (lv' := [some (.ref (gad g 49)), some (.int x0_), some (.int x1_), some (.int (0 : Int32)), some (.int (0 : Int32)), none, none]) hC dX11_leanNow_3 rfl rfl rfl rfl ?_
  obtain ⟨w1, hw1, h⟩ := obd_s h
  have kx44 : V SS g M iX11_leanNow (PQ SS g M P) 147 [none, none, none, some (.int w1.1), none, none, none] [] w1.2 := by
    refine v_iload_n (pc := 147) hC dX11_leanNow_147 rfl ?_
    obtain rfl := Option.some.inj h
    exact v_iret (pc := 148) hC rfl dX11_leanNow_148 hP
  refine V.ls (ls_some (ls_some (ls_some (ls_some (ls_some (ls_none (ls_none ls_nil))))))) (v_loop (pc := 5) (fun a4 => [some (.ref (gad g 49)), some (.int x0_), some (.int x1_), some (.int a4.1), some (.int a4.2), none, none]) (fun z t => V SS g M iX11_leanNow (PQ SS g M P) 147 [none, none, none, some (.int z), none, none, none] [] t) (fun a4 s2 u3 hu3 k5 k6 => ?_) _ _ _ _ hw1 kx44)
  unfold fX11_leanNow_L5 at hu3
  refine v_iload (pc := 5) hC dX11_leanNow_5 rfl ?_
  refine v_aload_n (pc := 7) hC dX11_leanNow_7 rfl ?_
  refine v_gt (pc := 8) 3 (.int (gI s2 49 3)) hC s_49 rfl rfl rfl rfl fl_X11_98 dX11_leanNow_8 ?_
  refine v_ic_ge (pc := 11) (tgt := 147) hC dX11_leanNow_11 rfl (fun c8 => ?_) (fun c8 => ?_)
  · replace hu3 := (if_pos c8).symm.trans hu3
    obtain rfl := Option.some.inj hu3
    exact V.ls (ls_none (ls_none (ls_none (ls_some (ls_none (ls_none (ls_none ls_nil))))))) (k6 _ rfl)
  · replace hu3 := (if_neg c8).symm.trans hu3
    refine v_iconst (pc := 14) (0 : Int32) rfl hC dX11_leanNow_14 ?_
    refine v_istore (pc := 15) (lv' := [some (.ref (gad g 49)), some (.int x0_), some (.int x1_), some (.int a4.1), some (.int a4.2), some (.int (0 : Int32)), none]) hC dX11_leanNow_15 rfl rfl rfl rfl ?_
    obtain ⟨w9, hw9, hu3⟩ := obd_s hu3
    have kx43 : V SS g M iX11_leanNow (PQ SS g M P) 141 [some (.ref (gad g 49)), some (.int x0_), some (.int x1_), some (.int w9.1), some (.int a4.2), none, none] [] w9.2 := by
      obtain ⟨x10, hx10, hu3⟩ := bnd_s hu3
      refine v_iinc (pc := 141) (lv' := [some (.ref (gad g 49)), some (.int x0_), some (.int x1_), some (.int w9.1), some (.int x10), none, none]) (1 : Int32) rfl hx10 hC dX11_leanNow_141 rfl rfl rfl rfl ?_
      refine v_goto (pc := 144) (tgt := 5) hC dX11_leanNow_144 rfl ?_
      obtain rfl := Option.some.inj hu3
      exact V.ls (ls_some (ls_some (ls_some (ls_some (ls_some (ls_none (ls_none ls_nil))))))) (k5 _ rfl)
    refine V.ls (ls_some (ls_some (ls_some (ls_some (ls_some (ls_some (ls_none ls_nil))))))) (v_loop (pc := 17) (fun a13 => [some (.ref (gad g 49)), some (.int x0_), some (.int x1_), some (.int a13.1), some (.int a4.2), some (.int a13.2), none]) (fun z t => V SS g M iX11_leanNow (PQ SS g M P) 141 [some (.ref (gad g 49)), some (.int x0_), some (.int x1_), some (.int z), some (.int a4.2), none, none] [] t) (fun a13 s11 u12 hu12 k14 k15 => ?_) _ _ _ _ hw9 kx43)
    unfold fX11_leanNow_L17 at hu12
    refine v_iload (pc := 17) hC dX11_leanNow_17 rfl ?_
    refine v_aload_n (pc := 19) hC dX11_leanNow_19 rfl ?_
    refine v_gt (pc := 20) 3 (.int (gI s11 49 3)) hC s_49 rfl rfl rfl rfl fl_X11_98 dX11_leanNow_20 ?_
    refine v_ic_ge (pc := 23) (tgt := 141) hC dX11_leanNow_23 rfl (fun c17 => ?_) (fun c17 => ?_)
    · replace hu12 := (if_pos c17).symm.trans hu12
      obtain rfl := Option.some.inj hu12
      exact V.ls (ls_some (ls_some (ls_some (ls_some (ls_some (ls_none (ls_none ls_nil))))))) (k15 _ rfl)
    · replace hu12 := (if_neg c17).symm.trans hu12
      refine v_aload_n (pc := 26) hC dX11_leanNow_26 rfl ?_
      refine v_gt (pc := 27) 4 (.ref (gad g 52)) hC s_49 rfl rfl rfl rfl fl_X11_16 dX11_leanNow_27 ?_
      refine v_iload (pc := 30) hC dX11_leanNow_30 rfl ?_
      obtain ⟨v18, hv18, hu12⟩ := obd_s hu12
      refine v_aI (pc := 32) hC s_52 hv18 dX11_leanNow_32 ?_
      refine v_aload_n (pc := 33) hC dX11_leanNow_33 rfl ?_
      refine v_gt (pc := 34) 4 (.ref (gad g 52)) hC s_49 rfl rfl rfl rfl fl_X11_16 dX11_leanNow_34 ?_
      refine v_iload (pc := 37) hC dX11_leanNow_37 rfl ?_
      obtain ⟨v19, hv19, hu12⟩ := obd_s hu12
      refine v_aI (pc := 39) hC s_52 hv19 dX11_leanNow_39 ?_
      obtain ⟨w20, hw20, hu12⟩ := obd_s hu12
      have kj21 : V SS g M iX11_leanNow (PQ SS g M P) 135 [some (.ref (gad g 49)), some (.int x0_), some (.int x1_), some (.int w20.1), some (.int a4.2), some (.int a13.2), none] [] w20.2 := by
        obtain ⟨x22, hx22, hu12⟩ := bnd_s hu12
        refine v_iinc (pc := 135) (lv' := [some (.ref (gad g 49)), some (.int x0_), some (.int x1_), some (.int w20.1), some (.int a4.2), some (.int x22), none]) (1 : Int32) rfl hx22 hC dX11_leanNow_135 rfl rfl rfl rfl ?_
        refine v_goto (pc := 138) (tgt := 17) hC dX11_leanNow_138 rfl ?_
        obtain rfl := Option.some.inj hu12
        exact V.ls (ls_some (ls_some (ls_some (ls_some (ls_some (ls_some (ls_none ls_nil))))))) (k14 _ rfl)
      refine v_ic_ne (pc := 40) (tgt := 135) hC dX11_leanNow_40 rfl (fun c23 => ?_) (fun c23 => ?_)
      · replace hw20 := (if_neg c23).symm.trans hw20
        obtain rfl := Option.some.inj hw20
        exact V.ls (ls_some (ls_some (ls_some (ls_some (ls_some (ls_some (ls_none ls_nil))))))) kj21
      · replace hw20 := (if_pos c23).symm.trans hw20
        refine v_aload_n (pc := 43) hC dX11_leanNow_43 rfl ?_
        refine v_gt (pc := 44) 6 (.ref (gad g 54)) hC s_49 rfl rfl rfl rfl fl_X11_22 dX11_leanNow_44 ?_
        refine v_iload (pc := 47) hC dX11_leanNow_47 rfl ?_
        obtain ⟨v24, hv24, hw20⟩ := obd_s hw20
        refine v_aI (pc := 49) hC s_54 hv24 dX11_leanNow_49 ?_
        refine v_aload_n (pc := 50) hC dX11_leanNow_50 rfl ?_
        refine v_gt (pc := 51) 6 (.ref (gad g 54)) hC s_49 rfl rfl rfl rfl fl_X11_22 dX11_leanNow_51 ?_
        refine v_iload (pc := 54) hC dX11_leanNow_54 rfl ?_
        obtain ⟨v25, hv25, hw20⟩ := obd_s hw20
        refine v_aI (pc := 56) hC s_54 hv25 dX11_leanNow_56 ?_
        refine v_ic_le (pc := 57) (tgt := 135) hC dX11_leanNow_57 rfl (fun c26 => ?_) (fun c26 => ?_)
        · replace hw20 := (if_pos c26).symm.trans hw20
          obtain rfl := Option.some.inj hw20
          exact V.ls (ls_some (ls_some (ls_some (ls_some (ls_some (ls_some (ls_none ls_nil))))))) kj21
        · replace hw20 := (if_neg c26).symm.trans hw20
          refine v_aload_n (pc := 60) hC dX11_leanNow_60 rfl ?_
          refine v_gt (pc := 61) 2 (.ref (gad g 51)) hC s_49 rfl rfl rfl rfl fl_X11_13 dX11_leanNow_61 ?_
          refine v_aload_n (pc := 64) hC dX11_leanNow_64 rfl ?_
          refine v_gt (pc := 65) 4 (.ref (gad g 52)) hC s_49 rfl rfl rfl rfl fl_X11_16 dX11_leanNow_65 ?_
          refine v_iload (pc := 68) hC dX11_leanNow_68 rfl ?_
          obtain ⟨v27, hv27, hw20⟩ := obd_s hw20
          refine v_aI (pc := 70) hC s_52 hv27 dX11_leanNow_70 ?_
          obtain ⟨v28, hv28, hw20⟩ := obd_s hw20
          refine v_aI (pc := 71) hC s_51 hv28 dX11_leanNow_71 ?_
          refine v_iload_n (pc := 72) hC dX11_leanNow_72 rfl ?_
          refine v_iload_n (pc := 73) hC dX11_leanNow_73 rfl ?_
          obtain ⟨w29, hw29, hw20⟩ := obd_s hw20
          refine v_cS (pc := 74) [] [.int w29.1] gm_X11_in hC (ct_X11_in  hw29) ml_X11_94 rfl rfl rfl rfl rfl rfl dX11_leanNow_74 ?_
          refine v_if_eq (pc := 77) (tgt := 135) hC dX11_leanNow_77 rfl (fun c30 => ?_) (fun c30 => ?_)
          · replace hw20 := (if_pos c30).symm.trans hw20
            obtain rfl := Option.some.inj hw20
            exact V.ls (ls_some (ls_some (ls_some (ls_some (ls_some (ls_some (ls_none ls_nil))))))) kj21
          · replace hw20 := (if_neg c30).symm.trans hw20
            refine v_aload_n (pc := 80) hC dX11_leanNow_80 rfl ?_
            refine v_iload (pc := 81) hC dX11_leanNow_81 rfl ?_
            obtain ⟨w31, hw31, hw20⟩ := obd_s hw20
            refine v_cV (pc := 83) [] [.int w31.1] gm_X11_hasDiff hC s_49 rfl rfl (ct_X11_hasDiff  hw31) ml_X11_148 rfl rfl rfl rfl rfl rfl dX11_leanNow_83 ?_
            refine v_if_eq (pc := 86) (tgt := 135) hC dX11_leanNow_86 rfl (fun c32 => ?_) (fun c32 => ?_)
            · replace hw20 := (if_pos c32).symm.trans hw20
              obtain rfl := Option.some.inj hw20
              exact V.ls (ls_some (ls_some (ls_some (ls_some (ls_some (ls_some (ls_none ls_nil))))))) kj21
            · replace hw20 := (if_neg c32).symm.trans hw20
              refine v_aload_n (pc := 89) hC dX11_leanNow_89 rfl ?_
              refine v_iload (pc := 90) hC dX11_leanNow_90 rfl ?_
              obtain ⟨w33, hw33, hw20⟩ := obd_s hw20
              refine v_cV (pc := 92) [] [.int w33.1] gm_X11_hasDiff hC s_49 rfl rfl (ct_X11_hasDiff  hw33) ml_X11_148 rfl rfl rfl rfl rfl rfl dX11_leanNow_92 ?_
              refine v_if_eq (pc := 95) (tgt := 135) hC dX11_leanNow_95 rfl (fun c34 => ?_) (fun c34 => ?_)
              · replace hw20 := (if_pos c34).symm.trans hw20
                obtain rfl := Option.some.inj hw20
                exact V.ls (ls_some (ls_some (ls_some (ls_some (ls_some (ls_some (ls_none ls_nil))))))) kj21
              · replace hw20 := (if_neg c34).symm.trans hw20
                refine v_aload_n (pc := 98) hC dX11_leanNow_98 rfl ?_
                refine v_iload (pc := 99) hC dX11_leanNow_99 rfl ?_
                obtain ⟨w35, hw35, hw20⟩ := obd_s hw20
                refine v_cV (pc := 101) [] [.int w35.1] gm_X11_twiceDiff hC s_49 rfl rfl (ct_X11_twiceDiff  hw35) ml_X11_151 rfl rfl rfl rfl rfl rfl dX11_leanNow_101 ?_
                refine v_aload_n (pc := 104) hC dX11_leanNow_104 rfl ?_
                refine v_iload (pc := 105) hC dX11_leanNow_105 rfl ?_
                obtain ⟨w36, hw36, hw20⟩ := obd_s hw20
                refine v_cV (pc := 107) [.int w35.1] [.int w36.1, .int w35.1] gm_X11_twiceDiff hC s_49 rfl rfl (ct_X11_twiceDiff  hw36) ml_X11_151 rfl rfl rfl rfl rfl rfl dX11_leanNow_107 ?_
                refine v_isub (pc := 110) hC dX11_leanNow_110 ?_
                obtain ⟨x37, hx37, hw20⟩ := bnd_s hw20
                refine v_istore (pc := 111) (lv' := [some (.ref (gad g 49)), some (.int x0_), some (.int x1_), some (.int a13.1), some (.int a4.2), some (.int a13.2), some (.int x37)]) hC dX11_leanNow_111 hx37 rfl rfl rfl ?_
                refine v_iload_n (pc := 113) hC dX11_leanNow_113 rfl ?_
                refine v_iload (pc := 114) hC dX11_leanNow_114 rfl ?_
                obtain ⟨w38, hw38, hw20⟩ := obd_s hw20
                have kj39 : V SS g M iX11_leanNow (PQ SS g M P) 133 [some (.ref (gad g 49)), some (.int x0_), some (.int x1_), none, some (.int a4.2), some (.int a13.2), none] [.int w38, .int a13.1] w36.2 := by
                  refine v_iadd (pc := 133) hC dX11_leanNow_133 ?_
                  obtain ⟨x40, hx40, hw20⟩ := bnd_s hw20
                  refine v_istore_n (pc := 134) (lv' := [some (.ref (gad g 49)), some (.int x0_), some (.int x1_), some (.int x40), some (.int a4.2), some (.int a13.2), none]) hC dX11_leanNow_134 hx40 rfl rfl rfl ?_
                  obtain rfl := Option.some.inj hw20
                  exact V.ls (ls_some (ls_some (ls_some (ls_some (ls_some (ls_some (ls_none ls_nil))))))) kj21
                refine v_if_le (pc := 116) (tgt := 123) hC dX11_leanNow_116 rfl (fun c42 => ?_) (fun c42 => ?_)
                · replace hw38 := (if_pos c42).symm.trans hw38
                  refine v_iload (pc := 123) hC dX11_leanNow_123 rfl ?_
                  refine v_if_ge (pc := 125) (tgt := 132) hC dX11_leanNow_125 rfl (fun c41 => ?_) (fun c41 => ?_)
                  · replace hw38 := (if_pos c41).symm.trans hw38
                    refine v_iconst (pc := 132) (0 : Int32) rfl hC dX11_leanNow_132 ?_
                    obtain rfl := Option.some.inj hw38
                    exact V.ls (ls_some (ls_some (ls_some (ls_none (ls_some (ls_some (ls_none ls_nil))))))) kj39
                  · replace hw38 := (if_neg c41).symm.trans hw38
                    refine v_iconst (pc := 128) (-1 : Int32) rfl hC dX11_leanNow_128 ?_
                    refine v_goto (pc := 129) (tgt := 133) hC dX11_leanNow_129 rfl ?_
                    obtain rfl := Option.some.inj hw38
                    exact V.ls (ls_some (ls_some (ls_some (ls_none (ls_some (ls_some (ls_none ls_nil))))))) kj39
                · replace hw38 := (if_neg c42).symm.trans hw38
                  refine v_iconst (pc := 119) (1 : Int32) rfl hC dX11_leanNow_119 ?_
                  refine v_goto (pc := 120) (tgt := 133) hC dX11_leanNow_120 rfl ?_
                  obtain rfl := Option.some.inj hw38
                  exact V.ls (ls_some (ls_some (ls_some (ls_none (ls_some (ls_some (ls_none ls_nil))))))) kj39
theorem dX11_lean_0 : decode cX11_lean 0 = .ok (.iload_n 1, 1) := by decide +kernel
theorem dX11_lean_1 : decode cX11_lean 1 = .ok (.iconst 0, 1) := by decide +kernel
theorem dX11_lean_2 : decode cX11_lean 2 = .ok (.bipush 9, 2) := by decide +kernel
theorem dX11_lean_4 : decode cX11_lean 4 = .ok (.invokestatic 94, 3) := by decide +kernel
theorem dX11_lean_7 : decode cX11_lean 7 = .ok (.ifCond .eq 22, 3) := by decide +kernel
theorem dX11_lean_10 : decode cX11_lean 10 = .ok (.iload_n 2, 1) := by decide +kernel
theorem dX11_lean_11 : decode cX11_lean 11 = .ok (.iload_n 1, 1) := by decide +kernel
theorem dX11_lean_12 : decode cX11_lean 12 = .ok (.bipush 9, 2) := by decide +kernel
theorem dX11_lean_14 : decode cX11_lean 14 = .ok (.invokestatic 94, 3) := by decide +kernel
theorem dX11_lean_17 : decode cX11_lean 17 = .ok (.ifCond .eq 12, 3) := by decide +kernel
theorem dX11_lean_20 : decode cX11_lean 20 = .ok (.aload_n 0, 1) := by decide +kernel
theorem dX11_lean_21 : decode cX11_lean 21 = .ok (.iload_n 1, 1) := by decide +kernel
theorem dX11_lean_22 : decode cX11_lean 22 = .ok (.iload_n 2, 1) := by decide +kernel
theorem dX11_lean_23 : decode cX11_lean 23 = .ok (.invokevirtual 198, 3) := by decide +kernel
theorem dX11_lean_26 : decode cX11_lean 26 = .ok (.goto 6, 3) := by decide +kernel
theorem dX11_lean_29 : decode cX11_lean 29 = .ok (.sipush (-9999), 3) := by decide +kernel
theorem dX11_lean_32 : decode cX11_lean 32 = .ok (.ireturn, 1) := by decide +kernel
def fX11_lean (x0_ : Int32) (x1_ : Int32) (s : Sg) : Option (Int32 × Sg) :=
  (fX11_in x0_ (0 : Int32) (9 : Int32) s).bind fun w1 =>
  if w1.1 = 0 then
  some ((-9999 : Int32), w1.2)
  else
  (fX11_in x1_ x0_ (9 : Int32) w1.2).bind fun w3 =>
  if w3.1 = 0 then
  some ((-9999 : Int32), w3.2)
  else
  (fX11_leanNow x0_ x1_ w3.2).bind fun w5 =>
  some (w5.1, w5.2)
theorem ct_X11_lean {g : Gl} {x0_ : Int32} {x1_ : Int32} {s : Sg} {w : Int32 × Sg}  (h : fX11_lean x0_ x1_ s = some w) : Ct SS g iX11_lean 4 95 [.ref (gad g 49), .int x0_, .int x1_] s (Dt (some (.int w.1)) w.2) := by
  refine Ct.ofV (by decide +kernel) 0 (lv0 := [some (.ref (gad g 49)), some (.int x0_), some (.int x1_)]) rfl rfl (fun M hC => ?_)
  have hP : (Dt (some (.int w.1)) w.2) (some (.int w.1)) w.2 := ⟨rfl, rfl⟩
  generalize Dt (some (.int w.1)) w.2 = P at hP ⊢
  unfold fX11_lean at h
  refine v_iload_n (pc := 0) hC dX11_lean_0 rfl ?_
  refine v_iconst (pc := 1) (0 : Int32) rfl hC dX11_lean_1 ?_
  refine v_bipush (pc := 2) (9 : Int32) rfl hC dX11_lean_2 ?_
  obtain ⟨w1, hw1, h⟩ := obd_s h
  refine v_cS (pc := 4) [] [.int w1.1] gm_X11_in hC (ct_X11_in  hw1) ml_X11_94 rfl rfl rfl rfl rfl rfl dX11_lean_4 ?_
  refine v_if_eq (pc := 7) (tgt := 29) hC dX11_lean_7 rfl (fun c2 => ?_) (fun c2 => ?_)
  · replace h := (if_pos c2).symm.trans h
    refine v_sipush (pc := 29) (-9999 : Int32) rfl hC dX11_lean_29 ?_
    obtain rfl := Option.some.inj h
    exact v_iret (pc := 32) hC rfl dX11_lean_32 hP
  · replace h := (if_neg c2).symm.trans h
    refine v_iload_n (pc := 10) hC dX11_lean_10 rfl ?_
    refine v_iload_n (pc := 11) hC dX11_lean_11 rfl ?_
    refine v_bipush (pc := 12) (9 : Int32) rfl hC dX11_lean_12 ?_
    obtain ⟨w3, hw3, h⟩ := obd_s h
    refine v_cS (pc := 14) [] [.int w3.1] gm_X11_in hC (ct_X11_in  hw3) ml_X11_94 rfl rfl rfl rfl rfl rfl dX11_lean_14 ?_
    refine v_if_eq (pc := 17) (tgt := 29) hC dX11_lean_17 rfl (fun c4 => ?_) (fun c4 => ?_)
    · replace h := (if_pos c4).symm.trans h
      refine v_sipush (pc := 29) (-9999 : Int32) rfl hC dX11_lean_29 ?_
      obtain rfl := Option.some.inj h
      exact v_iret (pc := 32) hC rfl dX11_lean_32 hP
    · replace h := (if_neg c4).symm.trans h
      refine v_aload_n (pc := 20) hC dX11_lean_20 rfl ?_
      refine v_iload_n (pc := 21) hC dX11_lean_21 rfl ?_
      refine v_iload_n (pc := 22) hC dX11_lean_22 rfl ?_
      obtain ⟨w5, hw5, h⟩ := obd_s h
      refine v_cV (pc := 23) [] [.int w5.1] gm_X11_leanNow hC s_49 rfl rfl (ct_X11_leanNow  hw5) ml_X11_198 rfl rfl rfl rfl rfl rfl dX11_lean_23 ?_
      refine v_goto (pc := 26) (tgt := 32) hC dX11_lean_26 rfl ?_
      obtain rfl := Option.some.inj h
      exact v_iret (pc := 32) hC rfl dX11_lean_32 hP
theorem dX11_turns_0 : decode cX11_turns 0 = .ok (.iload_n 1, 1) := by decide +kernel
theorem dX11_turns_1 : decode cX11_turns 1 = .ok (.iconst 2, 1) := by decide +kernel
theorem dX11_turns_2 : decode cX11_turns 2 = .ok (.isub, 1) := by decide +kernel
theorem dX11_turns_3 : decode cX11_turns 3 = .ok (.istore_n 2, 1) := by decide +kernel
theorem dX11_turns_4 : decode cX11_turns 4 = .ok (.iload_n 2, 1) := by decide +kernel
theorem dX11_turns_5 : decode cX11_turns 5 = .ok (.ifCond .lt 26, 3) := by decide +kernel
theorem dX11_turns_8 : decode cX11_turns 8 = .ok (.aload_n 0, 1) := by decide +kernel
theorem dX11_turns_9 : decode cX11_turns 9 = .ok (.getfield 47, 3) := by decide +kernel
theorem dX11_turns_12 : decode cX11_turns 12 = .ok (.iload_n 2, 1) := by decide +kernel
theorem dX11_turns_13 : decode cX11_turns 13 = .ok (.iaload, 1) := by decide +kernel
theorem dX11_turns_14 : decode cX11_turns 14 = .ok (.aload_n 0, 1) := by decide +kernel
theorem dX11_turns_15 : decode cX11_turns 15 = .ok (.getfield 47, 3) := by decide +kernel
theorem dX11_turns_18 : decode cX11_turns 18 = .ok (.iload_n 2, 1) := by decide +kernel
theorem dX11_turns_19 : decode cX11_turns 19 = .ok (.iconst 1, 1) := by decide +kernel
theorem dX11_turns_20 : decode cX11_turns 20 = .ok (.iadd, 1) := by decide +kernel
theorem dX11_turns_21 : decode cX11_turns 21 = .ok (.iaload, 1) := by decide +kernel
theorem dX11_turns_22 : decode cX11_turns 22 = .ok (.if_icmp .le 9, 3) := by decide +kernel
theorem dX11_turns_25 : decode cX11_turns 25 = .ok (.iinc 2 (-1), 3) := by decide +kernel
theorem dX11_turns_28 : decode cX11_turns 28 = .ok (.goto (-24), 3) := by decide +kernel
theorem dX11_turns_31 : decode cX11_turns 31 = .ok (.iload_n 2, 1) := by decide +kernel
theorem dX11_turns_32 : decode cX11_turns 32 = .ok (.ifCond .ge 5, 3) := by decide +kernel
theorem dX11_turns_35 : decode cX11_turns 35 = .ok (.iconst 0, 1) := by decide +kernel
theorem dX11_turns_36 : decode cX11_turns 36 = .ok (.ireturn, 1) := by decide +kernel
theorem dX11_turns_37 : decode cX11_turns 37 = .ok (.iload_n 1, 1) := by decide +kernel
theorem dX11_turns_38 : decode cX11_turns 38 = .ok (.iconst 1, 1) := by decide +kernel
theorem dX11_turns_39 : decode cX11_turns 39 = .ok (.isub, 1) := by decide +kernel
theorem dX11_turns_40 : decode cX11_turns 40 = .ok (.istore_n 3, 1) := by decide +kernel
theorem dX11_turns_41 : decode cX11_turns 41 = .ok (.aload_n 0, 1) := by decide +kernel
theorem dX11_turns_42 : decode cX11_turns 42 = .ok (.getfield 47, 3) := by decide +kernel
theorem dX11_turns_45 : decode cX11_turns 45 = .ok (.iload_n 3, 1) := by decide +kernel
theorem dX11_turns_46 : decode cX11_turns 46 = .ok (.iaload, 1) := by decide +kernel
theorem dX11_turns_47 : decode cX11_turns 47 = .ok (.aload_n 0, 1) := by decide +kernel
theorem dX11_turns_48 : decode cX11_turns 48 = .ok (.getfield 47, 3) := by decide +kernel
theorem dX11_turns_51 : decode cX11_turns 51 = .ok (.iload_n 2, 1) := by decide +kernel
theorem dX11_turns_52 : decode cX11_turns 52 = .ok (.iaload, 1) := by decide +kernel
theorem dX11_turns_53 : decode cX11_turns 53 = .ok (.if_icmp .ge 9, 3) := by decide +kernel
theorem dX11_turns_56 : decode cX11_turns 56 = .ok (.iinc 3 (-1), 3) := by decide +kernel
theorem dX11_turns_59 : decode cX11_turns 59 = .ok (.goto (-18), 3) := by decide +kernel
theorem dX11_turns_62 : decode cX11_turns 62 = .ok (.aload_n 0, 1) := by decide +kernel
theorem dX11_turns_63 : decode cX11_turns 63 = .ok (.getfield 47, 3) := by decide +kernel
theorem dX11_turns_66 : decode cX11_turns 66 = .ok (.iload_n 2, 1) := by decide +kernel
theorem dX11_turns_67 : decode cX11_turns 67 = .ok (.iaload, 1) := by decide +kernel
theorem dX11_turns_68 : decode cX11_turns 68 = .ok (.istore 4, 2) := by decide +kernel
theorem dX11_turns_70 : decode cX11_turns 70 = .ok (.aload_n 0, 1) := by decide +kernel
theorem dX11_turns_71 : decode cX11_turns 71 = .ok (.getfield 47, 3) := by decide +kernel
theorem dX11_turns_74 : decode cX11_turns 74 = .ok (.iload_n 2, 1) := by decide +kernel
theorem dX11_turns_75 : decode cX11_turns 75 = .ok (.aload_n 0, 1) := by decide +kernel
theorem dX11_turns_76 : decode cX11_turns 76 = .ok (.getfield 47, 3) := by decide +kernel
theorem dX11_turns_79 : decode cX11_turns 79 = .ok (.iload_n 3, 1) := by decide +kernel
theorem dX11_turns_80 : decode cX11_turns 80 = .ok (.iaload, 1) := by decide +kernel
theorem dX11_turns_81 : decode cX11_turns 81 = .ok (.iastore, 1) := by decide +kernel
theorem dX11_turns_82 : decode cX11_turns 82 = .ok (.aload_n 0, 1) := by decide +kernel
theorem dX11_turns_83 : decode cX11_turns 83 = .ok (.getfield 47, 3) := by decide +kernel
theorem dX11_turns_86 : decode cX11_turns 86 = .ok (.iload_n 3, 1) := by decide +kernel
theorem dX11_turns_87 : decode cX11_turns 87 = .ok (.iload 4, 2) := by decide +kernel
theorem dX11_turns_89 : decode cX11_turns 89 = .ok (.iastore, 1) := by decide +kernel
theorem dX11_turns_90 : decode cX11_turns 90 = .ok (.iload_n 2, 1) := by decide +kernel
theorem dX11_turns_91 : decode cX11_turns 91 = .ok (.iconst 1, 1) := by decide +kernel
theorem dX11_turns_92 : decode cX11_turns 92 = .ok (.iadd, 1) := by decide +kernel
theorem dX11_turns_93 : decode cX11_turns 93 = .ok (.istore 5, 2) := by decide +kernel
theorem dX11_turns_95 : decode cX11_turns 95 = .ok (.iload_n 1, 1) := by decide +kernel
theorem dX11_turns_96 : decode cX11_turns 96 = .ok (.iconst 1, 1) := by decide +kernel
theorem dX11_turns_97 : decode cX11_turns 97 = .ok (.isub, 1) := by decide +kernel
theorem dX11_turns_98 : decode cX11_turns 98 = .ok (.istore 6, 2) := by decide +kernel
theorem dX11_turns_100 : decode cX11_turns 100 = .ok (.iload 5, 2) := by decide +kernel
theorem dX11_turns_102 : decode cX11_turns 102 = .ok (.iload 6, 2) := by decide +kernel
theorem dX11_turns_104 : decode cX11_turns 104 = .ok (.if_icmp .ge 44, 3) := by decide +kernel
theorem dX11_turns_107 : decode cX11_turns 107 = .ok (.aload_n 0, 1) := by decide +kernel
theorem dX11_turns_108 : decode cX11_turns 108 = .ok (.getfield 47, 3) := by decide +kernel
theorem dX11_turns_111 : decode cX11_turns 111 = .ok (.iload 5, 2) := by decide +kernel
theorem dX11_turns_113 : decode cX11_turns 113 = .ok (.iaload, 1) := by decide +kernel
theorem dX11_turns_114 : decode cX11_turns 114 = .ok (.istore 4, 2) := by decide +kernel
theorem dX11_turns_116 : decode cX11_turns 116 = .ok (.aload_n 0, 1) := by decide +kernel
theorem dX11_turns_117 : decode cX11_turns 117 = .ok (.getfield 47, 3) := by decide +kernel
theorem dX11_turns_120 : decode cX11_turns 120 = .ok (.iload 5, 2) := by decide +kernel
theorem dX11_turns_122 : decode cX11_turns 122 = .ok (.aload_n 0, 1) := by decide +kernel
theorem dX11_turns_123 : decode cX11_turns 123 = .ok (.getfield 47, 3) := by decide +kernel
theorem dX11_turns_126 : decode cX11_turns 126 = .ok (.iload 6, 2) := by decide +kernel
theorem dX11_turns_128 : decode cX11_turns 128 = .ok (.iaload, 1) := by decide +kernel
theorem dX11_turns_129 : decode cX11_turns 129 = .ok (.iastore, 1) := by decide +kernel
theorem dX11_turns_130 : decode cX11_turns 130 = .ok (.aload_n 0, 1) := by decide +kernel
theorem dX11_turns_131 : decode cX11_turns 131 = .ok (.getfield 47, 3) := by decide +kernel
theorem dX11_turns_134 : decode cX11_turns 134 = .ok (.iload 6, 2) := by decide +kernel
theorem dX11_turns_136 : decode cX11_turns 136 = .ok (.iload 4, 2) := by decide +kernel
theorem dX11_turns_138 : decode cX11_turns 138 = .ok (.iastore, 1) := by decide +kernel
theorem dX11_turns_139 : decode cX11_turns 139 = .ok (.iinc 5 1, 3) := by decide +kernel
theorem dX11_turns_142 : decode cX11_turns 142 = .ok (.iinc 6 (-1), 3) := by decide +kernel
theorem dX11_turns_145 : decode cX11_turns 145 = .ok (.goto (-45), 3) := by decide +kernel
theorem dX11_turns_148 : decode cX11_turns 148 = .ok (.iconst 1, 1) := by decide +kernel
theorem dX11_turns_149 : decode cX11_turns 149 = .ok (.ireturn, 1) := by decide +kernel
def fX11_turns_L4 (p1 : Int32) (a : Int32) (s : Sg) : Option (((Int32) ⊕ (Int32)) × Sg) :=
  if a < 0 then
  some (.inr a, s)
  else
  (aI s 62 8 a).bind fun v2 =>
  (aI s 62 8 (a + (1 : Int32))).bind fun v3 =>
  if v2 ≤ v3 then
  some (.inr a, s)
  else
  bnd (a + (-1 : Int32)) fun x5 =>
  some (.inl x5, s)
def fX11_turns_L41 (p1 : Int32) (p2 : Int32) (a : Int32) (s : Sg) : Option (((Int32) ⊕ (Int32)) × Sg) :=
  (aI s 62 8 a).bind fun v1 =>
  (aI s 62 8 p2).bind fun v2 =>
  if v2 ≤ v1 then
  some (.inr a, s)
  else
  bnd (a + (-1 : Int32)) fun x4 =>
  some (.inl x4, s)
def fX11_turns_L100  (a : Int32 × Int32) (s : Sg) : Option (((Int32 × Int32) ⊕ (Unit)) × Sg) :=
  if a.2 ≤ a.1 then
  some (.inr (), s)
  else
  (aI s 62 8 a.1).bind fun v2 =>
  (aI s 62 8 a.2).bind fun v3 =>
  (wI s 62 8 a.1 v3).bind fun s4 =>
  (wI s4 62 8 a.2 v2).bind fun s5 =>
  bnd (a.1 + (1 : Int32)) fun x6 =>
  bnd (a.2 + (-1 : Int32)) fun x7 =>
  some (.inl (x6, x7), s5)
def fX11_turns (x0_ : Int32) (s : Sg) : Option (Int32 × Sg) :=
  bnd (x0_ - (2 : Int32)) fun x1 =>
  (lpG (fX11_turns_L4 x0_) FU x1 s).bind fun w2 =>
  if 0 ≤ w2.1 then
  bnd (x0_ - (1 : Int32)) fun x3 =>
  (lpG (fX11_turns_L41 x0_ w2.1) FU x3 w2.2).bind fun w4 =>
  (aI w4.2 62 8 w2.1).bind fun v5 =>
  (aI w4.2 62 8 w4.1).bind fun v6 =>
  (wI w4.2 62 8 w2.1 v6).bind fun s7 =>
  (wI s7 62 8 w4.1 v5).bind fun s8 =>
  bnd (w2.1 + (1 : Int32)) fun x9 =>
  bnd (x0_ - (1 : Int32)) fun x10 =>
  (lpG (fX11_turns_L100) FU (x9, x10) s8).bind fun w11 =>
  some ((1 : Int32), w11.2)
  else
  some ((0 : Int32), w2.2)
theorem ct_X11_turns {g : Gl} {x0_ : Int32} {s : Sg} {w : Int32 × Sg}  (h : fX11_turns x0_ s = some w) : Ct SS g iX11_turns 0 0 [.ref (gad g 49), .int x0_] s (Dt (some (.int w.1)) w.2) := by
  refine Ct.ofV (by decide +kernel) 5 (lv0 := [some (.ref (gad g 49)), some (.int x0_), none, none, none, none, none]) rfl rfl (fun M hC => ?_)
  have hP : (Dt (some (.int w.1)) w.2) (some (.int w.1)) w.2 := ⟨rfl, rfl⟩
  generalize Dt (some (.int w.1)) w.2 = P at hP ⊢
  unfold fX11_turns at h
  refine v_iload_n (pc := 0) hC dX11_turns_0 rfl ?_
  refine v_iconst (pc := 1) (2 : Int32) rfl hC dX11_turns_1 ?_
  refine v_isub (pc := 2) hC dX11_turns_2 ?_
  obtain ⟨x1, hx1, h⟩ := bnd_s h
  refine v_istore_n (pc := 3) (lv' := [some (.ref (gad g 49)), some (.int x0_), some (.int x1), none, none, none, none]) hC dX11_turns_3 hx1 rfl rfl rfl ?_
  obtain ⟨w2, hw2, h⟩ := obd_s h
  have kx49 : V SS g M iX11_turns (PQ SS g M P) 31 [some (.ref (gad g 49)), some (.int x0_), some (.int w2.1), none, none, none, none] [] w2.2 := by
    refine v_iload_n (pc := 31) hC dX11_turns_31 rfl ?_
    refine v_if_ge (pc := 32) (tgt := 37) hC dX11_turns_32 rfl (fun c37 => ?_) (fun c37 => ?_)
    · replace h := (if_pos c37).symm.trans h
      refine v_iload_n (pc := 37) hC dX11_turns_37 rfl ?_
      refine v_iconst (pc := 38) (1 : Int32) rfl hC dX11_turns_38 ?_
      refine v_isub (pc := 39) hC dX11_turns_39 ?_
      obtain ⟨x3, hx3, h⟩ := bnd_s h
      refine v_istore_n (pc := 40) (lv' := [some (.ref (gad g 49)), some (.int x0_), some (.int w2.1), some (.int x3), none, none, none]) hC dX11_turns_40 hx3 rfl rfl rfl ?_
      obtain ⟨w4, hw4, h⟩ := obd_s h
      have kx36 : V SS g M iX11_turns (PQ SS g M P) 62 [some (.ref (gad g 49)), some (.int x0_), some (.int w2.1), some (.int w4.1), none, none, none] [] w4.2 := by
        refine v_aload_n (pc := 62) hC dX11_turns_62 rfl ?_
        refine v_gt (pc := 63) 16 (.ref (gad g 62)) hC s_49 rfl rfl rfl rfl fl_X11_47 dX11_turns_63 ?_
        refine v_iload_n (pc := 66) hC dX11_turns_66 rfl ?_
        obtain ⟨v5, hv5, h⟩ := obd_s h
        refine v_aI (pc := 67) hC s_62 hv5 dX11_turns_67 ?_
        refine v_istore (pc := 68) (lv' := [some (.ref (gad g 49)), some (.int x0_), some (.int w2.1), some (.int w4.1), some (.int v5), none, none]) hC dX11_turns_68 rfl rfl rfl rfl ?_
        refine v_aload_n (pc := 70) hC dX11_turns_70 rfl ?_
        refine v_gt (pc := 71) 16 (.ref (gad g 62)) hC s_49 rfl rfl rfl rfl fl_X11_47 dX11_turns_71 ?_
        refine v_iload_n (pc := 74) hC dX11_turns_74 rfl ?_
        refine v_aload_n (pc := 75) hC dX11_turns_75 rfl ?_
        refine v_gt (pc := 76) 16 (.ref (gad g 62)) hC s_49 rfl rfl rfl rfl fl_X11_47 dX11_turns_76 ?_
        refine v_iload_n (pc := 79) hC dX11_turns_79 rfl ?_
        obtain ⟨v6, hv6, h⟩ := obd_s h
        refine v_aI (pc := 80) hC s_62 hv6 dX11_turns_80 ?_
        obtain ⟨s7, hs7, h⟩ := obd_s h
        refine v_wI (pc := 81) hC s_62 hs7 dX11_turns_81 ?_
        refine v_aload_n (pc := 82) hC dX11_turns_82 rfl ?_
        refine v_gt (pc := 83) 16 (.ref (gad g 62)) hC s_49 rfl rfl rfl rfl fl_X11_47 dX11_turns_83 ?_
        refine v_iload_n (pc := 86) hC dX11_turns_86 rfl ?_
        refine v_iload (pc := 87) hC dX11_turns_87 rfl ?_
        obtain ⟨s8, hs8, h⟩ := obd_s h
        refine v_wI (pc := 89) hC s_62 hs8 dX11_turns_89 ?_
        refine v_iload_n (pc := 90) hC dX11_turns_90 rfl ?_
        refine v_iconst (pc := 91) (1 : Int32) rfl hC dX11_turns_91 ?_
        refine v_iadd (pc := 92) hC dX11_turns_92 ?_
        obtain ⟨x9, hx9, h⟩ := bnd_s h
        refine v_istore (pc := 93) (lv' := [some (.ref (gad g 49)), some (.int x0_), some (.int w2.1), some (.int w4.1), some (.int v5), some (.int x9), none]) hC dX11_turns_93 hx9 rfl rfl rfl ?_
        refine v_iload_n (pc := 95) hC dX11_turns_95 rfl ?_
        refine v_iconst (pc := 96) (1 : Int32) rfl hC dX11_turns_96 ?_
        refine v_isub (pc := 97) hC dX11_turns_97 ?_
        obtain ⟨x10, hx10, h⟩ := bnd_s h
        refine v_istore (pc := 98) (lv' := [some (.ref (gad g 49)), some (.int x0_), some (.int w2.1), some (.int w4.1), some (.int v5), some (.int x9), some (.int x10)]) hC dX11_turns_98 hx10 rfl rfl rfl ?_
        obtain ⟨w11, hw11, h⟩ := obd_s h
        have kx25 : V SS g M iX11_turns (PQ SS g M P) 148 [none, none, none, none, none, none, none] [] w11.2 := by
          refine v_iconst (pc := 148) (1 : Int32) rfl hC dX11_turns_148 ?_
          obtain rfl := Option.some.inj h
          exact v_zret (pc := 149) hC rfl rfl dX11_turns_149 hP
        refine V.ls (ls_some (ls_none (ls_none (ls_none (ls_none (ls_some (ls_some ls_nil))))))) (v_loop (pc := 100) (fun a14 => [some (.ref (gad g 49)), none, none, none, none, some (.int a14.1), some (.int a14.2)]) (fun z t => V SS g M iX11_turns (PQ SS g M P) 148 [none, none, none, none, none, none, none] [] t) (fun a14 s12 u13 hu13 k15 k16 => ?_) _ _ _ _ hw11 kx25)
        unfold fX11_turns_L100 at hu13
        refine v_iload (pc := 100) hC dX11_turns_100 rfl ?_
        refine v_iload (pc := 102) hC dX11_turns_102 rfl ?_
        refine v_ic_ge (pc := 104) (tgt := 148) hC dX11_turns_104 rfl (fun c18 => ?_) (fun c18 => ?_)
        · replace hu13 := (if_pos c18).symm.trans hu13
          obtain rfl := Option.some.inj hu13
          exact V.ls (ls_none (ls_none (ls_none (ls_none (ls_none (ls_none (ls_none ls_nil))))))) (k16 _ rfl)
        · replace hu13 := (if_neg c18).symm.trans hu13
          refine v_aload_n (pc := 107) hC dX11_turns_107 rfl ?_
          refine v_gt (pc := 108) 16 (.ref (gad g 62)) hC s_49 rfl rfl rfl rfl fl_X11_47 dX11_turns_108 ?_
          refine v_iload (pc := 111) hC dX11_turns_111 rfl ?_
          obtain ⟨v19, hv19, hu13⟩ := obd_s hu13
          refine v_aI (pc := 113) hC s_62 hv19 dX11_turns_113 ?_
          refine v_istore (pc := 114) (lv' := [some (.ref (gad g 49)), none, none, none, some (.int v19), some (.int a14.1), some (.int a14.2)]) hC dX11_turns_114 rfl rfl rfl rfl ?_
          refine v_aload_n (pc := 116) hC dX11_turns_116 rfl ?_
          refine v_gt (pc := 117) 16 (.ref (gad g 62)) hC s_49 rfl rfl rfl rfl fl_X11_47 dX11_turns_117 ?_
          refine v_iload (pc := 120) hC dX11_turns_120 rfl ?_
          refine v_aload_n (pc := 122) hC dX11_turns_122 rfl ?_
          refine v_gt (pc := 123) 16 (.ref (gad g 62)) hC s_49 rfl rfl rfl rfl fl_X11_47 dX11_turns_123 ?_
          refine v_iload (pc := 126) hC dX11_turns_126 rfl ?_
          obtain ⟨v20, hv20, hu13⟩ := obd_s hu13
          refine v_aI (pc := 128) hC s_62 hv20 dX11_turns_128 ?_
          obtain ⟨s21, hs21, hu13⟩ := obd_s hu13
          refine v_wI (pc := 129) hC s_62 hs21 dX11_turns_129 ?_
          refine v_aload_n (pc := 130) hC dX11_turns_130 rfl ?_
          refine v_gt (pc := 131) 16 (.ref (gad g 62)) hC s_49 rfl rfl rfl rfl fl_X11_47 dX11_turns_131 ?_
          refine v_iload (pc := 134) hC dX11_turns_134 rfl ?_
          refine v_iload (pc := 136) hC dX11_turns_136 rfl ?_
          obtain ⟨s22, hs22, hu13⟩ := obd_s hu13
          refine v_wI (pc := 138) hC s_62 hs22 dX11_turns_138 ?_
          obtain ⟨x23, hx23, hu13⟩ := bnd_s hu13
          refine v_iinc (pc := 139) (lv' := [some (.ref (gad g 49)), none, none, none, some (.int v19), some (.int x23), some (.int a14.2)]) (1 : Int32) rfl hx23 hC dX11_turns_139 rfl rfl rfl rfl ?_
          obtain ⟨x24, hx24, hu13⟩ := bnd_s hu13
          refine v_iinc (pc := 142) (lv' := [some (.ref (gad g 49)), none, none, none, some (.int v19), some (.int x23), some (.int x24)]) (-1 : Int32) rfl hx24 hC dX11_turns_142 rfl rfl rfl rfl ?_
          refine v_goto (pc := 145) (tgt := 100) hC dX11_turns_145 rfl ?_
          obtain rfl := Option.some.inj hu13
          exact V.ls (ls_some (ls_none (ls_none (ls_none (ls_none (ls_some (ls_some ls_nil))))))) (k15 _ rfl)
      refine V.ls (ls_some (ls_some (ls_some (ls_some (ls_none (ls_none (ls_none ls_nil))))))) (v_loop (pc := 41) (fun a28 => [some (.ref (gad g 49)), some (.int x0_), some (.int w2.1), some (.int a28), none, none, none]) (fun z t => V SS g M iX11_turns (PQ SS g M P) 62 [some (.ref (gad g 49)), some (.int x0_), some (.int w2.1), some (.int z), none, none, none] [] t) (fun a28 s26 u27 hu27 k29 k30 => ?_) _ _ _ _ hw4 kx36)
      unfold fX11_turns_L41 at hu27
      refine v_aload_n (pc := 41) hC dX11_turns_41 rfl ?_
      refine v_gt (pc := 42) 16 (.ref (gad g 62)) hC s_49 rfl rfl rfl rfl fl_X11_47 dX11_turns_42 ?_
      refine v_iload_n (pc := 45) hC dX11_turns_45 rfl ?_
      obtain ⟨v32, hv32, hu27⟩ := obd_s hu27
      refine v_aI (pc := 46) hC s_62 hv32 dX11_turns_46 ?_
      refine v_aload_n (pc := 47) hC dX11_turns_47 rfl ?_
      refine v_gt (pc := 48) 16 (.ref (gad g 62)) hC s_49 rfl rfl rfl rfl fl_X11_47 dX11_turns_48 ?_
      refine v_iload_n (pc := 51) hC dX11_turns_51 rfl ?_
      obtain ⟨v33, hv33, hu27⟩ := obd_s hu27
      refine v_aI (pc := 52) hC s_62 hv33 dX11_turns_52 ?_
      refine v_ic_ge (pc := 53) (tgt := 62) hC dX11_turns_53 rfl (fun c34 => ?_) (fun c34 => ?_)
      · replace hu27 := (if_pos c34).symm.trans hu27
        obtain rfl := Option.some.inj hu27
        exact V.ls (ls_some (ls_some (ls_some (ls_some (ls_none (ls_none (ls_none ls_nil))))))) (k30 _ rfl)
      · replace hu27 := (if_neg c34).symm.trans hu27
        obtain ⟨x35, hx35, hu27⟩ := bnd_s hu27
        refine v_iinc (pc := 56) (lv' := [some (.ref (gad g 49)), some (.int x0_), some (.int w2.1), some (.int x35), none, none, none]) (-1 : Int32) rfl hx35 hC dX11_turns_56 rfl rfl rfl rfl ?_
        refine v_goto (pc := 59) (tgt := 41) hC dX11_turns_59 rfl ?_
        obtain rfl := Option.some.inj hu27
        exact V.ls (ls_some (ls_some (ls_some (ls_some (ls_none (ls_none (ls_none ls_nil))))))) (k29 _ rfl)
    · replace h := (if_neg c37).symm.trans h
      refine v_iconst (pc := 35) (0 : Int32) rfl hC dX11_turns_35 ?_
      obtain rfl := Option.some.inj h
      exact v_zret (pc := 36) hC rfl rfl dX11_turns_36 hP
  refine V.ls (ls_some (ls_some (ls_some (ls_none (ls_none (ls_none (ls_none ls_nil))))))) (v_loop (pc := 4) (fun a40 => [some (.ref (gad g 49)), some (.int x0_), some (.int a40), none, none, none, none]) (fun z t => V SS g M iX11_turns (PQ SS g M P) 31 [some (.ref (gad g 49)), some (.int x0_), some (.int z), none, none, none, none] [] t) (fun a40 s38 u39 hu39 k41 k42 => ?_) _ _ _ _ hw2 kx49)
  unfold fX11_turns_L4 at hu39
  refine v_iload_n (pc := 4) hC dX11_turns_4 rfl ?_
  refine v_if_lt (pc := 5) (tgt := 31) hC dX11_turns_5 rfl (fun c44 => ?_) (fun c44 => ?_)
  · replace hu39 := (if_pos c44).symm.trans hu39
    obtain rfl := Option.some.inj hu39
    exact V.ls (ls_some (ls_some (ls_some (ls_none (ls_none (ls_none (ls_none ls_nil))))))) (k42 _ rfl)
  · replace hu39 := (if_neg c44).symm.trans hu39
    refine v_aload_n (pc := 8) hC dX11_turns_8 rfl ?_
    refine v_gt (pc := 9) 16 (.ref (gad g 62)) hC s_49 rfl rfl rfl rfl fl_X11_47 dX11_turns_9 ?_
    refine v_iload_n (pc := 12) hC dX11_turns_12 rfl ?_
    obtain ⟨v45, hv45, hu39⟩ := obd_s hu39
    refine v_aI (pc := 13) hC s_62 hv45 dX11_turns_13 ?_
    refine v_aload_n (pc := 14) hC dX11_turns_14 rfl ?_
    refine v_gt (pc := 15) 16 (.ref (gad g 62)) hC s_49 rfl rfl rfl rfl fl_X11_47 dX11_turns_15 ?_
    refine v_iload_n (pc := 18) hC dX11_turns_18 rfl ?_
    refine v_iconst (pc := 19) (1 : Int32) rfl hC dX11_turns_19 ?_
    refine v_iadd (pc := 20) hC dX11_turns_20 ?_
    obtain ⟨v46, hv46, hu39⟩ := obd_s hu39
    refine v_aI (pc := 21) hC s_62 hv46 dX11_turns_21 ?_
    refine v_ic_le (pc := 22) (tgt := 31) hC dX11_turns_22 rfl (fun c47 => ?_) (fun c47 => ?_)
    · replace hu39 := (if_pos c47).symm.trans hu39
      obtain rfl := Option.some.inj hu39
      exact V.ls (ls_some (ls_some (ls_some (ls_none (ls_none (ls_none (ls_none ls_nil))))))) (k42 _ rfl)
    · replace hu39 := (if_neg c47).symm.trans hu39
      obtain ⟨x48, hx48, hu39⟩ := bnd_s hu39
      refine v_iinc (pc := 25) (lv' := [some (.ref (gad g 49)), some (.int x0_), some (.int x48), none, none, none, none]) (-1 : Int32) rfl hx48 hC dX11_turns_25 rfl rfl rfl rfl ?_
      refine v_goto (pc := 28) (tgt := 4) hC dX11_turns_28 rfl ?_
      obtain rfl := Option.some.inj hu39
      exact V.ls (ls_some (ls_some (ls_some (ls_none (ls_none (ls_none (ls_none ls_nil))))))) (k41 _ rfl)
theorem dX11_chanceNow_0 : decode cX11_chanceNow 0 = .ok (.aload_n 0, 1) := by decide +kernel
theorem dX11_chanceNow_1 : decode cX11_chanceNow 1 = .ok (.invokevirtual 160, 3) := by decide +kernel
theorem dX11_chanceNow_4 : decode cX11_chanceNow 4 = .ok (.aload_n 0, 1) := by decide +kernel
theorem dX11_chanceNow_5 : decode cX11_chanceNow 5 = .ok (.invokevirtual 181, 3) := by decide +kernel
theorem dX11_chanceNow_8 : decode cX11_chanceNow 8 = .ok (.istore_n 1, 1) := by decide +kernel
theorem dX11_chanceNow_9 : decode cX11_chanceNow 9 = .ok (.iload_n 1, 1) := by decide +kernel
theorem dX11_chanceNow_10 : decode cX11_chanceNow 10 = .ok (.iconst 2, 1) := by decide +kernel
theorem dX11_chanceNow_11 : decode cX11_chanceNow 11 = .ok (.if_icmp .ge 6, 3) := by decide +kernel
theorem dX11_chanceNow_14 : decode cX11_chanceNow 14 = .ok (.bipush (-3), 2) := by decide +kernel
theorem dX11_chanceNow_16 : decode cX11_chanceNow 16 = .ok (.ireturn, 1) := by decide +kernel
theorem dX11_chanceNow_17 : decode cX11_chanceNow 17 = .ok (.iload_n 1, 1) := by decide +kernel
theorem dX11_chanceNow_18 : decode cX11_chanceNow 18 = .ok (.bipush 7, 2) := by decide +kernel
theorem dX11_chanceNow_20 : decode cX11_chanceNow 20 = .ok (.if_icmp .le 6, 3) := by decide +kernel
theorem dX11_chanceNow_23 : decode cX11_chanceNow 23 = .ok (.bipush (-4), 2) := by decide +kernel
theorem dX11_chanceNow_25 : decode cX11_chanceNow 25 = .ok (.ireturn, 1) := by decide +kernel
theorem dX11_chanceNow_26 : decode cX11_chanceNow 26 = .ok (.lconst 1, 1) := by decide +kernel
theorem dX11_chanceNow_27 : decode cX11_chanceNow 27 = .ok (.lstore_n 2, 1) := by decide +kernel
theorem dX11_chanceNow_28 : decode cX11_chanceNow 28 = .ok (.iconst 0, 1) := by decide +kernel
theorem dX11_chanceNow_29 : decode cX11_chanceNow 29 = .ok (.istore 4, 2) := by decide +kernel
theorem dX11_chanceNow_31 : decode cX11_chanceNow 31 = .ok (.iload 4, 2) := by decide +kernel
theorem dX11_chanceNow_33 : decode cX11_chanceNow 33 = .ok (.bipush 8, 2) := by decide +kernel
theorem dX11_chanceNow_35 : decode cX11_chanceNow 35 = .ok (.if_icmp .ge 47, 3) := by decide +kernel
theorem dX11_chanceNow_38 : decode cX11_chanceNow 38 = .ok (.aload_n 0, 1) := by decide +kernel
theorem dX11_chanceNow_39 : decode cX11_chanceNow 39 = .ok (.getfield 35, 3) := by decide +kernel
theorem dX11_chanceNow_42 : decode cX11_chanceNow 42 = .ok (.iload 4, 2) := by decide +kernel
theorem dX11_chanceNow_44 : decode cX11_chanceNow 44 = .ok (.laload, 1) := by decide +kernel
theorem dX11_chanceNow_45 : decode cX11_chanceNow 45 = .ok (.lconst 0, 1) := by decide +kernel
theorem dX11_chanceNow_46 : decode cX11_chanceNow 46 = .ok (.lcmp, 1) := by decide +kernel
theorem dX11_chanceNow_47 : decode cX11_chanceNow 47 = .ok (.ifCond .ne 7, 3) := by decide +kernel
theorem dX11_chanceNow_50 : decode cX11_chanceNow 50 = .ok (.lload_n 2, 1) := by decide +kernel
theorem dX11_chanceNow_51 : decode cX11_chanceNow 51 = .ok (.goto 24, 3) := by decide +kernel
theorem dX11_chanceNow_54 : decode cX11_chanceNow 54 = .ok (.lload_n 2, 1) := by decide +kernel
theorem dX11_chanceNow_55 : decode cX11_chanceNow 55 = .ok (.lload_n 2, 1) := by decide +kernel
theorem dX11_chanceNow_56 : decode cX11_chanceNow 56 = .ok (.aload_n 0, 1) := by decide +kernel
theorem dX11_chanceNow_57 : decode cX11_chanceNow 57 = .ok (.getfield 35, 3) := by decide +kernel
theorem dX11_chanceNow_60 : decode cX11_chanceNow 60 = .ok (.iload 4, 2) := by decide +kernel
theorem dX11_chanceNow_62 : decode cX11_chanceNow 62 = .ok (.laload, 1) := by decide +kernel
theorem dX11_chanceNow_63 : decode cX11_chanceNow 63 = .ok (.invokestatic 86, 3) := by decide +kernel
theorem dX11_chanceNow_66 : decode cX11_chanceNow 66 = .ok (.ldiv, 1) := by decide +kernel
theorem dX11_chanceNow_67 : decode cX11_chanceNow 67 = .ok (.aload_n 0, 1) := by decide +kernel
theorem dX11_chanceNow_68 : decode cX11_chanceNow 68 = .ok (.getfield 35, 3) := by decide +kernel
theorem dX11_chanceNow_71 : decode cX11_chanceNow 71 = .ok (.iload 4, 2) := by decide +kernel
theorem dX11_chanceNow_73 : decode cX11_chanceNow 73 = .ok (.laload, 1) := by decide +kernel
theorem dX11_chanceNow_74 : decode cX11_chanceNow 74 = .ok (.lmul, 1) := by decide +kernel
theorem dX11_chanceNow_75 : decode cX11_chanceNow 75 = .ok (.lstore_n 2, 1) := by decide +kernel
theorem dX11_chanceNow_76 : decode cX11_chanceNow 76 = .ok (.iinc 4 1, 3) := by decide +kernel
theorem dX11_chanceNow_79 : decode cX11_chanceNow 79 = .ok (.goto (-48), 3) := by decide +kernel
theorem dX11_chanceNow_82 : decode cX11_chanceNow 82 = .ok (.iconst 0, 1) := by decide +kernel
theorem dX11_chanceNow_83 : decode cX11_chanceNow 83 = .ok (.istore 4, 2) := by decide +kernel
theorem dX11_chanceNow_85 : decode cX11_chanceNow 85 = .ok (.lconst 0, 1) := by decide +kernel
theorem dX11_chanceNow_86 : decode cX11_chanceNow 86 = .ok (.lstore 5, 2) := by decide +kernel
theorem dX11_chanceNow_88 : decode cX11_chanceNow 88 = .ok (.iconst 0, 1) := by decide +kernel
theorem dX11_chanceNow_89 : decode cX11_chanceNow 89 = .ok (.istore 7, 2) := by decide +kernel
theorem dX11_chanceNow_91 : decode cX11_chanceNow 91 = .ok (.iload 7, 2) := by decide +kernel
theorem dX11_chanceNow_93 : decode cX11_chanceNow 93 = .ok (.bipush 8, 2) := by decide +kernel
theorem dX11_chanceNow_95 : decode cX11_chanceNow 95 = .ok (.if_icmp .ge 73, 3) := by decide +kernel
theorem dX11_chanceNow_98 : decode cX11_chanceNow 98 = .ok (.aload_n 0, 1) := by decide +kernel
theorem dX11_chanceNow_99 : decode cX11_chanceNow 99 = .ok (.getfield 35, 3) := by decide +kernel
theorem dX11_chanceNow_102 : decode cX11_chanceNow 102 = .ok (.iload 7, 2) := by decide +kernel
theorem dX11_chanceNow_104 : decode cX11_chanceNow 104 = .ok (.laload, 1) := by decide +kernel
theorem dX11_chanceNow_105 : decode cX11_chanceNow 105 = .ok (.lconst 0, 1) := by decide +kernel
theorem dX11_chanceNow_106 : decode cX11_chanceNow 106 = .ok (.lcmp, 1) := by decide +kernel
theorem dX11_chanceNow_107 : decode cX11_chanceNow 107 = .ok (.ifCond .le 55, 3) := by decide +kernel
theorem dX11_chanceNow_110 : decode cX11_chanceNow 110 = .ok (.aload_n 0, 1) := by decide +kernel
theorem dX11_chanceNow_111 : decode cX11_chanceNow 111 = .ok (.getfield 44, 3) := by decide +kernel
theorem dX11_chanceNow_114 : decode cX11_chanceNow 114 = .ok (.iload 4, 2) := by decide +kernel
theorem dX11_chanceNow_116 : decode cX11_chanceNow 116 = .ok (.aload_n 0, 1) := by decide +kernel
theorem dX11_chanceNow_117 : decode cX11_chanceNow 117 = .ok (.getfield 31, 3) := by decide +kernel
theorem dX11_chanceNow_120 : decode cX11_chanceNow 120 = .ok (.iload 7, 2) := by decide +kernel
theorem dX11_chanceNow_122 : decode cX11_chanceNow 122 = .ok (.laload, 1) := by decide +kernel
theorem dX11_chanceNow_123 : decode cX11_chanceNow 123 = .ok (.lload_n 2, 1) := by decide +kernel
theorem dX11_chanceNow_124 : decode cX11_chanceNow 124 = .ok (.aload_n 0, 1) := by decide +kernel
theorem dX11_chanceNow_125 : decode cX11_chanceNow 125 = .ok (.getfield 35, 3) := by decide +kernel
theorem dX11_chanceNow_128 : decode cX11_chanceNow 128 = .ok (.iload 7, 2) := by decide +kernel
theorem dX11_chanceNow_130 : decode cX11_chanceNow 130 = .ok (.laload, 1) := by decide +kernel
theorem dX11_chanceNow_131 : decode cX11_chanceNow 131 = .ok (.ldiv, 1) := by decide +kernel
theorem dX11_chanceNow_132 : decode cX11_chanceNow 132 = .ok (.lmul, 1) := by decide +kernel
theorem dX11_chanceNow_133 : decode cX11_chanceNow 133 = .ok (.lastore, 1) := by decide +kernel
theorem dX11_chanceNow_134 : decode cX11_chanceNow 134 = .ok (.aload_n 0, 1) := by decide +kernel
theorem dX11_chanceNow_135 : decode cX11_chanceNow 135 = .ok (.getfield 47, 3) := by decide +kernel
theorem dX11_chanceNow_138 : decode cX11_chanceNow 138 = .ok (.iload 4, 2) := by decide +kernel
theorem dX11_chanceNow_140 : decode cX11_chanceNow 140 = .ok (.iload 4, 2) := by decide +kernel
theorem dX11_chanceNow_142 : decode cX11_chanceNow 142 = .ok (.iastore, 1) := by decide +kernel
theorem dX11_chanceNow_143 : decode cX11_chanceNow 143 = .ok (.lload 5, 2) := by decide +kernel
theorem dX11_chanceNow_145 : decode cX11_chanceNow 145 = .ok (.iload 4, 2) := by decide +kernel
theorem dX11_chanceNow_147 : decode cX11_chanceNow 147 = .ok (.i2l, 1) := by decide +kernel
theorem dX11_chanceNow_148 : decode cX11_chanceNow 148 = .ok (.aload_n 0, 1) := by decide +kernel
theorem dX11_chanceNow_149 : decode cX11_chanceNow 149 = .ok (.getfield 44, 3) := by decide +kernel
theorem dX11_chanceNow_152 : decode cX11_chanceNow 152 = .ok (.iload 4, 2) := by decide +kernel
theorem dX11_chanceNow_154 : decode cX11_chanceNow 154 = .ok (.laload, 1) := by decide +kernel
theorem dX11_chanceNow_155 : decode cX11_chanceNow 155 = .ok (.lmul, 1) := by decide +kernel
theorem dX11_chanceNow_156 : decode cX11_chanceNow 156 = .ok (.ladd, 1) := by decide +kernel
theorem dX11_chanceNow_157 : decode cX11_chanceNow 157 = .ok (.lstore 5, 2) := by decide +kernel
theorem dX11_chanceNow_159 : decode cX11_chanceNow 159 = .ok (.iinc 4 1, 3) := by decide +kernel
theorem dX11_chanceNow_162 : decode cX11_chanceNow 162 = .ok (.iinc 7 1, 3) := by decide +kernel
theorem dX11_chanceNow_165 : decode cX11_chanceNow 165 = .ok (.goto (-74), 3) := by decide +kernel
theorem dX11_chanceNow_168 : decode cX11_chanceNow 168 = .ok (.lconst 0, 1) := by decide +kernel
theorem dX11_chanceNow_169 : decode cX11_chanceNow 169 = .ok (.lstore 7, 2) := by decide +kernel
theorem dX11_chanceNow_171 : decode cX11_chanceNow 171 = .ok (.lconst 0, 1) := by decide +kernel
theorem dX11_chanceNow_172 : decode cX11_chanceNow 172 = .ok (.lstore 9, 2) := by decide +kernel
theorem dX11_chanceNow_174 : decode cX11_chanceNow 174 = .ok (.iconst 1, 1) := by decide +kernel
theorem dX11_chanceNow_175 : decode cX11_chanceNow 175 = .ok (.istore 11, 2) := by decide +kernel
theorem dX11_chanceNow_177 : decode cX11_chanceNow 177 = .ok (.iload 11, 2) := by decide +kernel
theorem dX11_chanceNow_179 : decode cX11_chanceNow 179 = .ok (.ifCond .eq 76, 3) := by decide +kernel
theorem dX11_chanceNow_182 : decode cX11_chanceNow 182 = .ok (.lconst 0, 1) := by decide +kernel
theorem dX11_chanceNow_183 : decode cX11_chanceNow 183 = .ok (.lstore 12, 2) := by decide +kernel
theorem dX11_chanceNow_185 : decode cX11_chanceNow 185 = .ok (.iconst 0, 1) := by decide +kernel
theorem dX11_chanceNow_186 : decode cX11_chanceNow 186 = .ok (.istore 14, 2) := by decide +kernel
theorem dX11_chanceNow_188 : decode cX11_chanceNow 188 = .ok (.iload 14, 2) := by decide +kernel
theorem dX11_chanceNow_190 : decode cX11_chanceNow 190 = .ok (.iload_n 1, 1) := by decide +kernel
theorem dX11_chanceNow_191 : decode cX11_chanceNow 191 = .ok (.if_icmp .ge 30, 3) := by decide +kernel
theorem dX11_chanceNow_194 : decode cX11_chanceNow 194 = .ok (.lload 12, 2) := by decide +kernel
theorem dX11_chanceNow_196 : decode cX11_chanceNow 196 = .ok (.iload 14, 2) := by decide +kernel
theorem dX11_chanceNow_198 : decode cX11_chanceNow 198 = .ok (.i2l, 1) := by decide +kernel
theorem dX11_chanceNow_199 : decode cX11_chanceNow 199 = .ok (.aload_n 0, 1) := by decide +kernel
theorem dX11_chanceNow_200 : decode cX11_chanceNow 200 = .ok (.getfield 44, 3) := by decide +kernel
theorem dX11_chanceNow_203 : decode cX11_chanceNow 203 = .ok (.aload_n 0, 1) := by decide +kernel
theorem dX11_chanceNow_204 : decode cX11_chanceNow 204 = .ok (.getfield 47, 3) := by decide +kernel
theorem dX11_chanceNow_207 : decode cX11_chanceNow 207 = .ok (.iload 14, 2) := by decide +kernel
theorem dX11_chanceNow_209 : decode cX11_chanceNow 209 = .ok (.iaload, 1) := by decide +kernel
theorem dX11_chanceNow_210 : decode cX11_chanceNow 210 = .ok (.laload, 1) := by decide +kernel
theorem dX11_chanceNow_211 : decode cX11_chanceNow 211 = .ok (.lmul, 1) := by decide +kernel
theorem dX11_chanceNow_212 : decode cX11_chanceNow 212 = .ok (.ladd, 1) := by decide +kernel
theorem dX11_chanceNow_213 : decode cX11_chanceNow 213 = .ok (.lstore 12, 2) := by decide +kernel
theorem dX11_chanceNow_215 : decode cX11_chanceNow 215 = .ok (.iinc 14 1, 3) := by decide +kernel
theorem dX11_chanceNow_218 : decode cX11_chanceNow 218 = .ok (.goto (-30), 3) := by decide +kernel
theorem dX11_chanceNow_221 : decode cX11_chanceNow 221 = .ok (.lload 7, 2) := by decide +kernel
theorem dX11_chanceNow_223 : decode cX11_chanceNow 223 = .ok (.lload 12, 2) := by decide +kernel
theorem dX11_chanceNow_225 : decode cX11_chanceNow 225 = .ok (.lload 5, 2) := by decide +kernel
theorem dX11_chanceNow_227 : decode cX11_chanceNow 227 = .ok (.lcmp, 1) := by decide +kernel
theorem dX11_chanceNow_228 : decode cX11_chanceNow 228 = .ok (.ifCond .lt 7, 3) := by decide +kernel
theorem dX11_chanceNow_231 : decode cX11_chanceNow 231 = .ok (.lconst 1, 1) := by decide +kernel
theorem dX11_chanceNow_232 : decode cX11_chanceNow 232 = .ok (.goto 4, 3) := by decide +kernel
theorem dX11_chanceNow_235 : decode cX11_chanceNow 235 = .ok (.lconst 0, 1) := by decide +kernel
theorem dX11_chanceNow_236 : decode cX11_chanceNow 236 = .ok (.ladd, 1) := by decide +kernel
theorem dX11_chanceNow_237 : decode cX11_chanceNow 237 = .ok (.lstore 7, 2) := by decide +kernel
theorem dX11_chanceNow_239 : decode cX11_chanceNow 239 = .ok (.lload 9, 2) := by decide +kernel
theorem dX11_chanceNow_241 : decode cX11_chanceNow 241 = .ok (.lconst 1, 1) := by decide +kernel
theorem dX11_chanceNow_242 : decode cX11_chanceNow 242 = .ok (.ladd, 1) := by decide +kernel
theorem dX11_chanceNow_243 : decode cX11_chanceNow 243 = .ok (.lstore 9, 2) := by decide +kernel
theorem dX11_chanceNow_245 : decode cX11_chanceNow 245 = .ok (.aload_n 0, 1) := by decide +kernel
theorem dX11_chanceNow_246 : decode cX11_chanceNow 246 = .ok (.iload_n 1, 1) := by decide +kernel
theorem dX11_chanceNow_247 : decode cX11_chanceNow 247 = .ok (.invokevirtual 201, 3) := by decide +kernel
theorem dX11_chanceNow_250 : decode cX11_chanceNow 250 = .ok (.istore 11, 2) := by decide +kernel
theorem dX11_chanceNow_252 : decode cX11_chanceNow 252 = .ok (.goto (-75), 3) := by decide +kernel
theorem dX11_chanceNow_255 : decode cX11_chanceNow 255 = .ok (.ldc2_w 204, 3) := by decide +kernel
theorem dX11_chanceNow_258 : decode cX11_chanceNow 258 = .ok (.lload 7, 2) := by decide +kernel
theorem dX11_chanceNow_260 : decode cX11_chanceNow 260 = .ok (.lmul, 1) := by decide +kernel
theorem dX11_chanceNow_261 : decode cX11_chanceNow 261 = .ok (.lload 9, 2) := by decide +kernel
theorem dX11_chanceNow_263 : decode cX11_chanceNow 263 = .ok (.ldiv, 1) := by decide +kernel
theorem dX11_chanceNow_264 : decode cX11_chanceNow 264 = .ok (.l2i, 1) := by decide +kernel
theorem dX11_chanceNow_265 : decode cX11_chanceNow 265 = .ok (.ireturn, 1) := by decide +kernel
def fX11_chanceNow_L31 (p1 : Int32) (a : Int64 × Int32) (s : Sg) : Option (((Int64 × Int32) ⊕ (Int64)) × Sg) :=
  if (8 : Int32) ≤ a.2 then
  some (.inr a.1, s)
  else
  (aL s 58 8 a.2).bind fun v2 =>
  ((if (lg_cmp v2 (0 : Int64)) = 0 then
  some (a.1, s)
  else
  (aL s 58 8 a.2).bind fun v6 =>
  (fX11_divisor a.1 v6 s).bind fun w7 =>
  (dL a.1 w7.1).bind fun v8 =>
  (aL w7.2 58 8 a.2).bind fun v9 =>
  some ((v8 * v9), w7.2)) : Option (Int64 × Sg)).bind fun w3 =>
  bnd (a.2 + (1 : Int32)) fun x5 =>
  some (.inl (w3.1, x5), w3.2)
def fX11_chanceNow_L91 (p1 : Int32) (p2 : Int64) (a : Int32 × Int64 × Int32) (s : Sg) : Option (((Int32 × Int64 × Int32) ⊕ (Int64)) × Sg) :=
  if (8 : Int32) ≤ a.2.2 then
  some (.inr a.2.1, s)
  else
  (aL s 58 8 a.2.2).bind fun v2 =>
  ((if (lg_cmp v2 (0 : Int64)) ≤ 0 then
  some (a.1, a.2.1, s)
  else
  (aL s 57 8 a.2.2).bind fun v7 =>
  (aL s 58 8 a.2.2).bind fun v8 =>
  (dL p2 v8).bind fun v9 =>
  (wL s 61 8 a.1 (v7 * v9)).bind fun s10 =>
  (wI s10 62 8 a.1 a.1).bind fun s11 =>
  (aL s11 61 8 a.1).bind fun v12 =>
  bnd (a.2.1 + (((a.1).toInt64) * v12)) fun x13 =>
  bnd (a.1 + (1 : Int32)) fun x14 =>
  some (x14, x13, s11)) : Option (Int32 × Int64 × Sg)).bind fun w3 =>
  bnd (a.2.2 + (1 : Int32)) fun x5 =>
  some (.inl (w3.1, w3.2.1, x5), w3.2.2)
def fX11_chanceNow_L188 (p1 : Int32) (p5 : Int64) (p7 : Int64) (p9 : Int64) (a : Int64 × Int32) (s : Sg) : Option (((Int64 × Int32) ⊕ (Int64)) × Sg) :=
  if p1 ≤ a.2 then
  some (.inr a.1, s)
  else
  (aI s 62 8 a.2).bind fun v2 =>
  (aL s 61 8 v2).bind fun v3 =>
  bnd (a.1 + (((a.2).toInt64) * v3)) fun x4 =>
  bnd (a.2 + (1 : Int32)) fun x5 =>
  some (.inl (x4, x5), s)
def fX11_chanceNow_L177 (p1 : Int32) (p5 : Int64) (a : Int64 × Int64 × Int32) (s : Sg) : Option (((Int64 × Int64 × Int32) ⊕ (Int64 × Int64)) × Sg) :=
  if a.2.2 = 0 then
  some (.inr (a.1, a.2.1), s)
  else
  (lpG (fX11_chanceNow_L188 p1 p5 a.1 a.2.1) FU ((0 : Int64), (0 : Int32)) s).bind fun w2 =>
  ((if (lg_cmp w2.1 p5) < 0 then
  some (0 : Int64)
  else
  some (1 : Int64)) : Option (Int64)).bind fun w3 =>
  bnd (a.1 + w3) fun x5 =>
  bnd (a.2.1 + (1 : Int64)) fun x6 =>
  (fX11_turns p1 w2.2).bind fun w7 =>
  some (.inl (x5, x6, w7.1), w7.2)
def fX11_chanceNow  (s : Sg) : Option (Int32 × Sg) :=
  (fX11_laysLanes s).bind fun w1 =>
  (fX11_lanesMany w1).bind fun w2 =>
  if (2 : Int32) ≤ w2.1 then
  if w2.1 ≤ (7 : Int32) then
  (lpG (fX11_chanceNow_L31 w2.1) FU ((1 : Int64), (0 : Int32)) w2.2).bind fun w3 =>
  (lpG (fX11_chanceNow_L91 w2.1 w3.1) FU ((0 : Int32), (0 : Int64), (0 : Int32)) w3.2).bind fun w4 =>
  (lpG (fX11_chanceNow_L177 w2.1 w4.1) FU ((0 : Int64), (0 : Int64), (1 : Int32)) w4.2).bind fun w5 =>
  (dL ((1000000 : Int64) * w5.1.1) w5.1.2).bind fun v6 =>
  some (((v6).toInt32), w5.2)
  else
  some ((-4 : Int32), w2.2)
  else
  some ((-3 : Int32), w2.2)
theorem ct_X11_chanceNow {g : Gl}  {s : Sg} {w : Int32 × Sg}  (h : fX11_chanceNow s = some w) : Ct SS g iX11_chanceNow 4 90 [.ref (gad g 49)] s (Dt (some (.int w.1)) w.2) := by
  refine Ct.ofV (by decide +kernel) 14 (lv0 := [some (.ref (gad g 49)), none, none, none, none, none, none, none, none, none, none, none, none, none, none]) rfl rfl (fun M hC => ?_)
  have hP : (Dt (some (.int w.1)) w.2) (some (.int w.1)) w.2 := ⟨rfl, rfl⟩
  generalize Dt (some (.int w.1)) w.2 = P at hP ⊢
  unfold fX11_chanceNow at h
  refine v_aload_n (pc := 0) hC dX11_chanceNow_0 rfl ?_
  obtain ⟨w1, hw1, h⟩ := obd_s h
  refine v_cV (pc := 1) [] [] gm_X11_laysLanes hC s_49 rfl rfl (ct_X11_laysLanes  hw1) ml_X11_160 rfl rfl rfl rfl rfl rfl dX11_chanceNow_1 ?_
  refine v_aload_n (pc := 4) hC dX11_chanceNow_4 rfl ?_
  obtain ⟨w2, hw2, h⟩ := obd_s h
  refine v_cV (pc := 5) [] [.int w2.1] gm_X11_lanesMany hC s_49 rfl rfl (ct_X11_lanesMany  hw2) ml_X11_181 rfl rfl rfl rfl rfl rfl dX11_chanceNow_5 ?_
  refine v_istore_n (pc := 8) (lv' := [some (.ref (gad g 49)), some (.int w2.1), none, none, none, none, none, none, none, none, none, none, none, none, none]) hC dX11_chanceNow_8 rfl rfl rfl rfl ?_
  refine v_iload_n (pc := 9) hC dX11_chanceNow_9 rfl ?_
  refine v_iconst (pc := 10) (2 : Int32) rfl hC dX11_chanceNow_10 ?_
  refine v_ic_ge (pc := 11) (tgt := 17) hC dX11_chanceNow_11 rfl (fun c73 => ?_) (fun c73 => ?_)
  · replace h := (if_pos c73).symm.trans h
    refine v_iload_n (pc := 17) hC dX11_chanceNow_17 rfl ?_
    refine v_bipush (pc := 18) (7 : Int32) rfl hC dX11_chanceNow_18 ?_
    refine v_ic_le (pc := 20) (tgt := 26) hC dX11_chanceNow_20 rfl (fun c72 => ?_) (fun c72 => ?_)
    · replace h := (if_pos c72).symm.trans h
      refine v_lconst (pc := 26) (1 : Int64) rfl hC dX11_chanceNow_26 ?_
      refine v_lstore_n (pc := 27) (lv' := [some (.ref (gad g 49)), some (.int w2.1), some (.long (1 : Int64)), none, none, none, none, none, none, none, none, none, none, none, none]) hC dX11_chanceNow_27 rfl rfl rfl rfl ?_
      refine v_iconst (pc := 28) (0 : Int32) rfl hC dX11_chanceNow_28 ?_
      refine v_istore (pc := 29) (lv' := [some (.ref (gad g 49)), some (.int w2.1), some (.long (1 : Int64)), none, some (.int (0 : Int32)), none, none, none, none, none, none, none, none, none, none]) hC dX11_chanceNow_29 rfl rfl rfl rfl ?_
      obtain ⟨w3, hw3, h⟩ := obd_s h
      have kx71 : V SS g M iX11_chanceNow (PQ SS g M P) 82 [some (.ref (gad g 49)), some (.int w2.1), some (.long w3.1), none, none, none, none, none, none, none, none, none, none, none, none] [] w3.2 := by
        refine v_iconst (pc := 82) (0 : Int32) rfl hC dX11_chanceNow_82 ?_
        refine v_istore (pc := 83) (lv' := [some (.ref (gad g 49)), some (.int w2.1), some (.long w3.1), none, some (.int (0 : Int32)), none, none, none, none, none, none, none, none, none, none]) hC dX11_chanceNow_83 rfl rfl rfl rfl ?_
        refine v_lconst (pc := 85) (0 : Int64) rfl hC dX11_chanceNow_85 ?_
        refine v_lstore (pc := 86) (lv' := [some (.ref (gad g 49)), some (.int w2.1), some (.long w3.1), none, some (.int (0 : Int32)), some (.long (0 : Int64)), none, none, none, none, none, none, none, none, none]) hC dX11_chanceNow_86 rfl rfl rfl rfl ?_
        refine v_iconst (pc := 88) (0 : Int32) rfl hC dX11_chanceNow_88 ?_
        refine v_istore (pc := 89) (lv' := [some (.ref (gad g 49)), some (.int w2.1), some (.long w3.1), none, some (.int (0 : Int32)), some (.long (0 : Int64)), none, some (.int (0 : Int32)), none, none, none, none, none, none, none]) hC dX11_chanceNow_89 rfl rfl rfl rfl ?_
        obtain ⟨w4, hw4, h⟩ := obd_s h
        have kx54 : V SS g M iX11_chanceNow (PQ SS g M P) 168 [some (.ref (gad g 49)), some (.int w2.1), none, none, none, some (.long w4.1), none, none, none, none, none, none, none, none, none] [] w4.2 := by
          refine v_lconst (pc := 168) (0 : Int64) rfl hC dX11_chanceNow_168 ?_
          refine v_lstore (pc := 169) (lv' := [some (.ref (gad g 49)), some (.int w2.1), none, none, none, some (.long w4.1), none, some (.long (0 : Int64)), none, none, none, none, none, none, none]) hC dX11_chanceNow_169 rfl rfl rfl rfl ?_
          refine v_lconst (pc := 171) (0 : Int64) rfl hC dX11_chanceNow_171 ?_
          refine v_lstore (pc := 172) (lv' := [some (.ref (gad g 49)), some (.int w2.1), none, none, none, some (.long w4.1), none, some (.long (0 : Int64)), none, some (.long (0 : Int64)), none, none, none, none, none]) hC dX11_chanceNow_172 rfl rfl rfl rfl ?_
          refine v_iconst (pc := 174) (1 : Int32) rfl hC dX11_chanceNow_174 ?_
          refine v_istore (pc := 175) (lv' := [some (.ref (gad g 49)), some (.int w2.1), none, none, none, some (.long w4.1), none, some (.long (0 : Int64)), none, some (.long (0 : Int64)), none, some (.int (1 : Int32)), none, none, none]) hC dX11_chanceNow_175 rfl rfl rfl rfl ?_
          obtain ⟨w5, hw5, h⟩ := obd_s h
          have kx33 : V SS g M iX11_chanceNow (PQ SS g M P) 255 [none, none, none, none, none, none, none, some (.long w5.1.1), none, some (.long w5.1.2), none, none, none, none, none] [] w5.2 := by
            refine v_ldc2 (pc := 255) (1000000 : Int64) kc_X11_204 hC dX11_chanceNow_255 ?_
            refine v_lload (pc := 258) hC dX11_chanceNow_258 rfl ?_
            refine v_lmul (pc := 260) hC dX11_chanceNow_260 ?_
            refine v_lload (pc := 261) hC dX11_chanceNow_261 rfl ?_
            obtain ⟨v6, hv6, h⟩ := obd_s h
            refine v_dL (pc := 263) hC hv6 dX11_chanceNow_263 ?_
            refine v_l2i (pc := 264) hC dX11_chanceNow_264 ?_
            obtain rfl := Option.some.inj h
            exact v_iret (pc := 265) hC rfl dX11_chanceNow_265 hP
          refine V.ls (ls_some (ls_some (ls_none (ls_none (ls_none (ls_some (ls_none (ls_some (ls_none (ls_some (ls_none (ls_some (ls_none (ls_none (ls_none ls_nil))))))))))))))) (v_loop (pc := 177) (fun a9 => [some (.ref (gad g 49)), some (.int w2.1), none, none, none, some (.long w4.1), none, some (.long a9.1), none, some (.long a9.2.1), none, some (.int a9.2.2), none, none, none]) (fun z t => V SS g M iX11_chanceNow (PQ SS g M P) 255 [none, none, none, none, none, none, none, some (.long z.1), none, some (.long z.2), none, none, none, none, none] [] t) (fun a9 s7 u8 hu8 k10 k11 => ?_) _ _ _ _ hw5 kx33)
          unfold fX11_chanceNow_L177 at hu8
          refine v_iload (pc := 177) hC dX11_chanceNow_177 rfl ?_
          refine v_if_eq (pc := 179) (tgt := 255) hC dX11_chanceNow_179 rfl (fun c13 => ?_) (fun c13 => ?_)
          · replace hu8 := (if_pos c13).symm.trans hu8
            obtain rfl := Option.some.inj hu8
            exact V.ls (ls_none (ls_none (ls_none (ls_none (ls_none (ls_none (ls_none (ls_some (ls_none (ls_some (ls_none (ls_none (ls_none (ls_none (ls_none ls_nil))))))))))))))) (k11 _ rfl)
          · replace hu8 := (if_neg c13).symm.trans hu8
            refine v_lconst (pc := 182) (0 : Int64) rfl hC dX11_chanceNow_182 ?_
            refine v_lstore (pc := 183) (lv' := [some (.ref (gad g 49)), some (.int w2.1), none, none, none, some (.long w4.1), none, some (.long a9.1), none, some (.long a9.2.1), none, some (.int a9.2.2), some (.long (0 : Int64)), none, none]) hC dX11_chanceNow_183 rfl rfl rfl rfl ?_
            refine v_iconst (pc := 185) (0 : Int32) rfl hC dX11_chanceNow_185 ?_
            refine v_istore (pc := 186) (lv' := [some (.ref (gad g 49)), some (.int w2.1), none, none, none, some (.long w4.1), none, some (.long a9.1), none, some (.long a9.2.1), none, some (.int a9.2.2), some (.long (0 : Int64)), none, some (.int (0 : Int32))]) hC dX11_chanceNow_186 rfl rfl rfl rfl ?_
            obtain ⟨w14, hw14, hu8⟩ := obd_s hu8
            have kx32 : V SS g M iX11_chanceNow (PQ SS g M P) 221 [some (.ref (gad g 49)), some (.int w2.1), none, none, none, some (.long w4.1), none, some (.long a9.1), none, some (.long a9.2.1), none, none, some (.long w14.1), none, none] [] w14.2 := by
              refine v_lload (pc := 221) hC dX11_chanceNow_221 rfl ?_
              refine v_lload (pc := 223) hC dX11_chanceNow_223 rfl ?_
              refine v_lload (pc := 225) hC dX11_chanceNow_225 rfl ?_
              refine v_lcmp (pc := 227) hC dX11_chanceNow_227 ?_
              obtain ⟨w15, hw15, hu8⟩ := obd_s hu8
              have kj16 : V SS g M iX11_chanceNow (PQ SS g M P) 236 [some (.ref (gad g 49)), some (.int w2.1), none, none, none, some (.long w4.1), none, none, none, some (.long a9.2.1), none, none, none, none, none] [.long w15, .long a9.1] w14.2 := by
                refine v_ladd (pc := 236) hC dX11_chanceNow_236 ?_
                obtain ⟨x17, hx17, hu8⟩ := bnd_s hu8
                refine v_lstore (pc := 237) (lv' := [some (.ref (gad g 49)), some (.int w2.1), none, none, none, some (.long w4.1), none, some (.long x17), none, some (.long a9.2.1), none, none, none, none, none]) hC dX11_chanceNow_237 hx17 rfl rfl rfl ?_
                refine v_lload (pc := 239) hC dX11_chanceNow_239 rfl ?_
                refine v_lconst (pc := 241) (1 : Int64) rfl hC dX11_chanceNow_241 ?_
                refine v_ladd (pc := 242) hC dX11_chanceNow_242 ?_
                obtain ⟨x18, hx18, hu8⟩ := bnd_s hu8
                refine v_lstore (pc := 243) (lv' := [some (.ref (gad g 49)), some (.int w2.1), none, none, none, some (.long w4.1), none, some (.long x17), none, some (.long x18), none, none, none, none, none]) hC dX11_chanceNow_243 hx18 rfl rfl rfl ?_
                refine v_aload_n (pc := 245) hC dX11_chanceNow_245 rfl ?_
                refine v_iload_n (pc := 246) hC dX11_chanceNow_246 rfl ?_
                obtain ⟨w19, hw19, hu8⟩ := obd_s hu8
                refine v_cV (pc := 247) [] [.int w19.1] gm_X11_turns hC s_49 rfl rfl (ct_X11_turns  hw19) ml_X11_201 rfl rfl rfl rfl rfl rfl dX11_chanceNow_247 ?_
                refine v_istore (pc := 250) (lv' := [some (.ref (gad g 49)), some (.int w2.1), none, none, none, some (.long w4.1), none, some (.long x17), none, some (.long x18), none, some (.int w19.1), none, none, none]) hC dX11_chanceNow_250 rfl rfl rfl rfl ?_
                refine v_goto (pc := 252) (tgt := 177) hC dX11_chanceNow_252 rfl ?_
                obtain rfl := Option.some.inj hu8
                exact V.ls (ls_some (ls_some (ls_none (ls_none (ls_none (ls_some (ls_none (ls_some (ls_none (ls_some (ls_none (ls_some (ls_none (ls_none (ls_none ls_nil))))))))))))))) (k10 _ rfl)
              refine v_if_lt (pc := 228) (tgt := 235) hC dX11_chanceNow_228 rfl (fun c20 => ?_) (fun c20 => ?_)
              · replace hw15 := (if_pos c20).symm.trans hw15
                refine v_lconst (pc := 235) (0 : Int64) rfl hC dX11_chanceNow_235 ?_
                obtain rfl := Option.some.inj hw15
                exact V.ls (ls_some (ls_some (ls_none (ls_none (ls_none (ls_some (ls_none (ls_none (ls_none (ls_some (ls_none (ls_none (ls_none (ls_none (ls_none ls_nil))))))))))))))) kj16
              · replace hw15 := (if_neg c20).symm.trans hw15
                refine v_lconst (pc := 231) (1 : Int64) rfl hC dX11_chanceNow_231 ?_
                refine v_goto (pc := 232) (tgt := 236) hC dX11_chanceNow_232 rfl ?_
                obtain rfl := Option.some.inj hw15
                exact V.ls (ls_some (ls_some (ls_none (ls_none (ls_none (ls_some (ls_none (ls_none (ls_none (ls_some (ls_none (ls_none (ls_none (ls_none (ls_none ls_nil))))))))))))))) kj16
            refine V.ls (ls_some (ls_some (ls_none (ls_none (ls_none (ls_some (ls_none (ls_some (ls_none (ls_some (ls_none (ls_none (ls_some (ls_none (ls_some ls_nil))))))))))))))) (v_loop (pc := 188) (fun a23 => [some (.ref (gad g 49)), some (.int w2.1), none, none, none, some (.long w4.1), none, some (.long a9.1), none, some (.long a9.2.1), none, none, some (.long a23.1), none, some (.int a23.2)]) (fun z t => V SS g M iX11_chanceNow (PQ SS g M P) 221 [some (.ref (gad g 49)), some (.int w2.1), none, none, none, some (.long w4.1), none, some (.long a9.1), none, some (.long a9.2.1), none, none, some (.long z), none, none] [] t) (fun a23 s21 u22 hu22 k24 k25 => ?_) _ _ _ _ hw14 kx32)
            unfold fX11_chanceNow_L188 at hu22
            refine v_iload (pc := 188) hC dX11_chanceNow_188 rfl ?_
            refine v_iload_n (pc := 190) hC dX11_chanceNow_190 rfl ?_
            refine v_ic_ge (pc := 191) (tgt := 221) hC dX11_chanceNow_191 rfl (fun c27 => ?_) (fun c27 => ?_)
            · replace hu22 := (if_pos c27).symm.trans hu22
              obtain rfl := Option.some.inj hu22
              exact V.ls (ls_some (ls_some (ls_none (ls_none (ls_none (ls_some (ls_none (ls_some (ls_none (ls_some (ls_none (ls_none (ls_some (ls_none (ls_none ls_nil))))))))))))))) (k25 _ rfl)
            · replace hu22 := (if_neg c27).symm.trans hu22
              refine v_lload (pc := 194) hC dX11_chanceNow_194 rfl ?_
              refine v_iload (pc := 196) hC dX11_chanceNow_196 rfl ?_
              refine v_i2l (pc := 198) hC dX11_chanceNow_198 ?_
              refine v_aload_n (pc := 199) hC dX11_chanceNow_199 rfl ?_
              refine v_gt (pc := 200) 15 (.ref (gad g 61)) hC s_49 rfl rfl rfl rfl fl_X11_44 dX11_chanceNow_200 ?_
              refine v_aload_n (pc := 203) hC dX11_chanceNow_203 rfl ?_
              refine v_gt (pc := 204) 16 (.ref (gad g 62)) hC s_49 rfl rfl rfl rfl fl_X11_47 dX11_chanceNow_204 ?_
              refine v_iload (pc := 207) hC dX11_chanceNow_207 rfl ?_
              obtain ⟨v28, hv28, hu22⟩ := obd_s hu22
              refine v_aI (pc := 209) hC s_62 hv28 dX11_chanceNow_209 ?_
              obtain ⟨v29, hv29, hu22⟩ := obd_s hu22
              refine v_aL (pc := 210) hC s_61 hv29 dX11_chanceNow_210 ?_
              refine v_lmul (pc := 211) hC dX11_chanceNow_211 ?_
              refine v_ladd (pc := 212) hC dX11_chanceNow_212 ?_
              obtain ⟨x30, hx30, hu22⟩ := bnd_s hu22
              refine v_lstore (pc := 213) (lv' := [some (.ref (gad g 49)), some (.int w2.1), none, none, none, some (.long w4.1), none, some (.long a9.1), none, some (.long a9.2.1), none, none, some (.long x30), none, some (.int a23.2)]) hC dX11_chanceNow_213 hx30 rfl rfl rfl ?_
              obtain ⟨x31, hx31, hu22⟩ := bnd_s hu22
              refine v_iinc (pc := 215) (lv' := [some (.ref (gad g 49)), some (.int w2.1), none, none, none, some (.long w4.1), none, some (.long a9.1), none, some (.long a9.2.1), none, none, some (.long x30), none, some (.int x31)]) (1 : Int32) rfl hx31 hC dX11_chanceNow_215 rfl rfl rfl rfl ?_
              refine v_goto (pc := 218) (tgt := 188) hC dX11_chanceNow_218 rfl ?_
              obtain rfl := Option.some.inj hu22
              exact V.ls (ls_some (ls_some (ls_none (ls_none (ls_none (ls_some (ls_none (ls_some (ls_none (ls_some (ls_none (ls_none (ls_some (ls_none (ls_some ls_nil))))))))))))))) (k24 _ rfl)
        refine V.ls (ls_some (ls_some (ls_some (ls_none (ls_some (ls_some (ls_none (ls_some (ls_none (ls_none (ls_none (ls_none (ls_none (ls_none (ls_none ls_nil))))))))))))))) (v_loop (pc := 91) (fun a36 => [some (.ref (gad g 49)), some (.int w2.1), some (.long w3.1), none, some (.int a36.1), some (.long a36.2.1), none, some (.int a36.2.2), none, none, none, none, none, none, none]) (fun z t => V SS g M iX11_chanceNow (PQ SS g M P) 168 [some (.ref (gad g 49)), some (.int w2.1), none, none, none, some (.long z), none, none, none, none, none, none, none, none, none] [] t) (fun a36 s34 u35 hu35 k37 k38 => ?_) _ _ _ _ hw4 kx54)
        unfold fX11_chanceNow_L91 at hu35
        refine v_iload (pc := 91) hC dX11_chanceNow_91 rfl ?_
        refine v_bipush (pc := 93) (8 : Int32) rfl hC dX11_chanceNow_93 ?_
        refine v_ic_ge (pc := 95) (tgt := 168) hC dX11_chanceNow_95 rfl (fun c40 => ?_) (fun c40 => ?_)
        · replace hu35 := (if_pos c40).symm.trans hu35
          obtain rfl := Option.some.inj hu35
          exact V.ls (ls_some (ls_some (ls_none (ls_none (ls_none (ls_some (ls_none (ls_none (ls_none (ls_none (ls_none (ls_none (ls_none (ls_none (ls_none ls_nil))))))))))))))) (k38 _ rfl)
        · replace hu35 := (if_neg c40).symm.trans hu35
          refine v_aload_n (pc := 98) hC dX11_chanceNow_98 rfl ?_
          refine v_gt (pc := 99) 10 (.ref (gad g 58)) hC s_49 rfl rfl rfl rfl fl_X11_35 dX11_chanceNow_99 ?_
          refine v_iload (pc := 102) hC dX11_chanceNow_102 rfl ?_
          obtain ⟨v41, hv41, hu35⟩ := obd_s hu35
          refine v_aL (pc := 104) hC s_58 hv41 dX11_chanceNow_104 ?_
          refine v_lconst (pc := 105) (0 : Int64) rfl hC dX11_chanceNow_105 ?_
          refine v_lcmp (pc := 106) hC dX11_chanceNow_106 ?_
          obtain ⟨w42, hw42, hu35⟩ := obd_s hu35
          have kj43 : V SS g M iX11_chanceNow (PQ SS g M P) 162 [some (.ref (gad g 49)), some (.int w2.1), some (.long w3.1), none, some (.int w42.1), some (.long w42.2.1), none, some (.int a36.2.2), none, none, none, none, none, none, none] [] w42.2.2 := by
            obtain ⟨x44, hx44, hu35⟩ := bnd_s hu35
            refine v_iinc (pc := 162) (lv' := [some (.ref (gad g 49)), some (.int w2.1), some (.long w3.1), none, some (.int w42.1), some (.long w42.2.1), none, some (.int x44), none, none, none, none, none, none, none]) (1 : Int32) rfl hx44 hC dX11_chanceNow_162 rfl rfl rfl rfl ?_
            refine v_goto (pc := 165) (tgt := 91) hC dX11_chanceNow_165 rfl ?_
            obtain rfl := Option.some.inj hu35
            exact V.ls (ls_some (ls_some (ls_some (ls_none (ls_some (ls_some (ls_none (ls_some (ls_none (ls_none (ls_none (ls_none (ls_none (ls_none (ls_none ls_nil))))))))))))))) (k37 _ rfl)
          refine v_if_le (pc := 107) (tgt := 162) hC dX11_chanceNow_107 rfl (fun c45 => ?_) (fun c45 => ?_)
          · replace hw42 := (if_pos c45).symm.trans hw42
            obtain rfl := Option.some.inj hw42
            exact V.ls (ls_some (ls_some (ls_some (ls_none (ls_some (ls_some (ls_none (ls_some (ls_none (ls_none (ls_none (ls_none (ls_none (ls_none (ls_none ls_nil))))))))))))))) kj43
          · replace hw42 := (if_neg c45).symm.trans hw42
            refine v_aload_n (pc := 110) hC dX11_chanceNow_110 rfl ?_
            refine v_gt (pc := 111) 15 (.ref (gad g 61)) hC s_49 rfl rfl rfl rfl fl_X11_44 dX11_chanceNow_111 ?_
            refine v_iload (pc := 114) hC dX11_chanceNow_114 rfl ?_
            refine v_aload_n (pc := 116) hC dX11_chanceNow_116 rfl ?_
            refine v_gt (pc := 117) 9 (.ref (gad g 57)) hC s_49 rfl rfl rfl rfl fl_X11_31 dX11_chanceNow_117 ?_
            refine v_iload (pc := 120) hC dX11_chanceNow_120 rfl ?_
            obtain ⟨v46, hv46, hw42⟩ := obd_s hw42
            refine v_aL (pc := 122) hC s_57 hv46 dX11_chanceNow_122 ?_
            refine v_lload_n (pc := 123) hC dX11_chanceNow_123 rfl ?_
            refine v_aload_n (pc := 124) hC dX11_chanceNow_124 rfl ?_
            refine v_gt (pc := 125) 10 (.ref (gad g 58)) hC s_49 rfl rfl rfl rfl fl_X11_35 dX11_chanceNow_125 ?_
            refine v_iload (pc := 128) hC dX11_chanceNow_128 rfl ?_
            obtain ⟨v47, hv47, hw42⟩ := obd_s hw42
            refine v_aL (pc := 130) hC s_58 hv47 dX11_chanceNow_130 ?_
            obtain ⟨v48, hv48, hw42⟩ := obd_s hw42
            refine v_dL (pc := 131) hC hv48 dX11_chanceNow_131 ?_
            refine v_lmul (pc := 132) hC dX11_chanceNow_132 ?_
            obtain ⟨s49, hs49, hw42⟩ := obd_s hw42
            refine v_wL (pc := 133) hC s_61 hs49 dX11_chanceNow_133 ?_
            refine v_aload_n (pc := 134) hC dX11_chanceNow_134 rfl ?_
            refine v_gt (pc := 135) 16 (.ref (gad g 62)) hC s_49 rfl rfl rfl rfl fl_X11_47 dX11_chanceNow_135 ?_
            refine v_iload (pc := 138) hC dX11_chanceNow_138 rfl ?_
            refine v_iload (pc := 140) hC dX11_chanceNow_140 rfl ?_
            obtain ⟨s50, hs50, hw42⟩ := obd_s hw42
            refine v_wI (pc := 142) hC s_62 hs50 dX11_chanceNow_142 ?_
            refine v_lload (pc := 143) hC dX11_chanceNow_143 rfl ?_
            refine v_iload (pc := 145) hC dX11_chanceNow_145 rfl ?_
            refine v_i2l (pc := 147) hC dX11_chanceNow_147 ?_
            refine v_aload_n (pc := 148) hC dX11_chanceNow_148 rfl ?_
            refine v_gt (pc := 149) 15 (.ref (gad g 61)) hC s_49 rfl rfl rfl rfl fl_X11_44 dX11_chanceNow_149 ?_
            refine v_iload (pc := 152) hC dX11_chanceNow_152 rfl ?_
            obtain ⟨v51, hv51, hw42⟩ := obd_s hw42
            refine v_aL (pc := 154) hC s_61 hv51 dX11_chanceNow_154 ?_
            refine v_lmul (pc := 155) hC dX11_chanceNow_155 ?_
            refine v_ladd (pc := 156) hC dX11_chanceNow_156 ?_
            obtain ⟨x52, hx52, hw42⟩ := bnd_s hw42
            refine v_lstore (pc := 157) (lv' := [some (.ref (gad g 49)), some (.int w2.1), some (.long w3.1), none, some (.int a36.1), some (.long x52), none, some (.int a36.2.2), none, none, none, none, none, none, none]) hC dX11_chanceNow_157 hx52 rfl rfl rfl ?_
            obtain ⟨x53, hx53, hw42⟩ := bnd_s hw42
            refine v_iinc (pc := 159) (lv' := [some (.ref (gad g 49)), some (.int w2.1), some (.long w3.1), none, some (.int x53), some (.long x52), none, some (.int a36.2.2), none, none, none, none, none, none, none]) (1 : Int32) rfl hx53 hC dX11_chanceNow_159 rfl rfl rfl rfl ?_
            obtain rfl := Option.some.inj hw42
            exact V.ls (ls_some (ls_some (ls_some (ls_none (ls_some (ls_some (ls_none (ls_some (ls_none (ls_none (ls_none (ls_none (ls_none (ls_none (ls_none ls_nil))))))))))))))) kj43
      refine V.ls (ls_some (ls_some (ls_some (ls_none (ls_some (ls_none (ls_none (ls_none (ls_none (ls_none (ls_none (ls_none (ls_none (ls_none (ls_none ls_nil))))))))))))))) (v_loop (pc := 31) (fun a57 => [some (.ref (gad g 49)), some (.int w2.1), some (.long a57.1), none, some (.int a57.2), none, none, none, none, none, none, none, none, none, none]) (fun z t => V SS g M iX11_chanceNow (PQ SS g M P) 82 [some (.ref (gad g 49)), some (.int w2.1), some (.long z), none, none, none, none, none, none, none, none, none, none, none, none] [] t) (fun a57 s55 u56 hu56 k58 k59 => ?_) _ _ _ _ hw3 kx71)
      unfold fX11_chanceNow_L31 at hu56
      refine v_iload (pc := 31) hC dX11_chanceNow_31 rfl ?_
      refine v_bipush (pc := 33) (8 : Int32) rfl hC dX11_chanceNow_33 ?_
      refine v_ic_ge (pc := 35) (tgt := 82) hC dX11_chanceNow_35 rfl (fun c61 => ?_) (fun c61 => ?_)
      · replace hu56 := (if_pos c61).symm.trans hu56
        obtain rfl := Option.some.inj hu56
        exact V.ls (ls_some (ls_some (ls_some (ls_none (ls_none (ls_none (ls_none (ls_none (ls_none (ls_none (ls_none (ls_none (ls_none (ls_none (ls_none ls_nil))))))))))))))) (k59 _ rfl)
      · replace hu56 := (if_neg c61).symm.trans hu56
        refine v_aload_n (pc := 38) hC dX11_chanceNow_38 rfl ?_
        refine v_gt (pc := 39) 10 (.ref (gad g 58)) hC s_49 rfl rfl rfl rfl fl_X11_35 dX11_chanceNow_39 ?_
        refine v_iload (pc := 42) hC dX11_chanceNow_42 rfl ?_
        obtain ⟨v62, hv62, hu56⟩ := obd_s hu56
        refine v_aL (pc := 44) hC s_58 hv62 dX11_chanceNow_44 ?_
        refine v_lconst (pc := 45) (0 : Int64) rfl hC dX11_chanceNow_45 ?_
        refine v_lcmp (pc := 46) hC dX11_chanceNow_46 ?_
        obtain ⟨w63, hw63, hu56⟩ := obd_s hu56
        have kj64 : V SS g M iX11_chanceNow (PQ SS g M P) 75 [some (.ref (gad g 49)), some (.int w2.1), none, none, some (.int a57.2), none, none, none, none, none, none, none, none, none, none] [.long w63.1] w63.2 := by
          refine v_lstore_n (pc := 75) (lv' := [some (.ref (gad g 49)), some (.int w2.1), some (.long w63.1), none, some (.int a57.2), none, none, none, none, none, none, none, none, none, none]) hC dX11_chanceNow_75 rfl rfl rfl rfl ?_
          obtain ⟨x65, hx65, hu56⟩ := bnd_s hu56
          refine v_iinc (pc := 76) (lv' := [some (.ref (gad g 49)), some (.int w2.1), some (.long w63.1), none, some (.int x65), none, none, none, none, none, none, none, none, none, none]) (1 : Int32) rfl hx65 hC dX11_chanceNow_76 rfl rfl rfl rfl ?_
          refine v_goto (pc := 79) (tgt := 31) hC dX11_chanceNow_79 rfl ?_
          obtain rfl := Option.some.inj hu56
          exact V.ls (ls_some (ls_some (ls_some (ls_none (ls_some (ls_none (ls_none (ls_none (ls_none (ls_none (ls_none (ls_none (ls_none (ls_none (ls_none ls_nil))))))))))))))) (k58 _ rfl)
        refine v_if_ne (pc := 47) (tgt := 54) hC dX11_chanceNow_47 rfl (fun c70 => ?_) (fun c70 => ?_)
        · replace hw63 := (if_neg c70).symm.trans hw63
          refine v_lload_n (pc := 54) hC dX11_chanceNow_54 rfl ?_
          refine v_lload_n (pc := 55) hC dX11_chanceNow_55 rfl ?_
          refine v_aload_n (pc := 56) hC dX11_chanceNow_56 rfl ?_
          refine v_gt (pc := 57) 10 (.ref (gad g 58)) hC s_49 rfl rfl rfl rfl fl_X11_35 dX11_chanceNow_57 ?_
          refine v_iload (pc := 60) hC dX11_chanceNow_60 rfl ?_
          obtain ⟨v66, hv66, hw63⟩ := obd_s hw63
          refine v_aL (pc := 62) hC s_58 hv66 dX11_chanceNow_62 ?_
          obtain ⟨w67, hw67, hw63⟩ := obd_s hw63
          refine v_cS (pc := 63) [.long a57.1] [.long w67.1, .long a57.1] gm_X11_divisor hC (ct_X11_divisor  hw67) ml_X11_86 rfl rfl rfl rfl rfl rfl dX11_chanceNow_63 ?_
          obtain ⟨v68, hv68, hw63⟩ := obd_s hw63
          refine v_dL (pc := 66) hC hv68 dX11_chanceNow_66 ?_
          refine v_aload_n (pc := 67) hC dX11_chanceNow_67 rfl ?_
          refine v_gt (pc := 68) 10 (.ref (gad g 58)) hC s_49 rfl rfl rfl rfl fl_X11_35 dX11_chanceNow_68 ?_
          refine v_iload (pc := 71) hC dX11_chanceNow_71 rfl ?_
          obtain ⟨v69, hv69, hw63⟩ := obd_s hw63
          refine v_aL (pc := 73) hC s_58 hv69 dX11_chanceNow_73 ?_
          refine v_lmul (pc := 74) hC dX11_chanceNow_74 ?_
          obtain rfl := Option.some.inj hw63
          exact V.ls (ls_some (ls_some (ls_none (ls_none (ls_some (ls_none (ls_none (ls_none (ls_none (ls_none (ls_none (ls_none (ls_none (ls_none (ls_none ls_nil))))))))))))))) kj64
        · replace hw63 := (if_pos c70).symm.trans hw63
          refine v_lload_n (pc := 50) hC dX11_chanceNow_50 rfl ?_
          refine v_goto (pc := 51) (tgt := 75) hC dX11_chanceNow_51 rfl ?_
          obtain rfl := Option.some.inj hw63
          exact V.ls (ls_some (ls_some (ls_none (ls_none (ls_some (ls_none (ls_none (ls_none (ls_none (ls_none (ls_none (ls_none (ls_none (ls_none (ls_none ls_nil))))))))))))))) kj64
    · replace h := (if_neg c72).symm.trans h
      refine v_bipush (pc := 23) (-4 : Int32) rfl hC dX11_chanceNow_23 ?_
      obtain rfl := Option.some.inj h
      exact v_iret (pc := 25) hC rfl dX11_chanceNow_25 hP
  · replace h := (if_neg c73).symm.trans h
    refine v_bipush (pc := 14) (-3 : Int32) rfl hC dX11_chanceNow_14 ?_
    obtain rfl := Option.some.inj h
    exact v_iret (pc := 16) hC rfl dX11_chanceNow_16 hP
theorem dX11_chance_0 : decode cX11_chance 0 = .ok (.aload_n 0, 1) := by decide +kernel
theorem dX11_chance_1 : decode cX11_chance 1 = .ok (.invokevirtual 206, 3) := by decide +kernel
theorem dX11_chance_4 : decode cX11_chance 4 = .ok (.ireturn, 1) := by decide +kernel
def fX11_chance  (s : Sg) : Option (Int32 × Sg) :=
  (fX11_chanceNow s).bind fun w1 =>
  some (w1.1, w1.2)
theorem ct_X11_chance {g : Gl}  {s : Sg} {w : Int32 × Sg}  (h : fX11_chance s = some w) : Ct SS g iX11_chance 5 124 [.ref (gad g 49)] s (Dt (some (.int w.1)) w.2) := by
  refine Ct.ofV (by decide +kernel) 0 (lv0 := [some (.ref (gad g 49))]) rfl rfl (fun M hC => ?_)
  have hP : (Dt (some (.int w.1)) w.2) (some (.int w.1)) w.2 := ⟨rfl, rfl⟩
  generalize Dt (some (.int w.1)) w.2 = P at hP ⊢
  unfold fX11_chance at h
  refine v_aload_n (pc := 0) hC dX11_chance_0 rfl ?_
  obtain ⟨w1, hw1, h⟩ := obd_s h
  refine v_cV (pc := 1) [] [.int w1.1] gm_X11_chanceNow hC s_49 rfl rfl (ct_X11_chanceNow  hw1) ml_X11_206 rfl rfl rfl rfl rfl rfl dX11_chance_1 ?_
  obtain rfl := Option.some.inj h
  exact v_iret (pc := 4) hC rfl dX11_chance_4 hP
theorem dX11_ranNow_0 : decode cX11_ranNow 0 = .ok (.iconst 0, 1) := by decide +kernel
theorem dX11_ranNow_1 : decode cX11_ranNow 1 = .ok (.istore_n 2, 1) := by decide +kernel
theorem dX11_ranNow_2 : decode cX11_ranNow 2 = .ok (.aload_n 0, 1) := by decide +kernel
theorem dX11_ranNow_3 : decode cX11_ranNow 3 = .ok (.iconst 0, 1) := by decide +kernel
theorem dX11_ranNow_4 : decode cX11_ranNow 4 = .ok (.iconst 0, 1) := by decide +kernel
theorem dX11_ranNow_5 : decode cX11_ranNow 5 = .ok (.invokevirtual 198, 3) := by decide +kernel
theorem dX11_ranNow_8 : decode cX11_ranNow 8 = .ok (.istore_n 3, 1) := by decide +kernel
theorem dX11_ranNow_9 : decode cX11_ranNow 9 = .ok (.iconst 0, 1) := by decide +kernel
theorem dX11_ranNow_10 : decode cX11_ranNow 10 = .ok (.istore 4, 2) := by decide +kernel
theorem dX11_ranNow_12 : decode cX11_ranNow 12 = .ok (.iload 4, 2) := by decide +kernel
theorem dX11_ranNow_14 : decode cX11_ranNow 14 = .ok (.bipush 10, 2) := by decide +kernel
theorem dX11_ranNow_16 : decode cX11_ranNow 16 = .ok (.if_icmp .ge 54, 3) := by decide +kernel
theorem dX11_ranNow_19 : decode cX11_ranNow 19 = .ok (.iload 4, 2) := by decide +kernel
theorem dX11_ranNow_21 : decode cX11_ranNow 21 = .ok (.istore 5, 2) := by decide +kernel
theorem dX11_ranNow_23 : decode cX11_ranNow 23 = .ok (.iload 5, 2) := by decide +kernel
theorem dX11_ranNow_25 : decode cX11_ranNow 25 = .ok (.bipush 10, 2) := by decide +kernel
theorem dX11_ranNow_27 : decode cX11_ranNow 27 = .ok (.if_icmp .ge 37, 3) := by decide +kernel
theorem dX11_ranNow_30 : decode cX11_ranNow 30 = .ok (.aload_n 0, 1) := by decide +kernel
theorem dX11_ranNow_31 : decode cX11_ranNow 31 = .ok (.iload 4, 2) := by decide +kernel
theorem dX11_ranNow_33 : decode cX11_ranNow 33 = .ok (.iload 5, 2) := by decide +kernel
theorem dX11_ranNow_35 : decode cX11_ranNow 35 = .ok (.invokevirtual 198, 3) := by decide +kernel
theorem dX11_ranNow_38 : decode cX11_ranNow 38 = .ok (.istore 6, 2) := by decide +kernel
theorem dX11_ranNow_40 : decode cX11_ranNow 40 = .ok (.iload 6, 2) := by decide +kernel
theorem dX11_ranNow_42 : decode cX11_ranNow 42 = .ok (.iload_n 3, 1) := by decide +kernel
theorem dX11_ranNow_43 : decode cX11_ranNow 43 = .ok (.if_icmp .le 15, 3) := by decide +kernel
theorem dX11_ranNow_46 : decode cX11_ranNow 46 = .ok (.iload 6, 2) := by decide +kernel
theorem dX11_ranNow_48 : decode cX11_ranNow 48 = .ok (.istore_n 3, 1) := by decide +kernel
theorem dX11_ranNow_49 : decode cX11_ranNow 49 = .ok (.bipush 10, 2) := by decide +kernel
theorem dX11_ranNow_51 : decode cX11_ranNow 51 = .ok (.iload 4, 2) := by decide +kernel
theorem dX11_ranNow_53 : decode cX11_ranNow 53 = .ok (.imul, 1) := by decide +kernel
theorem dX11_ranNow_54 : decode cX11_ranNow 54 = .ok (.iload 5, 2) := by decide +kernel
theorem dX11_ranNow_56 : decode cX11_ranNow 56 = .ok (.iadd, 1) := by decide +kernel
theorem dX11_ranNow_57 : decode cX11_ranNow 57 = .ok (.istore_n 2, 1) := by decide +kernel
theorem dX11_ranNow_58 : decode cX11_ranNow 58 = .ok (.iinc 5 1, 3) := by decide +kernel
theorem dX11_ranNow_61 : decode cX11_ranNow 61 = .ok (.goto (-38), 3) := by decide +kernel
theorem dX11_ranNow_64 : decode cX11_ranNow 64 = .ok (.iinc 4 1, 3) := by decide +kernel
theorem dX11_ranNow_67 : decode cX11_ranNow 67 = .ok (.goto (-55), 3) := by decide +kernel
theorem dX11_ranNow_70 : decode cX11_ranNow 70 = .ok (.iload_n 1, 1) := by decide +kernel
theorem dX11_ranNow_71 : decode cX11_ranNow 71 = .ok (.ifCond .ne 10, 3) := by decide +kernel
theorem dX11_ranNow_74 : decode cX11_ranNow 74 = .ok (.iload_n 2, 1) := by decide +kernel
theorem dX11_ranNow_75 : decode cX11_ranNow 75 = .ok (.bipush 10, 2) := by decide +kernel
theorem dX11_ranNow_77 : decode cX11_ranNow 77 = .ok (.idiv, 1) := by decide +kernel
theorem dX11_ranNow_78 : decode cX11_ranNow 78 = .ok (.goto 7, 3) := by decide +kernel
theorem dX11_ranNow_81 : decode cX11_ranNow 81 = .ok (.iload_n 2, 1) := by decide +kernel
theorem dX11_ranNow_82 : decode cX11_ranNow 82 = .ok (.bipush 10, 2) := by decide +kernel
theorem dX11_ranNow_84 : decode cX11_ranNow 84 = .ok (.irem, 1) := by decide +kernel
theorem dX11_ranNow_85 : decode cX11_ranNow 85 = .ok (.ireturn, 1) := by decide +kernel
def fX11_ranNow_L23 (p1 : Int32) (p4 : Int32) (a : Int32 × Int32 × Int32) (s : Sg) : Option (((Int32 × Int32 × Int32) ⊕ (Int32 × Int32)) × Sg) :=
  if (10 : Int32) ≤ a.2.2 then
  some (.inr (a.1, a.2.1), s)
  else
  (fX11_leanNow p4 a.2.2 s).bind fun w2 =>
  ((if w2.1 ≤ a.2.1 then
  some (a.1, a.2.1)
  else
  bnd (((10 : Int32) * p4) + a.2.2) fun x7 =>
  some (x7, w2.1)) : Option (Int32 × Int32)).bind fun w3 =>
  bnd (a.2.2 + (1 : Int32)) fun x5 =>
  some (.inl (w3.1, w3.2, x5), w2.2)
def fX11_ranNow_L12 (p1 : Int32) (a : Int32 × Int32 × Int32) (s : Sg) : Option (((Int32 × Int32 × Int32) ⊕ (Int32)) × Sg) :=
  if (10 : Int32) ≤ a.2.2 then
  some (.inr a.1, s)
  else
  (lpG (fX11_ranNow_L23 p1 a.2.2) FU (a.1, a.2.1, a.2.2) s).bind fun w2 =>
  bnd (a.2.2 + (1 : Int32)) fun x3 =>
  some (.inl (w2.1.1, w2.1.2, x3), w2.2)
def fX11_ranNow (x0_ : Int32) (s : Sg) : Option (Int32 × Sg) :=
  (fX11_leanNow (0 : Int32) (0 : Int32) s).bind fun w1 =>
  (lpG (fX11_ranNow_L12 x0_) FU ((0 : Int32), w1.1, (0 : Int32)) w1.2).bind fun w2 =>
  if x0_ = 0 then
  (dI w2.1 (10 : Int32)).bind fun v5 =>
  some (v5, w2.2)
  else
  (mI w2.1 (10 : Int32)).bind fun v3 =>
  some (v3, w2.2)
theorem ct_X11_ranNow {g : Gl} {x0_ : Int32} {s : Sg} {w : Int32 × Sg}  (h : fX11_ranNow x0_ s = some w) : Ct SS g iX11_ranNow 4 95 [.ref (gad g 49), .int x0_] s (Dt (some (.int w.1)) w.2) := by
  refine Ct.ofV (by decide +kernel) 5 (lv0 := [some (.ref (gad g 49)), some (.int x0_), none, none, none, none, none]) rfl rfl (fun M hC => ?_)
  have hP : (Dt (some (.int w.1)) w.2) (some (.int w.1)) w.2 := ⟨rfl, rfl⟩
  generalize Dt (some (.int w.1)) w.2 = P at hP ⊢
  unfold fX11_ranNow at h
  refine v_iconst (pc := 0) (0 : Int32) rfl hC dX11_ranNow_0 ?_
  refine v_istore_n (pc := 1) (lv' := [some (.ref (gad g 49)), some (.int x0_), some (.int (0 : Int32)), none, none, none, none]) hC dX11_ranNow_1 rfl rfl rfl rfl ?_
  refine v_aload_n (pc := 2) hC dX11_ranNow_2 rfl ?_
  refine v_iconst (pc := 3) (0 : Int32) rfl hC dX11_ranNow_3 ?_
  refine v_iconst (pc := 4) (0 : Int32) rfl hC dX11_ranNow_4 ?_
  obtain ⟨w1, hw1, h⟩ := obd_s h
  refine v_cV (pc := 5) [] [.int w1.1] gm_X11_leanNow hC s_49 rfl rfl (ct_X11_leanNow  hw1) ml_X11_198 rfl rfl rfl rfl rfl rfl dX11_ranNow_5 ?_
  refine v_istore_n (pc := 8) (lv' := [some (.ref (gad g 49)), some (.int x0_), some (.int (0 : Int32)), some (.int w1.1), none, none, none]) hC dX11_ranNow_8 rfl rfl rfl rfl ?_
  refine v_iconst (pc := 9) (0 : Int32) rfl hC dX11_ranNow_9 ?_
  refine v_istore (pc := 10) (lv' := [some (.ref (gad g 49)), some (.int x0_), some (.int (0 : Int32)), some (.int w1.1), some (.int (0 : Int32)), none, none]) hC dX11_ranNow_10 rfl rfl rfl rfl ?_
  obtain ⟨w2, hw2, h⟩ := obd_s h
  have kx29 : V SS g M iX11_ranNow (PQ SS g M P) 70 [none, some (.int x0_), some (.int w2.1), none, none, none, none] [] w2.2 := by
    refine v_iload_n (pc := 70) hC dX11_ranNow_70 rfl ?_
    refine v_if_ne (pc := 71) (tgt := 81) hC dX11_ranNow_71 rfl (fun c4 => ?_) (fun c4 => ?_)
    · replace h := (if_neg c4).symm.trans h
      refine v_iload_n (pc := 81) hC dX11_ranNow_81 rfl ?_
      refine v_bipush (pc := 82) (10 : Int32) rfl hC dX11_ranNow_82 ?_
      obtain ⟨v3, hv3, h⟩ := obd_s h
      refine v_mI (pc := 84) hC hv3 dX11_ranNow_84 ?_
      obtain rfl := Option.some.inj h
      exact v_iret (pc := 85) hC rfl dX11_ranNow_85 hP
    · replace h := (if_pos c4).symm.trans h
      refine v_iload_n (pc := 74) hC dX11_ranNow_74 rfl ?_
      refine v_bipush (pc := 75) (10 : Int32) rfl hC dX11_ranNow_75 ?_
      obtain ⟨v5, hv5, h⟩ := obd_s h
      refine v_dI (pc := 77) hC hv5 dX11_ranNow_77 ?_
      refine v_goto (pc := 78) (tgt := 85) hC dX11_ranNow_78 rfl ?_
      obtain rfl := Option.some.inj h
      exact v_iret (pc := 85) hC rfl dX11_ranNow_85 hP
  refine V.ls (ls_some (ls_some (ls_some (ls_some (ls_some (ls_none (ls_none ls_nil))))))) (v_loop (pc := 12) (fun a8 => [some (.ref (gad g 49)), some (.int x0_), some (.int a8.1), some (.int a8.2.1), some (.int a8.2.2), none, none]) (fun z t => V SS g M iX11_ranNow (PQ SS g M P) 70 [none, some (.int x0_), some (.int z), none, none, none, none] [] t) (fun a8 s6 u7 hu7 k9 k10 => ?_) _ _ _ _ hw2 kx29)
  unfold fX11_ranNow_L12 at hu7
  refine v_iload (pc := 12) hC dX11_ranNow_12 rfl ?_
  refine v_bipush (pc := 14) (10 : Int32) rfl hC dX11_ranNow_14 ?_
  refine v_ic_ge (pc := 16) (tgt := 70) hC dX11_ranNow_16 rfl (fun c12 => ?_) (fun c12 => ?_)
  · replace hu7 := (if_pos c12).symm.trans hu7
    obtain rfl := Option.some.inj hu7
    exact V.ls (ls_none (ls_some (ls_some (ls_none (ls_none (ls_none (ls_none ls_nil))))))) (k10 _ rfl)
  · replace hu7 := (if_neg c12).symm.trans hu7
    refine v_iload (pc := 19) hC dX11_ranNow_19 rfl ?_
    refine v_istore (pc := 21) (lv' := [some (.ref (gad g 49)), some (.int x0_), some (.int a8.1), some (.int a8.2.1), some (.int a8.2.2), some (.int a8.2.2), none]) hC dX11_ranNow_21 rfl rfl rfl rfl ?_
    obtain ⟨w13, hw13, hu7⟩ := obd_s hu7
    have kx28 : V SS g M iX11_ranNow (PQ SS g M P) 64 [some (.ref (gad g 49)), some (.int x0_), some (.int w13.1.1), some (.int w13.1.2), some (.int a8.2.2), none, none] [] w13.2 := by
      obtain ⟨x14, hx14, hu7⟩ := bnd_s hu7
      refine v_iinc (pc := 64) (lv' := [some (.ref (gad g 49)), some (.int x0_), some (.int w13.1.1), some (.int w13.1.2), some (.int x14), none, none]) (1 : Int32) rfl hx14 hC dX11_ranNow_64 rfl rfl rfl rfl ?_
      refine v_goto (pc := 67) (tgt := 12) hC dX11_ranNow_67 rfl ?_
      obtain rfl := Option.some.inj hu7
      exact V.ls (ls_some (ls_some (ls_some (ls_some (ls_some (ls_none (ls_none ls_nil))))))) (k9 _ rfl)
    refine V.ls (ls_some (ls_some (ls_some (ls_some (ls_some (ls_some (ls_none ls_nil))))))) (v_loop (pc := 23) (fun a17 => [some (.ref (gad g 49)), some (.int x0_), some (.int a17.1), some (.int a17.2.1), some (.int a8.2.2), some (.int a17.2.2), none]) (fun z t => V SS g M iX11_ranNow (PQ SS g M P) 64 [some (.ref (gad g 49)), some (.int x0_), some (.int z.1), some (.int z.2), some (.int a8.2.2), none, none] [] t) (fun a17 s15 u16 hu16 k18 k19 => ?_) _ _ _ _ hw13 kx28)
    unfold fX11_ranNow_L23 at hu16
    refine v_iload (pc := 23) hC dX11_ranNow_23 rfl ?_
    refine v_bipush (pc := 25) (10 : Int32) rfl hC dX11_ranNow_25 ?_
    refine v_ic_ge (pc := 27) (tgt := 64) hC dX11_ranNow_27 rfl (fun c21 => ?_) (fun c21 => ?_)
    · replace hu16 := (if_pos c21).symm.trans hu16
      obtain rfl := Option.some.inj hu16
      exact V.ls (ls_some (ls_some (ls_some (ls_some (ls_some (ls_none (ls_none ls_nil))))))) (k19 _ rfl)
    · replace hu16 := (if_neg c21).symm.trans hu16
      refine v_aload_n (pc := 30) hC dX11_ranNow_30 rfl ?_
      refine v_iload (pc := 31) hC dX11_ranNow_31 rfl ?_
      refine v_iload (pc := 33) hC dX11_ranNow_33 rfl ?_
      obtain ⟨w22, hw22, hu16⟩ := obd_s hu16
      refine v_cV (pc := 35) [] [.int w22.1] gm_X11_leanNow hC s_49 rfl rfl (ct_X11_leanNow  hw22) ml_X11_198 rfl rfl rfl rfl rfl rfl dX11_ranNow_35 ?_
      refine v_istore (pc := 38) (lv' := [some (.ref (gad g 49)), some (.int x0_), some (.int a17.1), some (.int a17.2.1), some (.int a8.2.2), some (.int a17.2.2), some (.int w22.1)]) hC dX11_ranNow_38 rfl rfl rfl rfl ?_
      refine v_iload (pc := 40) hC dX11_ranNow_40 rfl ?_
      refine v_iload_n (pc := 42) hC dX11_ranNow_42 rfl ?_
      obtain ⟨w23, hw23, hu16⟩ := obd_s hu16
      have kj24 : V SS g M iX11_ranNow (PQ SS g M P) 58 [some (.ref (gad g 49)), some (.int x0_), some (.int w23.1), some (.int w23.2), some (.int a8.2.2), some (.int a17.2.2), none] [] w22.2 := by
        obtain ⟨x25, hx25, hu16⟩ := bnd_s hu16
        refine v_iinc (pc := 58) (lv' := [some (.ref (gad g 49)), some (.int x0_), some (.int w23.1), some (.int w23.2), some (.int a8.2.2), some (.int x25), none]) (1 : Int32) rfl hx25 hC dX11_ranNow_58 rfl rfl rfl rfl ?_
        refine v_goto (pc := 61) (tgt := 23) hC dX11_ranNow_61 rfl ?_
        obtain rfl := Option.some.inj hu16
        exact V.ls (ls_some (ls_some (ls_some (ls_some (ls_some (ls_some (ls_none ls_nil))))))) (k18 _ rfl)
      refine v_ic_le (pc := 43) (tgt := 58) hC dX11_ranNow_43 rfl (fun c26 => ?_) (fun c26 => ?_)
      · replace hw23 := (if_pos c26).symm.trans hw23
        obtain rfl := Option.some.inj hw23
        exact V.ls (ls_some (ls_some (ls_some (ls_some (ls_some (ls_some (ls_none ls_nil))))))) kj24
      · replace hw23 := (if_neg c26).symm.trans hw23
        refine v_iload (pc := 46) hC dX11_ranNow_46 rfl ?_
        refine v_istore_n (pc := 48) (lv' := [some (.ref (gad g 49)), some (.int x0_), some (.int a17.1), some (.int w22.1), some (.int a8.2.2), some (.int a17.2.2), some (.int w22.1)]) hC dX11_ranNow_48 rfl rfl rfl rfl ?_
        refine v_bipush (pc := 49) (10 : Int32) rfl hC dX11_ranNow_49 ?_
        refine v_iload (pc := 51) hC dX11_ranNow_51 rfl ?_
        refine v_imul (pc := 53) hC dX11_ranNow_53 ?_
        refine v_iload (pc := 54) hC dX11_ranNow_54 rfl ?_
        refine v_iadd (pc := 56) hC dX11_ranNow_56 ?_
        obtain ⟨x27, hx27, hw23⟩ := bnd_s hw23
        refine v_istore_n (pc := 57) (lv' := [some (.ref (gad g 49)), some (.int x0_), some (.int x27), some (.int w22.1), some (.int a8.2.2), some (.int a17.2.2), some (.int w22.1)]) hC dX11_ranNow_57 hx27 rfl rfl rfl ?_
        obtain rfl := Option.some.inj hw23
        exact V.ls (ls_some (ls_some (ls_some (ls_some (ls_some (ls_some (ls_none ls_nil))))))) kj24
theorem dX11_ran_0 : decode cX11_ran 0 = .ok (.iload_n 1, 1) := by decide +kernel
theorem dX11_ran_1 : decode cX11_ran 1 = .ok (.iconst 0, 1) := by decide +kernel
theorem dX11_ran_2 : decode cX11_ran 2 = .ok (.iconst 1, 1) := by decide +kernel
theorem dX11_ran_3 : decode cX11_ran 3 = .ok (.invokestatic 94, 3) := by decide +kernel
theorem dX11_ran_6 : decode cX11_ran 6 = .ok (.ifCond .eq 11, 3) := by decide +kernel
theorem dX11_ran_9 : decode cX11_ran 9 = .ok (.aload_n 0, 1) := by decide +kernel
theorem dX11_ran_10 : decode cX11_ran 10 = .ok (.iload_n 1, 1) := by decide +kernel
theorem dX11_ran_11 : decode cX11_ran 11 = .ok (.invokevirtual 209, 3) := by decide +kernel
theorem dX11_ran_14 : decode cX11_ran 14 = .ok (.goto 5, 3) := by decide +kernel
theorem dX11_ran_17 : decode cX11_ran 17 = .ok (.bipush (-2), 2) := by decide +kernel
theorem dX11_ran_19 : decode cX11_ran 19 = .ok (.ireturn, 1) := by decide +kernel
def fX11_ran (x0_ : Int32) (s : Sg) : Option (Int32 × Sg) :=
  (fX11_in x0_ (0 : Int32) (1 : Int32) s).bind fun w1 =>
  if w1.1 = 0 then
  some ((-2 : Int32), w1.2)
  else
  (fX11_ranNow x0_ w1.2).bind fun w3 =>
  some (w3.1, w3.2)
theorem ct_X11_ran {g : Gl} {x0_ : Int32} {s : Sg} {w : Int32 × Sg}  (h : fX11_ran x0_ s = some w) : Ct SS g iX11_ran 5 121 [.ref (gad g 49), .int x0_] s (Dt (some (.int w.1)) w.2) := by
  refine Ct.ofV (by decide +kernel) 0 (lv0 := [some (.ref (gad g 49)), some (.int x0_)]) rfl rfl (fun M hC => ?_)
  have hP : (Dt (some (.int w.1)) w.2) (some (.int w.1)) w.2 := ⟨rfl, rfl⟩
  generalize Dt (some (.int w.1)) w.2 = P at hP ⊢
  unfold fX11_ran at h
  refine v_iload_n (pc := 0) hC dX11_ran_0 rfl ?_
  refine v_iconst (pc := 1) (0 : Int32) rfl hC dX11_ran_1 ?_
  refine v_iconst (pc := 2) (1 : Int32) rfl hC dX11_ran_2 ?_
  obtain ⟨w1, hw1, h⟩ := obd_s h
  refine v_cS (pc := 3) [] [.int w1.1] gm_X11_in hC (ct_X11_in  hw1) ml_X11_94 rfl rfl rfl rfl rfl rfl dX11_ran_3 ?_
  refine v_if_eq (pc := 6) (tgt := 17) hC dX11_ran_6 rfl (fun c2 => ?_) (fun c2 => ?_)
  · replace h := (if_pos c2).symm.trans h
    refine v_bipush (pc := 17) (-2 : Int32) rfl hC dX11_ran_17 ?_
    obtain rfl := Option.some.inj h
    exact v_iret (pc := 19) hC rfl dX11_ran_19 hP
  · replace h := (if_neg c2).symm.trans h
    refine v_aload_n (pc := 9) hC dX11_ran_9 rfl ?_
    refine v_iload_n (pc := 10) hC dX11_ran_10 rfl ?_
    obtain ⟨w3, hw3, h⟩ := obd_s h
    refine v_cV (pc := 11) [] [.int w3.1] gm_X11_ranNow hC s_49 rfl rfl (ct_X11_ranNow  hw3) ml_X11_209 rfl rfl rfl rfl rfl rfl dX11_ran_11 ?_
    refine v_goto (pc := 14) (tgt := 19) hC dX11_ran_14 rfl ?_
    obtain rfl := Option.some.inj h
    exact v_iret (pc := 19) hC rfl dX11_ran_19 hP
theorem dX11_laysOwn_0 : decode cX11_laysOwn 0 = .ok (.aload_n 0, 1) := by decide +kernel
theorem dX11_laysOwn_1 : decode cX11_laysOwn 1 = .ok (.invokevirtual 160, 3) := by decide +kernel
theorem dX11_laysOwn_4 : decode cX11_laysOwn 4 = .ok (.aload_n 0, 1) := by decide +kernel
theorem dX11_laysOwn_5 : decode cX11_laysOwn 5 = .ok (.lconst 0, 1) := by decide +kernel
theorem dX11_laysOwn_6 : decode cX11_laysOwn 6 = .ok (.lconst 1, 1) := by decide +kernel
theorem dX11_laysOwn_7 : decode cX11_laysOwn 7 = .ok (.invokevirtual 174, 3) := by decide +kernel
theorem dX11_laysOwn_10 : decode cX11_laysOwn 10 = .ok (.iconst 0, 1) := by decide +kernel
theorem dX11_laysOwn_11 : decode cX11_laysOwn 11 = .ok (.istore_n 2, 1) := by decide +kernel
theorem dX11_laysOwn_12 : decode cX11_laysOwn 12 = .ok (.iconst 0, 1) := by decide +kernel
theorem dX11_laysOwn_13 : decode cX11_laysOwn 13 = .ok (.istore_n 3, 1) := by decide +kernel
theorem dX11_laysOwn_14 : decode cX11_laysOwn 14 = .ok (.iload_n 3, 1) := by decide +kernel
theorem dX11_laysOwn_15 : decode cX11_laysOwn 15 = .ok (.aload_n 0, 1) := by decide +kernel
theorem dX11_laysOwn_16 : decode cX11_laysOwn 16 = .ok (.getfield 98, 3) := by decide +kernel
theorem dX11_laysOwn_19 : decode cX11_laysOwn 19 = .ok (.if_icmp .ge 75, 3) := by decide +kernel
theorem dX11_laysOwn_22 : decode cX11_laysOwn 22 = .ok (.aload_n 0, 1) := by decide +kernel
theorem dX11_laysOwn_23 : decode cX11_laysOwn 23 = .ok (.getfield 19, 3) := by decide +kernel
theorem dX11_laysOwn_26 : decode cX11_laysOwn 26 = .ok (.iload_n 3, 1) := by decide +kernel
theorem dX11_laysOwn_27 : decode cX11_laysOwn 27 = .ok (.iaload, 1) := by decide +kernel
theorem dX11_laysOwn_28 : decode cX11_laysOwn 28 = .ok (.iload_n 1, 1) := by decide +kernel
theorem dX11_laysOwn_29 : decode cX11_laysOwn 29 = .ok (.if_icmp .ne 59, 3) := by decide +kernel
theorem dX11_laysOwn_32 : decode cX11_laysOwn 32 = .ok (.aload_n 0, 1) := by decide +kernel
theorem dX11_laysOwn_33 : decode cX11_laysOwn 33 = .ok (.iload_n 3, 1) := by decide +kernel
theorem dX11_laysOwn_34 : decode cX11_laysOwn 34 = .ok (.invokevirtual 148, 3) := by decide +kernel
theorem dX11_laysOwn_37 : decode cX11_laysOwn 37 = .ok (.ifCond .eq 51, 3) := by decide +kernel
theorem dX11_laysOwn_40 : decode cX11_laysOwn 40 = .ok (.aload_n 0, 1) := by decide +kernel
theorem dX11_laysOwn_41 : decode cX11_laysOwn 41 = .ok (.getfield 22, 3) := by decide +kernel
theorem dX11_laysOwn_44 : decode cX11_laysOwn 44 = .ok (.iload_n 3, 1) := by decide +kernel
theorem dX11_laysOwn_45 : decode cX11_laysOwn 45 = .ok (.iaload, 1) := by decide +kernel
theorem dX11_laysOwn_46 : decode cX11_laysOwn 46 = .ok (.istore 4, 2) := by decide +kernel
theorem dX11_laysOwn_48 : decode cX11_laysOwn 48 = .ok (.aload_n 0, 1) := by decide +kernel
theorem dX11_laysOwn_49 : decode cX11_laysOwn 49 = .ok (.aload_n 0, 1) := by decide +kernel
theorem dX11_laysOwn_50 : decode cX11_laysOwn 50 = .ok (.iload_n 3, 1) := by decide +kernel
theorem dX11_laysOwn_51 : decode cX11_laysOwn 51 = .ok (.invokevirtual 151, 3) := by decide +kernel
theorem dX11_laysOwn_54 : decode cX11_laysOwn 54 = .ok (.i2l, 1) := by decide +kernel
theorem dX11_laysOwn_55 : decode cX11_laysOwn 55 = .ok (.aload_n 0, 1) := by decide +kernel
theorem dX11_laysOwn_56 : decode cX11_laysOwn 56 = .ok (.getfield 35, 3) := by decide +kernel
theorem dX11_laysOwn_59 : decode cX11_laysOwn 59 = .ok (.iload 4, 2) := by decide +kernel
theorem dX11_laysOwn_61 : decode cX11_laysOwn 61 = .ok (.laload, 1) := by decide +kernel
theorem dX11_laysOwn_62 : decode cX11_laysOwn 62 = .ok (.lmul, 1) := by decide +kernel
theorem dX11_laysOwn_63 : decode cX11_laysOwn 63 = .ok (.aload_n 0, 1) := by decide +kernel
theorem dX11_laysOwn_64 : decode cX11_laysOwn 64 = .ok (.getfield 31, 3) := by decide +kernel
theorem dX11_laysOwn_67 : decode cX11_laysOwn 67 = .ok (.iload 4, 2) := by decide +kernel
theorem dX11_laysOwn_69 : decode cX11_laysOwn 69 = .ok (.laload, 1) := by decide +kernel
theorem dX11_laysOwn_70 : decode cX11_laysOwn 70 = .ok (.lsub, 1) := by decide +kernel
theorem dX11_laysOwn_71 : decode cX11_laysOwn 71 = .ok (.ldc2_w 154, 3) := by decide +kernel
theorem dX11_laysOwn_74 : decode cX11_laysOwn 74 = .ok (.aload_n 0, 1) := by decide +kernel
theorem dX11_laysOwn_75 : decode cX11_laysOwn 75 = .ok (.getfield 35, 3) := by decide +kernel
theorem dX11_laysOwn_78 : decode cX11_laysOwn 78 = .ok (.iload 4, 2) := by decide +kernel
theorem dX11_laysOwn_80 : decode cX11_laysOwn 80 = .ok (.laload, 1) := by decide +kernel
theorem dX11_laysOwn_81 : decode cX11_laysOwn 81 = .ok (.lmul, 1) := by decide +kernel
theorem dX11_laysOwn_82 : decode cX11_laysOwn 82 = .ok (.invokevirtual 178, 3) := by decide +kernel
theorem dX11_laysOwn_85 : decode cX11_laysOwn 85 = .ok (.iinc 2 1, 3) := by decide +kernel
theorem dX11_laysOwn_88 : decode cX11_laysOwn 88 = .ok (.iinc 3 1, 3) := by decide +kernel
theorem dX11_laysOwn_91 : decode cX11_laysOwn 91 = .ok (.goto (-77), 3) := by decide +kernel
theorem dX11_laysOwn_94 : decode cX11_laysOwn 94 = .ok (.iload_n 2, 1) := by decide +kernel
theorem dX11_laysOwn_95 : decode cX11_laysOwn 95 = .ok (.ifCond .le 18, 3) := by decide +kernel
theorem dX11_laysOwn_98 : decode cX11_laysOwn 98 = .ok (.aload_n 0, 1) := by decide +kernel
theorem dX11_laysOwn_99 : decode cX11_laysOwn 99 = .ok (.aload_n 0, 1) := by decide +kernel
theorem dX11_laysOwn_100 : decode cX11_laysOwn 100 = .ok (.getfield 167, 3) := by decide +kernel
theorem dX11_laysOwn_103 : decode cX11_laysOwn 103 = .ok (.aload_n 0, 1) := by decide +kernel
theorem dX11_laysOwn_104 : decode cX11_laysOwn 104 = .ok (.getfield 171, 3) := by decide +kernel
theorem dX11_laysOwn_107 : decode cX11_laysOwn 107 = .ok (.iload_n 2, 1) := by decide +kernel
theorem dX11_laysOwn_108 : decode cX11_laysOwn 108 = .ok (.i2l, 1) := by decide +kernel
theorem dX11_laysOwn_109 : decode cX11_laysOwn 109 = .ok (.lmul, 1) := by decide +kernel
theorem dX11_laysOwn_110 : decode cX11_laysOwn 110 = .ok (.invokevirtual 174, 3) := by decide +kernel
theorem dX11_laysOwn_113 : decode cX11_laysOwn 113 = .ok (.iload_n 2, 1) := by decide +kernel
theorem dX11_laysOwn_114 : decode cX11_laysOwn 114 = .ok (.ifCond .le 7, 3) := by decide +kernel
theorem dX11_laysOwn_117 : decode cX11_laysOwn 117 = .ok (.iconst 1, 1) := by decide +kernel
theorem dX11_laysOwn_118 : decode cX11_laysOwn 118 = .ok (.goto 4, 3) := by decide +kernel
theorem dX11_laysOwn_121 : decode cX11_laysOwn 121 = .ok (.iconst 0, 1) := by decide +kernel
theorem dX11_laysOwn_122 : decode cX11_laysOwn 122 = .ok (.ireturn, 1) := by decide +kernel
def fX11_laysOwn_L14 (p1 : Int32) (a : Int32 × Int32) (s : Sg) : Option (((Int32 × Int32) ⊕ (Int32)) × Sg) :=
  if (gI s 49 3) ≤ a.2 then
  some (.inr a.1, s)
  else
  (aI s 53 64 a.2).bind fun v2 =>
  ((if v2 = p1 then
  (fX11_hasDiff a.2 s).bind fun w7 =>
  if w7.1 = 0 then
  some (a.1, w7.2)
  else
  (aI w7.2 54 64 a.2).bind fun v9 =>
  (fX11_twiceDiff a.2 w7.2).bind fun w10 =>
  (aL w10.2 58 8 v9).bind fun v11 =>
  (aL w10.2 57 8 v9).bind fun v12 =>
  (aL w10.2 58 8 v9).bind fun v13 =>
  (fX11_adds ((((w10.1).toInt64) * v11) - v12) ((2 : Int64) * v13) w10.2).bind fun w14 =>
  bnd (a.1 + (1 : Int32)) fun x15 =>
  some (x15, w14)
  else
  some (a.1, s)) : Option (Int32 × Sg)).bind fun w3 =>
  bnd (a.2 + (1 : Int32)) fun x5 =>
  some (.inl (w3.1, x5), w3.2)
def fX11_laysOwn (x0_ : Int32) (s : Sg) : Option (Int32 × Sg) :=
  (fX11_laysLanes s).bind fun w1 =>
  (fX11_lays (0 : Int64) (1 : Int64) w1).bind fun w2 =>
  (lpG (fX11_laysOwn_L14 x0_) FU ((0 : Int32), (0 : Int32)) w2).bind fun w3 =>
  ((if w3.1 ≤ 0 then
  some w3.2
  else
  (fX11_lays (gL w3.2 49 13) ((gL w3.2 49 14) * ((w3.1).toInt64)) w3.2).bind fun w8 =>
  some w8) : Option (Sg)).bind fun w4 =>
  if w3.1 ≤ 0 then
  some ((0 : Int32), w4)
  else
  some ((1 : Int32), w4)
theorem ct_X11_laysOwn {g : Gl} {x0_ : Int32} {s : Sg} {w : Int32 × Sg}  (h : fX11_laysOwn x0_ s = some w) : Ct SS g iX11_laysOwn 4 90 [.ref (gad g 49), .int x0_] s (Dt (some (.int w.1)) w.2) := by
  refine Ct.ofV (by decide +kernel) 3 (lv0 := [some (.ref (gad g 49)), some (.int x0_), none, none, none]) rfl rfl (fun M hC => ?_)
  have hP : (Dt (some (.int w.1)) w.2) (some (.int w.1)) w.2 := ⟨rfl, rfl⟩
  generalize Dt (some (.int w.1)) w.2 = P at hP ⊢
  unfold fX11_laysOwn at h
  refine v_aload_n (pc := 0) hC dX11_laysOwn_0 rfl ?_
  obtain ⟨w1, hw1, h⟩ := obd_s h
  refine v_cV (pc := 1) [] [] gm_X11_laysLanes hC s_49 rfl rfl (ct_X11_laysLanes  hw1) ml_X11_160 rfl rfl rfl rfl rfl rfl dX11_laysOwn_1 ?_
  refine v_aload_n (pc := 4) hC dX11_laysOwn_4 rfl ?_
  refine v_lconst (pc := 5) (0 : Int64) rfl hC dX11_laysOwn_5 ?_
  refine v_lconst (pc := 6) (1 : Int64) rfl hC dX11_laysOwn_6 ?_
  obtain ⟨w2, hw2, h⟩ := obd_s h
  refine v_cV (pc := 7) [] [] gm_X11_lays hC s_49 rfl rfl (ct_X11_lays  hw2) ml_X11_174 rfl rfl rfl rfl rfl rfl dX11_laysOwn_7 ?_
  refine v_iconst (pc := 10) (0 : Int32) rfl hC dX11_laysOwn_10 ?_
  refine v_istore_n (pc := 11) (lv' := [some (.ref (gad g 49)), some (.int x0_), some (.int (0 : Int32)), none, none]) hC dX11_laysOwn_11 rfl rfl rfl rfl ?_
  refine v_iconst (pc := 12) (0 : Int32) rfl hC dX11_laysOwn_12 ?_
  refine v_istore_n (pc := 13) (lv' := [some (.ref (gad g 49)), some (.int x0_), some (.int (0 : Int32)), some (.int (0 : Int32)), none]) hC dX11_laysOwn_13 rfl rfl rfl rfl ?_
  obtain ⟨w3, hw3, h⟩ := obd_s h
  have kx30 : V SS g M iX11_laysOwn (PQ SS g M P) 94 [some (.ref (gad g 49)), none, some (.int w3.1), none, none] [] w3.2 := by
    refine v_iload_n (pc := 94) hC dX11_laysOwn_94 rfl ?_
    obtain ⟨w4, hw4, h⟩ := obd_s h
    have kj5 : V SS g M iX11_laysOwn (PQ SS g M P) 113 [none, none, some (.int w3.1), none, none] [] w4 := by
      refine v_iload_n (pc := 113) hC dX11_laysOwn_113 rfl ?_
      refine v_if_le (pc := 114) (tgt := 121) hC dX11_laysOwn_114 rfl (fun c6 => ?_) (fun c6 => ?_)
      · replace h := (if_pos c6).symm.trans h
        refine v_iconst (pc := 121) (0 : Int32) rfl hC dX11_laysOwn_121 ?_
        obtain rfl := Option.some.inj h
        exact v_zret (pc := 122) hC rfl rfl dX11_laysOwn_122 hP
      · replace h := (if_neg c6).symm.trans h
        refine v_iconst (pc := 117) (1 : Int32) rfl hC dX11_laysOwn_117 ?_
        refine v_goto (pc := 118) (tgt := 122) hC dX11_laysOwn_118 rfl ?_
        obtain rfl := Option.some.inj h
        exact v_zret (pc := 122) hC rfl rfl dX11_laysOwn_122 hP
    refine v_if_le (pc := 95) (tgt := 113) hC dX11_laysOwn_95 rfl (fun c7 => ?_) (fun c7 => ?_)
    · replace hw4 := (if_pos c7).symm.trans hw4
      obtain rfl := Option.some.inj hw4
      exact V.ls (ls_none (ls_none (ls_some (ls_none (ls_none ls_nil))))) kj5
    · replace hw4 := (if_neg c7).symm.trans hw4
      refine v_aload_n (pc := 98) hC dX11_laysOwn_98 rfl ?_
      refine v_aload_n (pc := 99) hC dX11_laysOwn_99 rfl ?_
      refine v_gt (pc := 100) 13 (.long (gL w3.2 49 13)) hC s_49 rfl rfl rfl rfl fl_X11_167 dX11_laysOwn_100 ?_
      refine v_aload_n (pc := 103) hC dX11_laysOwn_103 rfl ?_
      refine v_gt (pc := 104) 14 (.long (gL w3.2 49 14)) hC s_49 rfl rfl rfl rfl fl_X11_171 dX11_laysOwn_104 ?_
      refine v_iload_n (pc := 107) hC dX11_laysOwn_107 rfl ?_
      refine v_i2l (pc := 108) hC dX11_laysOwn_108 ?_
      refine v_lmul (pc := 109) hC dX11_laysOwn_109 ?_
      obtain ⟨w8, hw8, hw4⟩ := obd_s hw4
      refine v_cV (pc := 110) [] [] gm_X11_lays hC s_49 rfl rfl (ct_X11_lays  hw8) ml_X11_174 rfl rfl rfl rfl rfl rfl dX11_laysOwn_110 ?_
      obtain rfl := Option.some.inj hw4
      exact V.ls (ls_none (ls_none (ls_some (ls_none (ls_none ls_nil))))) kj5
  refine V.ls (ls_some (ls_some (ls_some (ls_some (ls_none ls_nil))))) (v_loop (pc := 14) (fun a11 => [some (.ref (gad g 49)), some (.int x0_), some (.int a11.1), some (.int a11.2), none]) (fun z t => V SS g M iX11_laysOwn (PQ SS g M P) 94 [some (.ref (gad g 49)), none, some (.int z), none, none] [] t) (fun a11 s9 u10 hu10 k12 k13 => ?_) _ _ _ _ hw3 kx30)
  unfold fX11_laysOwn_L14 at hu10
  refine v_iload_n (pc := 14) hC dX11_laysOwn_14 rfl ?_
  refine v_aload_n (pc := 15) hC dX11_laysOwn_15 rfl ?_
  refine v_gt (pc := 16) 3 (.int (gI s9 49 3)) hC s_49 rfl rfl rfl rfl fl_X11_98 dX11_laysOwn_16 ?_
  refine v_ic_ge (pc := 19) (tgt := 94) hC dX11_laysOwn_19 rfl (fun c15 => ?_) (fun c15 => ?_)
  · replace hu10 := (if_pos c15).symm.trans hu10
    obtain rfl := Option.some.inj hu10
    exact V.ls (ls_some (ls_none (ls_some (ls_none (ls_none ls_nil))))) (k13 _ rfl)
  · replace hu10 := (if_neg c15).symm.trans hu10
    refine v_aload_n (pc := 22) hC dX11_laysOwn_22 rfl ?_
    refine v_gt (pc := 23) 5 (.ref (gad g 53)) hC s_49 rfl rfl rfl rfl fl_X11_19 dX11_laysOwn_23 ?_
    refine v_iload_n (pc := 26) hC dX11_laysOwn_26 rfl ?_
    obtain ⟨v16, hv16, hu10⟩ := obd_s hu10
    refine v_aI (pc := 27) hC s_53 hv16 dX11_laysOwn_27 ?_
    refine v_iload_n (pc := 28) hC dX11_laysOwn_28 rfl ?_
    obtain ⟨w17, hw17, hu10⟩ := obd_s hu10
    have kj18 : V SS g M iX11_laysOwn (PQ SS g M P) 88 [some (.ref (gad g 49)), some (.int x0_), some (.int w17.1), some (.int a11.2), none] [] w17.2 := by
      obtain ⟨x19, hx19, hu10⟩ := bnd_s hu10
      refine v_iinc (pc := 88) (lv' := [some (.ref (gad g 49)), some (.int x0_), some (.int w17.1), some (.int x19), none]) (1 : Int32) rfl hx19 hC dX11_laysOwn_88 rfl rfl rfl rfl ?_
      refine v_goto (pc := 91) (tgt := 14) hC dX11_laysOwn_91 rfl ?_
      obtain rfl := Option.some.inj hu10
      exact V.ls (ls_some (ls_some (ls_some (ls_some (ls_none ls_nil))))) (k12 _ rfl)
    refine v_ic_ne (pc := 29) (tgt := 88) hC dX11_laysOwn_29 rfl (fun c20 => ?_) (fun c20 => ?_)
    · replace hw17 := (if_neg c20).symm.trans hw17
      obtain rfl := Option.some.inj hw17
      exact V.ls (ls_some (ls_some (ls_some (ls_some (ls_none ls_nil))))) kj18
    · replace hw17 := (if_pos c20).symm.trans hw17
      refine v_aload_n (pc := 32) hC dX11_laysOwn_32 rfl ?_
      refine v_iload_n (pc := 33) hC dX11_laysOwn_33 rfl ?_
      obtain ⟨w21, hw21, hw17⟩ := obd_s hw17
      refine v_cV (pc := 34) [] [.int w21.1] gm_X11_hasDiff hC s_49 rfl rfl (ct_X11_hasDiff  hw21) ml_X11_148 rfl rfl rfl rfl rfl rfl dX11_laysOwn_34 ?_
      refine v_if_eq (pc := 37) (tgt := 88) hC dX11_laysOwn_37 rfl (fun c22 => ?_) (fun c22 => ?_)
      · replace hw17 := (if_pos c22).symm.trans hw17
        obtain rfl := Option.some.inj hw17
        exact V.ls (ls_some (ls_some (ls_some (ls_some (ls_none ls_nil))))) kj18
      · replace hw17 := (if_neg c22).symm.trans hw17
        refine v_aload_n (pc := 40) hC dX11_laysOwn_40 rfl ?_
        refine v_gt (pc := 41) 6 (.ref (gad g 54)) hC s_49 rfl rfl rfl rfl fl_X11_22 dX11_laysOwn_41 ?_
        refine v_iload_n (pc := 44) hC dX11_laysOwn_44 rfl ?_
        obtain ⟨v23, hv23, hw17⟩ := obd_s hw17
        refine v_aI (pc := 45) hC s_54 hv23 dX11_laysOwn_45 ?_
        refine v_istore (pc := 46) (lv' := [some (.ref (gad g 49)), some (.int x0_), some (.int a11.1), some (.int a11.2), some (.int v23)]) hC dX11_laysOwn_46 rfl rfl rfl rfl ?_
        refine v_aload_n (pc := 48) hC dX11_laysOwn_48 rfl ?_
        refine v_aload_n (pc := 49) hC dX11_laysOwn_49 rfl ?_
        refine v_iload_n (pc := 50) hC dX11_laysOwn_50 rfl ?_
        obtain ⟨w24, hw24, hw17⟩ := obd_s hw17
        refine v_cV (pc := 51) [.ref (gad g 49)] [.int w24.1, .ref (gad g 49)] gm_X11_twiceDiff hC s_49 rfl rfl (ct_X11_twiceDiff  hw24) ml_X11_151 rfl rfl rfl rfl rfl rfl dX11_laysOwn_51 ?_
        refine v_i2l (pc := 54) hC dX11_laysOwn_54 ?_
        refine v_aload_n (pc := 55) hC dX11_laysOwn_55 rfl ?_
        refine v_gt (pc := 56) 10 (.ref (gad g 58)) hC s_49 rfl rfl rfl rfl fl_X11_35 dX11_laysOwn_56 ?_
        refine v_iload (pc := 59) hC dX11_laysOwn_59 rfl ?_
        obtain ⟨v25, hv25, hw17⟩ := obd_s hw17
        refine v_aL (pc := 61) hC s_58 hv25 dX11_laysOwn_61 ?_
        refine v_lmul (pc := 62) hC dX11_laysOwn_62 ?_
        refine v_aload_n (pc := 63) hC dX11_laysOwn_63 rfl ?_
        refine v_gt (pc := 64) 9 (.ref (gad g 57)) hC s_49 rfl rfl rfl rfl fl_X11_31 dX11_laysOwn_64 ?_
        refine v_iload (pc := 67) hC dX11_laysOwn_67 rfl ?_
        obtain ⟨v26, hv26, hw17⟩ := obd_s hw17
        refine v_aL (pc := 69) hC s_57 hv26 dX11_laysOwn_69 ?_
        refine v_lsub (pc := 70) hC dX11_laysOwn_70 ?_
        refine v_ldc2 (pc := 71) (2 : Int64) kc_X11_154 hC dX11_laysOwn_71 ?_
        refine v_aload_n (pc := 74) hC dX11_laysOwn_74 rfl ?_
        refine v_gt (pc := 75) 10 (.ref (gad g 58)) hC s_49 rfl rfl rfl rfl fl_X11_35 dX11_laysOwn_75 ?_
        refine v_iload (pc := 78) hC dX11_laysOwn_78 rfl ?_
        obtain ⟨v27, hv27, hw17⟩ := obd_s hw17
        refine v_aL (pc := 80) hC s_58 hv27 dX11_laysOwn_80 ?_
        refine v_lmul (pc := 81) hC dX11_laysOwn_81 ?_
        obtain ⟨w28, hw28, hw17⟩ := obd_s hw17
        refine v_cV (pc := 82) [] [] gm_X11_adds hC s_49 rfl rfl (ct_X11_adds  hw28) ml_X11_178 rfl rfl rfl rfl rfl rfl dX11_laysOwn_82 ?_
        obtain ⟨x29, hx29, hw17⟩ := bnd_s hw17
        refine v_iinc (pc := 85) (lv' := [some (.ref (gad g 49)), some (.int x0_), some (.int x29), some (.int a11.2), some (.int v23)]) (1 : Int32) rfl hx29 hC dX11_laysOwn_85 rfl rfl rfl rfl ?_
        obtain rfl := Option.some.inj hw17
        exact V.ls (ls_some (ls_some (ls_some (ls_some (ls_none ls_nil))))) kj18
theorem dX11_own_0 : decode cX11_own 0 = .ok (.iload_n 1, 1) := by decide +kernel
theorem dX11_own_1 : decode cX11_own 1 = .ok (.invokestatic 109, 3) := by decide +kernel
theorem dX11_own_4 : decode cX11_own 4 = .ok (.ifCond .eq 12, 3) := by decide +kernel
theorem dX11_own_7 : decode cX11_own 7 = .ok (.iload_n 2, 1) := by decide +kernel
theorem dX11_own_8 : decode cX11_own 8 = .ok (.iconst 0, 1) := by decide +kernel
theorem dX11_own_9 : decode cX11_own 9 = .ok (.iconst 1, 1) := by decide +kernel
theorem dX11_own_10 : decode cX11_own 10 = .ok (.invokestatic 94, 3) := by decide +kernel
theorem dX11_own_13 : decode cX11_own 13 = .ok (.ifCond .ne 9, 3) := by decide +kernel
theorem dX11_own_16 : decode cX11_own 16 = .ok (.bipush (-2), 2) := by decide +kernel
theorem dX11_own_18 : decode cX11_own 18 = .ok (.invokestatic 144, 3) := by decide +kernel
theorem dX11_own_21 : decode cX11_own 21 = .ok (.lreturn, 1) := by decide +kernel
theorem dX11_own_22 : decode cX11_own 22 = .ok (.aload_n 0, 1) := by decide +kernel
theorem dX11_own_23 : decode cX11_own 23 = .ok (.iload_n 1, 1) := by decide +kernel
theorem dX11_own_24 : decode cX11_own 24 = .ok (.invokevirtual 212, 3) := by decide +kernel
theorem dX11_own_27 : decode cX11_own 27 = .ok (.ifCond .eq 21, 3) := by decide +kernel
theorem dX11_own_30 : decode cX11_own 30 = .ok (.iload_n 2, 1) := by decide +kernel
theorem dX11_own_31 : decode cX11_own 31 = .ok (.ifCond .ne 10, 3) := by decide +kernel
theorem dX11_own_34 : decode cX11_own 34 = .ok (.aload_n 0, 1) := by decide +kernel
theorem dX11_own_35 : decode cX11_own 35 = .ok (.getfield 167, 3) := by decide +kernel
theorem dX11_own_38 : decode cX11_own 38 = .ok (.goto 15, 3) := by decide +kernel
theorem dX11_own_41 : decode cX11_own 41 = .ok (.aload_n 0, 1) := by decide +kernel
theorem dX11_own_42 : decode cX11_own 42 = .ok (.getfield 171, 3) := by decide +kernel
theorem dX11_own_45 : decode cX11_own 45 = .ok (.goto 8, 3) := by decide +kernel
theorem dX11_own_48 : decode cX11_own 48 = .ok (.bipush (-3), 2) := by decide +kernel
theorem dX11_own_50 : decode cX11_own 50 = .ok (.invokestatic 144, 3) := by decide +kernel
theorem dX11_own_53 : decode cX11_own 53 = .ok (.lreturn, 1) := by decide +kernel
def fX11_own (x0_ : Int32) (x1_ : Int32) (s : Sg) : Option (Int64 × Sg) :=
  (fX11_isSwimmer x0_ s).bind fun w1 =>
  if w1.1 = 0 then
  (fX11_no (-2 : Int32) w1.2).bind fun w2 =>
  some (w2.1, w2.2)
  else
  (fX11_in x1_ (0 : Int32) (1 : Int32) w1.2).bind fun w4 =>
  if w4.1 = 0 then
  (fX11_no (-2 : Int32) w4.2).bind fun w10 =>
  some (w10.1, w10.2)
  else
  (fX11_laysOwn x0_ w4.2).bind fun w5 =>
  if w5.1 = 0 then
  (fX11_no (-3 : Int32) w5.2).bind fun w6 =>
  some (w6.1, w6.2)
  else
  if x1_ = 0 then
  some ((gL w5.2 49 13), w5.2)
  else
  some ((gL w5.2 49 14), w5.2)
theorem ct_X11_own {g : Gl} {x0_ : Int32} {x1_ : Int32} {s : Sg} {w : Int64 × Sg}  (h : fX11_own x0_ x1_ s = some w) : Ct SS g iX11_own 5 114 [.ref (gad g 49), .int x0_, .int x1_] s (Dt (some (.long w.1)) w.2) := by
  refine Ct.ofV (by decide +kernel) 0 (lv0 := [some (.ref (gad g 49)), some (.int x0_), some (.int x1_)]) rfl rfl (fun M hC => ?_)
  have hP : (Dt (some (.long w.1)) w.2) (some (.long w.1)) w.2 := ⟨rfl, rfl⟩
  generalize Dt (some (.long w.1)) w.2 = P at hP ⊢
  unfold fX11_own at h
  refine v_iload_n (pc := 0) hC dX11_own_0 rfl ?_
  obtain ⟨w1, hw1, h⟩ := obd_s h
  refine v_cS (pc := 1) [] [.int w1.1] gm_X11_isSwimmer hC (ct_X11_isSwimmer  hw1) ml_X11_109 rfl rfl rfl rfl rfl rfl dX11_own_1 ?_
  refine v_if_eq (pc := 4) (tgt := 16) hC dX11_own_4 rfl (fun c3 => ?_) (fun c3 => ?_)
  · replace h := (if_pos c3).symm.trans h
    refine v_bipush (pc := 16) (-2 : Int32) rfl hC dX11_own_16 ?_
    obtain ⟨w2, hw2, h⟩ := obd_s h
    refine v_cS (pc := 18) [] [.long w2.1] gm_X11_no hC (ct_X11_no  hw2) ml_X11_144 rfl rfl rfl rfl rfl rfl dX11_own_18 ?_
    obtain rfl := Option.some.inj h
    exact v_lret (pc := 21) hC rfl dX11_own_21 hP
  · replace h := (if_neg c3).symm.trans h
    refine v_iload_n (pc := 7) hC dX11_own_7 rfl ?_
    refine v_iconst (pc := 8) (0 : Int32) rfl hC dX11_own_8 ?_
    refine v_iconst (pc := 9) (1 : Int32) rfl hC dX11_own_9 ?_
    obtain ⟨w4, hw4, h⟩ := obd_s h
    refine v_cS (pc := 10) [] [.int w4.1] gm_X11_in hC (ct_X11_in  hw4) ml_X11_94 rfl rfl rfl rfl rfl rfl dX11_own_10 ?_
    refine v_if_ne (pc := 13) (tgt := 22) hC dX11_own_13 rfl (fun c9 => ?_) (fun c9 => ?_)
    · replace h := (if_neg c9).symm.trans h
      refine v_aload_n (pc := 22) hC dX11_own_22 rfl ?_
      refine v_iload_n (pc := 23) hC dX11_own_23 rfl ?_
      obtain ⟨w5, hw5, h⟩ := obd_s h
      refine v_cV (pc := 24) [] [.int w5.1] gm_X11_laysOwn hC s_49 rfl rfl (ct_X11_laysOwn  hw5) ml_X11_212 rfl rfl rfl rfl rfl rfl dX11_own_24 ?_
      refine v_if_eq (pc := 27) (tgt := 48) hC dX11_own_27 rfl (fun c7 => ?_) (fun c7 => ?_)
      · replace h := (if_pos c7).symm.trans h
        refine v_bipush (pc := 48) (-3 : Int32) rfl hC dX11_own_48 ?_
        obtain ⟨w6, hw6, h⟩ := obd_s h
        refine v_cS (pc := 50) [] [.long w6.1] gm_X11_no hC (ct_X11_no  hw6) ml_X11_144 rfl rfl rfl rfl rfl rfl dX11_own_50 ?_
        obtain rfl := Option.some.inj h
        exact v_lret (pc := 53) hC rfl dX11_own_53 hP
      · replace h := (if_neg c7).symm.trans h
        refine v_iload_n (pc := 30) hC dX11_own_30 rfl ?_
        refine v_if_ne (pc := 31) (tgt := 41) hC dX11_own_31 rfl (fun c8 => ?_) (fun c8 => ?_)
        · replace h := (if_neg c8).symm.trans h
          refine v_aload_n (pc := 41) hC dX11_own_41 rfl ?_
          refine v_gt (pc := 42) 14 (.long (gL w5.2 49 14)) hC s_49 rfl rfl rfl rfl fl_X11_171 dX11_own_42 ?_
          refine v_goto (pc := 45) (tgt := 53) hC dX11_own_45 rfl ?_
          obtain rfl := Option.some.inj h
          exact v_lret (pc := 53) hC rfl dX11_own_53 hP
        · replace h := (if_pos c8).symm.trans h
          refine v_aload_n (pc := 34) hC dX11_own_34 rfl ?_
          refine v_gt (pc := 35) 13 (.long (gL w5.2 49 13)) hC s_49 rfl rfl rfl rfl fl_X11_167 dX11_own_35 ?_
          refine v_goto (pc := 38) (tgt := 53) hC dX11_own_38 rfl ?_
          obtain rfl := Option.some.inj h
          exact v_lret (pc := 53) hC rfl dX11_own_53 hP
    · replace h := (if_pos c9).symm.trans h
      refine v_bipush (pc := 16) (-2 : Int32) rfl hC dX11_own_16 ?_
      obtain ⟨w10, hw10, h⟩ := obd_s h
      refine v_cS (pc := 18) [] [.long w10.1] gm_X11_no hC (ct_X11_no  hw10) ml_X11_144 rfl rfl rfl rfl rfl rfl dX11_own_18 ?_
      obtain rfl := Option.some.inj h
      exact v_lret (pc := 21) hC rfl dX11_own_21 hP
theorem dX11_fast_0 : decode cX11_fast 0 = .ok (.iload_n 1, 1) := by decide +kernel
theorem dX11_fast_1 : decode cX11_fast 1 = .ok (.iconst 0, 1) := by decide +kernel
theorem dX11_fast_2 : decode cX11_fast 2 = .ok (.sipush 9999, 3) := by decide +kernel
theorem dX11_fast_5 : decode cX11_fast 5 = .ok (.invokestatic 94, 3) := by decide +kernel
theorem dX11_fast_8 : decode cX11_fast 8 = .ok (.ifCond .ne 6, 3) := by decide +kernel
theorem dX11_fast_11 : decode cX11_fast 11 = .ok (.bipush (-2), 2) := by decide +kernel
theorem dX11_fast_13 : decode cX11_fast 13 = .ok (.ireturn, 1) := by decide +kernel
theorem dX11_fast_14 : decode cX11_fast 14 = .ok (.iconst 0, 1) := by decide +kernel
theorem dX11_fast_15 : decode cX11_fast 15 = .ok (.istore_n 2, 1) := by decide +kernel
theorem dX11_fast_16 : decode cX11_fast 16 = .ok (.iconst 0, 1) := by decide +kernel
theorem dX11_fast_17 : decode cX11_fast 17 = .ok (.istore_n 3, 1) := by decide +kernel
theorem dX11_fast_18 : decode cX11_fast 18 = .ok (.iload_n 3, 1) := by decide +kernel
theorem dX11_fast_19 : decode cX11_fast 19 = .ok (.bipush 24, 2) := by decide +kernel
theorem dX11_fast_21 : decode cX11_fast 21 = .ok (.if_icmp .ge 43, 3) := by decide +kernel
theorem dX11_fast_24 : decode cX11_fast 24 = .ok (.iload_n 2, 1) := by decide +kernel
theorem dX11_fast_25 : decode cX11_fast 25 = .ok (.aload_n 0, 1) := by decide +kernel
theorem dX11_fast_26 : decode cX11_fast 26 = .ok (.iload_n 3, 1) := by decide +kernel
theorem dX11_fast_27 : decode cX11_fast 27 = .ok (.invokevirtual 212, 3) := by decide +kernel
theorem dX11_fast_30 : decode cX11_fast 30 = .ok (.ifCond .eq 25, 3) := by decide +kernel
theorem dX11_fast_33 : decode cX11_fast 33 = .ok (.aload_n 0, 1) := by decide +kernel
theorem dX11_fast_34 : decode cX11_fast 34 = .ok (.getfield 167, 3) := by decide +kernel
theorem dX11_fast_37 : decode cX11_fast 37 = .ok (.iload_n 1, 1) := by decide +kernel
theorem dX11_fast_38 : decode cX11_fast 38 = .ok (.ineg, 1) := by decide +kernel
theorem dX11_fast_39 : decode cX11_fast 39 = .ok (.i2l, 1) := by decide +kernel
theorem dX11_fast_40 : decode cX11_fast 40 = .ok (.aload_n 0, 1) := by decide +kernel
theorem dX11_fast_41 : decode cX11_fast 41 = .ok (.getfield 171, 3) := by decide +kernel
theorem dX11_fast_44 : decode cX11_fast 44 = .ok (.lmul, 1) := by decide +kernel
theorem dX11_fast_45 : decode cX11_fast 45 = .ok (.lcmp, 1) := by decide +kernel
theorem dX11_fast_46 : decode cX11_fast 46 = .ok (.ifCond .gt 9, 3) := by decide +kernel
theorem dX11_fast_49 : decode cX11_fast 49 = .ok (.iconst 1, 1) := by decide +kernel
theorem dX11_fast_50 : decode cX11_fast 50 = .ok (.iload_n 3, 1) := by decide +kernel
theorem dX11_fast_51 : decode cX11_fast 51 = .ok (.ishl, 1) := by decide +kernel
theorem dX11_fast_52 : decode cX11_fast 52 = .ok (.goto 4, 3) := by decide +kernel
theorem dX11_fast_55 : decode cX11_fast 55 = .ok (.iconst 0, 1) := by decide +kernel
theorem dX11_fast_56 : decode cX11_fast 56 = .ok (.ior, 1) := by decide +kernel
theorem dX11_fast_57 : decode cX11_fast 57 = .ok (.istore_n 2, 1) := by decide +kernel
theorem dX11_fast_58 : decode cX11_fast 58 = .ok (.iinc 3 1, 3) := by decide +kernel
theorem dX11_fast_61 : decode cX11_fast 61 = .ok (.goto (-43), 3) := by decide +kernel
theorem dX11_fast_64 : decode cX11_fast 64 = .ok (.iload_n 2, 1) := by decide +kernel
theorem dX11_fast_65 : decode cX11_fast 65 = .ok (.ireturn, 1) := by decide +kernel
def fX11_fast_L18 (p1 : Int32) (a : Int32 × Int32) (s : Sg) : Option (((Int32 × Int32) ⊕ (Int32)) × Sg) :=
  if (24 : Int32) ≤ a.2 then
  some (.inr a.1, s)
  else
  (fX11_laysOwn a.2 s).bind fun w2 =>
  ((if w2.1 = 0 then
  some (0 : Int32)
  else
  if 0 < (lg_cmp (gL w2.2 49 13) ((((-p1)).toInt64) * (gL w2.2 49 14))) then
  some (0 : Int32)
  else
  some ((1 : Int32) <<< (a.2 &&& 31))) : Option (Int32)).bind fun w3 =>
  bnd (a.1 ||| w3) fun x5 =>
  bnd (a.2 + (1 : Int32)) fun x6 =>
  some (.inl (x5, x6), w2.2)
def fX11_fast (x0_ : Int32) (s : Sg) : Option (Int32 × Sg) :=
  (fX11_in x0_ (0 : Int32) (9999 : Int32) s).bind fun w1 =>
  if w1.1 = 0 then
  some ((-2 : Int32), w1.2)
  else
  (lpG (fX11_fast_L18 x0_) FU ((0 : Int32), (0 : Int32)) w1.2).bind fun w2 =>
  some (w2.1, w2.2)
theorem ct_X11_fast {g : Gl} {x0_ : Int32} {s : Sg} {w : Int32 × Sg}  (h : fX11_fast x0_ s = some w) : Ct SS g iX11_fast 5 114 [.ref (gad g 49), .int x0_] s (Dt (some (.int w.1)) w.2) := by
  refine Ct.ofV (by decide +kernel) 2 (lv0 := [some (.ref (gad g 49)), some (.int x0_), none, none]) rfl rfl (fun M hC => ?_)
  have hP : (Dt (some (.int w.1)) w.2) (some (.int w.1)) w.2 := ⟨rfl, rfl⟩
  generalize Dt (some (.int w.1)) w.2 = P at hP ⊢
  unfold fX11_fast at h
  refine v_iload_n (pc := 0) hC dX11_fast_0 rfl ?_
  refine v_iconst (pc := 1) (0 : Int32) rfl hC dX11_fast_1 ?_
  refine v_sipush (pc := 2) (9999 : Int32) rfl hC dX11_fast_2 ?_
  obtain ⟨w1, hw1, h⟩ := obd_s h
  refine v_cS (pc := 5) [] [.int w1.1] gm_X11_in hC (ct_X11_in  hw1) ml_X11_94 rfl rfl rfl rfl rfl rfl dX11_fast_5 ?_
  refine v_if_ne (pc := 8) (tgt := 14) hC dX11_fast_8 rfl (fun c18 => ?_) (fun c18 => ?_)
  · replace h := (if_neg c18).symm.trans h
    refine v_iconst (pc := 14) (0 : Int32) rfl hC dX11_fast_14 ?_
    refine v_istore_n (pc := 15) (lv' := [some (.ref (gad g 49)), some (.int x0_), some (.int (0 : Int32)), none]) hC dX11_fast_15 rfl rfl rfl rfl ?_
    refine v_iconst (pc := 16) (0 : Int32) rfl hC dX11_fast_16 ?_
    refine v_istore_n (pc := 17) (lv' := [some (.ref (gad g 49)), some (.int x0_), some (.int (0 : Int32)), some (.int (0 : Int32))]) hC dX11_fast_17 rfl rfl rfl rfl ?_
    obtain ⟨w2, hw2, h⟩ := obd_s h
    have kx17 : V SS g M iX11_fast (PQ SS g M P) 64 [none, none, some (.int w2.1), none] [] w2.2 := by
      refine v_iload_n (pc := 64) hC dX11_fast_64 rfl ?_
      obtain rfl := Option.some.inj h
      exact v_iret (pc := 65) hC rfl dX11_fast_65 hP
    refine V.ls (ls_some (ls_some (ls_some (ls_some ls_nil)))) (v_loop (pc := 18) (fun a5 => [some (.ref (gad g 49)), some (.int x0_), some (.int a5.1), some (.int a5.2)]) (fun z t => V SS g M iX11_fast (PQ SS g M P) 64 [none, none, some (.int z), none] [] t) (fun a5 s3 u4 hu4 k6 k7 => ?_) _ _ _ _ hw2 kx17)
    unfold fX11_fast_L18 at hu4
    refine v_iload_n (pc := 18) hC dX11_fast_18 rfl ?_
    refine v_bipush (pc := 19) (24 : Int32) rfl hC dX11_fast_19 ?_
    refine v_ic_ge (pc := 21) (tgt := 64) hC dX11_fast_21 rfl (fun c9 => ?_) (fun c9 => ?_)
    · replace hu4 := (if_pos c9).symm.trans hu4
      obtain rfl := Option.some.inj hu4
      exact V.ls (ls_none (ls_none (ls_some (ls_none ls_nil)))) (k7 _ rfl)
    · replace hu4 := (if_neg c9).symm.trans hu4
      refine v_iload_n (pc := 24) hC dX11_fast_24 rfl ?_
      refine v_aload_n (pc := 25) hC dX11_fast_25 rfl ?_
      refine v_iload_n (pc := 26) hC dX11_fast_26 rfl ?_
      obtain ⟨w10, hw10, hu4⟩ := obd_s hu4
      refine v_cV (pc := 27) [.int a5.1] [.int w10.1, .int a5.1] gm_X11_laysOwn hC s_49 rfl rfl (ct_X11_laysOwn  hw10) ml_X11_212 rfl rfl rfl rfl rfl rfl dX11_fast_27 ?_
      obtain ⟨w11, hw11, hu4⟩ := obd_s hu4
      have kj12 : V SS g M iX11_fast (PQ SS g M P) 56 [some (.ref (gad g 49)), some (.int x0_), none, some (.int a5.2)] [.int w11, .int a5.1] w10.2 := by
        refine v_ior (pc := 56) hC dX11_fast_56 ?_
        obtain ⟨x13, hx13, hu4⟩ := bnd_s hu4
        refine v_istore_n (pc := 57) (lv' := [some (.ref (gad g 49)), some (.int x0_), some (.int x13), some (.int a5.2)]) hC dX11_fast_57 hx13 rfl rfl rfl ?_
        obtain ⟨x14, hx14, hu4⟩ := bnd_s hu4
        refine v_iinc (pc := 58) (lv' := [some (.ref (gad g 49)), some (.int x0_), some (.int x13), some (.int x14)]) (1 : Int32) rfl hx14 hC dX11_fast_58 rfl rfl rfl rfl ?_
        refine v_goto (pc := 61) (tgt := 18) hC dX11_fast_61 rfl ?_
        obtain rfl := Option.some.inj hu4
        exact V.ls (ls_some (ls_some (ls_some (ls_some ls_nil)))) (k6 _ rfl)
      refine v_if_eq (pc := 30) (tgt := 55) hC dX11_fast_30 rfl (fun c15 => ?_) (fun c15 => ?_)
      · replace hw11 := (if_pos c15).symm.trans hw11
        refine v_iconst (pc := 55) (0 : Int32) rfl hC dX11_fast_55 ?_
        obtain rfl := Option.some.inj hw11
        exact V.ls (ls_some (ls_some (ls_none (ls_some ls_nil)))) kj12
      · replace hw11 := (if_neg c15).symm.trans hw11
        refine v_aload_n (pc := 33) hC dX11_fast_33 rfl ?_
        refine v_gt (pc := 34) 13 (.long (gL w10.2 49 13)) hC s_49 rfl rfl rfl rfl fl_X11_167 dX11_fast_34 ?_
        refine v_iload_n (pc := 37) hC dX11_fast_37 rfl ?_
        refine v_ineg (pc := 38) hC dX11_fast_38 ?_
        refine v_i2l (pc := 39) hC dX11_fast_39 ?_
        refine v_aload_n (pc := 40) hC dX11_fast_40 rfl ?_
        refine v_gt (pc := 41) 14 (.long (gL w10.2 49 14)) hC s_49 rfl rfl rfl rfl fl_X11_171 dX11_fast_41 ?_
        refine v_lmul (pc := 44) hC dX11_fast_44 ?_
        refine v_lcmp (pc := 45) hC dX11_fast_45 ?_
        refine v_if_gt (pc := 46) (tgt := 55) hC dX11_fast_46 rfl (fun c16 => ?_) (fun c16 => ?_)
        · replace hw11 := (if_pos c16).symm.trans hw11
          refine v_iconst (pc := 55) (0 : Int32) rfl hC dX11_fast_55 ?_
          obtain rfl := Option.some.inj hw11
          exact V.ls (ls_some (ls_some (ls_none (ls_some ls_nil)))) kj12
        · replace hw11 := (if_neg c16).symm.trans hw11
          refine v_iconst (pc := 49) (1 : Int32) rfl hC dX11_fast_49 ?_
          refine v_iload_n (pc := 50) hC dX11_fast_50 rfl ?_
          refine v_ishl (pc := 51) hC dX11_fast_51 ?_
          refine v_goto (pc := 52) (tgt := 56) hC dX11_fast_52 rfl ?_
          obtain rfl := Option.some.inj hw11
          exact V.ls (ls_some (ls_some (ls_none (ls_some ls_nil)))) kj12
  · replace h := (if_pos c18).symm.trans h
    refine v_bipush (pc := 11) (-2 : Int32) rfl hC dX11_fast_11 ?_
    obtain rfl := Option.some.inj h
    exact v_iret (pc := 13) hC rfl dX11_fast_13 hP
