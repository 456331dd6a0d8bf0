/-! methods, printed by wip/whole/gen/meth.py: X0_commonPart, X0_set, X0_part, X0_commonMultiple, X1_clear, X1_settle, X1_aboveMean, X1_join, X1_joinFirstFall, X1_becomeShapeOf, X9_clearValues, X9_open, X10_within, X10_isLane, X9_choose, X9_turn, X9_isFigure, X9_begin, X9_end, X9_close, X9_next -/
theorem dX0_commonPart_0 : decode cX0_commonPart 0 = .ok (.lload_n 0, 1) := by decide +kernel
theorem dX0_commonPart_1 : decode cX0_commonPart 1 = .ok (.lstore 4, 2) := by decide +kernel
theorem dX0_commonPart_3 : decode cX0_commonPart 3 = .ok (.lload_n 2, 1) := by decide +kernel
theorem dX0_commonPart_4 : decode cX0_commonPart 4 = .ok (.lstore 6, 2) := by decide +kernel
theorem dX0_commonPart_6 : decode cX0_commonPart 6 = .ok (.iconst 0, 1) := by decide +kernel
theorem dX0_commonPart_7 : decode cX0_commonPart 7 = .ok (.istore 8, 2) := by decide +kernel
theorem dX0_commonPart_9 : decode cX0_commonPart 9 = .ok (.iload 8, 2) := by decide +kernel
theorem dX0_commonPart_11 : decode cX0_commonPart 11 = .ok (.sipush 130, 3) := by decide +kernel
theorem dX0_commonPart_14 : decode cX0_commonPart 14 = .ok (.if_icmp .ge 31, 3) := by decide +kernel
theorem dX0_commonPart_17 : decode cX0_commonPart 17 = .ok (.lload 6, 2) := by decide +kernel
theorem dX0_commonPart_19 : decode cX0_commonPart 19 = .ok (.lconst 0, 1) := by decide +kernel
theorem dX0_commonPart_20 : decode cX0_commonPart 20 = .ok (.lcmp, 1) := by decide +kernel
theorem dX0_commonPart_21 : decode cX0_commonPart 21 = .ok (.ifCond .eq 24, 3) := by decide +kernel
theorem dX0_commonPart_24 : decode cX0_commonPart 24 = .ok (.lload 4, 2) := by decide +kernel
theorem dX0_commonPart_26 : decode cX0_commonPart 26 = .ok (.lload 6, 2) := by decide +kernel
theorem dX0_commonPart_28 : decode cX0_commonPart 28 = .ok (.lrem, 1) := by decide +kernel
theorem dX0_commonPart_29 : decode cX0_commonPart 29 = .ok (.lstore 9, 2) := by decide +kernel
theorem dX0_commonPart_31 : decode cX0_commonPart 31 = .ok (.lload 6, 2) := by decide +kernel
theorem dX0_commonPart_33 : decode cX0_commonPart 33 = .ok (.lstore 4, 2) := by decide +kernel
theorem dX0_commonPart_35 : decode cX0_commonPart 35 = .ok (.lload 9, 2) := by decide +kernel
theorem dX0_commonPart_37 : decode cX0_commonPart 37 = .ok (.lstore 6, 2) := by decide +kernel
theorem dX0_commonPart_39 : decode cX0_commonPart 39 = .ok (.iinc 8 1, 3) := by decide +kernel
theorem dX0_commonPart_42 : decode cX0_commonPart 42 = .ok (.goto (-33), 3) := by decide +kernel
theorem dX0_commonPart_45 : decode cX0_commonPart 45 = .ok (.lload 4, 2) := by decide +kernel
theorem dX0_commonPart_47 : decode cX0_commonPart 47 = .ok (.lreturn, 1) := by decide +kernel
def fX0_commonPart_L9  (a : Int64 × Int64 × Int32) (s : Sg) : Option (((Int64 × Int64 × Int32) ⊕ (Int64)) × Sg) :=
  if (130 : Int32) ≤ a.2.2 then
  some (.inr a.1, s)
  else
  if (lg_cmp a.2.1 (0 : Int64)) = 0 then
  some (.inr a.1, s)
  else
  (mL a.1 a.2.1).bind fun v3 =>
  bnd (a.2.2 + (1 : Int32)) fun x4 =>
  some (.inl (a.2.1, v3, x4), s)
def fX0_commonPart (x0_ : Int64) (x1_ : Int64) (s : Sg) : Option (Int64 × Sg) :=
  (lpG (fX0_commonPart_L9) FU (x0_, x1_, (0 : Int32)) s).bind fun w1 =>
  some (w1.1, w1.2)
theorem ct_X0_commonPart {g : Gl} {x0_ : Int64} {x1_ : Int64} {s : Sg} {w : Int64 × Sg}  (h : fX0_commonPart x0_ x1_ s = some w) : Ct SS g iX0_commonPart 0 0 [.long x0_, .long x1_] s (Dt (some (.long w.1)) w.2) := by
  refine Ct.ofV (by decide +kernel) 7 (lv0 := [some (.long x0_), none, some (.long x1_), none, none, none, none, none, none, none, none]) rfl rfl (fun M hC => ?_)
  have hP : (Dt (some (.long w.1)) w.2) (some (.long w.1)) w.2 := ⟨rfl, rfl⟩
  generalize Dt (some (.long w.1)) w.2 = P at hP ⊢
  unfold fX0_commonPart at h
  refine v_lload_n (pc := 0) hC dX0_commonPart_0 rfl ?_
  refine v_lstore (pc := 1) (lv' := [some (.long x0_), none, some (.long x1_), none, some (.long x0_), none, none, none, none, none, none]) hC dX0_commonPart_1 rfl rfl rfl rfl ?_
  refine v_lload_n (pc := 3) hC dX0_commonPart_3 rfl ?_
  refine v_lstore (pc := 4) (lv' := [some (.long x0_), none, some (.long x1_), none, some (.long x0_), none, some (.long x1_), none, none, none, none]) hC dX0_commonPart_4 rfl rfl rfl rfl ?_
  refine v_iconst (pc := 6) (0 : Int32) rfl hC dX0_commonPart_6 ?_
  refine v_istore (pc := 7) (lv' := [some (.long x0_), none, some (.long x1_), none, some (.long x0_), none, some (.long x1_), none, some (.int (0 : Int32)), none, none]) hC dX0_commonPart_7 rfl rfl rfl rfl ?_
  obtain ⟨w1, hw1, h⟩ := obd_s h
  have kx12 : V SS g M iX0_commonPart (PQ SS g M P) 45 [none, none, none, none, some (.long w1.1), none, none, none, none, none, none] [] w1.2 := by
    refine v_lload (pc := 45) hC dX0_commonPart_45 rfl ?_
    obtain rfl := Option.some.inj h
    exact v_lret (pc := 47) hC rfl dX0_commonPart_47 hP
  refine V.ls (ls_none (ls_none (ls_none (ls_none (ls_some (ls_none (ls_some (ls_none (ls_some (ls_none (ls_none ls_nil))))))))))) (v_loop (pc := 9) (fun a4 => [none, none, none, none, some (.long a4.1), none, some (.long a4.2.1), none, some (.int a4.2.2), none, none]) (fun z t => V SS g M iX0_commonPart (PQ SS g M P) 45 [none, none, none, none, some (.long z), none, none, none, none, none, none] [] t) (fun a4 s2 u3 hu3 k5 k6 => ?_) _ _ _ _ hw1 kx12)
  unfold fX0_commonPart_L9 at hu3
  refine v_iload (pc := 9) hC dX0_commonPart_9 rfl ?_
  refine v_sipush (pc := 11) (130 : Int32) rfl hC dX0_commonPart_11 ?_
  refine v_ic_ge (pc := 14) (tgt := 45) hC dX0_commonPart_14 rfl (fun c8 => ?_) (fun c8 => ?_)
  · replace hu3 := (if_pos c8).symm.trans hu3
    obtain rfl := Option.some.inj hu3
    exact V.ls (ls_none (ls_none (ls_none (ls_none (ls_some (ls_none (ls_none (ls_none (ls_none (ls_none (ls_none ls_nil))))))))))) (k6 _ rfl)
  · replace hu3 := (if_neg c8).symm.trans hu3
    refine v_lload (pc := 17) hC dX0_commonPart_17 rfl ?_
    refine v_lconst (pc := 19) (0 : Int64) rfl hC dX0_commonPart_19 ?_
    refine v_lcmp (pc := 20) hC dX0_commonPart_20 ?_
    refine v_if_eq (pc := 21) (tgt := 45) hC dX0_commonPart_21 rfl (fun c9 => ?_) (fun c9 => ?_)
    · replace hu3 := (if_pos c9).symm.trans hu3
      obtain rfl := Option.some.inj hu3
      exact V.ls (ls_none (ls_none (ls_none (ls_none (ls_some (ls_none (ls_none (ls_none (ls_none (ls_none (ls_none ls_nil))))))))))) (k6 _ rfl)
    · replace hu3 := (if_neg c9).symm.trans hu3
      refine v_lload (pc := 24) hC dX0_commonPart_24 rfl ?_
      refine v_lload (pc := 26) hC dX0_commonPart_26 rfl ?_
      obtain ⟨v10, hv10, hu3⟩ := obd_s hu3
      refine v_mL (pc := 28) hC hv10 dX0_commonPart_28 ?_
      refine v_lstore (pc := 29) (lv' := [none, none, none, none, some (.long a4.1), none, some (.long a4.2.1), none, some (.int a4.2.2), some (.long v10), none]) hC dX0_commonPart_29 rfl rfl rfl rfl ?_
      refine v_lload (pc := 31) hC dX0_commonPart_31 rfl ?_
      refine v_lstore (pc := 33) (lv' := [none, none, none, none, some (.long a4.2.1), none, some (.long a4.2.1), none, some (.int a4.2.2), some (.long v10), none]) hC dX0_commonPart_33 rfl rfl rfl rfl ?_
      refine v_lload (pc := 35) hC dX0_commonPart_35 rfl ?_
      refine v_lstore (pc := 37) (lv' := [none, none, none, none, some (.long a4.2.1), none, some (.long v10), none, some (.int a4.2.2), some (.long v10), none]) hC dX0_commonPart_37 rfl rfl rfl rfl ?_
      obtain ⟨x11, hx11, hu3⟩ := bnd_s hu3
      refine v_iinc (pc := 39) (lv' := [none, none, none, none, some (.long a4.2.1), none, some (.long v10), none, some (.int x11), some (.long v10), none]) (1 : Int32) rfl hx11 hC dX0_commonPart_39 rfl rfl rfl rfl ?_
      refine v_goto (pc := 42) (tgt := 9) hC dX0_commonPart_42 rfl ?_
      obtain rfl := Option.some.inj hu3
      exact V.ls (ls_none (ls_none (ls_none (ls_none (ls_some (ls_none (ls_some (ls_none (ls_some (ls_none (ls_none ls_nil))))))))))) (k5 _ rfl)
theorem dX0_set_0 : decode cX0_set 0 = .ok (.lload_n 1, 1) := by decide +kernel
theorem dX0_set_1 : decode cX0_set 1 = .ok (.invokestatic 16, 3) := by decide +kernel
theorem dX0_set_4 : decode cX0_set 4 = .ok (.lload_n 3, 1) := by decide +kernel
theorem dX0_set_5 : decode cX0_set 5 = .ok (.invokestatic 22, 3) := by decide +kernel
theorem dX0_set_8 : decode cX0_set 8 = .ok (.lstore 5, 2) := by decide +kernel
theorem dX0_set_10 : decode cX0_set 10 = .ok (.lload 5, 2) := by decide +kernel
theorem dX0_set_12 : decode cX0_set 12 = .ok (.lconst 0, 1) := by decide +kernel
theorem dX0_set_13 : decode cX0_set 13 = .ok (.lcmp, 1) := by decide +kernel
theorem dX0_set_14 : decode cX0_set 14 = .ok (.ifCond .le 19, 3) := by decide +kernel
theorem dX0_set_17 : decode cX0_set 17 = .ok (.aload_n 0, 1) := by decide +kernel
theorem dX0_set_18 : decode cX0_set 18 = .ok (.lload_n 1, 1) := by decide +kernel
theorem dX0_set_19 : decode cX0_set 19 = .ok (.lload 5, 2) := by decide +kernel
theorem dX0_set_21 : decode cX0_set 21 = .ok (.ldiv, 1) := by decide +kernel
theorem dX0_set_22 : decode cX0_set 22 = .ok (.putfield 7, 3) := by decide +kernel
theorem dX0_set_25 : decode cX0_set 25 = .ok (.aload_n 0, 1) := by decide +kernel
theorem dX0_set_26 : decode cX0_set 26 = .ok (.lload_n 3, 1) := by decide +kernel
theorem dX0_set_27 : decode cX0_set 27 = .ok (.lload 5, 2) := by decide +kernel
theorem dX0_set_29 : decode cX0_set 29 = .ok (.ldiv, 1) := by decide +kernel
theorem dX0_set_30 : decode cX0_set 30 = .ok (.putfield 13, 3) := by decide +kernel
theorem dX0_set_33 : decode cX0_set 33 = .ok (.return_, 1) := by decide +kernel
def fX0_set (x0_ : Int64) (x1_ : Int64) (s : Sg) : Option (Sg) :=
  (fX0_commonPart (abL x0_) x1_ s).bind fun w1 =>
  if (lg_cmp w1.1 (0 : Int64)) ≤ 0 then
  some w1.2
  else
  (dL x0_ w1.1).bind fun v3 =>
  bnd (sL w1.2 48 0 v3) fun s4 =>
  (dL x1_ w1.1).bind fun v5 =>
  bnd (sL s4 48 1 v5) fun s6 =>
  some s6
theorem ct_X0_set {g : Gl} {x0_ : Int64} {x1_ : Int64} {s : Sg} {w : Sg}  (h : fX0_set x0_ x1_ s = some w) : Ct SS g iX0_set 1 30 [.ref (gad g 48), .long x0_, .long x1_] s (Dt none w) := by
  refine Ct.ofV (by decide +kernel) 2 (lv0 := [some (.ref (gad g 48)), some (.long x0_), none, some (.long x1_), none, none, none]) rfl rfl (fun M hC => ?_)
  have hP : (Dt none w) none w := ⟨rfl, rfl⟩
  generalize Dt none w = P at hP ⊢
  unfold fX0_set at h
  refine v_lload_n (pc := 0) hC dX0_set_0 rfl ?_
  refine v_ab (pc := 1) hC mm_X0_16 rfl rfl dX0_set_1 ?_
  refine v_lload_n (pc := 4) hC dX0_set_4 rfl ?_
  obtain ⟨w1, hw1, h⟩ := obd_s h
  refine v_cS (pc := 5) [] [.long w1.1] gm_X0_commonPart hC (ct_X0_commonPart  hw1) ml_X0_22 rfl rfl rfl rfl rfl rfl dX0_set_5 ?_
  refine v_lstore (pc := 8) (lv' := [some (.ref (gad g 48)), some (.long x0_), none, some (.long x1_), none, some (.long w1.1), none]) hC dX0_set_8 rfl rfl rfl rfl ?_
  refine v_lload (pc := 10) hC dX0_set_10 rfl ?_
  refine v_lconst (pc := 12) (0 : Int64) rfl hC dX0_set_12 ?_
  refine v_lcmp (pc := 13) hC dX0_set_13 ?_
  refine v_if_le (pc := 14) (tgt := 33) hC dX0_set_14 rfl (fun c2 => ?_) (fun c2 => ?_)
  · replace h := (if_pos c2).symm.trans h
    obtain rfl := Option.some.inj h
    exact v_vret (pc := 33) hC rfl dX0_set_33 hP
  · replace h := (if_neg c2).symm.trans h
    refine v_aload_n (pc := 17) hC dX0_set_17 rfl ?_
    refine v_lload_n (pc := 18) hC dX0_set_18 rfl ?_
    refine v_lload (pc := 19) hC dX0_set_19 rfl ?_
    obtain ⟨v3, hv3, h⟩ := obd_s h
    refine v_dL (pc := 21) hC hv3 dX0_set_21 ?_
    obtain ⟨s4, hs4, h⟩ := bnd_s h
    refine v_pL (pc := 22) 0 hC s_48 rfl rfl rfl rfl rfl rfl fl_X0_7 hs4 dX0_set_22 ?_
    refine v_aload_n (pc := 25) hC dX0_set_25 rfl ?_
    refine v_lload_n (pc := 26) hC dX0_set_26 rfl ?_
    refine v_lload (pc := 27) hC dX0_set_27 rfl ?_
    obtain ⟨v5, hv5, h⟩ := obd_s h
    refine v_dL (pc := 29) hC hv5 dX0_set_29 ?_
    obtain ⟨s6, hs6, h⟩ := bnd_s h
    refine v_pL (pc := 30) 1 hC s_48 rfl rfl rfl rfl rfl rfl fl_X0_13 hs6 dX0_set_30 ?_
    obtain rfl := Option.some.inj h
    exact v_vret (pc := 33) hC rfl dX0_set_33 hP
theorem dX0_part_0 : decode cX0_part 0 = .ok (.iload_n 1, 1) := by decide +kernel
theorem dX0_part_1 : decode cX0_part 1 = .ok (.ifCond .ne 10, 3) := by decide +kernel
theorem dX0_part_4 : decode cX0_part 4 = .ok (.aload_n 0, 1) := by decide +kernel
theorem dX0_part_5 : decode cX0_part 5 = .ok (.getfield 7, 3) := by decide +kernel
theorem dX0_part_8 : decode cX0_part 8 = .ok (.goto 7, 3) := by decide +kernel
theorem dX0_part_11 : decode cX0_part 11 = .ok (.aload_n 0, 1) := by decide +kernel
theorem dX0_part_12 : decode cX0_part 12 = .ok (.getfield 13, 3) := by decide +kernel
theorem dX0_part_15 : decode cX0_part 15 = .ok (.lreturn, 1) := by decide +kernel
def fX0_part (x0_ : Int32) (s : Sg) : Option (Int64 × Sg) :=
  if x0_ = 0 then
  some ((gL s 48 0), s)
  else
  some ((gL s 48 1), s)
theorem ct_X0_part {g : Gl} {x0_ : Int32} {s : Sg} {w : Int64 × Sg}  (h : fX0_part x0_ s = some w) : Ct SS g iX0_part 0 0 [.ref (gad g 48), .int x0_] s (Dt (some (.long w.1)) w.2) := by
  refine Ct.ofV (by decide +kernel) 0 (lv0 := [some (.ref (gad g 48)), some (.int x0_)]) rfl rfl (fun M hC => ?_)
  have hP : (Dt (some (.long w.1)) w.2) (some (.long w.1)) w.2 := ⟨rfl, rfl⟩
  generalize Dt (some (.long w.1)) w.2 = P at hP ⊢
  unfold fX0_part at h
  refine v_iload_n (pc := 0) hC dX0_part_0 rfl ?_
  refine v_if_ne (pc := 1) (tgt := 11) hC dX0_part_1 rfl (fun c1 => ?_) (fun c1 => ?_)
  · replace h := (if_neg c1).symm.trans h
    refine v_aload_n (pc := 11) hC dX0_part_11 rfl ?_
    refine v_gt (pc := 12) 1 (.long (gL s 48 1)) hC s_48 rfl rfl rfl rfl fl_X0_13 dX0_part_12 ?_
    obtain rfl := Option.some.inj h
    exact v_lret (pc := 15) hC rfl dX0_part_15 hP
  · replace h := (if_pos c1).symm.trans h
    refine v_aload_n (pc := 4) hC dX0_part_4 rfl ?_
    refine v_gt (pc := 5) 0 (.long (gL s 48 0)) hC s_48 rfl rfl rfl rfl fl_X0_7 dX0_part_5 ?_
    refine v_goto (pc := 8) (tgt := 15) hC dX0_part_8 rfl ?_
    obtain rfl := Option.some.inj h
    exact v_lret (pc := 15) hC rfl dX0_part_15 hP
theorem dX0_commonMultiple_0 : decode cX0_commonMultiple 0 = .ok (.lload_n 0, 1) := by decide +kernel
theorem dX0_commonMultiple_1 : decode cX0_commonMultiple 1 = .ok (.lload_n 2, 1) := by decide +kernel
theorem dX0_commonMultiple_2 : decode cX0_commonMultiple 2 = .ok (.invokestatic 22, 3) := by decide +kernel
theorem dX0_commonMultiple_5 : decode cX0_commonMultiple 5 = .ok (.lstore 4, 2) := by decide +kernel
theorem dX0_commonMultiple_7 : decode cX0_commonMultiple 7 = .ok (.lload 4, 2) := by decide +kernel
theorem dX0_commonMultiple_9 : decode cX0_commonMultiple 9 = .ok (.lconst 0, 1) := by decide +kernel
theorem dX0_commonMultiple_10 : decode cX0_commonMultiple 10 = .ok (.lcmp, 1) := by decide +kernel
theorem dX0_commonMultiple_11 : decode cX0_commonMultiple 11 = .ok (.ifCond .le 12, 3) := by decide +kernel
theorem dX0_commonMultiple_14 : decode cX0_commonMultiple 14 = .ok (.lload_n 0, 1) := by decide +kernel
theorem dX0_commonMultiple_15 : decode cX0_commonMultiple 15 = .ok (.lload 4, 2) := by decide +kernel
theorem dX0_commonMultiple_17 : decode cX0_commonMultiple 17 = .ok (.ldiv, 1) := by decide +kernel
theorem dX0_commonMultiple_18 : decode cX0_commonMultiple 18 = .ok (.lload_n 2, 1) := by decide +kernel
theorem dX0_commonMultiple_19 : decode cX0_commonMultiple 19 = .ok (.lmul, 1) := by decide +kernel
theorem dX0_commonMultiple_20 : decode cX0_commonMultiple 20 = .ok (.goto 4, 3) := by decide +kernel
theorem dX0_commonMultiple_23 : decode cX0_commonMultiple 23 = .ok (.lconst 0, 1) := by decide +kernel
theorem dX0_commonMultiple_24 : decode cX0_commonMultiple 24 = .ok (.lreturn, 1) := by decide +kernel
def fX0_commonMultiple (x0_ : Int64) (x1_ : Int64) (s : Sg) : Option (Int64 × Sg) :=
  (fX0_commonPart x0_ x1_ s).bind fun w1 =>
  if (lg_cmp w1.1 (0 : Int64)) ≤ 0 then
  some ((0 : Int64), w1.2)
  else
  (dL x0_ w1.1).bind fun v3 =>
  some ((v3 * x1_), w1.2)
theorem ct_X0_commonMultiple {g : Gl} {x0_ : Int64} {x1_ : Int64} {s : Sg} {w : Int64 × Sg}  (h : fX0_commonMultiple x0_ x1_ s = some w) : Ct SS g iX0_commonMultiple 1 30 [.long x0_, .long x1_] s (Dt (some (.long w.1)) w.2) := by
  refine Ct.ofV (by decide +kernel) 2 (lv0 := [some (.long x0_), none, some (.long x1_), none, none, none]) rfl rfl (fun M hC => ?_)
  have hP : (Dt (some (.long w.1)) w.2) (some (.long w.1)) w.2 := ⟨rfl, rfl⟩
  generalize Dt (some (.long w.1)) w.2 = P at hP ⊢
  unfold fX0_commonMultiple at h
  refine v_lload_n (pc := 0) hC dX0_commonMultiple_0 rfl ?_
  refine v_lload_n (pc := 1) hC dX0_commonMultiple_1 rfl ?_
  obtain ⟨w1, hw1, h⟩ := obd_s h
  refine v_cS (pc := 2) [] [.long w1.1] gm_X0_commonPart hC (ct_X0_commonPart  hw1) ml_X0_22 rfl rfl rfl rfl rfl rfl dX0_commonMultiple_2 ?_
  refine v_lstore (pc := 5) (lv' := [some (.long x0_), none, some (.long x1_), none, some (.long w1.1), none]) hC dX0_commonMultiple_5 rfl rfl rfl rfl ?_
  refine v_lload (pc := 7) hC dX0_commonMultiple_7 rfl ?_
  refine v_lconst (pc := 9) (0 : Int64) rfl hC dX0_commonMultiple_9 ?_
  refine v_lcmp (pc := 10) hC dX0_commonMultiple_10 ?_
  refine v_if_le (pc := 11) (tgt := 23) hC dX0_commonMultiple_11 rfl (fun c2 => ?_) (fun c2 => ?_)
  · replace h := (if_pos c2).symm.trans h
    refine v_lconst (pc := 23) (0 : Int64) rfl hC dX0_commonMultiple_23 ?_
    obtain rfl := Option.some.inj h
    exact v_lret (pc := 24) hC rfl dX0_commonMultiple_24 hP
  · replace h := (if_neg c2).symm.trans h
    refine v_lload_n (pc := 14) hC dX0_commonMultiple_14 rfl ?_
    refine v_lload (pc := 15) hC dX0_commonMultiple_15 rfl ?_
    obtain ⟨v3, hv3, h⟩ := obd_s h
    refine v_dL (pc := 17) hC hv3 dX0_commonMultiple_17 ?_
    refine v_lload_n (pc := 18) hC dX0_commonMultiple_18 rfl ?_
    refine v_lmul (pc := 19) hC dX0_commonMultiple_19 ?_
    refine v_goto (pc := 20) (tgt := 24) hC dX0_commonMultiple_20 rfl ?_
    obtain rfl := Option.some.inj h
    exact v_lret (pc := 24) hC rfl dX0_commonMultiple_24 hP
theorem dX1_clear_0 : decode cX1_clear 0 = .ok (.iconst 0, 1) := by decide +kernel
theorem dX1_clear_1 : decode cX1_clear 1 = .ok (.istore_n 1, 1) := by decide +kernel
theorem dX1_clear_2 : decode cX1_clear 2 = .ok (.iload_n 1, 1) := by decide +kernel
theorem dX1_clear_3 : decode cX1_clear 3 = .ok (.bipush 8, 2) := by decide +kernel
theorem dX1_clear_5 : decode cX1_clear 5 = .ok (.if_icmp .ge 23, 3) := by decide +kernel
theorem dX1_clear_8 : decode cX1_clear 8 = .ok (.aload_n 0, 1) := by decide +kernel
theorem dX1_clear_9 : decode cX1_clear 9 = .ok (.getfield 9, 3) := by decide +kernel
theorem dX1_clear_12 : decode cX1_clear 12 = .ok (.iload_n 1, 1) := by decide +kernel
theorem dX1_clear_13 : decode cX1_clear 13 = .ok (.iconst 0, 1) := by decide +kernel
theorem dX1_clear_14 : decode cX1_clear 14 = .ok (.iastore, 1) := by decide +kernel
theorem dX1_clear_15 : decode cX1_clear 15 = .ok (.aload_n 0, 1) := by decide +kernel
theorem dX1_clear_16 : decode cX1_clear 16 = .ok (.getfield 15, 3) := by decide +kernel
theorem dX1_clear_19 : decode cX1_clear 19 = .ok (.iload_n 1, 1) := by decide +kernel
theorem dX1_clear_20 : decode cX1_clear 20 = .ok (.lconst 0, 1) := by decide +kernel
theorem dX1_clear_21 : decode cX1_clear 21 = .ok (.lastore, 1) := by decide +kernel
theorem dX1_clear_22 : decode cX1_clear 22 = .ok (.iinc 1 1, 3) := by decide +kernel
theorem dX1_clear_25 : decode cX1_clear 25 = .ok (.goto (-23), 3) := by decide +kernel
theorem dX1_clear_28 : decode cX1_clear 28 = .ok (.return_, 1) := by decide +kernel
def fX1_clear_L2 (b0 : Nat) (a : Int32) (s : Sg) : Option (((Int32) ⊕ (Unit)) × Sg) :=
  if (8 : Int32) ≤ a then
  some (.inr (), s)
  else
  (wI s (b0 + 1) 8 a (0 : Int32)).bind fun s2 =>
  (wL s2 (b0 + 2) 8 a (0 : Int64)).bind fun s3 =>
  bnd (a + (1 : Int32)) fun x4 =>
  some (.inl x4, s3)
def fX1_clear (b0 : Nat) (s : Sg) : Option (Sg) :=
  (lpG (fX1_clear_L2 b0) FU (0 : Int32) s).bind fun w1 =>
  some w1.2
theorem ct_X1_clear {g : Gl} {b0 : Nat} {s : Sg} {w : Sg} (hb0 : isLv b0) (h : fX1_clear b0 s = some w) : Ct SS g iX1_clear 0 0 [.ref (gad g b0)] s (Dt none w) := by
  refine Ct.ofV (by decide +kernel) 1 (lv0 := [some (.ref (gad g b0)), none]) rfl rfl (fun M hC => ?_)
  have hP : (Dt none w) none w := ⟨rfl, rfl⟩
  generalize Dt none w = P at hP ⊢
  unfold fX1_clear at h
  refine v_iconst (pc := 0) (0 : Int32) rfl hC dX1_clear_0 ?_
  refine v_istore_n (pc := 1) (lv' := [some (.ref (gad g b0)), some (.int (0 : Int32))]) hC dX1_clear_1 rfl rfl rfl rfl ?_
  obtain ⟨w1, hw1, h⟩ := obd_s h
  have kx12 : V SS g M iX1_clear (PQ SS g M P) 28 [none, none] [] w1.2 := by
    obtain rfl := Option.some.inj h
    exact v_vret (pc := 28) hC rfl dX1_clear_28 hP
  refine V.ls (ls_some (ls_some ls_nil)) (v_loop (pc := 2) (fun a4 => [some (.ref (gad g b0)), some (.int a4)]) (fun z t => V SS g M iX1_clear (PQ SS g M P) 28 [none, none] [] t) (fun a4 s2 u3 hu3 k5 k6 => ?_) _ _ _ _ hw1 kx12)
  unfold fX1_clear_L2 at hu3
  refine v_iload_n (pc := 2) hC dX1_clear_2 rfl ?_
  refine v_bipush (pc := 3) (8 : Int32) rfl hC dX1_clear_3 ?_
  refine v_ic_ge (pc := 5) (tgt := 28) hC dX1_clear_5 rfl (fun c8 => ?_) (fun c8 => ?_)
  · replace hu3 := (if_pos c8).symm.trans hu3
    obtain rfl := Option.some.inj hu3
    exact V.ls (ls_none (ls_none ls_nil)) (k6 _ rfl)
  · replace hu3 := (if_neg c8).symm.trans hu3
    refine v_aload_n (pc := 8) hC dX1_clear_8 rfl ?_
    refine v_gt (pc := 9) 0 (.ref (gad g (b0 + 1))) hC hb0.1 rfl rfl rfl rfl fl_X1_9 dX1_clear_9 ?_
    refine v_iload_n (pc := 12) hC dX1_clear_12 rfl ?_
    refine v_iconst (pc := 13) (0 : Int32) rfl hC dX1_clear_13 ?_
    obtain ⟨s9, hs9, hu3⟩ := obd_s hu3
    refine v_wI (pc := 14) hC hb0.2.1 hs9 dX1_clear_14 ?_
    refine v_aload_n (pc := 15) hC dX1_clear_15 rfl ?_
    refine v_gt (pc := 16) 1 (.ref (gad g (b0 + 2))) hC hb0.1 rfl rfl rfl rfl fl_X1_15 dX1_clear_16 ?_
    refine v_iload_n (pc := 19) hC dX1_clear_19 rfl ?_
    refine v_lconst (pc := 20) (0 : Int64) rfl hC dX1_clear_20 ?_
    obtain ⟨s10, hs10, hu3⟩ := obd_s hu3
    refine v_wL (pc := 21) hC hb0.2.2.1 hs10 dX1_clear_21 ?_
    obtain ⟨x11, hx11, hu3⟩ := bnd_s hu3
    refine v_iinc (pc := 22) (lv' := [some (.ref (gad g b0)), some (.int x11)]) (1 : Int32) rfl hx11 hC dX1_clear_22 rfl rfl rfl rfl ?_
    refine v_goto (pc := 25) (tgt := 2) hC dX1_clear_25 rfl ?_
    obtain rfl := Option.some.inj hu3
    exact V.ls (ls_some (ls_some ls_nil)) (k5 _ rfl)
theorem dX1_settle_0 : decode cX1_settle 0 = .ok (.aload_n 0, 1) := by decide +kernel
theorem dX1_settle_1 : decode cX1_settle 1 = .ok (.iconst 0, 1) := by decide +kernel
theorem dX1_settle_2 : decode cX1_settle 2 = .ok (.putfield 25, 3) := by decide +kernel
theorem dX1_settle_5 : decode cX1_settle 5 = .ok (.aload_n 0, 1) := by decide +kernel
theorem dX1_settle_6 : decode cX1_settle 6 = .ok (.lconst 1, 1) := by decide +kernel
theorem dX1_settle_7 : decode cX1_settle 7 = .ok (.putfield 29, 3) := by decide +kernel
theorem dX1_settle_10 : decode cX1_settle 10 = .ok (.aload_n 0, 1) := by decide +kernel
theorem dX1_settle_11 : decode cX1_settle 11 = .ok (.lconst 0, 1) := by decide +kernel
theorem dX1_settle_12 : decode cX1_settle 12 = .ok (.putfield 33, 3) := by decide +kernel
theorem dX1_settle_15 : decode cX1_settle 15 = .ok (.iconst 0, 1) := by decide +kernel
theorem dX1_settle_16 : decode cX1_settle 16 = .ok (.istore_n 1, 1) := by decide +kernel
theorem dX1_settle_17 : decode cX1_settle 17 = .ok (.iload_n 1, 1) := by decide +kernel
theorem dX1_settle_18 : decode cX1_settle 18 = .ok (.bipush 8, 2) := by decide +kernel
theorem dX1_settle_20 : decode cX1_settle 20 = .ok (.if_icmp .ge 46, 3) := by decide +kernel
theorem dX1_settle_23 : decode cX1_settle 23 = .ok (.aload_n 0, 1) := by decide +kernel
theorem dX1_settle_24 : decode cX1_settle 24 = .ok (.getfield 9, 3) := by decide +kernel
theorem dX1_settle_27 : decode cX1_settle 27 = .ok (.iload_n 1, 1) := by decide +kernel
theorem dX1_settle_28 : decode cX1_settle 28 = .ok (.iaload, 1) := by decide +kernel
theorem dX1_settle_29 : decode cX1_settle 29 = .ok (.ifCond .le 31, 3) := by decide +kernel
theorem dX1_settle_32 : decode cX1_settle 32 = .ok (.aload_n 0, 1) := by decide +kernel
theorem dX1_settle_33 : decode cX1_settle 33 = .ok (.dup, 1) := by decide +kernel
theorem dX1_settle_34 : decode cX1_settle 34 = .ok (.getfield 25, 3) := by decide +kernel
theorem dX1_settle_37 : decode cX1_settle 37 = .ok (.iconst 1, 1) := by decide +kernel
theorem dX1_settle_38 : decode cX1_settle 38 = .ok (.iadd, 1) := by decide +kernel
theorem dX1_settle_39 : decode cX1_settle 39 = .ok (.putfield 25, 3) := by decide +kernel
theorem dX1_settle_42 : decode cX1_settle 42 = .ok (.aload_n 0, 1) := by decide +kernel
theorem dX1_settle_43 : decode cX1_settle 43 = .ok (.aload_n 0, 1) := by decide +kernel
theorem dX1_settle_44 : decode cX1_settle 44 = .ok (.getfield 29, 3) := by decide +kernel
theorem dX1_settle_47 : decode cX1_settle 47 = .ok (.aload_n 0, 1) := by decide +kernel
theorem dX1_settle_48 : decode cX1_settle 48 = .ok (.getfield 9, 3) := by decide +kernel
theorem dX1_settle_51 : decode cX1_settle 51 = .ok (.iload_n 1, 1) := by decide +kernel
theorem dX1_settle_52 : decode cX1_settle 52 = .ok (.iaload, 1) := by decide +kernel
theorem dX1_settle_53 : decode cX1_settle 53 = .ok (.i2l, 1) := by decide +kernel
theorem dX1_settle_54 : decode cX1_settle 54 = .ok (.invokestatic 36, 3) := by decide +kernel
theorem dX1_settle_57 : decode cX1_settle 57 = .ok (.putfield 29, 3) := by decide +kernel
theorem dX1_settle_60 : decode cX1_settle 60 = .ok (.iinc 1 1, 3) := by decide +kernel
theorem dX1_settle_63 : decode cX1_settle 63 = .ok (.goto (-46), 3) := by decide +kernel
theorem dX1_settle_66 : decode cX1_settle 66 = .ok (.iconst 0, 1) := by decide +kernel
theorem dX1_settle_67 : decode cX1_settle 67 = .ok (.istore_n 1, 1) := by decide +kernel
theorem dX1_settle_68 : decode cX1_settle 68 = .ok (.iload_n 1, 1) := by decide +kernel
theorem dX1_settle_69 : decode cX1_settle 69 = .ok (.bipush 8, 2) := by decide +kernel
theorem dX1_settle_71 : decode cX1_settle 71 = .ok (.if_icmp .ge 62, 3) := by decide +kernel
theorem dX1_settle_74 : decode cX1_settle 74 = .ok (.aload_n 0, 1) := by decide +kernel
theorem dX1_settle_75 : decode cX1_settle 75 = .ok (.getfield 19, 3) := by decide +kernel
theorem dX1_settle_78 : decode cX1_settle 78 = .ok (.iload_n 1, 1) := by decide +kernel
theorem dX1_settle_79 : decode cX1_settle 79 = .ok (.aload_n 0, 1) := by decide +kernel
theorem dX1_settle_80 : decode cX1_settle 80 = .ok (.getfield 9, 3) := by decide +kernel
theorem dX1_settle_83 : decode cX1_settle 83 = .ok (.iload_n 1, 1) := by decide +kernel
theorem dX1_settle_84 : decode cX1_settle 84 = .ok (.iaload, 1) := by decide +kernel
theorem dX1_settle_85 : decode cX1_settle 85 = .ok (.ifCond .le 25, 3) := by decide +kernel
theorem dX1_settle_88 : decode cX1_settle 88 = .ok (.aload_n 0, 1) := by decide +kernel
theorem dX1_settle_89 : decode cX1_settle 89 = .ok (.getfield 15, 3) := by decide +kernel
theorem dX1_settle_92 : decode cX1_settle 92 = .ok (.iload_n 1, 1) := by decide +kernel
theorem dX1_settle_93 : decode cX1_settle 93 = .ok (.laload, 1) := by decide +kernel
theorem dX1_settle_94 : decode cX1_settle 94 = .ok (.aload_n 0, 1) := by decide +kernel
theorem dX1_settle_95 : decode cX1_settle 95 = .ok (.getfield 29, 3) := by decide +kernel
theorem dX1_settle_98 : decode cX1_settle 98 = .ok (.aload_n 0, 1) := by decide +kernel
theorem dX1_settle_99 : decode cX1_settle 99 = .ok (.getfield 9, 3) := by decide +kernel
theorem dX1_settle_102 : decode cX1_settle 102 = .ok (.iload_n 1, 1) := by decide +kernel
theorem dX1_settle_103 : decode cX1_settle 103 = .ok (.iaload, 1) := by decide +kernel
theorem dX1_settle_104 : decode cX1_settle 104 = .ok (.i2l, 1) := by decide +kernel
theorem dX1_settle_105 : decode cX1_settle 105 = .ok (.ldiv, 1) := by decide +kernel
theorem dX1_settle_106 : decode cX1_settle 106 = .ok (.lmul, 1) := by decide +kernel
theorem dX1_settle_107 : decode cX1_settle 107 = .ok (.goto 4, 3) := by decide +kernel
theorem dX1_settle_110 : decode cX1_settle 110 = .ok (.lconst 0, 1) := by decide +kernel
theorem dX1_settle_111 : decode cX1_settle 111 = .ok (.lastore, 1) := by decide +kernel
theorem dX1_settle_112 : decode cX1_settle 112 = .ok (.aload_n 0, 1) := by decide +kernel
theorem dX1_settle_113 : decode cX1_settle 113 = .ok (.dup, 1) := by decide +kernel
theorem dX1_settle_114 : decode cX1_settle 114 = .ok (.getfield 33, 3) := by decide +kernel
theorem dX1_settle_117 : decode cX1_settle 117 = .ok (.aload_n 0, 1) := by decide +kernel
theorem dX1_settle_118 : decode cX1_settle 118 = .ok (.getfield 19, 3) := by decide +kernel
theorem dX1_settle_121 : decode cX1_settle 121 = .ok (.iload_n 1, 1) := by decide +kernel
theorem dX1_settle_122 : decode cX1_settle 122 = .ok (.laload, 1) := by decide +kernel
theorem dX1_settle_123 : decode cX1_settle 123 = .ok (.ladd, 1) := by decide +kernel
theorem dX1_settle_124 : decode cX1_settle 124 = .ok (.putfield 33, 3) := by decide +kernel
theorem dX1_settle_127 : decode cX1_settle 127 = .ok (.iinc 1 1, 3) := by decide +kernel
theorem dX1_settle_130 : decode cX1_settle 130 = .ok (.goto (-62), 3) := by decide +kernel
theorem dX1_settle_133 : decode cX1_settle 133 = .ok (.return_, 1) := by decide +kernel
def fX1_settle_L17 (b0 : Nat) (a : Int32) (s : Sg) : Option (((Int32) ⊕ (Unit)) × Sg) :=
  if (8 : Int32) ≤ a then
  some (.inr (), s)
  else
  (aI s (b0 + 1) 8 a).bind fun v2 =>
  ((if v2 ≤ 0 then
  some s
  else
  bnd (sI s b0 4 ((gI s b0 4) + (1 : Int32))) fun s7 =>
  (aI s7 (b0 + 1) 8 a).bind fun v8 =>
  (fX0_commonMultiple (gL s7 b0 5) ((v8).toInt64) s7).bind fun w9 =>
  bnd (sL w9.2 b0 5 w9.1) fun s10 =>
  some s10) : Option (Sg)).bind fun w3 =>
  bnd (a + (1 : Int32)) fun x5 =>
  some (.inl x5, w3)
def fX1_settle_L68 (b0 : Nat) (a : Int32) (s : Sg) : Option (((Int32) ⊕ (Unit)) × Sg) :=
  if (8 : Int32) ≤ a then
  some (.inr (), s)
  else
  (aI s (b0 + 1) 8 a).bind fun v2 =>
  ((if v2 ≤ 0 then
  some (0 : Int64)
  else
  (aL s (b0 + 2) 8 a).bind fun v10 =>
  (aI s (b0 + 1) 8 a).bind fun v11 =>
  (dL (gL s b0 5) ((v11).toInt64)).bind fun v12 =>
  some (v10 * v12)) : Option (Int64)).bind fun w3 =>
  (wL s (b0 + 3) 8 a w3).bind fun s5 =>
  (aL s5 (b0 + 3) 8 a).bind fun v6 =>
  bnd (sL s5 b0 6 ((gL s5 b0 6) + v6)) fun s7 =>
  bnd (a + (1 : Int32)) fun x8 =>
  some (.inl x8, s7)
def fX1_settle (b0 : Nat) (s : Sg) : Option (Sg) :=
  bnd (sI s b0 4 (0 : Int32)) fun s1 =>
  bnd (sL s1 b0 5 (1 : Int64)) fun s2 =>
  bnd (sL s2 b0 6 (0 : Int64)) fun s3 =>
  (lpG (fX1_settle_L17 b0) FU (0 : Int32) s3).bind fun w4 =>
  (lpG (fX1_settle_L68 b0) FU (0 : Int32) w4.2).bind fun w5 =>
  some w5.2
theorem ct_X1_settle {g : Gl} {b0 : Nat} {s : Sg} {w : Sg} (hb0 : isLv b0) (h : fX1_settle b0 s = some w) : Ct SS g iX1_settle 2 55 [.ref (gad g b0)] s (Dt none w) := by
  refine Ct.ofV (by decide +kernel) 1 (lv0 := [some (.ref (gad g b0)), none]) rfl rfl (fun M hC => ?_)
  have hP : (Dt none w) none w := ⟨rfl, rfl⟩
  generalize Dt none w = P at hP ⊢
  unfold fX1_settle at h
  refine v_aload_n (pc := 0) hC dX1_settle_0 rfl ?_
  refine v_iconst (pc := 1) (0 : Int32) rfl hC dX1_settle_1 ?_
  obtain ⟨s1, hs1, h⟩ := bnd_s h
  refine v_pI (pc := 2) 4 hC hb0.1 rfl rfl rfl rfl rfl rfl fl_X1_25 hs1 dX1_settle_2 ?_
  refine v_aload_n (pc := 5) hC dX1_settle_5 rfl ?_
  refine v_lconst (pc := 6) (1 : Int64) rfl hC dX1_settle_6 ?_
  obtain ⟨s2, hs2, h⟩ := bnd_s h
  refine v_pL (pc := 7) 5 hC hb0.1 rfl rfl rfl rfl rfl rfl fl_X1_29 hs2 dX1_settle_7 ?_
  refine v_aload_n (pc := 10) hC dX1_settle_10 rfl ?_
  refine v_lconst (pc := 11) (0 : Int64) rfl hC dX1_settle_11 ?_
  obtain ⟨s3, hs3, h⟩ := bnd_s h
  refine v_pL (pc := 12) 6 hC hb0.1 rfl rfl rfl rfl rfl rfl fl_X1_33 hs3 dX1_settle_12 ?_
  refine v_iconst (pc := 15) (0 : Int32) rfl hC dX1_settle_15 ?_
  refine v_istore_n (pc := 16) (lv' := [some (.ref (gad g b0)), some (.int (0 : Int32))]) hC dX1_settle_16 rfl rfl rfl rfl ?_
  obtain ⟨w4, hw4, h⟩ := obd_s h
  have kx41 : V SS g M iX1_settle (PQ SS g M P) 66 [some (.ref (gad g b0)), none] [] w4.2 := by
    refine v_iconst (pc := 66) (0 : Int32) rfl hC dX1_settle_66 ?_
    refine v_istore_n (pc := 67) (lv' := [some (.ref (gad g b0)), some (.int (0 : Int32))]) hC dX1_settle_67 rfl rfl rfl rfl ?_
    obtain ⟨w5, hw5, h⟩ := obd_s h
    have kx24 : V SS g M iX1_settle (PQ SS g M P) 133 [none, none] [] w5.2 := by
      obtain rfl := Option.some.inj h
      exact v_vret (pc := 133) hC rfl dX1_settle_133 hP
    refine V.ls (ls_some (ls_some ls_nil)) (v_loop (pc := 68) (fun a8 => [some (.ref (gad g b0)), some (.int a8)]) (fun z t => V SS g M iX1_settle (PQ SS g M P) 133 [none, none] [] t) (fun a8 s6 u7 hu7 k9 k10 => ?_) _ _ _ _ hw5 kx24)
    unfold fX1_settle_L68 at hu7
    refine v_iload_n (pc := 68) hC dX1_settle_68 rfl ?_
    refine v_bipush (pc := 69) (8 : Int32) rfl hC dX1_settle_69 ?_
    refine v_ic_ge (pc := 71) (tgt := 133) hC dX1_settle_71 rfl (fun c12 => ?_) (fun c12 => ?_)
    · replace hu7 := (if_pos c12).symm.trans hu7
      obtain rfl := Option.some.inj hu7
      exact V.ls (ls_none (ls_none ls_nil)) (k10 _ rfl)
    · replace hu7 := (if_neg c12).symm.trans hu7
      refine v_aload_n (pc := 74) hC dX1_settle_74 rfl ?_
      refine v_gt (pc := 75) 2 (.ref (gad g (b0 + 3))) hC hb0.1 rfl rfl rfl rfl fl_X1_19 dX1_settle_75 ?_
      refine v_iload_n (pc := 78) hC dX1_settle_78 rfl ?_
      refine v_aload_n (pc := 79) hC dX1_settle_79 rfl ?_
      refine v_gt (pc := 80) 0 (.ref (gad g (b0 + 1))) hC hb0.1 rfl rfl rfl rfl fl_X1_9 dX1_settle_80 ?_
      refine v_iload_n (pc := 83) hC dX1_settle_83 rfl ?_
      obtain ⟨v13, hv13, hu7⟩ := obd_s hu7
      refine v_aI (pc := 84) hC hb0.2.1 hv13 dX1_settle_84 ?_
      obtain ⟨w14, hw14, hu7⟩ := obd_s hu7
      have kj15 : V SS g M iX1_settle (PQ SS g M P) 111 [some (.ref (gad g b0)), some (.int a8)] [.long w14, .int a8, .ref (gad g (b0 + 3))] s6 := by
        obtain ⟨s16, hs16, hu7⟩ := obd_s hu7
        refine v_wL (pc := 111) hC hb0.2.2.2.1 hs16 dX1_settle_111 ?_
        refine v_aload_n (pc := 112) hC dX1_settle_112 rfl ?_
        refine v_dup (pc := 113) hC rfl dX1_settle_113 ?_
        refine v_gt (pc := 114) 6 (.long (gL s16 b0 6)) hC hb0.1 rfl rfl rfl rfl fl_X1_33 dX1_settle_114 ?_
        refine v_aload_n (pc := 117) hC dX1_settle_117 rfl ?_
        refine v_gt (pc := 118) 2 (.ref (gad g (b0 + 3))) hC hb0.1 rfl rfl rfl rfl fl_X1_19 dX1_settle_118 ?_
        refine v_iload_n (pc := 121) hC dX1_settle_121 rfl ?_
        obtain ⟨v17, hv17, hu7⟩ := obd_s hu7
        refine v_aL (pc := 122) hC hb0.2.2.2.1 hv17 dX1_settle_122 ?_
        refine v_ladd (pc := 123) hC dX1_settle_123 ?_
        obtain ⟨s18, hs18, hu7⟩ := bnd_s hu7
        refine v_pL (pc := 124) 6 hC hb0.1 rfl rfl rfl rfl rfl rfl fl_X1_33 hs18 dX1_settle_124 ?_
        obtain ⟨x19, hx19, hu7⟩ := bnd_s hu7
        refine v_iinc (pc := 127) (lv' := [some (.ref (gad g b0)), some (.int x19)]) (1 : Int32) rfl hx19 hC dX1_settle_127 rfl rfl rfl rfl ?_
        refine v_goto (pc := 130) (tgt := 68) hC dX1_settle_130 rfl ?_
        obtain rfl := Option.some.inj hu7
        exact V.ls (ls_some (ls_some ls_nil)) (k9 _ rfl)
      refine v_if_le (pc := 85) (tgt := 110) hC dX1_settle_85 rfl (fun c20 => ?_) (fun c20 => ?_)
      · replace hw14 := (if_pos c20).symm.trans hw14
        refine v_lconst (pc := 110) (0 : Int64) rfl hC dX1_settle_110 ?_
        obtain rfl := Option.some.inj hw14
        exact V.ls (ls_some (ls_some ls_nil)) kj15
      · replace hw14 := (if_neg c20).symm.trans hw14
        refine v_aload_n (pc := 88) hC dX1_settle_88 rfl ?_
        refine v_gt (pc := 89) 1 (.ref (gad g (b0 + 2))) hC hb0.1 rfl rfl rfl rfl fl_X1_15 dX1_settle_89 ?_
        refine v_iload_n (pc := 92) hC dX1_settle_92 rfl ?_
        obtain ⟨v21, hv21, hw14⟩ := obd_s hw14
        refine v_aL (pc := 93) hC hb0.2.2.1 hv21 dX1_settle_93 ?_
        refine v_aload_n (pc := 94) hC dX1_settle_94 rfl ?_
        refine v_gt (pc := 95) 5 (.long (gL s6 b0 5)) hC hb0.1 rfl rfl rfl rfl fl_X1_29 dX1_settle_95 ?_
        refine v_aload_n (pc := 98) hC dX1_settle_98 rfl ?_
        refine v_gt (pc := 99) 0 (.ref (gad g (b0 + 1))) hC hb0.1 rfl rfl rfl rfl fl_X1_9 dX1_settle_99 ?_
        refine v_iload_n (pc := 102) hC dX1_settle_102 rfl ?_
        obtain ⟨v22, hv22, hw14⟩ := obd_s hw14
        refine v_aI (pc := 103) hC hb0.2.1 hv22 dX1_settle_103 ?_
        refine v_i2l (pc := 104) hC dX1_settle_104 ?_
        obtain ⟨v23, hv23, hw14⟩ := obd_s hw14
        refine v_dL (pc := 105) hC hv23 dX1_settle_105 ?_
        refine v_lmul (pc := 106) hC dX1_settle_106 ?_
        refine v_goto (pc := 107) (tgt := 111) hC dX1_settle_107 rfl ?_
        obtain rfl := Option.some.inj hw14
        exact V.ls (ls_some (ls_some ls_nil)) kj15
  refine V.ls (ls_some (ls_some ls_nil)) (v_loop (pc := 17) (fun a27 => [some (.ref (gad g b0)), some (.int a27)]) (fun z t => V SS g M iX1_settle (PQ SS g M P) 66 [some (.ref (gad g b0)), none] [] t) (fun a27 s25 u26 hu26 k28 k29 => ?_) _ _ _ _ hw4 kx41)
  unfold fX1_settle_L17 at hu26
  refine v_iload_n (pc := 17) hC dX1_settle_17 rfl ?_
  refine v_bipush (pc := 18) (8 : Int32) rfl hC dX1_settle_18 ?_
  refine v_ic_ge (pc := 20) (tgt := 66) hC dX1_settle_20 rfl (fun c31 => ?_) (fun c31 => ?_)
  · replace hu26 := (if_pos c31).symm.trans hu26
    obtain rfl := Option.some.inj hu26
    exact V.ls (ls_some (ls_none ls_nil)) (k29 _ rfl)
  · replace hu26 := (if_neg c31).symm.trans hu26
    refine v_aload_n (pc := 23) hC dX1_settle_23 rfl ?_
    refine v_gt (pc := 24) 0 (.ref (gad g (b0 + 1))) hC hb0.1 rfl rfl rfl rfl fl_X1_9 dX1_settle_24 ?_
    refine v_iload_n (pc := 27) hC dX1_settle_27 rfl ?_
    obtain ⟨v32, hv32, hu26⟩ := obd_s hu26
    refine v_aI (pc := 28) hC hb0.2.1 hv32 dX1_settle_28 ?_
    obtain ⟨w33, hw33, hu26⟩ := obd_s hu26
    have kj34 : V SS g M iX1_settle (PQ SS g M P) 60 [some (.ref (gad g b0)), some (.int a27)] [] w33 := by
      obtain ⟨x35, hx35, hu26⟩ := bnd_s hu26
      refine v_iinc (pc := 60) (lv' := [some (.ref (gad g b0)), some (.int x35)]) (1 : Int32) rfl hx35 hC dX1_settle_60 rfl rfl rfl rfl ?_
      refine v_goto (pc := 63) (tgt := 17) hC dX1_settle_63 rfl ?_
      obtain rfl := Option.some.inj hu26
      exact V.ls (ls_some (ls_some ls_nil)) (k28 _ rfl)
    refine v_if_le (pc := 29) (tgt := 60) hC dX1_settle_29 rfl (fun c36 => ?_) (fun c36 => ?_)
    · replace hw33 := (if_pos c36).symm.trans hw33
      obtain rfl := Option.some.inj hw33
      exact V.ls (ls_some (ls_some ls_nil)) kj34
    · replace hw33 := (if_neg c36).symm.trans hw33
      refine v_aload_n (pc := 32) hC dX1_settle_32 rfl ?_
      refine v_dup (pc := 33) hC rfl dX1_settle_33 ?_
      refine v_gt (pc := 34) 4 (.int (gI s25 b0 4)) hC hb0.1 rfl rfl rfl rfl fl_X1_25 dX1_settle_34 ?_
      refine v_iconst (pc := 37) (1 : Int32) rfl hC dX1_settle_37 ?_
      refine v_iadd (pc := 38) hC dX1_settle_38 ?_
      obtain ⟨s37, hs37, hw33⟩ := bnd_s hw33
      refine v_pI (pc := 39) 4 hC hb0.1 rfl rfl rfl rfl rfl rfl fl_X1_25 hs37 dX1_settle_39 ?_
      refine v_aload_n (pc := 42) hC dX1_settle_42 rfl ?_
      refine v_aload_n (pc := 43) hC dX1_settle_43 rfl ?_
      refine v_gt (pc := 44) 5 (.long (gL s37 b0 5)) hC hb0.1 rfl rfl rfl rfl fl_X1_29 dX1_settle_44 ?_
      refine v_aload_n (pc := 47) hC dX1_settle_47 rfl ?_
      refine v_gt (pc := 48) 0 (.ref (gad g (b0 + 1))) hC hb0.1 rfl rfl rfl rfl fl_X1_9 dX1_settle_48 ?_
      refine v_iload_n (pc := 51) hC dX1_settle_51 rfl ?_
      obtain ⟨v38, hv38, hw33⟩ := obd_s hw33
      refine v_aI (pc := 52) hC hb0.2.1 hv38 dX1_settle_52 ?_
      refine v_i2l (pc := 53) hC dX1_settle_53 ?_
      obtain ⟨w39, hw39, hw33⟩ := obd_s hw33
      refine v_cS (pc := 54) [.ref (gad g b0)] [.long w39.1, .ref (gad g b0)] gm_X0_commonMultiple hC (ct_X0_commonMultiple  hw39) ml_X1_36 rfl rfl rfl rfl rfl rfl dX1_settle_54 ?_
      obtain ⟨s40, hs40, hw33⟩ := bnd_s hw33
      refine v_pL (pc := 57) 5 hC hb0.1 rfl rfl rfl rfl rfl rfl fl_X1_29 hs40 dX1_settle_57 ?_
      obtain rfl := Option.some.inj hw33
      exact V.ls (ls_some (ls_some ls_nil)) kj34
theorem dX1_aboveMean_0 : decode cX1_aboveMean 0 = .ok (.aload_n 0, 1) := by decide +kernel
theorem dX1_aboveMean_1 : decode cX1_aboveMean 1 = .ok (.getfield 25, 3) := by decide +kernel
theorem dX1_aboveMean_4 : decode cX1_aboveMean 4 = .ok (.i2l, 1) := by decide +kernel
theorem dX1_aboveMean_5 : decode cX1_aboveMean 5 = .ok (.aload_n 0, 1) := by decide +kernel
theorem dX1_aboveMean_6 : decode cX1_aboveMean 6 = .ok (.getfield 19, 3) := by decide +kernel
theorem dX1_aboveMean_9 : decode cX1_aboveMean 9 = .ok (.iload_n 1, 1) := by decide +kernel
theorem dX1_aboveMean_10 : decode cX1_aboveMean 10 = .ok (.laload, 1) := by decide +kernel
theorem dX1_aboveMean_11 : decode cX1_aboveMean 11 = .ok (.lmul, 1) := by decide +kernel
theorem dX1_aboveMean_12 : decode cX1_aboveMean 12 = .ok (.aload_n 0, 1) := by decide +kernel
theorem dX1_aboveMean_13 : decode cX1_aboveMean 13 = .ok (.getfield 33, 3) := by decide +kernel
theorem dX1_aboveMean_16 : decode cX1_aboveMean 16 = .ok (.lsub, 1) := by decide +kernel
theorem dX1_aboveMean_17 : decode cX1_aboveMean 17 = .ok (.lreturn, 1) := by decide +kernel
def fX1_aboveMean (b0 : Nat) (x0_ : Int32) (s : Sg) : Option (Int64 × Sg) :=
  (aL s (b0 + 3) 8 x0_).bind fun v1 =>
  some ((((((gI s b0 4)).toInt64) * v1) - (gL s b0 6)), s)
theorem ct_X1_aboveMean {g : Gl} {b0 : Nat} {x0_ : Int32} {s : Sg} {w : Int64 × Sg} (hb0 : isLv b0) (h : fX1_aboveMean b0 x0_ s = some w) : Ct SS g iX1_aboveMean 0 0 [.ref (gad g b0), .int x0_] s (Dt (some (.long w.1)) w.2) := by
  refine Ct.ofV (by decide +kernel) 0 (lv0 := [some (.ref (gad g b0)), some (.int x0_)]) rfl rfl (fun M hC => ?_)
  have hP : (Dt (some (.long w.1)) w.2) (some (.long w.1)) w.2 := ⟨rfl, rfl⟩
  generalize Dt (some (.long w.1)) w.2 = P at hP ⊢
  unfold fX1_aboveMean at h
  refine v_aload_n (pc := 0) hC dX1_aboveMean_0 rfl ?_
  refine v_gt (pc := 1) 4 (.int (gI s b0 4)) hC hb0.1 rfl rfl rfl rfl fl_X1_25 dX1_aboveMean_1 ?_
  refine v_i2l (pc := 4) hC dX1_aboveMean_4 ?_
  refine v_aload_n (pc := 5) hC dX1_aboveMean_5 rfl ?_
  refine v_gt (pc := 6) 2 (.ref (gad g (b0 + 3))) hC hb0.1 rfl rfl rfl rfl fl_X1_19 dX1_aboveMean_6 ?_
  refine v_iload_n (pc := 9) hC dX1_aboveMean_9 rfl ?_
  obtain ⟨v1, hv1, h⟩ := obd_s h
  refine v_aL (pc := 10) hC hb0.2.2.2.1 hv1 dX1_aboveMean_10 ?_
  refine v_lmul (pc := 11) hC dX1_aboveMean_11 ?_
  refine v_aload_n (pc := 12) hC dX1_aboveMean_12 rfl ?_
  refine v_gt (pc := 13) 6 (.long (gL s b0 6)) hC hb0.1 rfl rfl rfl rfl fl_X1_33 dX1_aboveMean_13 ?_
  refine v_lsub (pc := 16) hC dX1_aboveMean_16 ?_
  obtain rfl := Option.some.inj h
  exact v_lret (pc := 17) hC rfl dX1_aboveMean_17 hP
theorem dX1_join_0 : decode cX1_join 0 = .ok (.aload_n 0, 1) := by decide +kernel
theorem dX1_join_1 : decode cX1_join 1 = .ok (.getfield 22, 3) := by decide +kernel
theorem dX1_join_4 : decode cX1_join 4 = .ok (.iload_n 1, 1) := by decide +kernel
theorem dX1_join_5 : decode cX1_join 5 = .ok (.iaload, 1) := by decide +kernel
theorem dX1_join_6 : decode cX1_join 6 = .ok (.istore_n 3, 1) := by decide +kernel
theorem dX1_join_7 : decode cX1_join 7 = .ok (.aload_n 0, 1) := by decide +kernel
theorem dX1_join_8 : decode cX1_join 8 = .ok (.getfield 22, 3) := by decide +kernel
theorem dX1_join_11 : decode cX1_join 11 = .ok (.iload_n 2, 1) := by decide +kernel
theorem dX1_join_12 : decode cX1_join 12 = .ok (.iaload, 1) := by decide +kernel
theorem dX1_join_13 : decode cX1_join 13 = .ok (.istore 4, 2) := by decide +kernel
theorem dX1_join_15 : decode cX1_join 15 = .ok (.aload_n 0, 1) := by decide +kernel
theorem dX1_join_16 : decode cX1_join 16 = .ok (.getfield 9, 3) := by decide +kernel
theorem dX1_join_19 : decode cX1_join 19 = .ok (.iload_n 1, 1) := by decide +kernel
theorem dX1_join_20 : decode cX1_join 20 = .ok (.iaload, 1) := by decide +kernel
theorem dX1_join_21 : decode cX1_join 21 = .ok (.aload_n 0, 1) := by decide +kernel
theorem dX1_join_22 : decode cX1_join 22 = .ok (.getfield 9, 3) := by decide +kernel
theorem dX1_join_25 : decode cX1_join 25 = .ok (.iload_n 2, 1) := by decide +kernel
theorem dX1_join_26 : decode cX1_join 26 = .ok (.iaload, 1) := by decide +kernel
theorem dX1_join_27 : decode cX1_join 27 = .ok (.iadd, 1) := by decide +kernel
theorem dX1_join_28 : decode cX1_join 28 = .ok (.istore 5, 2) := by decide +kernel
theorem dX1_join_30 : decode cX1_join 30 = .ok (.aload_n 0, 1) := by decide +kernel
theorem dX1_join_31 : decode cX1_join 31 = .ok (.getfield 15, 3) := by decide +kernel
theorem dX1_join_34 : decode cX1_join 34 = .ok (.iload_n 1, 1) := by decide +kernel
theorem dX1_join_35 : decode cX1_join 35 = .ok (.laload, 1) := by decide +kernel
theorem dX1_join_36 : decode cX1_join 36 = .ok (.aload_n 0, 1) := by decide +kernel
theorem dX1_join_37 : decode cX1_join 37 = .ok (.getfield 15, 3) := by decide +kernel
theorem dX1_join_40 : decode cX1_join 40 = .ok (.iload_n 2, 1) := by decide +kernel
theorem dX1_join_41 : decode cX1_join 41 = .ok (.laload, 1) := by decide +kernel
theorem dX1_join_42 : decode cX1_join 42 = .ok (.ladd, 1) := by decide +kernel
theorem dX1_join_43 : decode cX1_join 43 = .ok (.lstore 6, 2) := by decide +kernel
theorem dX1_join_45 : decode cX1_join 45 = .ok (.iconst 0, 1) := by decide +kernel
theorem dX1_join_46 : decode cX1_join 46 = .ok (.istore 8, 2) := by decide +kernel
theorem dX1_join_48 : decode cX1_join 48 = .ok (.iload 8, 2) := by decide +kernel
theorem dX1_join_50 : decode cX1_join 50 = .ok (.bipush 8, 2) := by decide +kernel
theorem dX1_join_52 : decode cX1_join 52 = .ok (.if_icmp .ge 68, 3) := by decide +kernel
theorem dX1_join_55 : decode cX1_join 55 = .ok (.aload_n 0, 1) := by decide +kernel
theorem dX1_join_56 : decode cX1_join 56 = .ok (.getfield 9, 3) := by decide +kernel
theorem dX1_join_59 : decode cX1_join 59 = .ok (.iload 8, 2) := by decide +kernel
theorem dX1_join_61 : decode cX1_join 61 = .ok (.iaload, 1) := by decide +kernel
theorem dX1_join_62 : decode cX1_join 62 = .ok (.ifCond .le 52, 3) := by decide +kernel
theorem dX1_join_65 : decode cX1_join 65 = .ok (.aload_n 0, 1) := by decide +kernel
theorem dX1_join_66 : decode cX1_join 66 = .ok (.getfield 22, 3) := by decide +kernel
theorem dX1_join_69 : decode cX1_join 69 = .ok (.iload 8, 2) := by decide +kernel
theorem dX1_join_71 : decode cX1_join 71 = .ok (.iaload, 1) := by decide +kernel
theorem dX1_join_72 : decode cX1_join 72 = .ok (.iload_n 3, 1) := by decide +kernel
theorem dX1_join_73 : decode cX1_join 73 = .ok (.if_icmp .eq 15, 3) := by decide +kernel
theorem dX1_join_76 : decode cX1_join 76 = .ok (.aload_n 0, 1) := by decide +kernel
theorem dX1_join_77 : decode cX1_join 77 = .ok (.getfield 22, 3) := by decide +kernel
theorem dX1_join_80 : decode cX1_join 80 = .ok (.iload 8, 2) := by decide +kernel
theorem dX1_join_82 : decode cX1_join 82 = .ok (.iaload, 1) := by decide +kernel
theorem dX1_join_83 : decode cX1_join 83 = .ok (.iload 4, 2) := by decide +kernel
theorem dX1_join_85 : decode cX1_join 85 = .ok (.if_icmp .ne 29, 3) := by decide +kernel
theorem dX1_join_88 : decode cX1_join 88 = .ok (.aload_n 0, 1) := by decide +kernel
theorem dX1_join_89 : decode cX1_join 89 = .ok (.getfield 22, 3) := by decide +kernel
theorem dX1_join_92 : decode cX1_join 92 = .ok (.iload 8, 2) := by decide +kernel
theorem dX1_join_94 : decode cX1_join 94 = .ok (.iload_n 3, 1) := by decide +kernel
theorem dX1_join_95 : decode cX1_join 95 = .ok (.iastore, 1) := by decide +kernel
theorem dX1_join_96 : decode cX1_join 96 = .ok (.aload_n 0, 1) := by decide +kernel
theorem dX1_join_97 : decode cX1_join 97 = .ok (.getfield 9, 3) := by decide +kernel
theorem dX1_join_100 : decode cX1_join 100 = .ok (.iload 8, 2) := by decide +kernel
theorem dX1_join_102 : decode cX1_join 102 = .ok (.iload 5, 2) := by decide +kernel
theorem dX1_join_104 : decode cX1_join 104 = .ok (.iastore, 1) := by decide +kernel
theorem dX1_join_105 : decode cX1_join 105 = .ok (.aload_n 0, 1) := by decide +kernel
theorem dX1_join_106 : decode cX1_join 106 = .ok (.getfield 15, 3) := by decide +kernel
theorem dX1_join_109 : decode cX1_join 109 = .ok (.iload 8, 2) := by decide +kernel
theorem dX1_join_111 : decode cX1_join 111 = .ok (.lload 6, 2) := by decide +kernel
theorem dX1_join_113 : decode cX1_join 113 = .ok (.lastore, 1) := by decide +kernel
theorem dX1_join_114 : decode cX1_join 114 = .ok (.iinc 8 1, 3) := by decide +kernel
theorem dX1_join_117 : decode cX1_join 117 = .ok (.goto (-69), 3) := by decide +kernel
theorem dX1_join_120 : decode cX1_join 120 = .ok (.return_, 1) := by decide +kernel
def fX1_join_L48 (b0 : Nat) (p3 : Int32) (p4 : Int32) (p5 : Int32) (p6 : Int64) (a : Int32) (s : Sg) : Option (((Int32) ⊕ (Unit)) × Sg) :=
  if (8 : Int32) ≤ a then
  some (.inr (), s)
  else
  (aI s (b0 + 1) 8 a).bind fun v2 =>
  ((if v2 ≤ 0 then
  some s
  else
  (aI s (b0 + 4) 8 a).bind fun v7 =>
  if v7 = p3 then
  (wI s (b0 + 4) 8 a p3).bind fun s8 =>
  (wI s8 (b0 + 1) 8 a p5).bind fun s9 =>
  (wL s9 (b0 + 2) 8 a p6).bind fun s10 =>
  some s10
  else
  (aI s (b0 + 4) 8 a).bind fun v12 =>
  if v12 = p4 then
  (wI s (b0 + 4) 8 a p3).bind fun s14 =>
  (wI s14 (b0 + 1) 8 a p5).bind fun s15 =>
  (wL s15 (b0 + 2) 8 a p6).bind fun s16 =>
  some s16
  else
  some s) : Option (Sg)).bind fun w3 =>
  bnd (a + (1 : Int32)) fun x5 =>
  some (.inl x5, w3)
def fX1_join (b0 : Nat) (x0_ : Int32) (x1_ : Int32) (s : Sg) : Option (Sg) :=
  (aI s (b0 + 4) 8 x0_).bind fun v1 =>
  (aI s (b0 + 4) 8 x1_).bind fun v2 =>
  (aI s (b0 + 1) 8 x0_).bind fun v3 =>
  (aI s (b0 + 1) 8 x1_).bind fun v4 =>
  bnd (v3 + v4) fun x5 =>
  (aL s (b0 + 2) 8 x0_).bind fun v6 =>
  (aL s (b0 + 2) 8 x1_).bind fun v7 =>
  bnd (v6 + v7) fun x8 =>
  (lpG (fX1_join_L48 b0 v1 v2 x5 x8) FU (0 : Int32) s).bind fun w9 =>
  some w9.2
theorem ct_X1_join {g : Gl} {b0 : Nat} {x0_ : Int32} {x1_ : Int32} {s : Sg} {w : Sg} (hb0 : isLv b0) (h : fX1_join b0 x0_ x1_ s = some w) : Ct SS g iX1_join 0 0 [.ref (gad g b0), .int x0_, .int x1_] s (Dt none w) := by
  refine Ct.ofV (by decide +kernel) 6 (lv0 := [some (.ref (gad g b0)), some (.int x0_), some (.int x1_), none, none, none, none, none, none]) rfl rfl (fun M hC => ?_)
  have hP : (Dt none w) none w := ⟨rfl, rfl⟩
  generalize Dt none w = P at hP ⊢
  unfold fX1_join at h
  refine v_aload_n (pc := 0) hC dX1_join_0 rfl ?_
  refine v_gt (pc := 1) 3 (.ref (gad g (b0 + 4))) hC hb0.1 rfl rfl rfl rfl fl_X1_22 dX1_join_1 ?_
  refine v_iload_n (pc := 4) hC dX1_join_4 rfl ?_
  obtain ⟨v1, hv1, h⟩ := obd_s h
  refine v_aI (pc := 5) hC hb0.2.2.2.2 hv1 dX1_join_5 ?_
  refine v_istore_n (pc := 6) (lv' := [some (.ref (gad g b0)), some (.int x0_), some (.int x1_), some (.int v1), none, none, none, none, none]) hC dX1_join_6 rfl rfl rfl rfl ?_
  refine v_aload_n (pc := 7) hC dX1_join_7 rfl ?_
  refine v_gt (pc := 8) 3 (.ref (gad g (b0 + 4))) hC hb0.1 rfl rfl rfl rfl fl_X1_22 dX1_join_8 ?_
  refine v_iload_n (pc := 11) hC dX1_join_11 rfl ?_
  obtain ⟨v2, hv2, h⟩ := obd_s h
  refine v_aI (pc := 12) hC hb0.2.2.2.2 hv2 dX1_join_12 ?_
  refine v_istore (pc := 13) (lv' := [some (.ref (gad g b0)), some (.int x0_), some (.int x1_), some (.int v1), some (.int v2), none, none, none, none]) hC dX1_join_13 rfl rfl rfl rfl ?_
  refine v_aload_n (pc := 15) hC dX1_join_15 rfl ?_
  refine v_gt (pc := 16) 0 (.ref (gad g (b0 + 1))) hC hb0.1 rfl rfl rfl rfl fl_X1_9 dX1_join_16 ?_
  refine v_iload_n (pc := 19) hC dX1_join_19 rfl ?_
  obtain ⟨v3, hv3, h⟩ := obd_s h
  refine v_aI (pc := 20) hC hb0.2.1 hv3 dX1_join_20 ?_
  refine v_aload_n (pc := 21) hC dX1_join_21 rfl ?_
  refine v_gt (pc := 22) 0 (.ref (gad g (b0 + 1))) hC hb0.1 rfl rfl rfl rfl fl_X1_9 dX1_join_22 ?_
  refine v_iload_n (pc := 25) hC dX1_join_25 rfl ?_
  obtain ⟨v4, hv4, h⟩ := obd_s h
  refine v_aI (pc := 26) hC hb0.2.1 hv4 dX1_join_26 ?_
  refine v_iadd (pc := 27) hC dX1_join_27 ?_
  obtain ⟨x5, hx5, h⟩ := bnd_s h
  refine v_istore (pc := 28) (lv' := [some (.ref (gad g b0)), some (.int x0_), some (.int x1_), some (.int v1), some (.int v2), some (.int x5), none, none, none]) hC dX1_join_28 hx5 rfl rfl rfl ?_
  refine v_aload_n (pc := 30) hC dX1_join_30 rfl ?_
  refine v_gt (pc := 31) 1 (.ref (gad g (b0 + 2))) hC hb0.1 rfl rfl rfl rfl fl_X1_15 dX1_join_31 ?_
  refine v_iload_n (pc := 34) hC dX1_join_34 rfl ?_
  obtain ⟨v6, hv6, h⟩ := obd_s h
  refine v_aL (pc := 35) hC hb0.2.2.1 hv6 dX1_join_35 ?_
  refine v_aload_n (pc := 36) hC dX1_join_36 rfl ?_
  refine v_gt (pc := 37) 1 (.ref (gad g (b0 + 2))) hC hb0.1 rfl rfl rfl rfl fl_X1_15 dX1_join_37 ?_
  refine v_iload_n (pc := 40) hC dX1_join_40 rfl ?_
  obtain ⟨v7, hv7, h⟩ := obd_s h
  refine v_aL (pc := 41) hC hb0.2.2.1 hv7 dX1_join_41 ?_
  refine v_ladd (pc := 42) hC dX1_join_42 ?_
  obtain ⟨x8, hx8, h⟩ := bnd_s h
  refine v_lstore (pc := 43) (lv' := [some (.ref (gad g b0)), some (.int x0_), some (.int x1_), some (.int v1), some (.int v2), some (.int x5), some (.long x8), none, none]) hC dX1_join_43 hx8 rfl rfl rfl ?_
  refine v_iconst (pc := 45) (0 : Int32) rfl hC dX1_join_45 ?_
  refine v_istore (pc := 46) (lv' := [some (.ref (gad g b0)), some (.int x0_), some (.int x1_), some (.int v1), some (.int v2), some (.int x5), some (.long x8), none, some (.int (0 : Int32))]) hC dX1_join_46 rfl rfl rfl rfl ?_
  obtain ⟨w9, hw9, h⟩ := obd_s h
  have kx32 : V SS g M iX1_join (PQ SS g M P) 120 [none, none, none, none, none, none, none, none, none] [] w9.2 := by
    obtain rfl := Option.some.inj h
    exact v_vret (pc := 120) hC rfl dX1_join_120 hP
  refine V.ls (ls_some (ls_none (ls_none (ls_some (ls_some (ls_some (ls_some (ls_none (ls_some ls_nil))))))))) (v_loop (pc := 48) (fun a12 => [some (.ref (gad g b0)), none, none, some (.int v1), some (.int v2), some (.int x5), some (.long x8), none, some (.int a12)]) (fun z t => V SS g M iX1_join (PQ SS g M P) 120 [none, none, none, none, none, none, none, none, none] [] t) (fun a12 s10 u11 hu11 k13 k14 => ?_) _ _ _ _ hw9 kx32)
  unfold fX1_join_L48 at hu11
  refine v_iload (pc := 48) hC dX1_join_48 rfl ?_
  refine v_bipush (pc := 50) (8 : Int32) rfl hC dX1_join_50 ?_
  refine v_ic_ge (pc := 52) (tgt := 120) hC dX1_join_52 rfl (fun c16 => ?_) (fun c16 => ?_)
  · replace hu11 := (if_pos c16).symm.trans hu11
    obtain rfl := Option.some.inj hu11
    exact V.ls (ls_none (ls_none (ls_none (ls_none (ls_none (ls_none (ls_none (ls_none (ls_none ls_nil))))))))) (k14 _ rfl)
  · replace hu11 := (if_neg c16).symm.trans hu11
    refine v_aload_n (pc := 55) hC dX1_join_55 rfl ?_
    refine v_gt (pc := 56) 0 (.ref (gad g (b0 + 1))) hC hb0.1 rfl rfl rfl rfl fl_X1_9 dX1_join_56 ?_
    refine v_iload (pc := 59) hC dX1_join_59 rfl ?_
    obtain ⟨v17, hv17, hu11⟩ := obd_s hu11
    refine v_aI (pc := 61) hC hb0.2.1 hv17 dX1_join_61 ?_
    obtain ⟨w18, hw18, hu11⟩ := obd_s hu11
    have kj19 : V SS g M iX1_join (PQ SS g M P) 114 [some (.ref (gad g b0)), none, none, some (.int v1), some (.int v2), some (.int x5), some (.long x8), none, some (.int a12)] [] w18 := by
      obtain ⟨x20, hx20, hu11⟩ := bnd_s hu11
      refine v_iinc (pc := 114) (lv' := [some (.ref (gad g b0)), none, none, some (.int v1), some (.int v2), some (.int x5), some (.long x8), none, some (.int x20)]) (1 : Int32) rfl hx20 hC dX1_join_114 rfl rfl rfl rfl ?_
      refine v_goto (pc := 117) (tgt := 48) hC dX1_join_117 rfl ?_
      obtain rfl := Option.some.inj hu11
      exact V.ls (ls_some (ls_none (ls_none (ls_some (ls_some (ls_some (ls_some (ls_none (ls_some ls_nil))))))))) (k13 _ rfl)
    refine v_if_le (pc := 62) (tgt := 114) hC dX1_join_62 rfl (fun c21 => ?_) (fun c21 => ?_)
    · replace hw18 := (if_pos c21).symm.trans hw18
      obtain rfl := Option.some.inj hw18
      exact V.ls (ls_some (ls_none (ls_none (ls_some (ls_some (ls_some (ls_some (ls_none (ls_some ls_nil))))))))) kj19
    · replace hw18 := (if_neg c21).symm.trans hw18
      refine v_aload_n (pc := 65) hC dX1_join_65 rfl ?_
      refine v_gt (pc := 66) 3 (.ref (gad g (b0 + 4))) hC hb0.1 rfl rfl rfl rfl fl_X1_22 dX1_join_66 ?_
      refine v_iload (pc := 69) hC dX1_join_69 rfl ?_
      obtain ⟨v22, hv22, hw18⟩ := obd_s hw18
      refine v_aI (pc := 71) hC hb0.2.2.2.2 hv22 dX1_join_71 ?_
      refine v_iload_n (pc := 72) hC dX1_join_72 rfl ?_
      refine v_ic_eq (pc := 73) (tgt := 88) hC dX1_join_73 rfl (fun c26 => ?_) (fun c26 => ?_)
      · replace hw18 := (if_pos c26).symm.trans hw18
        refine v_aload_n (pc := 88) hC dX1_join_88 rfl ?_
        refine v_gt (pc := 89) 3 (.ref (gad g (b0 + 4))) hC hb0.1 rfl rfl rfl rfl fl_X1_22 dX1_join_89 ?_
        refine v_iload (pc := 92) hC dX1_join_92 rfl ?_
        refine v_iload_n (pc := 94) hC dX1_join_94 rfl ?_
        obtain ⟨s23, hs23, hw18⟩ := obd_s hw18
        refine v_wI (pc := 95) hC hb0.2.2.2.2 hs23 dX1_join_95 ?_
        refine v_aload_n (pc := 96) hC dX1_join_96 rfl ?_
        refine v_gt (pc := 97) 0 (.ref (gad g (b0 + 1))) hC hb0.1 rfl rfl rfl rfl fl_X1_9 dX1_join_97 ?_
        refine v_iload (pc := 100) hC dX1_join_100 rfl ?_
        refine v_iload (pc := 102) hC dX1_join_102 rfl ?_
        obtain ⟨s24, hs24, hw18⟩ := obd_s hw18
        refine v_wI (pc := 104) hC hb0.2.1 hs24 dX1_join_104 ?_
        refine v_aload_n (pc := 105) hC dX1_join_105 rfl ?_
        refine v_gt (pc := 106) 1 (.ref (gad g (b0 + 2))) hC hb0.1 rfl rfl rfl rfl fl_X1_15 dX1_join_106 ?_
        refine v_iload (pc := 109) hC dX1_join_109 rfl ?_
        refine v_lload (pc := 111) hC dX1_join_111 rfl ?_
        obtain ⟨s25, hs25, hw18⟩ := obd_s hw18
        refine v_wL (pc := 113) hC hb0.2.2.1 hs25 dX1_join_113 ?_
        obtain rfl := Option.some.inj hw18
        exact V.ls (ls_some (ls_none (ls_none (ls_some (ls_some (ls_some (ls_some (ls_none (ls_some ls_nil))))))))) kj19
      · replace hw18 := (if_neg c26).symm.trans hw18
        refine v_aload_n (pc := 76) hC dX1_join_76 rfl ?_
        refine v_gt (pc := 77) 3 (.ref (gad g (b0 + 4))) hC hb0.1 rfl rfl rfl rfl fl_X1_22 dX1_join_77 ?_
        refine v_iload (pc := 80) hC dX1_join_80 rfl ?_
        obtain ⟨v27, hv27, hw18⟩ := obd_s hw18
        refine v_aI (pc := 82) hC hb0.2.2.2.2 hv27 dX1_join_82 ?_
        refine v_iload (pc := 83) hC dX1_join_83 rfl ?_
        refine v_ic_ne (pc := 85) (tgt := 114) hC dX1_join_85 rfl (fun c28 => ?_) (fun c28 => ?_)
        · replace hw18 := (if_neg c28).symm.trans hw18
          obtain rfl := Option.some.inj hw18
          exact V.ls (ls_some (ls_none (ls_none (ls_some (ls_some (ls_some (ls_some (ls_none (ls_some ls_nil))))))))) kj19
        · replace hw18 := (if_pos c28).symm.trans hw18
          refine v_aload_n (pc := 88) hC dX1_join_88 rfl ?_
          refine v_gt (pc := 89) 3 (.ref (gad g (b0 + 4))) hC hb0.1 rfl rfl rfl rfl fl_X1_22 dX1_join_89 ?_
          refine v_iload (pc := 92) hC dX1_join_92 rfl ?_
          refine v_iload_n (pc := 94) hC dX1_join_94 rfl ?_
          obtain ⟨s29, hs29, hw18⟩ := obd_s hw18
          refine v_wI (pc := 95) hC hb0.2.2.2.2 hs29 dX1_join_95 ?_
          refine v_aload_n (pc := 96) hC dX1_join_96 rfl ?_
          refine v_gt (pc := 97) 0 (.ref (gad g (b0 + 1))) hC hb0.1 rfl rfl rfl rfl fl_X1_9 dX1_join_97 ?_
          refine v_iload (pc := 100) hC dX1_join_100 rfl ?_
          refine v_iload (pc := 102) hC dX1_join_102 rfl ?_
          obtain ⟨s30, hs30, hw18⟩ := obd_s hw18
          refine v_wI (pc := 104) hC hb0.2.1 hs30 dX1_join_104 ?_
          refine v_aload_n (pc := 105) hC dX1_join_105 rfl ?_
          refine v_gt (pc := 106) 1 (.ref (gad g (b0 + 2))) hC hb0.1 rfl rfl rfl rfl fl_X1_15 dX1_join_106 ?_
          refine v_iload (pc := 109) hC dX1_join_109 rfl ?_
          refine v_lload (pc := 111) hC dX1_join_111 rfl ?_
          obtain ⟨s31, hs31, hw18⟩ := obd_s hw18
          refine v_wL (pc := 113) hC hb0.2.2.1 hs31 dX1_join_113 ?_
          obtain rfl := Option.some.inj hw18
          exact V.ls (ls_some (ls_none (ls_none (ls_some (ls_some (ls_some (ls_some (ls_none (ls_some ls_nil))))))))) kj19
theorem dX1_joinFirstFall_0 : decode cX1_joinFirstFall 0 = .ok (.iconst (-1), 1) := by decide +kernel
theorem dX1_joinFirstFall_1 : decode cX1_joinFirstFall 1 = .ok (.istore_n 1, 1) := by decide +kernel
theorem dX1_joinFirstFall_2 : decode cX1_joinFirstFall 2 = .ok (.iconst 0, 1) := by decide +kernel
theorem dX1_joinFirstFall_3 : decode cX1_joinFirstFall 3 = .ok (.istore_n 2, 1) := by decide +kernel
theorem dX1_joinFirstFall_4 : decode cX1_joinFirstFall 4 = .ok (.iload_n 2, 1) := by decide +kernel
theorem dX1_joinFirstFall_5 : decode cX1_joinFirstFall 5 = .ok (.bipush 8, 2) := by decide +kernel
theorem dX1_joinFirstFall_7 : decode cX1_joinFirstFall 7 = .ok (.if_icmp .ge 68, 3) := by decide +kernel
theorem dX1_joinFirstFall_10 : decode cX1_joinFirstFall 10 = .ok (.aload_n 0, 1) := by decide +kernel
theorem dX1_joinFirstFall_11 : decode cX1_joinFirstFall 11 = .ok (.getfield 9, 3) := by decide +kernel
theorem dX1_joinFirstFall_14 : decode cX1_joinFirstFall 14 = .ok (.iload_n 2, 1) := by decide +kernel
theorem dX1_joinFirstFall_15 : decode cX1_joinFirstFall 15 = .ok (.iaload, 1) := by decide +kernel
theorem dX1_joinFirstFall_16 : decode cX1_joinFirstFall 16 = .ok (.ifCond .ne 6, 3) := by decide +kernel
theorem dX1_joinFirstFall_19 : decode cX1_joinFirstFall 19 = .ok (.goto 50, 3) := by decide +kernel
theorem dX1_joinFirstFall_22 : decode cX1_joinFirstFall 22 = .ok (.iload_n 1, 1) := by decide +kernel
theorem dX1_joinFirstFall_23 : decode cX1_joinFirstFall 23 = .ok (.iconst (-1), 1) := by decide +kernel
theorem dX1_joinFirstFall_24 : decode cX1_joinFirstFall 24 = .ok (.if_icmp .eq 43, 3) := by decide +kernel
theorem dX1_joinFirstFall_27 : decode cX1_joinFirstFall 27 = .ok (.aload_n 0, 1) := by decide +kernel
theorem dX1_joinFirstFall_28 : decode cX1_joinFirstFall 28 = .ok (.getfield 15, 3) := by decide +kernel
theorem dX1_joinFirstFall_31 : decode cX1_joinFirstFall 31 = .ok (.iload_n 2, 1) := by decide +kernel
theorem dX1_joinFirstFall_32 : decode cX1_joinFirstFall 32 = .ok (.laload, 1) := by decide +kernel
theorem dX1_joinFirstFall_33 : decode cX1_joinFirstFall 33 = .ok (.aload_n 0, 1) := by decide +kernel
theorem dX1_joinFirstFall_34 : decode cX1_joinFirstFall 34 = .ok (.getfield 9, 3) := by decide +kernel
theorem dX1_joinFirstFall_37 : decode cX1_joinFirstFall 37 = .ok (.iload_n 1, 1) := by decide +kernel
theorem dX1_joinFirstFall_38 : decode cX1_joinFirstFall 38 = .ok (.iaload, 1) := by decide +kernel
theorem dX1_joinFirstFall_39 : decode cX1_joinFirstFall 39 = .ok (.i2l, 1) := by decide +kernel
theorem dX1_joinFirstFall_40 : decode cX1_joinFirstFall 40 = .ok (.lmul, 1) := by decide +kernel
theorem dX1_joinFirstFall_41 : decode cX1_joinFirstFall 41 = .ok (.aload_n 0, 1) := by decide +kernel
theorem dX1_joinFirstFall_42 : decode cX1_joinFirstFall 42 = .ok (.getfield 15, 3) := by decide +kernel
theorem dX1_joinFirstFall_45 : decode cX1_joinFirstFall 45 = .ok (.iload_n 1, 1) := by decide +kernel
theorem dX1_joinFirstFall_46 : decode cX1_joinFirstFall 46 = .ok (.laload, 1) := by decide +kernel
theorem dX1_joinFirstFall_47 : decode cX1_joinFirstFall 47 = .ok (.aload_n 0, 1) := by decide +kernel
theorem dX1_joinFirstFall_48 : decode cX1_joinFirstFall 48 = .ok (.getfield 9, 3) := by decide +kernel
theorem dX1_joinFirstFall_51 : decode cX1_joinFirstFall 51 = .ok (.iload_n 2, 1) := by decide +kernel
theorem dX1_joinFirstFall_52 : decode cX1_joinFirstFall 52 = .ok (.iaload, 1) := by decide +kernel
theorem dX1_joinFirstFall_53 : decode cX1_joinFirstFall 53 = .ok (.i2l, 1) := by decide +kernel
theorem dX1_joinFirstFall_54 : decode cX1_joinFirstFall 54 = .ok (.lmul, 1) := by decide +kernel
theorem dX1_joinFirstFall_55 : decode cX1_joinFirstFall 55 = .ok (.lcmp, 1) := by decide +kernel
theorem dX1_joinFirstFall_56 : decode cX1_joinFirstFall 56 = .ok (.ifCond .ge 11, 3) := by decide +kernel
theorem dX1_joinFirstFall_59 : decode cX1_joinFirstFall 59 = .ok (.aload_n 0, 1) := by decide +kernel
theorem dX1_joinFirstFall_60 : decode cX1_joinFirstFall 60 = .ok (.iload_n 1, 1) := by decide +kernel
theorem dX1_joinFirstFall_61 : decode cX1_joinFirstFall 61 = .ok (.iload_n 2, 1) := by decide +kernel
theorem dX1_joinFirstFall_62 : decode cX1_joinFirstFall 62 = .ok (.invokevirtual 49, 3) := by decide +kernel
theorem dX1_joinFirstFall_65 : decode cX1_joinFirstFall 65 = .ok (.iconst 1, 1) := by decide +kernel
theorem dX1_joinFirstFall_66 : decode cX1_joinFirstFall 66 = .ok (.ireturn, 1) := by decide +kernel
theorem dX1_joinFirstFall_67 : decode cX1_joinFirstFall 67 = .ok (.iload_n 2, 1) := by decide +kernel
theorem dX1_joinFirstFall_68 : decode cX1_joinFirstFall 68 = .ok (.istore_n 1, 1) := by decide +kernel
theorem dX1_joinFirstFall_69 : decode cX1_joinFirstFall 69 = .ok (.iinc 2 1, 3) := by decide +kernel
theorem dX1_joinFirstFall_72 : decode cX1_joinFirstFall 72 = .ok (.goto (-68), 3) := by decide +kernel
theorem dX1_joinFirstFall_75 : decode cX1_joinFirstFall 75 = .ok (.iconst 0, 1) := by decide +kernel
theorem dX1_joinFirstFall_76 : decode cX1_joinFirstFall 76 = .ok (.ireturn, 1) := by decide +kernel
def fX1_joinFirstFall_L4 (b0 : Nat) (a : Int32 × Int32) (s : Sg) : Option (((Int32 × Int32) ⊕ (Int32 ⊕ (Unit))) × Sg) :=
  if (8 : Int32) ≤ a.2 then
  some (.inr (.inr ()), s)
  else
  (aI s (b0 + 1) 8 a.2).bind fun v2 =>
  if v2 = 0 then
  bnd (a.2 + (1 : Int32)) fun x13 =>
  some (.inl (a.1, x13), s)
  else
  if a.1 = (-1 : Int32) then
  bnd (a.2 + (1 : Int32)) fun x3 =>
  some (.inl (a.2, x3), s)
  else
  (aL s (b0 + 2) 8 a.2).bind fun v5 =>
  (aI s (b0 + 1) 8 a.1).bind fun v6 =>
  (aL s (b0 + 2) 8 a.1).bind fun v7 =>
  (aI s (b0 + 1) 8 a.2).bind fun v8 =>
  if 0 ≤ (lg_cmp (v5 * ((v6).toInt64)) (v7 * ((v8).toInt64))) then
  bnd (a.2 + (1 : Int32)) fun x9 =>
  some (.inl (a.2, x9), s)
  else
  (fX1_join b0 a.1 a.2 s).bind fun w11 =>
  some (.inr (.inl (1 : Int32)), w11)
def fX1_joinFirstFall (b0 : Nat) (s : Sg) : Option (Int32 × Sg) :=
  (lpG (fX1_joinFirstFall_L4 b0) FU ((-1 : Int32), (0 : Int32)) s).bind fun w1 =>
  Sum.elim (fun r24 => some (r24, w1.2)) (fun e2 => some ((0 : Int32), w1.2)) w1.1
theorem ct_X1_joinFirstFall {g : Gl} {b0 : Nat} {s : Sg} {w : Int32 × Sg} (hb0 : isLv b0) (h : fX1_joinFirstFall b0 s = some w) : Ct SS g iX1_joinFirstFall 1 28 [.ref (gad g b0)] s (Dt (some (.int w.1)) w.2) := by
  refine Ct.ofV (by decide +kernel) 2 (lv0 := [some (.ref (gad g b0)), none, none]) rfl rfl (fun M hC => ?_)
  have hP : (Dt (some (.int w.1)) w.2) (some (.int w.1)) w.2 := ⟨rfl, rfl⟩
  generalize Dt (some (.int w.1)) w.2 = P at hP ⊢
  unfold fX1_joinFirstFall at h
  refine v_iconst (pc := 0) (-1 : Int32) rfl hC dX1_joinFirstFall_0 ?_
  refine v_istore_n (pc := 1) (lv' := [some (.ref (gad g b0)), some (.int (-1 : Int32)), none]) hC dX1_joinFirstFall_1 rfl rfl rfl rfl ?_
  refine v_iconst (pc := 2) (0 : Int32) rfl hC dX1_joinFirstFall_2 ?_
  refine v_istore_n (pc := 3) (lv' := [some (.ref (gad g b0)), some (.int (-1 : Int32)), some (.int (0 : Int32))]) hC dX1_joinFirstFall_3 rfl rfl rfl rfl ?_
  obtain ⟨w1, hw1, h⟩ := obd_s h
  have kr22 : ∀ r24, w1.1 = .inl r24 → P (some (.int r24)) w1.2 := by
    intro r24 hr24
    rw [hr24] at h
    replace h := (Sum.elim_inl _ _ _).symm.trans h
    obtain rfl := Option.some.inj h
    exact hP
  have ke23 : ∀ e2, w1.1 = .inr e2 → V SS g M iX1_joinFirstFall (PQ SS g M P) 75 [none, none, none] [] w1.2 := by
    intro e2 he2
    rw [he2] at h
    replace h := (Sum.elim_inr _ _ _).symm.trans h
    refine v_iconst (pc := 75) (0 : Int32) rfl hC dX1_joinFirstFall_75 ?_
    obtain rfl := Option.some.inj h
    exact v_zret (pc := 76) hC rfl rfl dX1_joinFirstFall_76 hP
  refine V.ls (ls_some (ls_some (ls_some ls_nil))) (v_loopR (pc := 4) (fun a5 => [some (.ref (gad g b0)), some (.int a5.1), some (.int a5.2)]) (fun (r24 : Int32) t => P (some (.int r24)) t) (fun z t => V SS g M iX1_joinFirstFall (PQ SS g M P) 75 [none, none, none] [] t) (fun a5 s3 u4 hu4 k6 k8 k7 => ?_) _ _ _ _ hw1 kr22 ke23)
  unfold fX1_joinFirstFall_L4 at hu4
  refine v_iload_n (pc := 4) hC dX1_joinFirstFall_4 rfl ?_
  refine v_bipush (pc := 5) (8 : Int32) rfl hC dX1_joinFirstFall_5 ?_
  refine v_ic_ge (pc := 7) (tgt := 75) hC dX1_joinFirstFall_7 rfl (fun c9 => ?_) (fun c9 => ?_)
  · replace hu4 := (if_pos c9).symm.trans hu4
    obtain rfl := Option.some.inj hu4
    exact V.ls (ls_none (ls_none (ls_none ls_nil))) (k7 _ rfl)
  · replace hu4 := (if_neg c9).symm.trans hu4
    refine v_aload_n (pc := 10) hC dX1_joinFirstFall_10 rfl ?_
    refine v_gt (pc := 11) 0 (.ref (gad g (b0 + 1))) hC hb0.1 rfl rfl rfl rfl fl_X1_9 dX1_joinFirstFall_11 ?_
    refine v_iload_n (pc := 14) hC dX1_joinFirstFall_14 rfl ?_
    obtain ⟨v10, hv10, hu4⟩ := obd_s hu4
    refine v_aI (pc := 15) hC hb0.2.1 hv10 dX1_joinFirstFall_15 ?_
    refine v_if_ne (pc := 16) (tgt := 22) hC dX1_joinFirstFall_16 rfl (fun c20 => ?_) (fun c20 => ?_)
    · replace hu4 := (if_neg c20).symm.trans hu4
      refine v_iload_n (pc := 22) hC dX1_joinFirstFall_22 rfl ?_
      refine v_iconst (pc := 23) (-1 : Int32) rfl hC dX1_joinFirstFall_23 ?_
      refine v_ic_eq (pc := 24) (tgt := 67) hC dX1_joinFirstFall_24 rfl (fun c12 => ?_) (fun c12 => ?_)
      · replace hu4 := (if_pos c12).symm.trans hu4
        refine v_iload_n (pc := 67) hC dX1_joinFirstFall_67 rfl ?_
        refine v_istore_n (pc := 68) (lv' := [some (.ref (gad g b0)), some (.int a5.2), some (.int a5.2)]) hC dX1_joinFirstFall_68 rfl rfl rfl rfl ?_
        obtain ⟨x11, hx11, hu4⟩ := bnd_s hu4
        refine v_iinc (pc := 69) (lv' := [some (.ref (gad g b0)), some (.int a5.2), some (.int x11)]) (1 : Int32) rfl hx11 hC dX1_joinFirstFall_69 rfl rfl rfl rfl ?_
        refine v_goto (pc := 72) (tgt := 4) hC dX1_joinFirstFall_72 rfl ?_
        obtain rfl := Option.some.inj hu4
        exact V.ls (ls_some (ls_some (ls_some ls_nil))) (k6 _ rfl)
      · replace hu4 := (if_neg c12).symm.trans hu4
        refine v_aload_n (pc := 27) hC dX1_joinFirstFall_27 rfl ?_
        refine v_gt (pc := 28) 1 (.ref (gad g (b0 + 2))) hC hb0.1 rfl rfl rfl rfl fl_X1_15 dX1_joinFirstFall_28 ?_
        refine v_iload_n (pc := 31) hC dX1_joinFirstFall_31 rfl ?_
        obtain ⟨v13, hv13, hu4⟩ := obd_s hu4
        refine v_aL (pc := 32) hC hb0.2.2.1 hv13 dX1_joinFirstFall_32 ?_
        refine v_aload_n (pc := 33) hC dX1_joinFirstFall_33 rfl ?_
        refine v_gt (pc := 34) 0 (.ref (gad g (b0 + 1))) hC hb0.1 rfl rfl rfl rfl fl_X1_9 dX1_joinFirstFall_34 ?_
        refine v_iload_n (pc := 37) hC dX1_joinFirstFall_37 rfl ?_
        obtain ⟨v14, hv14, hu4⟩ := obd_s hu4
        refine v_aI (pc := 38) hC hb0.2.1 hv14 dX1_joinFirstFall_38 ?_
        refine v_i2l (pc := 39) hC dX1_joinFirstFall_39 ?_
        refine v_lmul (pc := 40) hC dX1_joinFirstFall_40 ?_
        refine v_aload_n (pc := 41) hC dX1_joinFirstFall_41 rfl ?_
        refine v_gt (pc := 42) 1 (.ref (gad g (b0 + 2))) hC hb0.1 rfl rfl rfl rfl fl_X1_15 dX1_joinFirstFall_42 ?_
        refine v_iload_n (pc := 45) hC dX1_joinFirstFall_45 rfl ?_
        obtain ⟨v15, hv15, hu4⟩ := obd_s hu4
        refine v_aL (pc := 46) hC hb0.2.2.1 hv15 dX1_joinFirstFall_46 ?_
        refine v_aload_n (pc := 47) hC dX1_joinFirstFall_47 rfl ?_
        refine v_gt (pc := 48) 0 (.ref (gad g (b0 + 1))) hC hb0.1 rfl rfl rfl rfl fl_X1_9 dX1_joinFirstFall_48 ?_
        refine v_iload_n (pc := 51) hC dX1_joinFirstFall_51 rfl ?_
        obtain ⟨v16, hv16, hu4⟩ := obd_s hu4
        refine v_aI (pc := 52) hC hb0.2.1 hv16 dX1_joinFirstFall_52 ?_
        refine v_i2l (pc := 53) hC dX1_joinFirstFall_53 ?_
        refine v_lmul (pc := 54) hC dX1_joinFirstFall_54 ?_
        refine v_lcmp (pc := 55) hC dX1_joinFirstFall_55 ?_
        refine v_if_ge (pc := 56) (tgt := 67) hC dX1_joinFirstFall_56 rfl (fun c18 => ?_) (fun c18 => ?_)
        · replace hu4 := (if_pos c18).symm.trans hu4
          refine v_iload_n (pc := 67) hC dX1_joinFirstFall_67 rfl ?_
          refine v_istore_n (pc := 68) (lv' := [some (.ref (gad g b0)), some (.int a5.2), some (.int a5.2)]) hC dX1_joinFirstFall_68 rfl rfl rfl rfl ?_
          obtain ⟨x17, hx17, hu4⟩ := bnd_s hu4
          refine v_iinc (pc := 69) (lv' := [some (.ref (gad g b0)), some (.int a5.2), some (.int x17)]) (1 : Int32) rfl hx17 hC dX1_joinFirstFall_69 rfl rfl rfl rfl ?_
          refine v_goto (pc := 72) (tgt := 4) hC dX1_joinFirstFall_72 rfl ?_
          obtain rfl := Option.some.inj hu4
          exact V.ls (ls_some (ls_some (ls_some ls_nil))) (k6 _ rfl)
        · replace hu4 := (if_neg c18).symm.trans hu4
          refine v_aload_n (pc := 59) hC dX1_joinFirstFall_59 rfl ?_
          refine v_iload_n (pc := 60) hC dX1_joinFirstFall_60 rfl ?_
          refine v_iload_n (pc := 61) hC dX1_joinFirstFall_61 rfl ?_
          obtain ⟨w19, hw19, hu4⟩ := obd_s hu4
          refine v_cV (pc := 62) [] [] gm_X1_join hC hb0.1 rfl rfl (ct_X1_join hb0 hw19) ml_X1_49 rfl rfl rfl rfl rfl rfl dX1_joinFirstFall_62 ?_
          refine v_iconst (pc := 65) (1 : Int32) rfl hC dX1_joinFirstFall_65 ?_
          obtain rfl := Option.some.inj hu4
          exact v_zret (pc := 66) hC rfl rfl dX1_joinFirstFall_66 (k8 _ rfl)
    · replace hu4 := (if_pos c20).symm.trans hu4
      refine v_goto (pc := 19) (tgt := 69) hC dX1_joinFirstFall_19 rfl ?_
      obtain ⟨x21, hx21, hu4⟩ := bnd_s hu4
      refine v_iinc (pc := 69) (lv' := [some (.ref (gad g b0)), some (.int a5.1), some (.int x21)]) (1 : Int32) rfl hx21 hC dX1_joinFirstFall_69 rfl rfl rfl rfl ?_
      refine v_goto (pc := 72) (tgt := 4) hC dX1_joinFirstFall_72 rfl ?_
      obtain rfl := Option.some.inj hu4
      exact V.ls (ls_some (ls_some (ls_some ls_nil))) (k6 _ rfl)
theorem dX1_becomeShapeOf_0 : decode cX1_becomeShapeOf 0 = .ok (.iconst 0, 1) := by decide +kernel
theorem dX1_becomeShapeOf_1 : decode cX1_becomeShapeOf 1 = .ok (.istore_n 2, 1) := by decide +kernel
theorem dX1_becomeShapeOf_2 : decode cX1_becomeShapeOf 2 = .ok (.iload_n 2, 1) := by decide +kernel
theorem dX1_becomeShapeOf_3 : decode cX1_becomeShapeOf 3 = .ok (.bipush 8, 2) := by decide +kernel
theorem dX1_becomeShapeOf_5 : decode cX1_becomeShapeOf 5 = .ok (.if_icmp .ge 40, 3) := by decide +kernel
theorem dX1_becomeShapeOf_8 : decode cX1_becomeShapeOf 8 = .ok (.aload_n 0, 1) := by decide +kernel
theorem dX1_becomeShapeOf_9 : decode cX1_becomeShapeOf 9 = .ok (.getfield 9, 3) := by decide +kernel
theorem dX1_becomeShapeOf_12 : decode cX1_becomeShapeOf 12 = .ok (.iload_n 2, 1) := by decide +kernel
theorem dX1_becomeShapeOf_13 : decode cX1_becomeShapeOf 13 = .ok (.aload_n 1, 1) := by decide +kernel
theorem dX1_becomeShapeOf_14 : decode cX1_becomeShapeOf 14 = .ok (.getfield 9, 3) := by decide +kernel
theorem dX1_becomeShapeOf_17 : decode cX1_becomeShapeOf 17 = .ok (.iload_n 2, 1) := by decide +kernel
theorem dX1_becomeShapeOf_18 : decode cX1_becomeShapeOf 18 = .ok (.iaload, 1) := by decide +kernel
theorem dX1_becomeShapeOf_19 : decode cX1_becomeShapeOf 19 = .ok (.iastore, 1) := by decide +kernel
theorem dX1_becomeShapeOf_20 : decode cX1_becomeShapeOf 20 = .ok (.aload_n 0, 1) := by decide +kernel
theorem dX1_becomeShapeOf_21 : decode cX1_becomeShapeOf 21 = .ok (.getfield 15, 3) := by decide +kernel
theorem dX1_becomeShapeOf_24 : decode cX1_becomeShapeOf 24 = .ok (.iload_n 2, 1) := by decide +kernel
theorem dX1_becomeShapeOf_25 : decode cX1_becomeShapeOf 25 = .ok (.aload_n 1, 1) := by decide +kernel
theorem dX1_becomeShapeOf_26 : decode cX1_becomeShapeOf 26 = .ok (.getfield 15, 3) := by decide +kernel
theorem dX1_becomeShapeOf_29 : decode cX1_becomeShapeOf 29 = .ok (.iload_n 2, 1) := by decide +kernel
theorem dX1_becomeShapeOf_30 : decode cX1_becomeShapeOf 30 = .ok (.laload, 1) := by decide +kernel
theorem dX1_becomeShapeOf_31 : decode cX1_becomeShapeOf 31 = .ok (.lastore, 1) := by decide +kernel
theorem dX1_becomeShapeOf_32 : decode cX1_becomeShapeOf 32 = .ok (.aload_n 0, 1) := by decide +kernel
theorem dX1_becomeShapeOf_33 : decode cX1_becomeShapeOf 33 = .ok (.getfield 22, 3) := by decide +kernel
theorem dX1_becomeShapeOf_36 : decode cX1_becomeShapeOf 36 = .ok (.iload_n 2, 1) := by decide +kernel
theorem dX1_becomeShapeOf_37 : decode cX1_becomeShapeOf 37 = .ok (.iload_n 2, 1) := by decide +kernel
theorem dX1_becomeShapeOf_38 : decode cX1_becomeShapeOf 38 = .ok (.iastore, 1) := by decide +kernel
theorem dX1_becomeShapeOf_39 : decode cX1_becomeShapeOf 39 = .ok (.iinc 2 1, 3) := by decide +kernel
theorem dX1_becomeShapeOf_42 : decode cX1_becomeShapeOf 42 = .ok (.goto (-40), 3) := by decide +kernel
theorem dX1_becomeShapeOf_45 : decode cX1_becomeShapeOf 45 = .ok (.iconst 1, 1) := by decide +kernel
theorem dX1_becomeShapeOf_46 : decode cX1_becomeShapeOf 46 = .ok (.istore_n 2, 1) := by decide +kernel
theorem dX1_becomeShapeOf_47 : decode cX1_becomeShapeOf 47 = .ok (.iconst 0, 1) := by decide +kernel
theorem dX1_becomeShapeOf_48 : decode cX1_becomeShapeOf 48 = .ok (.istore_n 3, 1) := by decide +kernel
theorem dX1_becomeShapeOf_49 : decode cX1_becomeShapeOf 49 = .ok (.iload_n 3, 1) := by decide +kernel
theorem dX1_becomeShapeOf_50 : decode cX1_becomeShapeOf 50 = .ok (.bipush 8, 2) := by decide +kernel
theorem dX1_becomeShapeOf_52 : decode cX1_becomeShapeOf 52 = .ok (.if_icmp .ge 18, 3) := by decide +kernel
theorem dX1_becomeShapeOf_55 : decode cX1_becomeShapeOf 55 = .ok (.iload_n 2, 1) := by decide +kernel
theorem dX1_becomeShapeOf_56 : decode cX1_becomeShapeOf 56 = .ok (.ifCond .eq 14, 3) := by decide +kernel
theorem dX1_becomeShapeOf_59 : decode cX1_becomeShapeOf 59 = .ok (.aload_n 0, 1) := by decide +kernel
theorem dX1_becomeShapeOf_60 : decode cX1_becomeShapeOf 60 = .ok (.invokevirtual 42, 3) := by decide +kernel
theorem dX1_becomeShapeOf_63 : decode cX1_becomeShapeOf 63 = .ok (.istore_n 2, 1) := by decide +kernel
theorem dX1_becomeShapeOf_64 : decode cX1_becomeShapeOf 64 = .ok (.iinc 3 1, 3) := by decide +kernel
theorem dX1_becomeShapeOf_67 : decode cX1_becomeShapeOf 67 = .ok (.goto (-18), 3) := by decide +kernel
theorem dX1_becomeShapeOf_70 : decode cX1_becomeShapeOf 70 = .ok (.aload_n 0, 1) := by decide +kernel
theorem dX1_becomeShapeOf_71 : decode cX1_becomeShapeOf 71 = .ok (.invokevirtual 46, 3) := by decide +kernel
theorem dX1_becomeShapeOf_74 : decode cX1_becomeShapeOf 74 = .ok (.return_, 1) := by decide +kernel
def fX1_becomeShapeOf_L2 (b0 : Nat) (b1 : Nat) (a : Int32) (s : Sg) : Option (((Int32) ⊕ (Unit)) × Sg) :=
  if (8 : Int32) ≤ a then
  some (.inr (), s)
  else
  (aI s (b1 + 1) 8 a).bind fun v2 =>
  (wI s (b0 + 1) 8 a v2).bind fun s3 =>
  (aL s3 (b1 + 2) 8 a).bind fun v4 =>
  (wL s3 (b0 + 2) 8 a v4).bind fun s5 =>
  (wI s5 (b0 + 4) 8 a a).bind fun s6 =>
  bnd (a + (1 : Int32)) fun x7 =>
  some (.inl x7, s6)
def fX1_becomeShapeOf_L49 (b0 : Nat) (a : Int32 × Int32) (s : Sg) : Option (((Int32 × Int32) ⊕ (Unit)) × Sg) :=
  if (8 : Int32) ≤ a.2 then
  some (.inr (), s)
  else
  if a.1 = 0 then
  some (.inr (), s)
  else
  (fX1_joinFirstFall b0 s).bind fun w3 =>
  bnd (a.2 + (1 : Int32)) fun x4 =>
  some (.inl (w3.1, x4), w3.2)
def fX1_becomeShapeOf (b0 : Nat) (b1 : Nat) (s : Sg) : Option (Sg) :=
  (lpG (fX1_becomeShapeOf_L2 b0 b1) FU (0 : Int32) s).bind fun w1 =>
  (lpG (fX1_becomeShapeOf_L49 b0) FU ((1 : Int32), (0 : Int32)) w1.2).bind fun w2 =>
  (fX1_settle b0 w2.2).bind fun w3 =>
  some w3
theorem ct_X1_becomeShapeOf {g : Gl} {b0 : Nat} {b1 : Nat} {s : Sg} {w : Sg} (hb0 : isLv b0) (hb1 : isLv b1) (h : fX1_becomeShapeOf b0 b1 s = some w) : Ct SS g iX1_becomeShapeOf 3 76 [.ref (gad g b0), .ref (gad g b1)] s (Dt none w) := by
  refine Ct.ofV (by decide +kernel) 2 (lv0 := [some (.ref (gad g b0)), some (.ref (gad g b1)), none, none]) rfl rfl (fun M hC => ?_)
  have hP : (Dt none w) none w := ⟨rfl, rfl⟩
  generalize Dt none w = P at hP ⊢
  unfold fX1_becomeShapeOf at h
  refine v_iconst (pc := 0) (0 : Int32) rfl hC dX1_becomeShapeOf_0 ?_
  refine v_istore_n (pc := 1) (lv' := [some (.ref (gad g b0)), some (.ref (gad g b1)), some (.int (0 : Int32)), none]) hC dX1_becomeShapeOf_1 rfl rfl rfl rfl ?_
  obtain ⟨w1, hw1, h⟩ := obd_s h
  have kx28 : V SS g M iX1_becomeShapeOf (PQ SS g M P) 45 [some (.ref (gad g b0)), none, none, none] [] w1.2 := by
    refine v_iconst (pc := 45) (1 : Int32) rfl hC dX1_becomeShapeOf_45 ?_
    refine v_istore_n (pc := 46) (lv' := [some (.ref (gad g b0)), none, some (.int (1 : Int32)), none]) hC dX1_becomeShapeOf_46 rfl rfl rfl rfl ?_
    refine v_iconst (pc := 47) (0 : Int32) rfl hC dX1_becomeShapeOf_47 ?_
    refine v_istore_n (pc := 48) (lv' := [some (.ref (gad g b0)), none, some (.int (1 : Int32)), some (.int (0 : Int32))]) hC dX1_becomeShapeOf_48 rfl rfl rfl rfl ?_
    obtain ⟨w2, hw2, h⟩ := obd_s h
    have kx14 : V SS g M iX1_becomeShapeOf (PQ SS g M P) 70 [some (.ref (gad g b0)), none, none, none] [] w2.2 := by
      refine v_aload_n (pc := 70) hC dX1_becomeShapeOf_70 rfl ?_
      obtain ⟨w3, hw3, h⟩ := obd_s h
      refine v_cV (pc := 71) [] [] gm_X1_settle hC hb0.1 rfl rfl (ct_X1_settle hb0 hw3) ml_X1_46 rfl rfl rfl rfl rfl rfl dX1_becomeShapeOf_71 ?_
      obtain rfl := Option.some.inj h
      exact v_vret (pc := 74) hC rfl dX1_becomeShapeOf_74 hP
    refine V.ls (ls_some (ls_none (ls_some (ls_some ls_nil)))) (v_loop (pc := 49) (fun a6 => [some (.ref (gad g b0)), none, some (.int a6.1), some (.int a6.2)]) (fun z t => V SS g M iX1_becomeShapeOf (PQ SS g M P) 70 [some (.ref (gad g b0)), none, none, none] [] t) (fun a6 s4 u5 hu5 k7 k8 => ?_) _ _ _ _ hw2 kx14)
    unfold fX1_becomeShapeOf_L49 at hu5
    refine v_iload_n (pc := 49) hC dX1_becomeShapeOf_49 rfl ?_
    refine v_bipush (pc := 50) (8 : Int32) rfl hC dX1_becomeShapeOf_50 ?_
    refine v_ic_ge (pc := 52) (tgt := 70) hC dX1_becomeShapeOf_52 rfl (fun c10 => ?_) (fun c10 => ?_)
    · replace hu5 := (if_pos c10).symm.trans hu5
      obtain rfl := Option.some.inj hu5
      exact V.ls (ls_some (ls_none (ls_none (ls_none ls_nil)))) (k8 _ rfl)
    · replace hu5 := (if_neg c10).symm.trans hu5
      refine v_iload_n (pc := 55) hC dX1_becomeShapeOf_55 rfl ?_
      refine v_if_eq (pc := 56) (tgt := 70) hC dX1_becomeShapeOf_56 rfl (fun c11 => ?_) (fun c11 => ?_)
      · replace hu5 := (if_pos c11).symm.trans hu5
        obtain rfl := Option.some.inj hu5
        exact V.ls (ls_some (ls_none (ls_none (ls_none ls_nil)))) (k8 _ rfl)
      · replace hu5 := (if_neg c11).symm.trans hu5
        refine v_aload_n (pc := 59) hC dX1_becomeShapeOf_59 rfl ?_
        obtain ⟨w12, hw12, hu5⟩ := obd_s hu5
        refine v_cV (pc := 60) [] [.int w12.1] gm_X1_joinFirstFall hC hb0.1 rfl rfl (ct_X1_joinFirstFall hb0 hw12) ml_X1_42 rfl rfl rfl rfl rfl rfl dX1_becomeShapeOf_60 ?_
        refine v_istore_n (pc := 63) (lv' := [some (.ref (gad g b0)), none, some (.int w12.1), some (.int a6.2)]) hC dX1_becomeShapeOf_63 rfl rfl rfl rfl ?_
        obtain ⟨x13, hx13, hu5⟩ := bnd_s hu5
        refine v_iinc (pc := 64) (lv' := [some (.ref (gad g b0)), none, some (.int w12.1), some (.int x13)]) (1 : Int32) rfl hx13 hC dX1_becomeShapeOf_64 rfl rfl rfl rfl ?_
        refine v_goto (pc := 67) (tgt := 49) hC dX1_becomeShapeOf_67 rfl ?_
        obtain rfl := Option.some.inj hu5
        exact V.ls (ls_some (ls_none (ls_some (ls_some ls_nil)))) (k7 _ rfl)
  refine V.ls (ls_some (ls_some (ls_some (ls_none ls_nil)))) (v_loop (pc := 2) (fun a17 => [some (.ref (gad g b0)), some (.ref (gad g b1)), some (.int a17), none]) (fun z t => V SS g M iX1_becomeShapeOf (PQ SS g M P) 45 [some (.ref (gad g b0)), none, none, none] [] t) (fun a17 s15 u16 hu16 k18 k19 => ?_) _ _ _ _ hw1 kx28)
  unfold fX1_becomeShapeOf_L2 at hu16
  refine v_iload_n (pc := 2) hC dX1_becomeShapeOf_2 rfl ?_
  refine v_bipush (pc := 3) (8 : Int32) rfl hC dX1_becomeShapeOf_3 ?_
  refine v_ic_ge (pc := 5) (tgt := 45) hC dX1_becomeShapeOf_5 rfl (fun c21 => ?_) (fun c21 => ?_)
  · replace hu16 := (if_pos c21).symm.trans hu16
    obtain rfl := Option.some.inj hu16
    exact V.ls (ls_some (ls_none (ls_none (ls_none ls_nil)))) (k19 _ rfl)
  · replace hu16 := (if_neg c21).symm.trans hu16
    refine v_aload_n (pc := 8) hC dX1_becomeShapeOf_8 rfl ?_
    refine v_gt (pc := 9) 0 (.ref (gad g (b0 + 1))) hC hb0.1 rfl rfl rfl rfl fl_X1_9 dX1_becomeShapeOf_9 ?_
    refine v_iload_n (pc := 12) hC dX1_becomeShapeOf_12 rfl ?_
    refine v_aload_n (pc := 13) hC dX1_becomeShapeOf_13 rfl ?_
    refine v_gt (pc := 14) 0 (.ref (gad g (b1 + 1))) hC hb1.1 rfl rfl rfl rfl fl_X1_9 dX1_becomeShapeOf_14 ?_
    refine v_iload_n (pc := 17) hC dX1_becomeShapeOf_17 rfl ?_
    obtain ⟨v22, hv22, hu16⟩ := obd_s hu16
    refine v_aI (pc := 18) hC hb1.2.1 hv22 dX1_becomeShapeOf_18 ?_
    obtain ⟨s23, hs23, hu16⟩ := obd_s hu16
    refine v_wI (pc := 19) hC hb0.2.1 hs23 dX1_becomeShapeOf_19 ?_
    refine v_aload_n (pc := 20) hC dX1_becomeShapeOf_20 rfl ?_
    refine v_gt (pc := 21) 1 (.ref (gad g (b0 + 2))) hC hb0.1 rfl rfl rfl rfl fl_X1_15 dX1_becomeShapeOf_21 ?_
    refine v_iload_n (pc := 24) hC dX1_becomeShapeOf_24 rfl ?_
    refine v_aload_n (pc := 25) hC dX1_becomeShapeOf_25 rfl ?_
    refine v_gt (pc := 26) 1 (.ref (gad g (b1 + 2))) hC hb1.1 rfl rfl rfl rfl fl_X1_15 dX1_becomeShapeOf_26 ?_
    refine v_iload_n (pc := 29) hC dX1_becomeShapeOf_29 rfl ?_
    obtain ⟨v24, hv24, hu16⟩ := obd_s hu16
    refine v_aL (pc := 30) hC hb1.2.2.1 hv24 dX1_becomeShapeOf_30 ?_
    obtain ⟨s25, hs25, hu16⟩ := obd_s hu16
    refine v_wL (pc := 31) hC hb0.2.2.1 hs25 dX1_becomeShapeOf_31 ?_
    refine v_aload_n (pc := 32) hC dX1_becomeShapeOf_32 rfl ?_
    refine v_gt (pc := 33) 3 (.ref (gad g (b0 + 4))) hC hb0.1 rfl rfl rfl rfl fl_X1_22 dX1_becomeShapeOf_33 ?_
    refine v_iload_n (pc := 36) hC dX1_becomeShapeOf_36 rfl ?_
    refine v_iload_n (pc := 37) hC dX1_becomeShapeOf_37 rfl ?_
    obtain ⟨s26, hs26, hu16⟩ := obd_s hu16
    refine v_wI (pc := 38) hC hb0.2.2.2.2 hs26 dX1_becomeShapeOf_38 ?_
    obtain ⟨x27, hx27, hu16⟩ := bnd_s hu16
    refine v_iinc (pc := 39) (lv' := [some (.ref (gad g b0)), some (.ref (gad g b1)), some (.int x27), none]) (1 : Int32) rfl hx27 hC dX1_becomeShapeOf_39 rfl rfl rfl rfl ?_
    refine v_goto (pc := 42) (tgt := 2) hC dX1_becomeShapeOf_42 rfl ?_
    obtain rfl := Option.some.inj hu16
    exact V.ls (ls_some (ls_some (ls_some (ls_none ls_nil)))) (k18 _ rfl)
theorem dX9_clearValues_0 : decode cX9_clearValues 0 = .ok (.iconst 0, 1) := by decide +kernel
theorem dX9_clearValues_1 : decode cX9_clearValues 1 = .ok (.istore_n 1, 1) := by decide +kernel
theorem dX9_clearValues_2 : decode cX9_clearValues 2 = .ok (.iload_n 1, 1) := by decide +kernel
theorem dX9_clearValues_3 : decode cX9_clearValues 3 = .ok (.bipush 9, 2) := by decide +kernel
theorem dX9_clearValues_5 : decode cX9_clearValues 5 = .ok (.if_icmp .gt 16, 3) := by decide +kernel
theorem dX9_clearValues_8 : decode cX9_clearValues 8 = .ok (.aload_n 0, 1) := by decide +kernel
theorem dX9_clearValues_9 : decode cX9_clearValues 9 = .ok (.getfield 15, 3) := by decide +kernel
theorem dX9_clearValues_12 : decode cX9_clearValues 12 = .ok (.iload_n 1, 1) := by decide +kernel
theorem dX9_clearValues_13 : decode cX9_clearValues 13 = .ok (.iconst 0, 1) := by decide +kernel
theorem dX9_clearValues_14 : decode cX9_clearValues 14 = .ok (.iastore, 1) := by decide +kernel
theorem dX9_clearValues_15 : decode cX9_clearValues 15 = .ok (.iinc 1 1, 3) := by decide +kernel
theorem dX9_clearValues_18 : decode cX9_clearValues 18 = .ok (.goto (-16), 3) := by decide +kernel
theorem dX9_clearValues_21 : decode cX9_clearValues 21 = .ok (.return_, 1) := by decide +kernel
def fX9_clearValues_L2  (a : Int32) (s : Sg) : Option (((Int32) ⊕ (Unit)) × Sg) :=
  if (9 : Int32) < a then
  some (.inr (), s)
  else
  (wI s 36 10 a (0 : Int32)).bind fun s2 =>
  bnd (a + (1 : Int32)) fun x3 =>
  some (.inl x3, s2)
def fX9_clearValues  (s : Sg) : Option (Sg) :=
  (lpG (fX9_clearValues_L2) FU (0 : Int32) s).bind fun w1 =>
  some w1.2
theorem ct_X9_clearValues {g : Gl}  {s : Sg} {w : Sg}  (h : fX9_clearValues s = some w) : Ct SS g iX9_clearValues 0 0 [.ref (gad g 35)] s (Dt none w) := by
  refine Ct.ofV (by decide +kernel) 1 (lv0 := [some (.ref (gad g 35)), none]) rfl rfl (fun M hC => ?_)
  have hP : (Dt none w) none w := ⟨rfl, rfl⟩
  generalize Dt none w = P at hP ⊢
  unfold fX9_clearValues at h
  refine v_iconst (pc := 0) (0 : Int32) rfl hC dX9_clearValues_0 ?_
  refine v_istore_n (pc := 1) (lv' := [some (.ref (gad g 35)), some (.int (0 : Int32))]) hC dX9_clearValues_1 rfl rfl rfl rfl ?_
  obtain ⟨w1, hw1, h⟩ := obd_s h
  have kx11 : V SS g M iX9_clearValues (PQ SS g M P) 21 [none, none] [] w1.2 := by
    obtain rfl := Option.some.inj h
    exact v_vret (pc := 21) hC rfl dX9_clearValues_21 hP
  refine V.ls (ls_some (ls_some ls_nil)) (v_loop (pc := 2) (fun a4 => [some (.ref (gad g 35)), some (.int a4)]) (fun z t => V SS g M iX9_clearValues (PQ SS g M P) 21 [none, none] [] t) (fun a4 s2 u3 hu3 k5 k6 => ?_) _ _ _ _ hw1 kx11)
  unfold fX9_clearValues_L2 at hu3
  refine v_iload_n (pc := 2) hC dX9_clearValues_2 rfl ?_
  refine v_bipush (pc := 3) (9 : Int32) rfl hC dX9_clearValues_3 ?_
  refine v_ic_gt (pc := 5) (tgt := 21) hC dX9_clearValues_5 rfl (fun c8 => ?_) (fun c8 => ?_)
  · replace hu3 := (if_pos c8).symm.trans hu3
    obtain rfl := Option.some.inj hu3
    exact V.ls (ls_none (ls_none ls_nil)) (k6 _ rfl)
  · replace hu3 := (if_neg c8).symm.trans hu3
    refine v_aload_n (pc := 8) hC dX9_clearValues_8 rfl ?_
    refine v_gt (pc := 9) 1 (.ref (gad g 36)) hC s_35 rfl rfl rfl rfl fl_X9_15 dX9_clearValues_9 ?_
    refine v_iload_n (pc := 12) hC dX9_clearValues_12 rfl ?_
    refine v_iconst (pc := 13) (0 : Int32) rfl hC dX9_clearValues_13 ?_
    obtain ⟨s9, hs9, hu3⟩ := obd_s hu3
    refine v_wI (pc := 14) hC s_36 hs9 dX9_clearValues_14 ?_
    obtain ⟨x10, hx10, hu3⟩ := bnd_s hu3
    refine v_iinc (pc := 15) (lv' := [some (.ref (gad g 35)), some (.int x10)]) (1 : Int32) rfl hx10 hC dX9_clearValues_15 rfl rfl rfl rfl ?_
    refine v_goto (pc := 18) (tgt := 2) hC dX9_clearValues_18 rfl ?_
    obtain rfl := Option.some.inj hu3
    exact V.ls (ls_some (ls_some ls_nil)) (k5 _ rfl)
theorem dX9_open_0 : decode cX9_open 0 = .ok (.aload_n 0, 1) := by decide +kernel
theorem dX9_open_1 : decode cX9_open 1 = .ok (.iconst 1, 1) := by decide +kernel
theorem dX9_open_2 : decode cX9_open 2 = .ok (.putfield 23, 3) := by decide +kernel
theorem dX9_open_5 : decode cX9_open 5 = .ok (.iload_n 1, 1) := by decide +kernel
theorem dX9_open_6 : decode cX9_open 6 = .ok (.bipush 112, 2) := by decide +kernel
theorem dX9_open_8 : decode cX9_open 8 = .ok (.if_icmp .ne 5, 3) := by decide +kernel
theorem dX9_open_11 : decode cX9_open 11 = .ok (.iconst 1, 1) := by decide +kernel
theorem dX9_open_12 : decode cX9_open 12 = .ok (.ireturn, 1) := by decide +kernel
theorem dX9_open_13 : decode cX9_open 13 = .ok (.iload_n 1, 1) := by decide +kernel
theorem dX9_open_14 : decode cX9_open 14 = .ok (.bipush 102, 2) := by decide +kernel
theorem dX9_open_16 : decode cX9_open 16 = .ok (.if_icmp .ne 11, 3) := by decide +kernel
theorem dX9_open_19 : decode cX9_open 19 = .ok (.aload_n 0, 1) := by decide +kernel
theorem dX9_open_20 : decode cX9_open 20 = .ok (.bipush 8, 2) := by decide +kernel
theorem dX9_open_22 : decode cX9_open 22 = .ok (.putfield 19, 3) := by decide +kernel
theorem dX9_open_25 : decode cX9_open 25 = .ok (.iconst 2, 1) := by decide +kernel
theorem dX9_open_26 : decode cX9_open 26 = .ok (.ireturn, 1) := by decide +kernel
theorem dX9_open_27 : decode cX9_open 27 = .ok (.iload_n 1, 1) := by decide +kernel
theorem dX9_open_28 : decode cX9_open 28 = .ok (.bipush 114, 2) := by decide +kernel
theorem dX9_open_30 : decode cX9_open 30 = .ok (.if_icmp .ne 11, 3) := by decide +kernel
theorem dX9_open_33 : decode cX9_open 33 = .ok (.aload_n 0, 1) := by decide +kernel
theorem dX9_open_34 : decode cX9_open 34 = .ok (.bipush 9, 2) := by decide +kernel
theorem dX9_open_36 : decode cX9_open 36 = .ok (.putfield 19, 3) := by decide +kernel
theorem dX9_open_39 : decode cX9_open 39 = .ok (.iconst 2, 1) := by decide +kernel
theorem dX9_open_40 : decode cX9_open 40 = .ok (.ireturn, 1) := by decide +kernel
theorem dX9_open_41 : decode cX9_open 41 = .ok (.bipush 7, 2) := by decide +kernel
theorem dX9_open_43 : decode cX9_open 43 = .ok (.ireturn, 1) := by decide +kernel
def fX9_open (x0_ : Int32) (s : Sg) : Option (Int32 × Sg) :=
  bnd (sI s 35 3 (1 : Int32)) fun s1 =>
  if x0_ = (112 : Int32) then
  some ((1 : Int32), s1)
  else
  if x0_ = (102 : Int32) then
  bnd (sI s1 35 2 (8 : Int32)) fun s5 =>
  some ((2 : Int32), s5)
  else
  if x0_ = (114 : Int32) then
  bnd (sI s1 35 2 (9 : Int32)) fun s3 =>
  some ((2 : Int32), s3)
  else
  some ((7 : Int32), s1)
theorem ct_X9_open {g : Gl} {x0_ : Int32} {s : Sg} {w : Int32 × Sg}  (h : fX9_open x0_ s = some w) : Ct SS g iX9_open 0 0 [.ref (gad g 35), .int x0_] s (Dt (some (.int w.1)) w.2) := by
  refine Ct.ofV (by decide +kernel) 0 (lv0 := [some (.ref (gad g 35)), some (.int x0_)]) rfl rfl (fun M hC => ?_)
  have hP : (Dt (some (.int w.1)) w.2) (some (.int w.1)) w.2 := ⟨rfl, rfl⟩
  generalize Dt (some (.int w.1)) w.2 = P at hP ⊢
  unfold fX9_open at h
  refine v_aload_n (pc := 0) hC dX9_open_0 rfl ?_
  refine v_iconst (pc := 1) (1 : Int32) rfl hC dX9_open_1 ?_
  obtain ⟨s1, hs1, h⟩ := bnd_s h
  refine v_pI (pc := 2) 3 hC s_35 rfl rfl rfl rfl rfl rfl fl_X9_23 hs1 dX9_open_2 ?_
  refine v_iload_n (pc := 5) hC dX9_open_5 rfl ?_
  refine v_bipush (pc := 6) (112 : Int32) rfl hC dX9_open_6 ?_
  refine v_ic_ne (pc := 8) (tgt := 13) hC dX9_open_8 rfl (fun c6 => ?_) (fun c6 => ?_)
  · replace h := (if_neg c6).symm.trans h
    refine v_iload_n (pc := 13) hC dX9_open_13 rfl ?_
    refine v_bipush (pc := 14) (102 : Int32) rfl hC dX9_open_14 ?_
    refine v_ic_ne (pc := 16) (tgt := 27) hC dX9_open_16 rfl (fun c4 => ?_) (fun c4 => ?_)
    · replace h := (if_neg c4).symm.trans h
      refine v_iload_n (pc := 27) hC dX9_open_27 rfl ?_
      refine v_bipush (pc := 28) (114 : Int32) rfl hC dX9_open_28 ?_
      refine v_ic_ne (pc := 30) (tgt := 41) hC dX9_open_30 rfl (fun c2 => ?_) (fun c2 => ?_)
      · replace h := (if_neg c2).symm.trans h
        refine v_bipush (pc := 41) (7 : Int32) rfl hC dX9_open_41 ?_
        obtain rfl := Option.some.inj h
        exact v_iret (pc := 43) hC rfl dX9_open_43 hP
      · replace h := (if_pos c2).symm.trans h
        refine v_aload_n (pc := 33) hC dX9_open_33 rfl ?_
        refine v_bipush (pc := 34) (9 : Int32) rfl hC dX9_open_34 ?_
        obtain ⟨s3, hs3, h⟩ := bnd_s h
        refine v_pI (pc := 36) 2 hC s_35 rfl rfl rfl rfl rfl rfl fl_X9_19 hs3 dX9_open_36 ?_
        refine v_iconst (pc := 39) (2 : Int32) rfl hC dX9_open_39 ?_
        obtain rfl := Option.some.inj h
        exact v_iret (pc := 40) hC rfl dX9_open_40 hP
    · replace h := (if_pos c4).symm.trans h
      refine v_aload_n (pc := 19) hC dX9_open_19 rfl ?_
      refine v_bipush (pc := 20) (8 : Int32) rfl hC dX9_open_20 ?_
      obtain ⟨s5, hs5, h⟩ := bnd_s h
      refine v_pI (pc := 22) 2 hC s_35 rfl rfl rfl rfl rfl rfl fl_X9_19 hs5 dX9_open_22 ?_
      refine v_iconst (pc := 25) (2 : Int32) rfl hC dX9_open_25 ?_
      obtain rfl := Option.some.inj h
      exact v_iret (pc := 26) hC rfl dX9_open_26 hP
  · replace h := (if_pos c6).symm.trans h
    refine v_iconst (pc := 11) (1 : Int32) rfl hC dX9_open_11 ?_
    obtain rfl := Option.some.inj h
    exact v_iret (pc := 12) hC rfl dX9_open_12 hP
theorem dX10_within_0 : decode cX10_within 0 = .ok (.iload_n 0, 1) := by decide +kernel
theorem dX10_within_1 : decode cX10_within 1 = .ok (.iload_n 1, 1) := by decide +kernel
theorem dX10_within_2 : decode cX10_within 2 = .ok (.if_icmp .lt 12, 3) := by decide +kernel
theorem dX10_within_5 : decode cX10_within 5 = .ok (.iload_n 0, 1) := by decide +kernel
theorem dX10_within_6 : decode cX10_within 6 = .ok (.iload_n 2, 1) := by decide +kernel
theorem dX10_within_7 : decode cX10_within 7 = .ok (.if_icmp .gt 7, 3) := by decide +kernel
theorem dX10_within_10 : decode cX10_within 10 = .ok (.iconst 1, 1) := by decide +kernel
theorem dX10_within_11 : decode cX10_within 11 = .ok (.goto 4, 3) := by decide +kernel
theorem dX10_within_14 : decode cX10_within 14 = .ok (.iconst 0, 1) := by decide +kernel
theorem dX10_within_15 : decode cX10_within 15 = .ok (.ireturn, 1) := by decide +kernel
def fX10_within (x0_ : Int32) (x1_ : Int32) (x2_ : Int32) (s : Sg) : Option (Int32 × Sg) :=
  if x0_ < x1_ then
  some ((0 : Int32), s)
  else
  if x2_ < x0_ then
  some ((0 : Int32), s)
  else
  some ((1 : Int32), s)
theorem ct_X10_within {g : Gl} {x0_ : Int32} {x1_ : Int32} {x2_ : Int32} {s : Sg} {w : Int32 × Sg}  (h : fX10_within x0_ x1_ x2_ s = some w) : Ct SS g iX10_within 0 0 [.int x0_, .int x1_, .int x2_] s (Dt (some (.int w.1)) w.2) := by
  refine Ct.ofV (by decide +kernel) 0 (lv0 := [some (.int x0_), some (.int x1_), some (.int x2_)]) rfl rfl (fun M hC => ?_)
  have hP : (Dt (some (.int w.1)) w.2) (some (.int w.1)) w.2 := ⟨rfl, rfl⟩
  generalize Dt (some (.int w.1)) w.2 = P at hP ⊢
  unfold fX10_within at h
  refine v_iload_n (pc := 0) hC dX10_within_0 rfl ?_
  refine v_iload_n (pc := 1) hC dX10_within_1 rfl ?_
  refine v_ic_lt (pc := 2) (tgt := 14) hC dX10_within_2 rfl (fun c1 => ?_) (fun c1 => ?_)
  · replace h := (if_pos c1).symm.trans h
    refine v_iconst (pc := 14) (0 : Int32) rfl hC dX10_within_14 ?_
    obtain rfl := Option.some.inj h
    exact v_zret (pc := 15) hC rfl rfl dX10_within_15 hP
  · replace h := (if_neg c1).symm.trans h
    refine v_iload_n (pc := 5) hC dX10_within_5 rfl ?_
    refine v_iload_n (pc := 6) hC dX10_within_6 rfl ?_
    refine v_ic_gt (pc := 7) (tgt := 14) hC dX10_within_7 rfl (fun c2 => ?_) (fun c2 => ?_)
    · replace h := (if_pos c2).symm.trans h
      refine v_iconst (pc := 14) (0 : Int32) rfl hC dX10_within_14 ?_
      obtain rfl := Option.some.inj h
      exact v_zret (pc := 15) hC rfl rfl dX10_within_15 hP
    · replace h := (if_neg c2).symm.trans h
      refine v_iconst (pc := 10) (1 : Int32) rfl hC dX10_within_10 ?_
      refine v_goto (pc := 11) (tgt := 15) hC dX10_within_11 rfl ?_
      obtain rfl := Option.some.inj h
      exact v_zret (pc := 15) hC rfl rfl dX10_within_15 hP
theorem dX10_isLane_0 : decode cX10_isLane 0 = .ok (.iload_n 0, 1) := by decide +kernel
theorem dX10_isLane_1 : decode cX10_isLane 1 = .ok (.iconst 0, 1) := by decide +kernel
theorem dX10_isLane_2 : decode cX10_isLane 2 = .ok (.bipush 7, 2) := by decide +kernel
theorem dX10_isLane_4 : decode cX10_isLane 4 = .ok (.invokestatic 126, 3) := by decide +kernel
theorem dX10_isLane_7 : decode cX10_isLane 7 = .ok (.ireturn, 1) := by decide +kernel
def fX10_isLane (x0_ : Int32) (s : Sg) : Option (Int32 × Sg) :=
  (fX10_within x0_ (0 : Int32) (7 : Int32) s).bind fun w1 =>
  (zr w1.1).bind fun z2 =>
  some (z2, w1.2)
theorem ct_X10_isLane {g : Gl} {x0_ : Int32} {s : Sg} {w : Int32 × Sg}  (h : fX10_isLane x0_ s = some w) : Ct SS g iX10_isLane 1 22 [.int x0_] s (Dt (some (.int w.1)) w.2) := by
  refine Ct.ofV (by decide +kernel) 0 (lv0 := [some (.int x0_)]) rfl rfl (fun M hC => ?_)
  have hP : (Dt (some (.int w.1)) w.2) (some (.int w.1)) w.2 := ⟨rfl, rfl⟩
  generalize Dt (some (.int w.1)) w.2 = P at hP ⊢
  unfold fX10_isLane at h
  refine v_iload_n (pc := 0) hC dX10_isLane_0 rfl ?_
  refine v_iconst (pc := 1) (0 : Int32) rfl hC dX10_isLane_1 ?_
  refine v_bipush (pc := 2) (7 : Int32) rfl hC dX10_isLane_2 ?_
  obtain ⟨w1, hw1, h⟩ := obd_s h
  refine v_cS (pc := 4) [] [.int w1.1] gm_X10_within hC (ct_X10_within  hw1) ml_X10_126 rfl rfl rfl rfl rfl rfl dX10_isLane_4 ?_
  obtain ⟨z2, hz2, h⟩ := obd_s h
  obtain rfl := Option.some.inj h
  exact v_zr (pc := 7) hC rfl hz2 dX10_isLane_7 hP
theorem dX9_choose_0 : decode cX9_choose 0 = .ok (.iload_n 1, 1) := by decide +kernel
theorem dX9_choose_1 : decode cX9_choose 1 = .ok (.invokestatic 48, 3) := by decide +kernel
theorem dX9_choose_4 : decode cX9_choose 4 = .ok (.ifCond .ne 6, 3) := by decide +kernel
theorem dX9_choose_7 : decode cX9_choose 7 = .ok (.bipush 7, 2) := by decide +kernel
theorem dX9_choose_9 : decode cX9_choose 9 = .ok (.ireturn, 1) := by decide +kernel
theorem dX9_choose_10 : decode cX9_choose 10 = .ok (.aload_n 0, 1) := by decide +kernel
theorem dX9_choose_11 : decode cX9_choose 11 = .ok (.iload_n 1, 1) := by decide +kernel
theorem dX9_choose_12 : decode cX9_choose 12 = .ok (.putfield 19, 3) := by decide +kernel
theorem dX9_choose_15 : decode cX9_choose 15 = .ok (.iconst 2, 1) := by decide +kernel
theorem dX9_choose_16 : decode cX9_choose 16 = .ok (.ireturn, 1) := by decide +kernel
def fX9_choose (x0_ : Int32) (s : Sg) : Option (Int32 × Sg) :=
  (fX10_isLane x0_ s).bind fun w1 =>
  if w1.1 = 0 then
  some ((7 : Int32), w1.2)
  else
  bnd (sI w1.2 35 2 x0_) fun s2 =>
  some ((2 : Int32), s2)
theorem ct_X9_choose {g : Gl} {x0_ : Int32} {s : Sg} {w : Int32 × Sg}  (h : fX9_choose x0_ s = some w) : Ct SS g iX9_choose 2 42 [.ref (gad g 35), .int x0_] s (Dt (some (.int w.1)) w.2) := by
  refine Ct.ofV (by decide +kernel) 0 (lv0 := [some (.ref (gad g 35)), some (.int x0_)]) rfl rfl (fun M hC => ?_)
  have hP : (Dt (some (.int w.1)) w.2) (some (.int w.1)) w.2 := ⟨rfl, rfl⟩
  generalize Dt (some (.int w.1)) w.2 = P at hP ⊢
  unfold fX9_choose at h
  refine v_iload_n (pc := 0) hC dX9_choose_0 rfl ?_
  obtain ⟨w1, hw1, h⟩ := obd_s h
  refine v_cSN (pc := 1) [] [.int w1.1] gm_X10_isLane hC (ct_X10_isLane  hw1) ml_X9_48 rfl rfl rfl rfl rfl rfl dX9_choose_1 ?_
  refine v_if_ne (pc := 4) (tgt := 10) hC dX9_choose_4 rfl (fun c3 => ?_) (fun c3 => ?_)
  · replace h := (if_neg c3).symm.trans h
    refine v_aload_n (pc := 10) hC dX9_choose_10 rfl ?_
    refine v_iload_n (pc := 11) hC dX9_choose_11 rfl ?_
    obtain ⟨s2, hs2, h⟩ := bnd_s h
    refine v_pI (pc := 12) 2 hC s_35 rfl rfl rfl rfl rfl rfl fl_X9_19 hs2 dX9_choose_12 ?_
    refine v_iconst (pc := 15) (2 : Int32) rfl hC dX9_choose_15 ?_
    obtain rfl := Option.some.inj h
    exact v_iret (pc := 16) hC rfl dX9_choose_16 hP
  · replace h := (if_pos c3).symm.trans h
    refine v_bipush (pc := 7) (7 : Int32) rfl hC dX9_choose_7 ?_
    obtain rfl := Option.some.inj h
    exact v_iret (pc := 9) hC rfl dX9_choose_9 hP
theorem dX9_turn_0 : decode cX9_turn 0 = .ok (.aload_n 0, 1) := by decide +kernel
theorem dX9_turn_1 : decode cX9_turn 1 = .ok (.iconst (-1), 1) := by decide +kernel
theorem dX9_turn_2 : decode cX9_turn 2 = .ok (.putfield 23, 3) := by decide +kernel
theorem dX9_turn_5 : decode cX9_turn 5 = .ok (.iconst 4, 1) := by decide +kernel
theorem dX9_turn_6 : decode cX9_turn 6 = .ok (.ireturn, 1) := by decide +kernel
def fX9_turn  (s : Sg) : Option (Int32 × Sg) :=
  bnd (sI s 35 3 (-1 : Int32)) fun s1 =>
  some ((4 : Int32), s1)
theorem ct_X9_turn {g : Gl}  {s : Sg} {w : Int32 × Sg}  (h : fX9_turn s = some w) : Ct SS g iX9_turn 0 0 [.ref (gad g 35)] s (Dt (some (.int w.1)) w.2) := by
  refine Ct.ofV (by decide +kernel) 0 (lv0 := [some (.ref (gad g 35))]) rfl rfl (fun M hC => ?_)
  have hP : (Dt (some (.int w.1)) w.2) (some (.int w.1)) w.2 := ⟨rfl, rfl⟩
  generalize Dt (some (.int w.1)) w.2 = P at hP ⊢
  unfold fX9_turn at h
  refine v_aload_n (pc := 0) hC dX9_turn_0 rfl ?_
  refine v_iconst (pc := 1) (-1 : Int32) rfl hC dX9_turn_1 ?_
  obtain ⟨s1, hs1, h⟩ := bnd_s h
  refine v_pI (pc := 2) 3 hC s_35 rfl rfl rfl rfl rfl rfl fl_X9_23 hs1 dX9_turn_2 ?_
  refine v_iconst (pc := 5) (4 : Int32) rfl hC dX9_turn_5 ?_
  obtain rfl := Option.some.inj h
  exact v_iret (pc := 6) hC rfl dX9_turn_6 hP
theorem dX9_isFigure_0 : decode cX9_isFigure 0 = .ok (.iload_n 0, 1) := by decide +kernel
theorem dX9_isFigure_1 : decode cX9_isFigure 1 = .ok (.iconst 0, 1) := by decide +kernel
theorem dX9_isFigure_2 : decode cX9_isFigure 2 = .ok (.bipush 9, 2) := by decide +kernel
theorem dX9_isFigure_4 : decode cX9_isFigure 4 = .ok (.invokestatic 68, 3) := by decide +kernel
theorem dX9_isFigure_7 : decode cX9_isFigure 7 = .ok (.ireturn, 1) := by decide +kernel
def fX9_isFigure (x0_ : Int32) (s : Sg) : Option (Int32 × Sg) :=
  (fX10_within x0_ (0 : Int32) (9 : Int32) s).bind fun w1 =>
  (zr w1.1).bind fun z2 =>
  some (z2, w1.2)
theorem ct_X9_isFigure {g : Gl} {x0_ : Int32} {s : Sg} {w : Int32 × Sg}  (h : fX9_isFigure x0_ s = some w) : Ct SS g iX9_isFigure 1 22 [.int x0_] s (Dt (some (.int w.1)) w.2) := by
  refine Ct.ofV (by decide +kernel) 0 (lv0 := [some (.int x0_)]) rfl rfl (fun M hC => ?_)
  have hP : (Dt (some (.int w.1)) w.2) (some (.int w.1)) w.2 := ⟨rfl, rfl⟩
  generalize Dt (some (.int w.1)) w.2 = P at hP ⊢
  unfold fX9_isFigure at h
  refine v_iload_n (pc := 0) hC dX9_isFigure_0 rfl ?_
  refine v_iconst (pc := 1) (0 : Int32) rfl hC dX9_isFigure_1 ?_
  refine v_bipush (pc := 2) (9 : Int32) rfl hC dX9_isFigure_2 ?_
  obtain ⟨w1, hw1, h⟩ := obd_s h
  refine v_cSN (pc := 4) [] [.int w1.1] gm_X10_within hC (ct_X10_within  hw1) ml_X9_68 rfl rfl rfl rfl rfl rfl dX9_isFigure_4 ?_
  obtain ⟨z2, hz2, h⟩ := obd_s h
  obtain rfl := Option.some.inj h
  exact v_zr (pc := 7) hC rfl hz2 dX9_isFigure_7 hP
theorem dX9_begin_0 : decode cX9_begin 0 = .ok (.iload_n 1, 1) := by decide +kernel
theorem dX9_begin_1 : decode cX9_begin 1 = .ok (.invokestatic 59, 3) := by decide +kernel
theorem dX9_begin_4 : decode cX9_begin 4 = .ok (.ifCond .ne 6, 3) := by decide +kernel
theorem dX9_begin_7 : decode cX9_begin 7 = .ok (.bipush 7, 2) := by decide +kernel
theorem dX9_begin_9 : decode cX9_begin 9 = .ok (.ireturn, 1) := by decide +kernel
theorem dX9_begin_10 : decode cX9_begin 10 = .ok (.aload_n 0, 1) := by decide +kernel
theorem dX9_begin_11 : decode cX9_begin 11 = .ok (.getfield 15, 3) := by decide +kernel
theorem dX9_begin_14 : decode cX9_begin 14 = .ok (.aload_n 0, 1) := by decide +kernel
theorem dX9_begin_15 : decode cX9_begin 15 = .ok (.getfield 19, 3) := by decide +kernel
theorem dX9_begin_18 : decode cX9_begin 18 = .ok (.aload_n 0, 1) := by decide +kernel
theorem dX9_begin_19 : decode cX9_begin 19 = .ok (.getfield 23, 3) := by decide +kernel
theorem dX9_begin_22 : decode cX9_begin 22 = .ok (.iload_n 1, 1) := by decide +kernel
theorem dX9_begin_23 : decode cX9_begin 23 = .ok (.imul, 1) := by decide +kernel
theorem dX9_begin_24 : decode cX9_begin 24 = .ok (.iastore, 1) := by decide +kernel
theorem dX9_begin_25 : decode cX9_begin 25 = .ok (.aload_n 0, 1) := by decide +kernel
theorem dX9_begin_26 : decode cX9_begin 26 = .ok (.getfield 19, 3) := by decide +kernel
theorem dX9_begin_29 : decode cX9_begin 29 = .ok (.bipush 9, 2) := by decide +kernel
theorem dX9_begin_31 : decode cX9_begin 31 = .ok (.if_icmp .ne 8, 3) := by decide +kernel
theorem dX9_begin_34 : decode cX9_begin 34 = .ok (.bipush 6, 2) := by decide +kernel
theorem dX9_begin_36 : decode cX9_begin 36 = .ok (.goto 4, 3) := by decide +kernel
theorem dX9_begin_39 : decode cX9_begin 39 = .ok (.iconst 5, 1) := by decide +kernel
theorem dX9_begin_40 : decode cX9_begin 40 = .ok (.ireturn, 1) := by decide +kernel
def fX9_begin (x0_ : Int32) (s : Sg) : Option (Int32 × Sg) :=
  (fX9_isFigure x0_ s).bind fun w1 =>
  if w1.1 = 0 then
  some ((7 : Int32), w1.2)
  else
  (wI w1.2 36 10 (gI w1.2 35 2) ((gI w1.2 35 3) * x0_)).bind fun s2 =>
  if (gI s2 35 2) = (9 : Int32) then
  some ((6 : Int32), s2)
  else
  some ((5 : Int32), s2)
theorem ct_X9_begin {g : Gl} {x0_ : Int32} {s : Sg} {w : Int32 × Sg}  (h : fX9_begin x0_ s = some w) : Ct SS g iX9_begin 2 42 [.ref (gad g 35), .int x0_] s (Dt (some (.int w.1)) w.2) := by
  refine Ct.ofV (by decide +kernel) 0 (lv0 := [some (.ref (gad g 35)), some (.int x0_)]) rfl rfl (fun M hC => ?_)
  have hP : (Dt (some (.int w.1)) w.2) (some (.int w.1)) w.2 := ⟨rfl, rfl⟩
  generalize Dt (some (.int w.1)) w.2 = P at hP ⊢
  unfold fX9_begin at h
  refine v_iload_n (pc := 0) hC dX9_begin_0 rfl ?_
  obtain ⟨w1, hw1, h⟩ := obd_s h
  refine v_cS (pc := 1) [] [.int w1.1] gm_X9_isFigure hC (ct_X9_isFigure  hw1) ml_X9_59 rfl rfl rfl rfl rfl rfl dX9_begin_1 ?_
  refine v_if_ne (pc := 4) (tgt := 10) hC dX9_begin_4 rfl (fun c4 => ?_) (fun c4 => ?_)
  · replace h := (if_neg c4).symm.trans h
    refine v_aload_n (pc := 10) hC dX9_begin_10 rfl ?_
    refine v_gt (pc := 11) 1 (.ref (gad g 36)) hC s_35 rfl rfl rfl rfl fl_X9_15 dX9_begin_11 ?_
    refine v_aload_n (pc := 14) hC dX9_begin_14 rfl ?_
    refine v_gt (pc := 15) 2 (.int (gI w1.2 35 2)) hC s_35 rfl rfl rfl rfl fl_X9_19 dX9_begin_15 ?_
    refine v_aload_n (pc := 18) hC dX9_begin_18 rfl ?_
    refine v_gt (pc := 19) 3 (.int (gI w1.2 35 3)) hC s_35 rfl rfl rfl rfl fl_X9_23 dX9_begin_19 ?_
    refine v_iload_n (pc := 22) hC dX9_begin_22 rfl ?_
    refine v_imul (pc := 23) hC dX9_begin_23 ?_
    obtain ⟨s2, hs2, h⟩ := obd_s h
    refine v_wI (pc := 24) hC s_36 hs2 dX9_begin_24 ?_
    refine v_aload_n (pc := 25) hC dX9_begin_25 rfl ?_
    refine v_gt (pc := 26) 2 (.int (gI s2 35 2)) hC s_35 rfl rfl rfl rfl fl_X9_19 dX9_begin_26 ?_
    refine v_bipush (pc := 29) (9 : Int32) rfl hC dX9_begin_29 ?_
    refine v_ic_ne (pc := 31) (tgt := 39) hC dX9_begin_31 rfl (fun c3 => ?_) (fun c3 => ?_)
    · replace h := (if_neg c3).symm.trans h
      refine v_iconst (pc := 39) (5 : Int32) rfl hC dX9_begin_39 ?_
      obtain rfl := Option.some.inj h
      exact v_iret (pc := 40) hC rfl dX9_begin_40 hP
    · replace h := (if_pos c3).symm.trans h
      refine v_bipush (pc := 34) (6 : Int32) rfl hC dX9_begin_34 ?_
      refine v_goto (pc := 36) (tgt := 40) hC dX9_begin_36 rfl ?_
      obtain rfl := Option.some.inj h
      exact v_iret (pc := 40) hC rfl dX9_begin_40 hP
  · replace h := (if_pos c4).symm.trans h
    refine v_bipush (pc := 7) (7 : Int32) rfl hC dX9_begin_7 ?_
    obtain rfl := Option.some.inj h
    exact v_iret (pc := 9) hC rfl dX9_begin_9 hP
theorem dX9_end_0 : decode cX9_end 0 = .ok (.aload_n 0, 1) := by decide +kernel
theorem dX9_end_1 : decode cX9_end 1 = .ok (.getfield 15, 3) := by decide +kernel
theorem dX9_end_4 : decode cX9_end 4 = .ok (.aload_n 0, 1) := by decide +kernel
theorem dX9_end_5 : decode cX9_end 5 = .ok (.getfield 19, 3) := by decide +kernel
theorem dX9_end_8 : decode cX9_end 8 = .ok (.bipush 10, 2) := by decide +kernel
theorem dX9_end_10 : decode cX9_end 10 = .ok (.aload_n 0, 1) := by decide +kernel
theorem dX9_end_11 : decode cX9_end 11 = .ok (.getfield 15, 3) := by decide +kernel
theorem dX9_end_14 : decode cX9_end 14 = .ok (.aload_n 0, 1) := by decide +kernel
theorem dX9_end_15 : decode cX9_end 15 = .ok (.getfield 19, 3) := by decide +kernel
theorem dX9_end_18 : decode cX9_end 18 = .ok (.iaload, 1) := by decide +kernel
theorem dX9_end_19 : decode cX9_end 19 = .ok (.imul, 1) := by decide +kernel
theorem dX9_end_20 : decode cX9_end 20 = .ok (.aload_n 0, 1) := by decide +kernel
theorem dX9_end_21 : decode cX9_end 21 = .ok (.getfield 23, 3) := by decide +kernel
theorem dX9_end_24 : decode cX9_end 24 = .ok (.iload_n 1, 1) := by decide +kernel
theorem dX9_end_25 : decode cX9_end 25 = .ok (.imul, 1) := by decide +kernel
theorem dX9_end_26 : decode cX9_end 26 = .ok (.iadd, 1) := by decide +kernel
theorem dX9_end_27 : decode cX9_end 27 = .ok (.iastore, 1) := by decide +kernel
theorem dX9_end_28 : decode cX9_end 28 = .ok (.bipush 6, 2) := by decide +kernel
theorem dX9_end_30 : decode cX9_end 30 = .ok (.ireturn, 1) := by decide +kernel
def fX9_end (x0_ : Int32) (s : Sg) : Option (Int32 × Sg) :=
  (aI s 36 10 (gI s 35 2)).bind fun v1 =>
  (wI s 36 10 (gI s 35 2) (((10 : Int32) * v1) + ((gI s 35 3) * x0_))).bind fun s2 =>
  some ((6 : Int32), s2)
theorem ct_X9_end {g : Gl} {x0_ : Int32} {s : Sg} {w : Int32 × Sg}  (h : fX9_end x0_ s = some w) : Ct SS g iX9_end 0 0 [.ref (gad g 35), .int x0_] s (Dt (some (.int w.1)) w.2) := by
  refine Ct.ofV (by decide +kernel) 0 (lv0 := [some (.ref (gad g 35)), some (.int x0_)]) rfl rfl (fun M hC => ?_)
  have hP : (Dt (some (.int w.1)) w.2) (some (.int w.1)) w.2 := ⟨rfl, rfl⟩
  generalize Dt (some (.int w.1)) w.2 = P at hP ⊢
  unfold fX9_end at h
  refine v_aload_n (pc := 0) hC dX9_end_0 rfl ?_
  refine v_gt (pc := 1) 1 (.ref (gad g 36)) hC s_35 rfl rfl rfl rfl fl_X9_15 dX9_end_1 ?_
  refine v_aload_n (pc := 4) hC dX9_end_4 rfl ?_
  refine v_gt (pc := 5) 2 (.int (gI s 35 2)) hC s_35 rfl rfl rfl rfl fl_X9_19 dX9_end_5 ?_
  refine v_bipush (pc := 8) (10 : Int32) rfl hC dX9_end_8 ?_
  refine v_aload_n (pc := 10) hC dX9_end_10 rfl ?_
  refine v_gt (pc := 11) 1 (.ref (gad g 36)) hC s_35 rfl rfl rfl rfl fl_X9_15 dX9_end_11 ?_
  refine v_aload_n (pc := 14) hC dX9_end_14 rfl ?_
  refine v_gt (pc := 15) 2 (.int (gI s 35 2)) hC s_35 rfl rfl rfl rfl fl_X9_19 dX9_end_15 ?_
  obtain ⟨v1, hv1, h⟩ := obd_s h
  refine v_aI (pc := 18) hC s_36 hv1 dX9_end_18 ?_
  refine v_imul (pc := 19) hC dX9_end_19 ?_
  refine v_aload_n (pc := 20) hC dX9_end_20 rfl ?_
  refine v_gt (pc := 21) 3 (.int (gI s 35 3)) hC s_35 rfl rfl rfl rfl fl_X9_23 dX9_end_21 ?_
  refine v_iload_n (pc := 24) hC dX9_end_24 rfl ?_
  refine v_imul (pc := 25) hC dX9_end_25 ?_
  refine v_iadd (pc := 26) hC dX9_end_26 ?_
  obtain ⟨s2, hs2, h⟩ := obd_s h
  refine v_wI (pc := 27) hC s_36 hs2 dX9_end_27 ?_
  refine v_bipush (pc := 28) (6 : Int32) rfl hC dX9_end_28 ?_
  obtain rfl := Option.some.inj h
  exact v_iret (pc := 30) hC rfl dX9_end_30 hP
theorem dX9_close_0 : decode cX9_close 0 = .ok (.iload_n 0, 1) := by decide +kernel
theorem dX9_close_1 : decode cX9_close 1 = .ok (.bipush 59, 2) := by decide +kernel
theorem dX9_close_3 : decode cX9_close 3 = .ok (.if_icmp .ne 7, 3) := by decide +kernel
theorem dX9_close_6 : decode cX9_close 6 = .ok (.iconst 0, 1) := by decide +kernel
theorem dX9_close_7 : decode cX9_close 7 = .ok (.goto 5, 3) := by decide +kernel
theorem dX9_close_10 : decode cX9_close 10 = .ok (.bipush 7, 2) := by decide +kernel
theorem dX9_close_12 : decode cX9_close 12 = .ok (.ireturn, 1) := by decide +kernel
def fX9_close (x0_ : Int32) (s : Sg) : Option (Int32 × Sg) :=
  if x0_ = (59 : Int32) then
  some ((0 : Int32), s)
  else
  some ((7 : Int32), s)
theorem ct_X9_close {g : Gl} {x0_ : Int32} {s : Sg} {w : Int32 × Sg}  (h : fX9_close x0_ s = some w) : Ct SS g iX9_close 0 0 [.int x0_] s (Dt (some (.int w.1)) w.2) := by
  refine Ct.ofV (by decide +kernel) 0 (lv0 := [some (.int x0_)]) rfl rfl (fun M hC => ?_)
  have hP : (Dt (some (.int w.1)) w.2) (some (.int w.1)) w.2 := ⟨rfl, rfl⟩
  generalize Dt (some (.int w.1)) w.2 = P at hP ⊢
  unfold fX9_close at h
  refine v_iload_n (pc := 0) hC dX9_close_0 rfl ?_
  refine v_bipush (pc := 1) (59 : Int32) rfl hC dX9_close_1 ?_
  refine v_ic_ne (pc := 3) (tgt := 10) hC dX9_close_3 rfl (fun c1 => ?_) (fun c1 => ?_)
  · replace h := (if_neg c1).symm.trans h
    refine v_bipush (pc := 10) (7 : Int32) rfl hC dX9_close_10 ?_
    obtain rfl := Option.some.inj h
    exact v_iret (pc := 12) hC rfl dX9_close_12 hP
  · replace h := (if_pos c1).symm.trans h
    refine v_iconst (pc := 6) (0 : Int32) rfl hC dX9_close_6 ?_
    refine v_goto (pc := 7) (tgt := 12) hC dX9_close_7 rfl ?_
    obtain rfl := Option.some.inj h
    exact v_iret (pc := 12) hC rfl dX9_close_12 hP
theorem dX9_next_0 : decode cX9_next 0 = .ok (.iload_n 1, 1) := by decide +kernel
theorem dX9_next_1 : decode cX9_next 1 = .ok (.tableswitch 143 0 6 #[43, 49, 58, 71, 103, 112, 138], 43) := by decide +kernel
theorem dX9_next_44 : decode cX9_next 44 = .ok (.aload_n 0, 1) := by decide +kernel
theorem dX9_next_45 : decode cX9_next 45 = .ok (.iload_n 2, 1) := by decide +kernel
theorem dX9_next_46 : decode cX9_next 46 = .ok (.invokevirtual 41, 3) := by decide +kernel
theorem dX9_next_49 : decode cX9_next 49 = .ok (.ireturn, 1) := by decide +kernel
theorem dX9_next_50 : decode cX9_next 50 = .ok (.aload_n 0, 1) := by decide +kernel
theorem dX9_next_51 : decode cX9_next 51 = .ok (.iload_n 2, 1) := by decide +kernel
theorem dX9_next_52 : decode cX9_next 52 = .ok (.bipush 48, 2) := by decide +kernel
theorem dX9_next_54 : decode cX9_next 54 = .ok (.isub, 1) := by decide +kernel
theorem dX9_next_55 : decode cX9_next 55 = .ok (.invokevirtual 45, 3) := by decide +kernel
theorem dX9_next_58 : decode cX9_next 58 = .ok (.ireturn, 1) := by decide +kernel
theorem dX9_next_59 : decode cX9_next 59 = .ok (.iload_n 2, 1) := by decide +kernel
theorem dX9_next_60 : decode cX9_next 60 = .ok (.bipush 61, 2) := by decide +kernel
theorem dX9_next_62 : decode cX9_next 62 = .ok (.if_icmp .ne 7, 3) := by decide +kernel
theorem dX9_next_65 : decode cX9_next 65 = .ok (.iconst 3, 1) := by decide +kernel
theorem dX9_next_66 : decode cX9_next 66 = .ok (.goto 5, 3) := by decide +kernel
theorem dX9_next_69 : decode cX9_next 69 = .ok (.bipush 7, 2) := by decide +kernel
theorem dX9_next_71 : decode cX9_next 71 = .ok (.ireturn, 1) := by decide +kernel
theorem dX9_next_72 : decode cX9_next 72 = .ok (.iload_n 2, 1) := by decide +kernel
theorem dX9_next_73 : decode cX9_next 73 = .ok (.bipush 45, 2) := by decide +kernel
theorem dX9_next_75 : decode cX9_next 75 = .ok (.if_icmp .ne 20, 3) := by decide +kernel
theorem dX9_next_78 : decode cX9_next 78 = .ok (.aload_n 0, 1) := by decide +kernel
theorem dX9_next_79 : decode cX9_next 79 = .ok (.getfield 19, 3) := by decide +kernel
theorem dX9_next_82 : decode cX9_next 82 = .ok (.invokestatic 48, 3) := by decide +kernel
theorem dX9_next_85 : decode cX9_next 85 = .ok (.ifCond .eq 10, 3) := by decide +kernel
theorem dX9_next_88 : decode cX9_next 88 = .ok (.aload_n 0, 1) := by decide +kernel
theorem dX9_next_89 : decode cX9_next 89 = .ok (.invokevirtual 52, 3) := by decide +kernel
theorem dX9_next_92 : decode cX9_next 92 = .ok (.goto 11, 3) := by decide +kernel
theorem dX9_next_95 : decode cX9_next 95 = .ok (.aload_n 0, 1) := by decide +kernel
theorem dX9_next_96 : decode cX9_next 96 = .ok (.iload_n 2, 1) := by decide +kernel
theorem dX9_next_97 : decode cX9_next 97 = .ok (.bipush 48, 2) := by decide +kernel
theorem dX9_next_99 : decode cX9_next 99 = .ok (.isub, 1) := by decide +kernel
theorem dX9_next_100 : decode cX9_next 100 = .ok (.invokevirtual 56, 3) := by decide +kernel
theorem dX9_next_103 : decode cX9_next 103 = .ok (.ireturn, 1) := by decide +kernel
theorem dX9_next_104 : decode cX9_next 104 = .ok (.aload_n 0, 1) := by decide +kernel
theorem dX9_next_105 : decode cX9_next 105 = .ok (.iload_n 2, 1) := by decide +kernel
theorem dX9_next_106 : decode cX9_next 106 = .ok (.bipush 48, 2) := by decide +kernel
theorem dX9_next_108 : decode cX9_next 108 = .ok (.isub, 1) := by decide +kernel
theorem dX9_next_109 : decode cX9_next 109 = .ok (.invokevirtual 56, 3) := by decide +kernel
theorem dX9_next_112 : decode cX9_next 112 = .ok (.ireturn, 1) := by decide +kernel
theorem dX9_next_113 : decode cX9_next 113 = .ok (.iload_n 2, 1) := by decide +kernel
theorem dX9_next_114 : decode cX9_next 114 = .ok (.bipush 48, 2) := by decide +kernel
theorem dX9_next_116 : decode cX9_next 116 = .ok (.isub, 1) := by decide +kernel
theorem dX9_next_117 : decode cX9_next 117 = .ok (.invokestatic 59, 3) := by decide +kernel
theorem dX9_next_120 : decode cX9_next 120 = .ok (.ifCond .eq 14, 3) := by decide +kernel
theorem dX9_next_123 : decode cX9_next 123 = .ok (.aload_n 0, 1) := by decide +kernel
theorem dX9_next_124 : decode cX9_next 124 = .ok (.iload_n 2, 1) := by decide +kernel
theorem dX9_next_125 : decode cX9_next 125 = .ok (.bipush 48, 2) := by decide +kernel
theorem dX9_next_127 : decode cX9_next 127 = .ok (.isub, 1) := by decide +kernel
theorem dX9_next_128 : decode cX9_next 128 = .ok (.invokevirtual 62, 3) := by decide +kernel
theorem dX9_next_131 : decode cX9_next 131 = .ok (.goto 7, 3) := by decide +kernel
theorem dX9_next_134 : decode cX9_next 134 = .ok (.iload_n 2, 1) := by decide +kernel
theorem dX9_next_135 : decode cX9_next 135 = .ok (.invokestatic 65, 3) := by decide +kernel
theorem dX9_next_138 : decode cX9_next 138 = .ok (.ireturn, 1) := by decide +kernel
theorem dX9_next_139 : decode cX9_next 139 = .ok (.iload_n 2, 1) := by decide +kernel
theorem dX9_next_140 : decode cX9_next 140 = .ok (.invokestatic 65, 3) := by decide +kernel
theorem dX9_next_143 : decode cX9_next 143 = .ok (.ireturn, 1) := by decide +kernel
theorem dX9_next_144 : decode cX9_next 144 = .ok (.bipush 7, 2) := by decide +kernel
theorem dX9_next_146 : decode cX9_next 146 = .ok (.ireturn, 1) := by decide +kernel
def fX9_next (x0_ : Int32) (x1_ : Int32) (s : Sg) : Option (Int32 × Sg) :=
  if x0_ = (0 : Int32) then ((fX9_open x1_ s).bind fun w2 =>
  some (w2.1, w2.2)) else if x0_ = (1 : Int32) then ((fX9_choose (x1_ - (48 : Int32)) s).bind fun w4 =>
  some (w4.1, w4.2)) else if x0_ = (2 : Int32) then (if x1_ = (61 : Int32) then
  some ((3 : Int32), s)
  else
  some ((7 : Int32), s)) else if x0_ = (3 : Int32) then (if x1_ = (45 : Int32) then
  (fX10_isLane (gI s 35 2) s).bind fun w10 =>
  if w10.1 = 0 then
  (fX9_begin (x1_ - (48 : Int32)) w10.2).bind fun w11 =>
  some (w11.1, w11.2)
  else
  (fX9_turn w10.2).bind fun w13 =>
  some (w13.1, w13.2)
  else
  (fX9_begin (x1_ - (48 : Int32)) s).bind fun w8 =>
  some (w8.1, w8.2)) else if x0_ = (4 : Int32) then ((fX9_begin (x1_ - (48 : Int32)) s).bind fun w15 =>
  some (w15.1, w15.2)) else if x0_ = (5 : Int32) then ((fX9_isFigure (x1_ - (48 : Int32)) s).bind fun w17 =>
  if w17.1 = 0 then
  (fX9_close x1_ w17.2).bind fun w18 =>
  some (w18.1, w18.2)
  else
  (fX9_end (x1_ - (48 : Int32)) w17.2).bind fun w20 =>
  some (w20.1, w20.2)) else if x0_ = (6 : Int32) then ((fX9_close x1_ s).bind fun w22 =>
  some (w22.1, w22.2)) else (some ((7 : Int32), s))
theorem ct_X9_next {g : Gl} {x0_ : Int32} {x1_ : Int32} {s : Sg} {w : Int32 × Sg}  (h : fX9_next x0_ x1_ s = some w) : Ct SS g iX9_next 3 63 [.ref (gad g 35), .int x0_, .int x1_] s (Dt (some (.int w.1)) w.2) := by
  refine Ct.ofV (by decide +kernel) 0 (lv0 := [some (.ref (gad g 35)), some (.int x0_), some (.int x1_)]) rfl rfl (fun M hC => ?_)
  have hP : (Dt (some (.int w.1)) w.2) (some (.int w.1)) w.2 := ⟨rfl, rfl⟩
  generalize Dt (some (.int w.1)) w.2 = P at hP ⊢
  unfold fX9_next at h
  refine v_iload_n (pc := 0) hC dX9_next_0 rfl ?_
  by_cases c1 : x0_ = (0 : Int32)
  · replace h := (if_pos c1).symm.trans h
    refine v_tsIn (pc := 1) (tgt := 44) hC dX9_next_1 (by rw [c1]; decide) (by rw [c1]; decide) (by rw [c1]; rfl) rfl ?_
    refine v_aload_n (pc := 44) hC dX9_next_44 rfl ?_
    refine v_iload_n (pc := 45) hC dX9_next_45 rfl ?_
    obtain ⟨w2, hw2, h⟩ := obd_s h
    refine v_cV (pc := 46) [] [.int w2.1] gm_X9_open hC s_35 rfl rfl (ct_X9_open  hw2) ml_X9_41 rfl rfl rfl rfl rfl rfl dX9_next_46 ?_
    obtain rfl := Option.some.inj h
    exact v_iret (pc := 49) hC rfl dX9_next_49 hP
  replace h := (if_neg c1).symm.trans h
  by_cases c3 : x0_ = (1 : Int32)
  · replace h := (if_pos c3).symm.trans h
    refine v_tsIn (pc := 1) (tgt := 50) hC dX9_next_1 (by rw [c3]; decide) (by rw [c3]; decide) (by rw [c3]; rfl) rfl ?_
    refine v_aload_n (pc := 50) hC dX9_next_50 rfl ?_
    refine v_iload_n (pc := 51) hC dX9_next_51 rfl ?_
    refine v_bipush (pc := 52) (48 : Int32) rfl hC dX9_next_52 ?_
    refine v_isub (pc := 54) hC dX9_next_54 ?_
    obtain ⟨w4, hw4, h⟩ := obd_s h
    refine v_cV (pc := 55) [] [.int w4.1] gm_X9_choose hC s_35 rfl rfl (ct_X9_choose  hw4) ml_X9_45 rfl rfl rfl rfl rfl rfl dX9_next_55 ?_
    obtain rfl := Option.some.inj h
    exact v_iret (pc := 58) hC rfl dX9_next_58 hP
  replace h := (if_neg c3).symm.trans h
  by_cases c5 : x0_ = (2 : Int32)
  · replace h := (if_pos c5).symm.trans h
    refine v_tsIn (pc := 1) (tgt := 59) hC dX9_next_1 (by rw [c5]; decide) (by rw [c5]; decide) (by rw [c5]; rfl) rfl ?_
    refine v_iload_n (pc := 59) hC dX9_next_59 rfl ?_
    refine v_bipush (pc := 60) (61 : Int32) rfl hC dX9_next_60 ?_
    refine v_ic_ne (pc := 62) (tgt := 69) hC dX9_next_62 rfl (fun c6 => ?_) (fun c6 => ?_)
    · replace h := (if_neg c6).symm.trans h
      refine v_bipush (pc := 69) (7 : Int32) rfl hC dX9_next_69 ?_
      obtain rfl := Option.some.inj h
      exact v_iret (pc := 71) hC rfl dX9_next_71 hP
    · replace h := (if_pos c6).symm.trans h
      refine v_iconst (pc := 65) (3 : Int32) rfl hC dX9_next_65 ?_
      refine v_goto (pc := 66) (tgt := 71) hC dX9_next_66 rfl ?_
      obtain rfl := Option.some.inj h
      exact v_iret (pc := 71) hC rfl dX9_next_71 hP
  replace h := (if_neg c5).symm.trans h
  by_cases c7 : x0_ = (3 : Int32)
  · replace h := (if_pos c7).symm.trans h
    refine v_tsIn (pc := 1) (tgt := 72) hC dX9_next_1 (by rw [c7]; decide) (by rw [c7]; decide) (by rw [c7]; rfl) rfl ?_
    refine v_iload_n (pc := 72) hC dX9_next_72 rfl ?_
    refine v_bipush (pc := 73) (45 : Int32) rfl hC dX9_next_73 ?_
    refine v_ic_ne (pc := 75) (tgt := 95) hC dX9_next_75 rfl (fun c9 => ?_) (fun c9 => ?_)
    · replace h := (if_neg c9).symm.trans h
      refine v_aload_n (pc := 95) hC dX9_next_95 rfl ?_
      refine v_iload_n (pc := 96) hC dX9_next_96 rfl ?_
      refine v_bipush (pc := 97) (48 : Int32) rfl hC dX9_next_97 ?_
      refine v_isub (pc := 99) hC dX9_next_99 ?_
      obtain ⟨w8, hw8, h⟩ := obd_s h
      refine v_cV (pc := 100) [] [.int w8.1] gm_X9_begin hC s_35 rfl rfl (ct_X9_begin  hw8) ml_X9_56 rfl rfl rfl rfl rfl rfl dX9_next_100 ?_
      obtain rfl := Option.some.inj h
      exact v_iret (pc := 103) hC rfl dX9_next_103 hP
    · replace h := (if_pos c9).symm.trans h
      refine v_aload_n (pc := 78) hC dX9_next_78 rfl ?_
      refine v_gt (pc := 79) 2 (.int (gI s 35 2)) hC s_35 rfl rfl rfl rfl fl_X9_19 dX9_next_79 ?_
      obtain ⟨w10, hw10, h⟩ := obd_s h
      refine v_cSN (pc := 82) [] [.int w10.1] gm_X10_isLane hC (ct_X10_isLane  hw10) ml_X9_48 rfl rfl rfl rfl rfl rfl dX9_next_82 ?_
      refine v_if_eq (pc := 85) (tgt := 95) hC dX9_next_85 rfl (fun c12 => ?_) (fun c12 => ?_)
      · replace h := (if_pos c12).symm.trans h
        refine v_aload_n (pc := 95) hC dX9_next_95 rfl ?_
        refine v_iload_n (pc := 96) hC dX9_next_96 rfl ?_
        refine v_bipush (pc := 97) (48 : Int32) rfl hC dX9_next_97 ?_
        refine v_isub (pc := 99) hC dX9_next_99 ?_
        obtain ⟨w11, hw11, h⟩ := obd_s h
        refine v_cV (pc := 100) [] [.int w11.1] gm_X9_begin hC s_35 rfl rfl (ct_X9_begin  hw11) ml_X9_56 rfl rfl rfl rfl rfl rfl dX9_next_100 ?_
        obtain rfl := Option.some.inj h
        exact v_iret (pc := 103) hC rfl dX9_next_103 hP
      · replace h := (if_neg c12).symm.trans h
        refine v_aload_n (pc := 88) hC dX9_next_88 rfl ?_
        obtain ⟨w13, hw13, h⟩ := obd_s h
        refine v_cV (pc := 89) [] [.int w13.1] gm_X9_turn hC s_35 rfl rfl (ct_X9_turn  hw13) ml_X9_52 rfl rfl rfl rfl rfl rfl dX9_next_89 ?_
        refine v_goto (pc := 92) (tgt := 103) hC dX9_next_92 rfl ?_
        obtain rfl := Option.some.inj h
        exact v_iret (pc := 103) hC rfl dX9_next_103 hP
  replace h := (if_neg c7).symm.trans h
  by_cases c14 : x0_ = (4 : Int32)
  · replace h := (if_pos c14).symm.trans h
    refine v_tsIn (pc := 1) (tgt := 104) hC dX9_next_1 (by rw [c14]; decide) (by rw [c14]; decide) (by rw [c14]; rfl) rfl ?_
    refine v_aload_n (pc := 104) hC dX9_next_104 rfl ?_
    refine v_iload_n (pc := 105) hC dX9_next_105 rfl ?_
    refine v_bipush (pc := 106) (48 : Int32) rfl hC dX9_next_106 ?_
    refine v_isub (pc := 108) hC dX9_next_108 ?_
    obtain ⟨w15, hw15, h⟩ := obd_s h
    refine v_cV (pc := 109) [] [.int w15.1] gm_X9_begin hC s_35 rfl rfl (ct_X9_begin  hw15) ml_X9_56 rfl rfl rfl rfl rfl rfl dX9_next_109 ?_
    obtain rfl := Option.some.inj h
    exact v_iret (pc := 112) hC rfl dX9_next_112 hP
  replace h := (if_neg c14).symm.trans h
  by_cases c16 : x0_ = (5 : Int32)
  · replace h := (if_pos c16).symm.trans h
    refine v_tsIn (pc := 1) (tgt := 113) hC dX9_next_1 (by rw [c16]; decide) (by rw [c16]; decide) (by rw [c16]; rfl) rfl ?_
    refine v_iload_n (pc := 113) hC dX9_next_113 rfl ?_
    refine v_bipush (pc := 114) (48 : Int32) rfl hC dX9_next_114 ?_
    refine v_isub (pc := 116) hC dX9_next_116 ?_
    obtain ⟨w17, hw17, h⟩ := obd_s h
    refine v_cS (pc := 117) [] [.int w17.1] gm_X9_isFigure hC (ct_X9_isFigure  hw17) ml_X9_59 rfl rfl rfl rfl rfl rfl dX9_next_117 ?_
    refine v_if_eq (pc := 120) (tgt := 134) hC dX9_next_120 rfl (fun c19 => ?_) (fun c19 => ?_)
    · replace h := (if_pos c19).symm.trans h
      refine v_iload_n (pc := 134) hC dX9_next_134 rfl ?_
      obtain ⟨w18, hw18, h⟩ := obd_s h
      refine v_cS (pc := 135) [] [.int w18.1] gm_X9_close hC (ct_X9_close  hw18) ml_X9_65 rfl rfl rfl rfl rfl rfl dX9_next_135 ?_
      obtain rfl := Option.some.inj h
      exact v_iret (pc := 138) hC rfl dX9_next_138 hP
    · replace h := (if_neg c19).symm.trans h
      refine v_aload_n (pc := 123) hC dX9_next_123 rfl ?_
      refine v_iload_n (pc := 124) hC dX9_next_124 rfl ?_
      refine v_bipush (pc := 125) (48 : Int32) rfl hC dX9_next_125 ?_
      refine v_isub (pc := 127) hC dX9_next_127 ?_
      obtain ⟨w20, hw20, h⟩ := obd_s h
      refine v_cV (pc := 128) [] [.int w20.1] gm_X9_end hC s_35 rfl rfl (ct_X9_end  hw20) ml_X9_62 rfl rfl rfl rfl rfl rfl dX9_next_128 ?_
      refine v_goto (pc := 131) (tgt := 138) hC dX9_next_131 rfl ?_
      obtain rfl := Option.some.inj h
      exact v_iret (pc := 138) hC rfl dX9_next_138 hP
  replace h := (if_neg c16).symm.trans h
  by_cases c21 : x0_ = (6 : Int32)
  · replace h := (if_pos c21).symm.trans h
    refine v_tsIn (pc := 1) (tgt := 139) hC dX9_next_1 (by rw [c21]; decide) (by rw [c21]; decide) (by rw [c21]; rfl) rfl ?_
    refine v_iload_n (pc := 139) hC dX9_next_139 rfl ?_
    obtain ⟨w22, hw22, h⟩ := obd_s h
    refine v_cS (pc := 140) [] [.int w22.1] gm_X9_close hC (ct_X9_close  hw22) ml_X9_65 rfl rfl rfl rfl rfl rfl dX9_next_140 ?_
    obtain rfl := Option.some.inj h
    exact v_iret (pc := 143) hC rfl dX9_next_143 hP
  replace h := (if_neg c21).symm.trans h
  have ec1 : (x0_).toInt ≠ 0 := ne_toInt c1
  have ec3 : (x0_).toInt ≠ 1 := ne_toInt c3
  have ec5 : (x0_).toInt ≠ 2 := ne_toInt c5
  have ec7 : (x0_).toInt ≠ 3 := ne_toInt c7
  have ec14 : (x0_).toInt ≠ 4 := ne_toInt c14
  have ec16 : (x0_).toInt ≠ 5 := ne_toInt c16
  have ec21 : (x0_).toInt ≠ 6 := ne_toInt c21
  refine v_tsOut (pc := 1) (tgt := 144) hC dX9_next_1 (by omega) rfl ?_
  refine v_bipush (pc := 144) (7 : Int32) rfl hC dX9_next_144 ?_
  obtain rfl := Option.some.inj h
  exact v_iret (pc := 146) hC rfl dX9_next_146 hP
