/-! methods, printed by wip/whole/gen/meth.py: X11_in, X11_no, X11_divisor, X11_lowest, X11_has, X11_isRace, X11_isSwim, X11_isLane, X11_isSwimmer, X11_raceMore, X11_race, X11_swimMore, X11_swim, X11_isTime, X11_time, X11_isSheet, X11_meets, X11_read, X11_seeds, X11_feltOf, X11_totalOf, X11_about, X11_feltOn -/
theorem dX11_in_0 : decode cX11_in 0 = .ok (.iload_n 0, 1) := by decide +kernel
theorem dX11_in_1 : decode cX11_in 1 = .ok (.iload_n 1, 1) := by decide +kernel
theorem dX11_in_2 : decode cX11_in 2 = .ok (.if_icmp .lt 12, 3) := by decide +kernel
theorem dX11_in_5 : decode cX11_in 5 = .ok (.iload_n 0, 1) := by decide +kernel
theorem dX11_in_6 : decode cX11_in 6 = .ok (.iload_n 2, 1) := by decide +kernel
theorem dX11_in_7 : decode cX11_in 7 = .ok (.if_icmp .gt 7, 3) := by decide +kernel
theorem dX11_in_10 : decode cX11_in 10 = .ok (.iconst 1, 1) := by decide +kernel
theorem dX11_in_11 : decode cX11_in 11 = .ok (.goto 4, 3) := by decide +kernel
theorem dX11_in_14 : decode cX11_in 14 = .ok (.iconst 0, 1) := by decide +kernel
theorem dX11_in_15 : decode cX11_in 15 = .ok (.ireturn, 1) := by decide +kernel
def fX11_in (x0_ : Int32) (x1_ : Int32) (x2_ : Int32) (s : Sg) : Option (Int32 × Sg) :=
  if x0_ < x1_ then
  some ((0 : Int32), s)
  else
  if x2_ < x0_ then
  some ((0 : Int32), s)
  else
  some ((1 : Int32), s)
theorem ct_X11_in {g : Gl} {x0_ : Int32} {x1_ : Int32} {x2_ : Int32} {s : Sg} {w : Int32 × Sg}  (h : fX11_in x0_ x1_ x2_ s = some w) : Ct SS g iX11_in 0 0 [.int x0_, .int x1_, .int x2_] s (Dt (some (.int w.1)) w.2) := by
  refine Ct.ofV (by decide +kernel) 0 (lv0 := [some (.int x0_), some (.int x1_), some (.int x2_)]) rfl rfl (fun M hC => ?_)
  have hP : (Dt (some (.int w.1)) w.2) (some (.int w.1)) w.2 := ⟨rfl, rfl⟩
  generalize Dt (some (.int w.1)) w.2 = P at hP ⊢
  unfold fX11_in at h
  refine v_iload_n (pc := 0) hC dX11_in_0 rfl ?_
  refine v_iload_n (pc := 1) hC dX11_in_1 rfl ?_
  refine v_ic_lt (pc := 2) (tgt := 14) hC dX11_in_2 rfl (fun c1 => ?_) (fun c1 => ?_)
  · replace h := (if_pos c1).symm.trans h
    refine v_iconst (pc := 14) (0 : Int32) rfl hC dX11_in_14 ?_
    obtain rfl := Option.some.inj h
    exact v_zret (pc := 15) hC rfl rfl dX11_in_15 hP
  · replace h := (if_neg c1).symm.trans h
    refine v_iload_n (pc := 5) hC dX11_in_5 rfl ?_
    refine v_iload_n (pc := 6) hC dX11_in_6 rfl ?_
    refine v_ic_gt (pc := 7) (tgt := 14) hC dX11_in_7 rfl (fun c2 => ?_) (fun c2 => ?_)
    · replace h := (if_pos c2).symm.trans h
      refine v_iconst (pc := 14) (0 : Int32) rfl hC dX11_in_14 ?_
      obtain rfl := Option.some.inj h
      exact v_zret (pc := 15) hC rfl rfl dX11_in_15 hP
    · replace h := (if_neg c2).symm.trans h
      refine v_iconst (pc := 10) (1 : Int32) rfl hC dX11_in_10 ?_
      refine v_goto (pc := 11) (tgt := 15) hC dX11_in_11 rfl ?_
      obtain rfl := Option.some.inj h
      exact v_zret (pc := 15) hC rfl rfl dX11_in_15 hP
theorem dX11_no_0 : decode cX11_no 0 = .ok (.ldc2_w 84, 3) := by decide +kernel
theorem dX11_no_3 : decode cX11_no 3 = .ok (.iload_n 0, 1) := by decide +kernel
theorem dX11_no_4 : decode cX11_no 4 = .ok (.i2l, 1) := by decide +kernel
theorem dX11_no_5 : decode cX11_no 5 = .ok (.lsub, 1) := by decide +kernel
theorem dX11_no_6 : decode cX11_no 6 = .ok (.lreturn, 1) := by decide +kernel
def fX11_no (x0_ : Int32) (s : Sg) : Option (Int64 × Sg) :=
  some (((-9223372036854775808 : Int64) - ((x0_).toInt64)), s)
theorem ct_X11_no {g : Gl} {x0_ : Int32} {s : Sg} {w : Int64 × Sg}  (h : fX11_no x0_ s = some w) : Ct SS g iX11_no 0 0 [.int x0_] s (Dt (some (.long w.1)) w.2) := by
  refine Ct.ofV (by decide +kernel) 0 (lv0 := [some (.int x0_)]) rfl rfl (fun M hC => ?_)
  have hP : (Dt (some (.long w.1)) w.2) (some (.long w.1)) w.2 := ⟨rfl, rfl⟩
  generalize Dt (some (.long w.1)) w.2 = P at hP ⊢
  unfold fX11_no at h
  refine v_ldc2 (pc := 0) (-9223372036854775808 : Int64) kc_X11_84 hC dX11_no_0 ?_
  refine v_iload_n (pc := 3) hC dX11_no_3 rfl ?_
  refine v_i2l (pc := 4) hC dX11_no_4 ?_
  refine v_lsub (pc := 5) hC dX11_no_5 ?_
  obtain rfl := Option.some.inj h
  exact v_lret (pc := 6) hC rfl dX11_no_6 hP
theorem dX11_divisor_0 : decode cX11_divisor 0 = .ok (.lload_n 0, 1) := by decide +kernel
theorem dX11_divisor_1 : decode cX11_divisor 1 = .ok (.lconst 0, 1) := by decide +kernel
theorem dX11_divisor_2 : decode cX11_divisor 2 = .ok (.lcmp, 1) := by decide +kernel
theorem dX11_divisor_3 : decode cX11_divisor 3 = .ok (.ifCond .ge 8, 3) := by decide +kernel
theorem dX11_divisor_6 : decode cX11_divisor 6 = .ok (.lload_n 0, 1) := by decide +kernel
theorem dX11_divisor_7 : decode cX11_divisor 7 = .ok (.lneg, 1) := by decide +kernel
theorem dX11_divisor_8 : decode cX11_divisor 8 = .ok (.goto 4, 3) := by decide +kernel
theorem dX11_divisor_11 : decode cX11_divisor 11 = .ok (.lload_n 0, 1) := by decide +kernel
theorem dX11_divisor_12 : decode cX11_divisor 12 = .ok (.lstore 4, 2) := by decide +kernel
theorem dX11_divisor_14 : decode cX11_divisor 14 = .ok (.lload_n 2, 1) := by decide +kernel
theorem dX11_divisor_15 : decode cX11_divisor 15 = .ok (.lstore 6, 2) := by decide +kernel
theorem dX11_divisor_17 : decode cX11_divisor 17 = .ok (.lload 6, 2) := by decide +kernel
theorem dX11_divisor_19 : decode cX11_divisor 19 = .ok (.lconst 0, 1) := by decide +kernel
theorem dX11_divisor_20 : decode cX11_divisor 20 = .ok (.lcmp, 1) := by decide +kernel
theorem dX11_divisor_21 : decode cX11_divisor 21 = .ok (.ifCond .eq 21, 3) := by decide +kernel
theorem dX11_divisor_24 : decode cX11_divisor 24 = .ok (.lload 4, 2) := by decide +kernel
theorem dX11_divisor_26 : decode cX11_divisor 26 = .ok (.lload 6, 2) := by decide +kernel
theorem dX11_divisor_28 : decode cX11_divisor 28 = .ok (.lrem, 1) := by decide +kernel
theorem dX11_divisor_29 : decode cX11_divisor 29 = .ok (.lstore 8, 2) := by decide +kernel
theorem dX11_divisor_31 : decode cX11_divisor 31 = .ok (.lload 6, 2) := by decide +kernel
theorem dX11_divisor_33 : decode cX11_divisor 33 = .ok (.lstore 4, 2) := by decide +kernel
theorem dX11_divisor_35 : decode cX11_divisor 35 = .ok (.lload 8, 2) := by decide +kernel
theorem dX11_divisor_37 : decode cX11_divisor 37 = .ok (.lstore 6, 2) := by decide +kernel
theorem dX11_divisor_39 : decode cX11_divisor 39 = .ok (.goto (-22), 3) := by decide +kernel
theorem dX11_divisor_42 : decode cX11_divisor 42 = .ok (.lload 4, 2) := by decide +kernel
theorem dX11_divisor_44 : decode cX11_divisor 44 = .ok (.lreturn, 1) := by decide +kernel
def fX11_divisor_L17  (a : Int64 × Int64) (s : Sg) : Option (((Int64 × Int64) ⊕ (Int64)) × Sg) :=
  if (lg_cmp a.2 (0 : Int64)) = 0 then
  some (.inr a.1, s)
  else
  (mL a.1 a.2).bind fun v2 =>
  some (.inl (a.2, v2), s)
def fX11_divisor (x0_ : Int64) (x1_ : Int64) (s : Sg) : Option (Int64 × Sg) :=
  ((if 0 ≤ (lg_cmp x0_ (0 : Int64)) then
  some x0_
  else
  some (-x0_)) : Option (Int64)).bind fun w1 =>
  (lpG (fX11_divisor_L17) FU (w1, x1_) s).bind fun w3 =>
  some (w3.1, w3.2)
theorem ct_X11_divisor {g : Gl} {x0_ : Int64} {x1_ : Int64} {s : Sg} {w : Int64 × Sg}  (h : fX11_divisor x0_ x1_ s = some w) : Ct SS g iX11_divisor 0 0 [.long x0_, .long x1_] s (Dt (some (.long w.1)) w.2) := by
  refine Ct.ofV (by decide +kernel) 6 (lv0 := [some (.long x0_), none, some (.long x1_), none, none, none, none, none, none, none]) rfl rfl (fun M hC => ?_)
  have hP : (Dt (some (.long w.1)) w.2) (some (.long w.1)) w.2 := ⟨rfl, rfl⟩
  generalize Dt (some (.long w.1)) w.2 = P at hP ⊢
  unfold fX11_divisor at h
  refine v_lload_n (pc := 0) hC dX11_divisor_0 rfl ?_
  refine v_lconst (pc := 1) (0 : Int64) rfl hC dX11_divisor_1 ?_
  refine v_lcmp (pc := 2) hC dX11_divisor_2 ?_
  obtain ⟨w1, hw1, h⟩ := obd_s h
  have kj2 : V SS g M iX11_divisor (PQ SS g M P) 12 [none, none, some (.long x1_), none, none, none, none, none, none, none] [.long w1] s := by
    refine v_lstore (pc := 12) (lv' := [none, none, some (.long x1_), none, some (.long w1), none, none, none, none, none]) hC dX11_divisor_12 rfl rfl rfl rfl ?_
    refine v_lload_n (pc := 14) hC dX11_divisor_14 rfl ?_
    refine v_lstore (pc := 15) (lv' := [none, none, some (.long x1_), none, some (.long w1), none, some (.long x1_), none, none, none]) hC dX11_divisor_15 rfl rfl rfl rfl ?_
    obtain ⟨w3, hw3, h⟩ := obd_s h
    have kx12 : V SS g M iX11_divisor (PQ SS g M P) 42 [none, none, none, none, some (.long w3.1), none, none, none, none, none] [] w3.2 := by
      refine v_lload (pc := 42) hC dX11_divisor_42 rfl ?_
      obtain rfl := Option.some.inj h
      exact v_lret (pc := 44) hC rfl dX11_divisor_44 hP
    refine V.ls (ls_none (ls_none (ls_none (ls_none (ls_some (ls_none (ls_some (ls_none (ls_none (ls_none ls_nil)))))))))) (v_loop (pc := 17) (fun a6 => [none, none, none, none, some (.long a6.1), none, some (.long a6.2), none, none, none]) (fun z t => V SS g M iX11_divisor (PQ SS g M P) 42 [none, none, none, none, some (.long z), none, none, none, none, none] [] t) (fun a6 s4 u5 hu5 k7 k8 => ?_) _ _ _ _ hw3 kx12)
    unfold fX11_divisor_L17 at hu5
    refine v_lload (pc := 17) hC dX11_divisor_17 rfl ?_
    refine v_lconst (pc := 19) (0 : Int64) rfl hC dX11_divisor_19 ?_
    refine v_lcmp (pc := 20) hC dX11_divisor_20 ?_
    refine v_if_eq (pc := 21) (tgt := 42) hC dX11_divisor_21 rfl (fun c10 => ?_) (fun c10 => ?_)
    · replace hu5 := (if_pos c10).symm.trans hu5
      obtain rfl := Option.some.inj hu5
      exact V.ls (ls_none (ls_none (ls_none (ls_none (ls_some (ls_none (ls_none (ls_none (ls_none (ls_none ls_nil)))))))))) (k8 _ rfl)
    · replace hu5 := (if_neg c10).symm.trans hu5
      refine v_lload (pc := 24) hC dX11_divisor_24 rfl ?_
      refine v_lload (pc := 26) hC dX11_divisor_26 rfl ?_
      obtain ⟨v11, hv11, hu5⟩ := obd_s hu5
      refine v_mL (pc := 28) hC hv11 dX11_divisor_28 ?_
      refine v_lstore (pc := 29) (lv' := [none, none, none, none, some (.long a6.1), none, some (.long a6.2), none, some (.long v11), none]) hC dX11_divisor_29 rfl rfl rfl rfl ?_
      refine v_lload (pc := 31) hC dX11_divisor_31 rfl ?_
      refine v_lstore (pc := 33) (lv' := [none, none, none, none, some (.long a6.2), none, some (.long a6.2), none, some (.long v11), none]) hC dX11_divisor_33 rfl rfl rfl rfl ?_
      refine v_lload (pc := 35) hC dX11_divisor_35 rfl ?_
      refine v_lstore (pc := 37) (lv' := [none, none, none, none, some (.long a6.2), none, some (.long v11), none, some (.long v11), none]) hC dX11_divisor_37 rfl rfl rfl rfl ?_
      refine v_goto (pc := 39) (tgt := 17) hC dX11_divisor_39 rfl ?_
      obtain rfl := Option.some.inj hu5
      exact V.ls (ls_none (ls_none (ls_none (ls_none (ls_some (ls_none (ls_some (ls_none (ls_none (ls_none ls_nil)))))))))) (k7 _ rfl)
  refine v_if_ge (pc := 3) (tgt := 11) hC dX11_divisor_3 rfl (fun c13 => ?_) (fun c13 => ?_)
  · replace hw1 := (if_pos c13).symm.trans hw1
    refine v_lload_n (pc := 11) hC dX11_divisor_11 rfl ?_
    obtain rfl := Option.some.inj hw1
    exact V.ls (ls_none (ls_none (ls_some (ls_none (ls_none (ls_none (ls_none (ls_none (ls_none (ls_none ls_nil)))))))))) kj2
  · replace hw1 := (if_neg c13).symm.trans hw1
    refine v_lload_n (pc := 6) hC dX11_divisor_6 rfl ?_
    refine v_lneg (pc := 7) hC dX11_divisor_7 ?_
    refine v_goto (pc := 8) (tgt := 12) hC dX11_divisor_8 rfl ?_
    obtain rfl := Option.some.inj hw1
    exact V.ls (ls_none (ls_none (ls_some (ls_none (ls_none (ls_none (ls_none (ls_none (ls_none (ls_none ls_nil)))))))))) kj2
theorem dX11_lowest_0 : decode cX11_lowest 0 = .ok (.lload_n 0, 1) := by decide +kernel
theorem dX11_lowest_1 : decode cX11_lowest 1 = .ok (.lload_n 2, 1) := by decide +kernel
theorem dX11_lowest_2 : decode cX11_lowest 2 = .ok (.invokestatic 86, 3) := by decide +kernel
theorem dX11_lowest_5 : decode cX11_lowest 5 = .ok (.lstore 5, 2) := by decide +kernel
theorem dX11_lowest_7 : decode cX11_lowest 7 = .ok (.iload 4, 2) := by decide +kernel
theorem dX11_lowest_9 : decode cX11_lowest 9 = .ok (.ifCond .ne 10, 3) := by decide +kernel
theorem dX11_lowest_12 : decode cX11_lowest 12 = .ok (.lload_n 0, 1) := by decide +kernel
theorem dX11_lowest_13 : decode cX11_lowest 13 = .ok (.lload 5, 2) := by decide +kernel
theorem dX11_lowest_15 : decode cX11_lowest 15 = .ok (.ldiv, 1) := by decide +kernel
theorem dX11_lowest_16 : decode cX11_lowest 16 = .ok (.goto 7, 3) := by decide +kernel
theorem dX11_lowest_19 : decode cX11_lowest 19 = .ok (.lload_n 2, 1) := by decide +kernel
theorem dX11_lowest_20 : decode cX11_lowest 20 = .ok (.lload 5, 2) := by decide +kernel
theorem dX11_lowest_22 : decode cX11_lowest 22 = .ok (.ldiv, 1) := by decide +kernel
theorem dX11_lowest_23 : decode cX11_lowest 23 = .ok (.lreturn, 1) := by decide +kernel
def fX11_lowest (x0_ : Int64) (x1_ : Int64) (x2_ : Int32) (s : Sg) : Option (Int64 × Sg) :=
  (fX11_divisor x0_ x1_ s).bind fun w1 =>
  if x2_ = 0 then
  (dL x0_ w1.1).bind fun v4 =>
  some (v4, w1.2)
  else
  (dL x1_ w1.1).bind fun v2 =>
  some (v2, w1.2)
theorem ct_X11_lowest {g : Gl} {x0_ : Int64} {x1_ : Int64} {x2_ : Int32} {s : Sg} {w : Int64 × Sg}  (h : fX11_lowest x0_ x1_ x2_ s = some w) : Ct SS g iX11_lowest 1 29 [.long x0_, .long x1_, .int x2_] s (Dt (some (.long w.1)) w.2) := by
  refine Ct.ofV (by decide +kernel) 2 (lv0 := [some (.long x0_), none, some (.long x1_), none, some (.int x2_), none, none]) rfl rfl (fun M hC => ?_)
  have hP : (Dt (some (.long w.1)) w.2) (some (.long w.1)) w.2 := ⟨rfl, rfl⟩
  generalize Dt (some (.long w.1)) w.2 = P at hP ⊢
  unfold fX11_lowest at h
  refine v_lload_n (pc := 0) hC dX11_lowest_0 rfl ?_
  refine v_lload_n (pc := 1) hC dX11_lowest_1 rfl ?_
  obtain ⟨w1, hw1, h⟩ := obd_s h
  refine v_cS (pc := 2) [] [.long w1.1] gm_X11_divisor hC (ct_X11_divisor  hw1) ml_X11_86 rfl rfl rfl rfl rfl rfl dX11_lowest_2 ?_
  refine v_lstore (pc := 5) (lv' := [some (.long x0_), none, some (.long x1_), none, some (.int x2_), some (.long w1.1), none]) hC dX11_lowest_5 rfl rfl rfl rfl ?_
  refine v_iload (pc := 7) hC dX11_lowest_7 rfl ?_
  refine v_if_ne (pc := 9) (tgt := 19) hC dX11_lowest_9 rfl (fun c3 => ?_) (fun c3 => ?_)
  · replace h := (if_neg c3).symm.trans h
    refine v_lload_n (pc := 19) hC dX11_lowest_19 rfl ?_
    refine v_lload (pc := 20) hC dX11_lowest_20 rfl ?_
    obtain ⟨v2, hv2, h⟩ := obd_s h
    refine v_dL (pc := 22) hC hv2 dX11_lowest_22 ?_
    obtain rfl := Option.some.inj h
    exact v_lret (pc := 23) hC rfl dX11_lowest_23 hP
  · replace h := (if_pos c3).symm.trans h
    refine v_lload_n (pc := 12) hC dX11_lowest_12 rfl ?_
    refine v_lload (pc := 13) hC dX11_lowest_13 rfl ?_
    obtain ⟨v4, hv4, h⟩ := obd_s h
    refine v_dL (pc := 15) hC hv4 dX11_lowest_15 ?_
    refine v_goto (pc := 16) (tgt := 23) hC dX11_lowest_16 rfl ?_
    obtain rfl := Option.some.inj h
    exact v_lret (pc := 23) hC rfl dX11_lowest_23 hP
theorem dX11_has_0 : decode cX11_has 0 = .ok (.iload_n 0, 1) := by decide +kernel
theorem dX11_has_1 : decode cX11_has 1 = .ok (.iload_n 1, 1) := by decide +kernel
theorem dX11_has_2 : decode cX11_has 2 = .ok (.ishr, 1) := by decide +kernel
theorem dX11_has_3 : decode cX11_has 3 = .ok (.iconst 1, 1) := by decide +kernel
theorem dX11_has_4 : decode cX11_has 4 = .ok (.iand, 1) := by decide +kernel
theorem dX11_has_5 : decode cX11_has 5 = .ok (.iconst 1, 1) := by decide +kernel
theorem dX11_has_6 : decode cX11_has 6 = .ok (.if_icmp .ne 7, 3) := by decide +kernel
theorem dX11_has_9 : decode cX11_has 9 = .ok (.iconst 1, 1) := by decide +kernel
theorem dX11_has_10 : decode cX11_has 10 = .ok (.goto 4, 3) := by decide +kernel
theorem dX11_has_13 : decode cX11_has 13 = .ok (.iconst 0, 1) := by decide +kernel
theorem dX11_has_14 : decode cX11_has 14 = .ok (.ireturn, 1) := by decide +kernel
def fX11_has (x0_ : Int32) (x1_ : Int32) (s : Sg) : Option (Int32 × Sg) :=
  if ((x0_ >>> (x1_ &&& 31)) &&& (1 : Int32)) = (1 : Int32) then
  some ((1 : Int32), s)
  else
  some ((0 : Int32), s)
theorem ct_X11_has {g : Gl} {x0_ : Int32} {x1_ : Int32} {s : Sg} {w : Int32 × Sg}  (h : fX11_has x0_ x1_ s = some w) : Ct SS g iX11_has 0 0 [.int x0_, .int x1_] s (Dt (some (.int w.1)) w.2) := by
  refine Ct.ofV (by decide +kernel) 0 (lv0 := [some (.int x0_), some (.int x1_)]) rfl rfl (fun M hC => ?_)
  have hP : (Dt (some (.int w.1)) w.2) (some (.int w.1)) w.2 := ⟨rfl, rfl⟩
  generalize Dt (some (.int w.1)) w.2 = P at hP ⊢
  unfold fX11_has at h
  refine v_iload_n (pc := 0) hC dX11_has_0 rfl ?_
  refine v_iload_n (pc := 1) hC dX11_has_1 rfl ?_
  refine v_ishr (pc := 2) hC dX11_has_2 ?_
  refine v_iconst (pc := 3) (1 : Int32) rfl hC dX11_has_3 ?_
  refine v_iand (pc := 4) hC dX11_has_4 ?_
  refine v_iconst (pc := 5) (1 : Int32) rfl hC dX11_has_5 ?_
  refine v_ic_ne (pc := 6) (tgt := 13) hC dX11_has_6 rfl (fun c1 => ?_) (fun c1 => ?_)
  · replace h := (if_neg c1).symm.trans h
    refine v_iconst (pc := 13) (0 : Int32) rfl hC dX11_has_13 ?_
    obtain rfl := Option.some.inj h
    exact v_zret (pc := 14) hC rfl rfl dX11_has_14 hP
  · replace h := (if_pos c1).symm.trans h
    refine v_iconst (pc := 9) (1 : Int32) rfl hC dX11_has_9 ?_
    refine v_goto (pc := 10) (tgt := 14) hC dX11_has_10 rfl ?_
    obtain rfl := Option.some.inj h
    exact v_zret (pc := 14) hC rfl rfl dX11_has_14 hP
theorem dX11_isRace_0 : decode cX11_isRace 0 = .ok (.iload_n 1, 1) := by decide +kernel
theorem dX11_isRace_1 : decode cX11_isRace 1 = .ok (.iconst 0, 1) := by decide +kernel
theorem dX11_isRace_2 : decode cX11_isRace 2 = .ok (.aload_n 0, 1) := by decide +kernel
theorem dX11_isRace_3 : decode cX11_isRace 3 = .ok (.getfield 90, 3) := by decide +kernel
theorem dX11_isRace_6 : decode cX11_isRace 6 = .ok (.iconst 1, 1) := by decide +kernel
theorem dX11_isRace_7 : decode cX11_isRace 7 = .ok (.isub, 1) := by decide +kernel
theorem dX11_isRace_8 : decode cX11_isRace 8 = .ok (.invokestatic 94, 3) := by decide +kernel
theorem dX11_isRace_11 : decode cX11_isRace 11 = .ok (.ireturn, 1) := by decide +kernel
def fX11_isRace (x0_ : Int32) (s : Sg) : Option (Int32 × Sg) :=
  (fX11_in x0_ (0 : Int32) ((gI s 49 0) - (1 : Int32)) s).bind fun w1 =>
  (zr w1.1).bind fun z2 =>
  some (z2, w1.2)
theorem ct_X11_isRace {g : Gl} {x0_ : Int32} {s : Sg} {w : Int32 × Sg}  (h : fX11_isRace x0_ s = some w) : Ct SS g iX11_isRace 1 22 [.ref (gad g 49), .int x0_] s (Dt (some (.int w.1)) w.2) := by
  refine Ct.ofV (by decide +kernel) 0 (lv0 := [some (.ref (gad g 49)), some (.int x0_)]) rfl rfl (fun M hC => ?_)
  have hP : (Dt (some (.int w.1)) w.2) (some (.int w.1)) w.2 := ⟨rfl, rfl⟩
  generalize Dt (some (.int w.1)) w.2 = P at hP ⊢
  unfold fX11_isRace at h
  refine v_iload_n (pc := 0) hC dX11_isRace_0 rfl ?_
  refine v_iconst (pc := 1) (0 : Int32) rfl hC dX11_isRace_1 ?_
  refine v_aload_n (pc := 2) hC dX11_isRace_2 rfl ?_
  refine v_gt (pc := 3) 0 (.int (gI s 49 0)) hC s_49 rfl rfl rfl rfl fl_X11_90 dX11_isRace_3 ?_
  refine v_iconst (pc := 6) (1 : Int32) rfl hC dX11_isRace_6 ?_
  refine v_isub (pc := 7) hC dX11_isRace_7 ?_
  obtain ⟨w1, hw1, h⟩ := obd_s h
  refine v_cS (pc := 8) [] [.int w1.1] gm_X11_in hC (ct_X11_in  hw1) ml_X11_94 rfl rfl rfl rfl rfl rfl dX11_isRace_8 ?_
  obtain ⟨z2, hz2, h⟩ := obd_s h
  obtain rfl := Option.some.inj h
  exact v_zr (pc := 11) hC rfl hz2 dX11_isRace_11 hP
theorem dX11_isSwim_0 : decode cX11_isSwim 0 = .ok (.iload_n 1, 1) := by decide +kernel
theorem dX11_isSwim_1 : decode cX11_isSwim 1 = .ok (.iconst 0, 1) := by decide +kernel
theorem dX11_isSwim_2 : decode cX11_isSwim 2 = .ok (.aload_n 0, 1) := by decide +kernel
theorem dX11_isSwim_3 : decode cX11_isSwim 3 = .ok (.getfield 98, 3) := by decide +kernel
theorem dX11_isSwim_6 : decode cX11_isSwim 6 = .ok (.iconst 1, 1) := by decide +kernel
theorem dX11_isSwim_7 : decode cX11_isSwim 7 = .ok (.isub, 1) := by decide +kernel
theorem dX11_isSwim_8 : decode cX11_isSwim 8 = .ok (.invokestatic 94, 3) := by decide +kernel
theorem dX11_isSwim_11 : decode cX11_isSwim 11 = .ok (.ireturn, 1) := by decide +kernel
def fX11_isSwim (x0_ : Int32) (s : Sg) : Option (Int32 × Sg) :=
  (fX11_in x0_ (0 : Int32) ((gI s 49 3) - (1 : Int32)) s).bind fun w1 =>
  (zr w1.1).bind fun z2 =>
  some (z2, w1.2)
theorem ct_X11_isSwim {g : Gl} {x0_ : Int32} {s : Sg} {w : Int32 × Sg}  (h : fX11_isSwim x0_ s = some w) : Ct SS g iX11_isSwim 1 22 [.ref (gad g 49), .int x0_] s (Dt (some (.int w.1)) w.2) := by
  refine Ct.ofV (by decide +kernel) 0 (lv0 := [some (.ref (gad g 49)), some (.int x0_)]) rfl rfl (fun M hC => ?_)
  have hP : (Dt (some (.int w.1)) w.2) (some (.int w.1)) w.2 := ⟨rfl, rfl⟩
  generalize Dt (some (.int w.1)) w.2 = P at hP ⊢
  unfold fX11_isSwim at h
  refine v_iload_n (pc := 0) hC dX11_isSwim_0 rfl ?_
  refine v_iconst (pc := 1) (0 : Int32) rfl hC dX11_isSwim_1 ?_
  refine v_aload_n (pc := 2) hC dX11_isSwim_2 rfl ?_
  refine v_gt (pc := 3) 3 (.int (gI s 49 3)) hC s_49 rfl rfl rfl rfl fl_X11_98 dX11_isSwim_3 ?_
  refine v_iconst (pc := 6) (1 : Int32) rfl hC dX11_isSwim_6 ?_
  refine v_isub (pc := 7) hC dX11_isSwim_7 ?_
  obtain ⟨w1, hw1, h⟩ := obd_s h
  refine v_cS (pc := 8) [] [.int w1.1] gm_X11_in hC (ct_X11_in  hw1) ml_X11_94 rfl rfl rfl rfl rfl rfl dX11_isSwim_8 ?_
  obtain ⟨z2, hz2, h⟩ := obd_s h
  obtain rfl := Option.some.inj h
  exact v_zr (pc := 11) hC rfl hz2 dX11_isSwim_11 hP
theorem dX11_isLane_0 : decode cX11_isLane 0 = .ok (.iload_n 0, 1) := by decide +kernel
theorem dX11_isLane_1 : decode cX11_isLane 1 = .ok (.iconst 0, 1) := by decide +kernel
theorem dX11_isLane_2 : decode cX11_isLane 2 = .ok (.bipush 7, 2) := by decide +kernel
theorem dX11_isLane_4 : decode cX11_isLane 4 = .ok (.invokestatic 94, 3) := by decide +kernel
theorem dX11_isLane_7 : decode cX11_isLane 7 = .ok (.ireturn, 1) := by decide +kernel
def fX11_isLane (x0_ : Int32) (s : Sg) : Option (Int32 × Sg) :=
  (fX11_in x0_ (0 : Int32) (7 : Int32) s).bind fun w1 =>
  (zr w1.1).bind fun z2 =>
  some (z2, w1.2)
theorem ct_X11_isLane {g : Gl} {x0_ : Int32} {s : Sg} {w : Int32 × Sg}  (h : fX11_isLane x0_ s = some w) : Ct SS g iX11_isLane 1 22 [.int x0_] s (Dt (some (.int w.1)) w.2) := by
  refine Ct.ofV (by decide +kernel) 0 (lv0 := [some (.int x0_)]) rfl rfl (fun M hC => ?_)
  have hP : (Dt (some (.int w.1)) w.2) (some (.int w.1)) w.2 := ⟨rfl, rfl⟩
  generalize Dt (some (.int w.1)) w.2 = P at hP ⊢
  unfold fX11_isLane at h
  refine v_iload_n (pc := 0) hC dX11_isLane_0 rfl ?_
  refine v_iconst (pc := 1) (0 : Int32) rfl hC dX11_isLane_1 ?_
  refine v_bipush (pc := 2) (7 : Int32) rfl hC dX11_isLane_2 ?_
  obtain ⟨w1, hw1, h⟩ := obd_s h
  refine v_cS (pc := 4) [] [.int w1.1] gm_X11_in hC (ct_X11_in  hw1) ml_X11_94 rfl rfl rfl rfl rfl rfl dX11_isLane_4 ?_
  obtain ⟨z2, hz2, h⟩ := obd_s h
  obtain rfl := Option.some.inj h
  exact v_zr (pc := 7) hC rfl hz2 dX11_isLane_7 hP
theorem dX11_isSwimmer_0 : decode cX11_isSwimmer 0 = .ok (.iload_n 0, 1) := by decide +kernel
theorem dX11_isSwimmer_1 : decode cX11_isSwimmer 1 = .ok (.iconst 0, 1) := by decide +kernel
theorem dX11_isSwimmer_2 : decode cX11_isSwimmer 2 = .ok (.bipush 23, 2) := by decide +kernel
theorem dX11_isSwimmer_4 : decode cX11_isSwimmer 4 = .ok (.invokestatic 94, 3) := by decide +kernel
theorem dX11_isSwimmer_7 : decode cX11_isSwimmer 7 = .ok (.ireturn, 1) := by decide +kernel
def fX11_isSwimmer (x0_ : Int32) (s : Sg) : Option (Int32 × Sg) :=
  (fX11_in x0_ (0 : Int32) (23 : Int32) s).bind fun w1 =>
  (zr w1.1).bind fun z2 =>
  some (z2, w1.2)
theorem ct_X11_isSwimmer {g : Gl} {x0_ : Int32} {s : Sg} {w : Int32 × Sg}  (h : fX11_isSwimmer x0_ s = some w) : Ct SS g iX11_isSwimmer 1 22 [.int x0_] s (Dt (some (.int w.1)) w.2) := by
  refine Ct.ofV (by decide +kernel) 0 (lv0 := [some (.int x0_)]) rfl rfl (fun M hC => ?_)
  have hP : (Dt (some (.int w.1)) w.2) (some (.int w.1)) w.2 := ⟨rfl, rfl⟩
  generalize Dt (some (.int w.1)) w.2 = P at hP ⊢
  unfold fX11_isSwimmer at h
  refine v_iload_n (pc := 0) hC dX11_isSwimmer_0 rfl ?_
  refine v_iconst (pc := 1) (0 : Int32) rfl hC dX11_isSwimmer_1 ?_
  refine v_bipush (pc := 2) (23 : Int32) rfl hC dX11_isSwimmer_2 ?_
  obtain ⟨w1, hw1, h⟩ := obd_s h
  refine v_cS (pc := 4) [] [.int w1.1] gm_X11_in hC (ct_X11_in  hw1) ml_X11_94 rfl rfl rfl rfl rfl rfl dX11_isSwimmer_4 ?_
  obtain ⟨z2, hz2, h⟩ := obd_s h
  obtain rfl := Option.some.inj h
  exact v_zr (pc := 7) hC rfl hz2 dX11_isSwimmer_7 hP
theorem dX11_raceMore_0 : decode cX11_raceMore 0 = .ok (.aload_n 0, 1) := by decide +kernel
theorem dX11_raceMore_1 : decode cX11_raceMore 1 = .ok (.getfield 7, 3) := by decide +kernel
theorem dX11_raceMore_4 : decode cX11_raceMore 4 = .ok (.aload_n 0, 1) := by decide +kernel
theorem dX11_raceMore_5 : decode cX11_raceMore 5 = .ok (.getfield 90, 3) := by decide +kernel
theorem dX11_raceMore_8 : decode cX11_raceMore 8 = .ok (.iload_n 1, 1) := by decide +kernel
theorem dX11_raceMore_9 : decode cX11_raceMore 9 = .ok (.iastore, 1) := by decide +kernel
theorem dX11_raceMore_10 : decode cX11_raceMore 10 = .ok (.aload_n 0, 1) := by decide +kernel
theorem dX11_raceMore_11 : decode cX11_raceMore 11 = .ok (.getfield 13, 3) := by decide +kernel
theorem dX11_raceMore_14 : decode cX11_raceMore 14 = .ok (.aload_n 0, 1) := by decide +kernel
theorem dX11_raceMore_15 : decode cX11_raceMore 15 = .ok (.getfield 90, 3) := by decide +kernel
theorem dX11_raceMore_18 : decode cX11_raceMore 18 = .ok (.iload_n 2, 1) := by decide +kernel
theorem dX11_raceMore_19 : decode cX11_raceMore 19 = .ok (.iastore, 1) := by decide +kernel
theorem dX11_raceMore_20 : decode cX11_raceMore 20 = .ok (.aload_n 0, 1) := by decide +kernel
theorem dX11_raceMore_21 : decode cX11_raceMore 21 = .ok (.dup, 1) := by decide +kernel
theorem dX11_raceMore_22 : decode cX11_raceMore 22 = .ok (.getfield 90, 3) := by decide +kernel
theorem dX11_raceMore_25 : decode cX11_raceMore 25 = .ok (.iconst 1, 1) := by decide +kernel
theorem dX11_raceMore_26 : decode cX11_raceMore 26 = .ok (.iadd, 1) := by decide +kernel
theorem dX11_raceMore_27 : decode cX11_raceMore 27 = .ok (.putfield 90, 3) := by decide +kernel
theorem dX11_raceMore_30 : decode cX11_raceMore 30 = .ok (.aload_n 0, 1) := by decide +kernel
theorem dX11_raceMore_31 : decode cX11_raceMore 31 = .ok (.getfield 90, 3) := by decide +kernel
theorem dX11_raceMore_34 : decode cX11_raceMore 34 = .ok (.iconst 1, 1) := by decide +kernel
theorem dX11_raceMore_35 : decode cX11_raceMore 35 = .ok (.isub, 1) := by decide +kernel
theorem dX11_raceMore_36 : decode cX11_raceMore 36 = .ok (.ireturn, 1) := by decide +kernel
def fX11_raceMore (x0_ : Int32) (x1_ : Int32) (s : Sg) : Option (Int32 × Sg) :=
  (wI s 50 16 (gI s 49 0) x0_).bind fun s1 =>
  (wI s1 51 16 (gI s1 49 0) x1_).bind fun s2 =>
  bnd (sI s2 49 0 ((gI s2 49 0) + (1 : Int32))) fun s3 =>
  some (((gI s3 49 0) - (1 : Int32)), s3)
theorem ct_X11_raceMore {g : Gl} {x0_ : Int32} {x1_ : Int32} {s : Sg} {w : Int32 × Sg}  (h : fX11_raceMore x0_ x1_ s = some w) : Ct SS g iX11_raceMore 0 0 [.ref (gad g 49), .int x0_, .int x1_] s (Dt (some (.int w.1)) w.2) := by
  refine Ct.ofV (by decide +kernel) 0 (lv0 := [some (.ref (gad g 49)), some (.int x0_), some (.int x1_)]) rfl rfl (fun M hC => ?_)
  have hP : (Dt (some (.int w.1)) w.2) (some (.int w.1)) w.2 := ⟨rfl, rfl⟩
  generalize Dt (some (.int w.1)) w.2 = P at hP ⊢
  unfold fX11_raceMore at h
  refine v_aload_n (pc := 0) hC dX11_raceMore_0 rfl ?_
  refine v_gt (pc := 1) 1 (.ref (gad g 50)) hC s_49 rfl rfl rfl rfl fl_X11_7 dX11_raceMore_1 ?_
  refine v_aload_n (pc := 4) hC dX11_raceMore_4 rfl ?_
  refine v_gt (pc := 5) 0 (.int (gI s 49 0)) hC s_49 rfl rfl rfl rfl fl_X11_90 dX11_raceMore_5 ?_
  refine v_iload_n (pc := 8) hC dX11_raceMore_8 rfl ?_
  obtain ⟨s1, hs1, h⟩ := obd_s h
  refine v_wI (pc := 9) hC s_50 hs1 dX11_raceMore_9 ?_
  refine v_aload_n (pc := 10) hC dX11_raceMore_10 rfl ?_
  refine v_gt (pc := 11) 2 (.ref (gad g 51)) hC s_49 rfl rfl rfl rfl fl_X11_13 dX11_raceMore_11 ?_
  refine v_aload_n (pc := 14) hC dX11_raceMore_14 rfl ?_
  refine v_gt (pc := 15) 0 (.int (gI s1 49 0)) hC s_49 rfl rfl rfl rfl fl_X11_90 dX11_raceMore_15 ?_
  refine v_iload_n (pc := 18) hC dX11_raceMore_18 rfl ?_
  obtain ⟨s2, hs2, h⟩ := obd_s h
  refine v_wI (pc := 19) hC s_51 hs2 dX11_raceMore_19 ?_
  refine v_aload_n (pc := 20) hC dX11_raceMore_20 rfl ?_
  refine v_dup (pc := 21) hC rfl dX11_raceMore_21 ?_
  refine v_gt (pc := 22) 0 (.int (gI s2 49 0)) hC s_49 rfl rfl rfl rfl fl_X11_90 dX11_raceMore_22 ?_
  refine v_iconst (pc := 25) (1 : Int32) rfl hC dX11_raceMore_25 ?_
  refine v_iadd (pc := 26) hC dX11_raceMore_26 ?_
  obtain ⟨s3, hs3, h⟩ := bnd_s h
  refine v_pI (pc := 27) 0 hC s_49 rfl rfl rfl rfl rfl rfl fl_X11_90 hs3 dX11_raceMore_27 ?_
  refine v_aload_n (pc := 30) hC dX11_raceMore_30 rfl ?_
  refine v_gt (pc := 31) 0 (.int (gI s3 49 0)) hC s_49 rfl rfl rfl rfl fl_X11_90 dX11_raceMore_31 ?_
  refine v_iconst (pc := 34) (1 : Int32) rfl hC dX11_raceMore_34 ?_
  refine v_isub (pc := 35) hC dX11_raceMore_35 ?_
  obtain rfl := Option.some.inj h
  exact v_iret (pc := 36) hC rfl dX11_raceMore_36 hP
theorem dX11_race_0 : decode cX11_race 0 = .ok (.iload_n 1, 1) := by decide +kernel
theorem dX11_race_1 : decode cX11_race 1 = .ok (.iconst 1, 1) := by decide +kernel
theorem dX11_race_2 : decode cX11_race 2 = .ok (.iconst 4, 1) := by decide +kernel
theorem dX11_race_3 : decode cX11_race 3 = .ok (.invokestatic 94, 3) := by decide +kernel
theorem dX11_race_6 : decode cX11_race 6 = .ok (.ifCond .eq 13, 3) := by decide +kernel
theorem dX11_race_9 : decode cX11_race 9 = .ok (.iload_n 2, 1) := by decide +kernel
theorem dX11_race_10 : decode cX11_race 10 = .ok (.iconst 0, 1) := by decide +kernel
theorem dX11_race_11 : decode cX11_race 11 = .ok (.bipush 9, 2) := by decide +kernel
theorem dX11_race_13 : decode cX11_race 13 = .ok (.invokestatic 94, 3) := by decide +kernel
theorem dX11_race_16 : decode cX11_race 16 = .ok (.ifCond .ne 6, 3) := by decide +kernel
theorem dX11_race_19 : decode cX11_race 19 = .ok (.bipush (-2), 2) := by decide +kernel
theorem dX11_race_21 : decode cX11_race 21 = .ok (.ireturn, 1) := by decide +kernel
theorem dX11_race_22 : decode cX11_race 22 = .ok (.aload_n 0, 1) := by decide +kernel
theorem dX11_race_23 : decode cX11_race 23 = .ok (.getfield 90, 3) := by decide +kernel
theorem dX11_race_26 : decode cX11_race 26 = .ok (.bipush 16, 2) := by decide +kernel
theorem dX11_race_28 : decode cX11_race 28 = .ok (.if_icmp .ne 8, 3) := by decide +kernel
theorem dX11_race_31 : decode cX11_race 31 = .ok (.bipush (-4), 2) := by decide +kernel
theorem dX11_race_33 : decode cX11_race 33 = .ok (.goto 9, 3) := by decide +kernel
theorem dX11_race_36 : decode cX11_race 36 = .ok (.aload_n 0, 1) := by decide +kernel
theorem dX11_race_37 : decode cX11_race 37 = .ok (.iload_n 1, 1) := by decide +kernel
theorem dX11_race_38 : decode cX11_race 38 = .ok (.iload_n 2, 1) := by decide +kernel
theorem dX11_race_39 : decode cX11_race 39 = .ok (.invokevirtual 101, 3) := by decide +kernel
theorem dX11_race_42 : decode cX11_race 42 = .ok (.ireturn, 1) := by decide +kernel
def fX11_race (x0_ : Int32) (x1_ : Int32) (s : Sg) : Option (Int32 × Sg) :=
  (fX11_in x0_ (1 : Int32) (4 : Int32) s).bind fun w1 =>
  if w1.1 = 0 then
  some ((-2 : Int32), w1.2)
  else
  (fX11_in x1_ (0 : Int32) (9 : Int32) w1.2).bind fun w3 =>
  if w3.1 = 0 then
  some ((-2 : Int32), w3.2)
  else
  if (gI w3.2 49 0) = (16 : Int32) then
  some ((-4 : Int32), w3.2)
  else
  (fX11_raceMore x0_ x1_ w3.2).bind fun w4 =>
  some (w4.1, w4.2)
theorem ct_X11_race {g : Gl} {x0_ : Int32} {x1_ : Int32} {s : Sg} {w : Int32 × Sg}  (h : fX11_race x0_ x1_ s = some w) : Ct SS g iX11_race 1 22 [.ref (gad g 49), .int x0_, .int x1_] s (Dt (some (.int w.1)) w.2) := by
  refine Ct.ofV (by decide +kernel) 0 (lv0 := [some (.ref (gad g 49)), some (.int x0_), some (.int x1_)]) rfl rfl (fun M hC => ?_)
  have hP : (Dt (some (.int w.1)) w.2) (some (.int w.1)) w.2 := ⟨rfl, rfl⟩
  generalize Dt (some (.int w.1)) w.2 = P at hP ⊢
  unfold fX11_race at h
  refine v_iload_n (pc := 0) hC dX11_race_0 rfl ?_
  refine v_iconst (pc := 1) (1 : Int32) rfl hC dX11_race_1 ?_
  refine v_iconst (pc := 2) (4 : Int32) rfl hC dX11_race_2 ?_
  obtain ⟨w1, hw1, h⟩ := obd_s h
  refine v_cS (pc := 3) [] [.int w1.1] gm_X11_in hC (ct_X11_in  hw1) ml_X11_94 rfl rfl rfl rfl rfl rfl dX11_race_3 ?_
  refine v_if_eq (pc := 6) (tgt := 19) hC dX11_race_6 rfl (fun c2 => ?_) (fun c2 => ?_)
  · replace h := (if_pos c2).symm.trans h
    refine v_bipush (pc := 19) (-2 : Int32) rfl hC dX11_race_19 ?_
    obtain rfl := Option.some.inj h
    exact v_iret (pc := 21) hC rfl dX11_race_21 hP
  · replace h := (if_neg c2).symm.trans h
    refine v_iload_n (pc := 9) hC dX11_race_9 rfl ?_
    refine v_iconst (pc := 10) (0 : Int32) rfl hC dX11_race_10 ?_
    refine v_bipush (pc := 11) (9 : Int32) rfl hC dX11_race_11 ?_
    obtain ⟨w3, hw3, h⟩ := obd_s h
    refine v_cS (pc := 13) [] [.int w3.1] gm_X11_in hC (ct_X11_in  hw3) ml_X11_94 rfl rfl rfl rfl rfl rfl dX11_race_13 ?_
    refine v_if_ne (pc := 16) (tgt := 22) hC dX11_race_16 rfl (fun c6 => ?_) (fun c6 => ?_)
    · replace h := (if_neg c6).symm.trans h
      refine v_aload_n (pc := 22) hC dX11_race_22 rfl ?_
      refine v_gt (pc := 23) 0 (.int (gI w3.2 49 0)) hC s_49 rfl rfl rfl rfl fl_X11_90 dX11_race_23 ?_
      refine v_bipush (pc := 26) (16 : Int32) rfl hC dX11_race_26 ?_
      refine v_ic_ne (pc := 28) (tgt := 36) hC dX11_race_28 rfl (fun c5 => ?_) (fun c5 => ?_)
      · replace h := (if_neg c5).symm.trans h
        refine v_aload_n (pc := 36) hC dX11_race_36 rfl ?_
        refine v_iload_n (pc := 37) hC dX11_race_37 rfl ?_
        refine v_iload_n (pc := 38) hC dX11_race_38 rfl ?_
        obtain ⟨w4, hw4, h⟩ := obd_s h
        refine v_cV (pc := 39) [] [.int w4.1] gm_X11_raceMore hC s_49 rfl rfl (ct_X11_raceMore  hw4) ml_X11_101 rfl rfl rfl rfl rfl rfl dX11_race_39 ?_
        obtain rfl := Option.some.inj h
        exact v_iret (pc := 42) hC rfl dX11_race_42 hP
      · replace h := (if_pos c5).symm.trans h
        refine v_bipush (pc := 31) (-4 : Int32) rfl hC dX11_race_31 ?_
        refine v_goto (pc := 33) (tgt := 42) hC dX11_race_33 rfl ?_
        obtain rfl := Option.some.inj h
        exact v_iret (pc := 42) hC rfl dX11_race_42 hP
    · replace h := (if_pos c6).symm.trans h
      refine v_bipush (pc := 19) (-2 : Int32) rfl hC dX11_race_19 ?_
      obtain rfl := Option.some.inj h
      exact v_iret (pc := 21) hC rfl dX11_race_21 hP
theorem dX11_swimMore_0 : decode cX11_swimMore 0 = .ok (.aload_n 0, 1) := by decide +kernel
theorem dX11_swimMore_1 : decode cX11_swimMore 1 = .ok (.getfield 16, 3) := by decide +kernel
theorem dX11_swimMore_4 : decode cX11_swimMore 4 = .ok (.aload_n 0, 1) := by decide +kernel
theorem dX11_swimMore_5 : decode cX11_swimMore 5 = .ok (.getfield 98, 3) := by decide +kernel
theorem dX11_swimMore_8 : decode cX11_swimMore 8 = .ok (.iload_n 1, 1) := by decide +kernel
theorem dX11_swimMore_9 : decode cX11_swimMore 9 = .ok (.iastore, 1) := by decide +kernel
theorem dX11_swimMore_10 : decode cX11_swimMore 10 = .ok (.aload_n 0, 1) := by decide +kernel
theorem dX11_swimMore_11 : decode cX11_swimMore 11 = .ok (.getfield 19, 3) := by decide +kernel
theorem dX11_swimMore_14 : decode cX11_swimMore 14 = .ok (.aload_n 0, 1) := by decide +kernel
theorem dX11_swimMore_15 : decode cX11_swimMore 15 = .ok (.getfield 98, 3) := by decide +kernel
theorem dX11_swimMore_18 : decode cX11_swimMore 18 = .ok (.iload_n 2, 1) := by decide +kernel
theorem dX11_swimMore_19 : decode cX11_swimMore 19 = .ok (.iastore, 1) := by decide +kernel
theorem dX11_swimMore_20 : decode cX11_swimMore 20 = .ok (.aload_n 0, 1) := by decide +kernel
theorem dX11_swimMore_21 : decode cX11_swimMore 21 = .ok (.getfield 22, 3) := by decide +kernel
theorem dX11_swimMore_24 : decode cX11_swimMore 24 = .ok (.aload_n 0, 1) := by decide +kernel
theorem dX11_swimMore_25 : decode cX11_swimMore 25 = .ok (.getfield 98, 3) := by decide +kernel
theorem dX11_swimMore_28 : decode cX11_swimMore 28 = .ok (.iload_n 3, 1) := by decide +kernel
theorem dX11_swimMore_29 : decode cX11_swimMore 29 = .ok (.iastore, 1) := by decide +kernel
theorem dX11_swimMore_30 : decode cX11_swimMore 30 = .ok (.iconst 0, 1) := by decide +kernel
theorem dX11_swimMore_31 : decode cX11_swimMore 31 = .ok (.istore 4, 2) := by decide +kernel
theorem dX11_swimMore_33 : decode cX11_swimMore 33 = .ok (.iload 4, 2) := by decide +kernel
theorem dX11_swimMore_35 : decode cX11_swimMore 35 = .ok (.iconst 4, 1) := by decide +kernel
theorem dX11_swimMore_36 : decode cX11_swimMore 36 = .ok (.if_icmp .ge 24, 3) := by decide +kernel
theorem dX11_swimMore_39 : decode cX11_swimMore 39 = .ok (.aload_n 0, 1) := by decide +kernel
theorem dX11_swimMore_40 : decode cX11_swimMore 40 = .ok (.getfield 25, 3) := by decide +kernel
theorem dX11_swimMore_43 : decode cX11_swimMore 43 = .ok (.iconst 4, 1) := by decide +kernel
theorem dX11_swimMore_44 : decode cX11_swimMore 44 = .ok (.aload_n 0, 1) := by decide +kernel
theorem dX11_swimMore_45 : decode cX11_swimMore 45 = .ok (.getfield 98, 3) := by decide +kernel
theorem dX11_swimMore_48 : decode cX11_swimMore 48 = .ok (.imul, 1) := by decide +kernel
theorem dX11_swimMore_49 : decode cX11_swimMore 49 = .ok (.iload 4, 2) := by decide +kernel
theorem dX11_swimMore_51 : decode cX11_swimMore 51 = .ok (.iadd, 1) := by decide +kernel
theorem dX11_swimMore_52 : decode cX11_swimMore 52 = .ok (.iconst (-1), 1) := by decide +kernel
theorem dX11_swimMore_53 : decode cX11_swimMore 53 = .ok (.iastore, 1) := by decide +kernel
theorem dX11_swimMore_54 : decode cX11_swimMore 54 = .ok (.iinc 4 1, 3) := by decide +kernel
theorem dX11_swimMore_57 : decode cX11_swimMore 57 = .ok (.goto (-24), 3) := by decide +kernel
theorem dX11_swimMore_60 : decode cX11_swimMore 60 = .ok (.aload_n 0, 1) := by decide +kernel
theorem dX11_swimMore_61 : decode cX11_swimMore 61 = .ok (.dup, 1) := by decide +kernel
theorem dX11_swimMore_62 : decode cX11_swimMore 62 = .ok (.getfield 98, 3) := by decide +kernel
theorem dX11_swimMore_65 : decode cX11_swimMore 65 = .ok (.iconst 1, 1) := by decide +kernel
theorem dX11_swimMore_66 : decode cX11_swimMore 66 = .ok (.iadd, 1) := by decide +kernel
theorem dX11_swimMore_67 : decode cX11_swimMore 67 = .ok (.putfield 98, 3) := by decide +kernel
theorem dX11_swimMore_70 : decode cX11_swimMore 70 = .ok (.aload_n 0, 1) := by decide +kernel
theorem dX11_swimMore_71 : decode cX11_swimMore 71 = .ok (.getfield 98, 3) := by decide +kernel
theorem dX11_swimMore_74 : decode cX11_swimMore 74 = .ok (.iconst 1, 1) := by decide +kernel
theorem dX11_swimMore_75 : decode cX11_swimMore 75 = .ok (.isub, 1) := by decide +kernel
theorem dX11_swimMore_76 : decode cX11_swimMore 76 = .ok (.ireturn, 1) := by decide +kernel
def fX11_swimMore_L33  (a : Int32) (s : Sg) : Option (((Int32) ⊕ (Unit)) × Sg) :=
  if (4 : Int32) ≤ a then
  some (.inr (), s)
  else
  (wI s 55 256 (((4 : Int32) * (gI s 49 3)) + a) (-1 : Int32)).bind fun s2 =>
  bnd (a + (1 : Int32)) fun x3 =>
  some (.inl x3, s2)
def fX11_swimMore (x0_ : Int32) (x1_ : Int32) (x2_ : Int32) (s : Sg) : Option (Int32 × Sg) :=
  (wI s 52 64 (gI s 49 3) x0_).bind fun s1 =>
  (wI s1 53 64 (gI s1 49 3) x1_).bind fun s2 =>
  (wI s2 54 64 (gI s2 49 3) x2_).bind fun s3 =>
  (lpG (fX11_swimMore_L33) FU (0 : Int32) s3).bind fun w4 =>
  bnd (sI w4.2 49 3 ((gI w4.2 49 3) + (1 : Int32))) fun s5 =>
  some (((gI s5 49 3) - (1 : Int32)), s5)
theorem ct_X11_swimMore {g : Gl} {x0_ : Int32} {x1_ : Int32} {x2_ : Int32} {s : Sg} {w : Int32 × Sg}  (h : fX11_swimMore x0_ x1_ x2_ s = some w) : Ct SS g iX11_swimMore 0 0 [.ref (gad g 49), .int x0_, .int x1_, .int x2_] s (Dt (some (.int w.1)) w.2) := by
  refine Ct.ofV (by decide +kernel) 1 (lv0 := [some (.ref (gad g 49)), some (.int x0_), some (.int x1_), some (.int x2_), none]) rfl rfl (fun M hC => ?_)
  have hP : (Dt (some (.int w.1)) w.2) (some (.int w.1)) w.2 := ⟨rfl, rfl⟩
  generalize Dt (some (.int w.1)) w.2 = P at hP ⊢
  unfold fX11_swimMore at h
  refine v_aload_n (pc := 0) hC dX11_swimMore_0 rfl ?_
  refine v_gt (pc := 1) 4 (.ref (gad g 52)) hC s_49 rfl rfl rfl rfl fl_X11_16 dX11_swimMore_1 ?_
  refine v_aload_n (pc := 4) hC dX11_swimMore_4 rfl ?_
  refine v_gt (pc := 5) 3 (.int (gI s 49 3)) hC s_49 rfl rfl rfl rfl fl_X11_98 dX11_swimMore_5 ?_
  refine v_iload_n (pc := 8) hC dX11_swimMore_8 rfl ?_
  obtain ⟨s1, hs1, h⟩ := obd_s h
  refine v_wI (pc := 9) hC s_52 hs1 dX11_swimMore_9 ?_
  refine v_aload_n (pc := 10) hC dX11_swimMore_10 rfl ?_
  refine v_gt (pc := 11) 5 (.ref (gad g 53)) hC s_49 rfl rfl rfl rfl fl_X11_19 dX11_swimMore_11 ?_
  refine v_aload_n (pc := 14) hC dX11_swimMore_14 rfl ?_
  refine v_gt (pc := 15) 3 (.int (gI s1 49 3)) hC s_49 rfl rfl rfl rfl fl_X11_98 dX11_swimMore_15 ?_
  refine v_iload_n (pc := 18) hC dX11_swimMore_18 rfl ?_
  obtain ⟨s2, hs2, h⟩ := obd_s h
  refine v_wI (pc := 19) hC s_53 hs2 dX11_swimMore_19 ?_
  refine v_aload_n (pc := 20) hC dX11_swimMore_20 rfl ?_
  refine v_gt (pc := 21) 6 (.ref (gad g 54)) hC s_49 rfl rfl rfl rfl fl_X11_22 dX11_swimMore_21 ?_
  refine v_aload_n (pc := 24) hC dX11_swimMore_24 rfl ?_
  refine v_gt (pc := 25) 3 (.int (gI s2 49 3)) hC s_49 rfl rfl rfl rfl fl_X11_98 dX11_swimMore_25 ?_
  refine v_iload_n (pc := 28) hC dX11_swimMore_28 rfl ?_
  obtain ⟨s3, hs3, h⟩ := obd_s h
  refine v_wI (pc := 29) hC s_54 hs3 dX11_swimMore_29 ?_
  refine v_iconst (pc := 30) (0 : Int32) rfl hC dX11_swimMore_30 ?_
  refine v_istore (pc := 31) (lv' := [some (.ref (gad g 49)), some (.int x0_), some (.int x1_), some (.int x2_), some (.int (0 : Int32))]) hC dX11_swimMore_31 rfl rfl rfl rfl ?_
  obtain ⟨w4, hw4, h⟩ := obd_s h
  have kx15 : V SS g M iX11_swimMore (PQ SS g M P) 60 [some (.ref (gad g 49)), none, none, none, none] [] w4.2 := by
    refine v_aload_n (pc := 60) hC dX11_swimMore_60 rfl ?_
    refine v_dup (pc := 61) hC rfl dX11_swimMore_61 ?_
    refine v_gt (pc := 62) 3 (.int (gI w4.2 49 3)) hC s_49 rfl rfl rfl rfl fl_X11_98 dX11_swimMore_62 ?_
    refine v_iconst (pc := 65) (1 : Int32) rfl hC dX11_swimMore_65 ?_
    refine v_iadd (pc := 66) hC dX11_swimMore_66 ?_
    obtain ⟨s5, hs5, h⟩ := bnd_s h
    refine v_pI (pc := 67) 3 hC s_49 rfl rfl rfl rfl rfl rfl fl_X11_98 hs5 dX11_swimMore_67 ?_
    refine v_aload_n (pc := 70) hC dX11_swimMore_70 rfl ?_
    refine v_gt (pc := 71) 3 (.int (gI s5 49 3)) hC s_49 rfl rfl rfl rfl fl_X11_98 dX11_swimMore_71 ?_
    refine v_iconst (pc := 74) (1 : Int32) rfl hC dX11_swimMore_74 ?_
    refine v_isub (pc := 75) hC dX11_swimMore_75 ?_
    obtain rfl := Option.some.inj h
    exact v_iret (pc := 76) hC rfl dX11_swimMore_76 hP
  refine V.ls (ls_some (ls_none (ls_none (ls_none (ls_some ls_nil))))) (v_loop (pc := 33) (fun a8 => [some (.ref (gad g 49)), none, none, none, some (.int a8)]) (fun z t => V SS g M iX11_swimMore (PQ SS g M P) 60 [some (.ref (gad g 49)), none, none, none, none] [] t) (fun a8 s6 u7 hu7 k9 k10 => ?_) _ _ _ _ hw4 kx15)
  unfold fX11_swimMore_L33 at hu7
  refine v_iload (pc := 33) hC dX11_swimMore_33 rfl ?_
  refine v_iconst (pc := 35) (4 : Int32) rfl hC dX11_swimMore_35 ?_
  refine v_ic_ge (pc := 36) (tgt := 60) hC dX11_swimMore_36 rfl (fun c12 => ?_) (fun c12 => ?_)
  · replace hu7 := (if_pos c12).symm.trans hu7
    obtain rfl := Option.some.inj hu7
    exact V.ls (ls_some (ls_none (ls_none (ls_none (ls_none ls_nil))))) (k10 _ rfl)
  · replace hu7 := (if_neg c12).symm.trans hu7
    refine v_aload_n (pc := 39) hC dX11_swimMore_39 rfl ?_
    refine v_gt (pc := 40) 7 (.ref (gad g 55)) hC s_49 rfl rfl rfl rfl fl_X11_25 dX11_swimMore_40 ?_
    refine v_iconst (pc := 43) (4 : Int32) rfl hC dX11_swimMore_43 ?_
    refine v_aload_n (pc := 44) hC dX11_swimMore_44 rfl ?_
    refine v_gt (pc := 45) 3 (.int (gI s6 49 3)) hC s_49 rfl rfl rfl rfl fl_X11_98 dX11_swimMore_45 ?_
    refine v_imul (pc := 48) hC dX11_swimMore_48 ?_
    refine v_iload (pc := 49) hC dX11_swimMore_49 rfl ?_
    refine v_iadd (pc := 51) hC dX11_swimMore_51 ?_
    refine v_iconst (pc := 52) (-1 : Int32) rfl hC dX11_swimMore_52 ?_
    obtain ⟨s13, hs13, hu7⟩ := obd_s hu7
    refine v_wI (pc := 53) hC s_55 hs13 dX11_swimMore_53 ?_
    obtain ⟨x14, hx14, hu7⟩ := bnd_s hu7
    refine v_iinc (pc := 54) (lv' := [some (.ref (gad g 49)), none, none, none, some (.int x14)]) (1 : Int32) rfl hx14 hC dX11_swimMore_54 rfl rfl rfl rfl ?_
    refine v_goto (pc := 57) (tgt := 33) hC dX11_swimMore_57 rfl ?_
    obtain rfl := Option.some.inj hu7
    exact V.ls (ls_some (ls_none (ls_none (ls_none (ls_some ls_nil))))) (k9 _ rfl)
theorem dX11_swim_0 : decode cX11_swim 0 = .ok (.aload_n 0, 1) := by decide +kernel
theorem dX11_swim_1 : decode cX11_swim 1 = .ok (.iload_n 1, 1) := by decide +kernel
theorem dX11_swim_2 : decode cX11_swim 2 = .ok (.invokevirtual 105, 3) := by decide +kernel
theorem dX11_swim_5 : decode cX11_swim 5 = .ok (.ifCond .eq 17, 3) := by decide +kernel
theorem dX11_swim_8 : decode cX11_swim 8 = .ok (.iload_n 2, 1) := by decide +kernel
theorem dX11_swim_9 : decode cX11_swim 9 = .ok (.invokestatic 109, 3) := by decide +kernel
theorem dX11_swim_12 : decode cX11_swim 12 = .ok (.ifCond .eq 10, 3) := by decide +kernel
theorem dX11_swim_15 : decode cX11_swim 15 = .ok (.iload_n 3, 1) := by decide +kernel
theorem dX11_swim_16 : decode cX11_swim 16 = .ok (.invokestatic 112, 3) := by decide +kernel
theorem dX11_swim_19 : decode cX11_swim 19 = .ok (.ifCond .ne 6, 3) := by decide +kernel
theorem dX11_swim_22 : decode cX11_swim 22 = .ok (.bipush (-2), 2) := by decide +kernel
theorem dX11_swim_24 : decode cX11_swim 24 = .ok (.ireturn, 1) := by decide +kernel
theorem dX11_swim_25 : decode cX11_swim 25 = .ok (.iconst 0, 1) := by decide +kernel
theorem dX11_swim_26 : decode cX11_swim 26 = .ok (.istore 4, 2) := by decide +kernel
theorem dX11_swim_28 : decode cX11_swim 28 = .ok (.iload 4, 2) := by decide +kernel
theorem dX11_swim_30 : decode cX11_swim 30 = .ok (.aload_n 0, 1) := by decide +kernel
theorem dX11_swim_31 : decode cX11_swim 31 = .ok (.getfield 98, 3) := by decide +kernel
theorem dX11_swim_34 : decode cX11_swim 34 = .ok (.if_icmp .ge 45, 3) := by decide +kernel
theorem dX11_swim_37 : decode cX11_swim 37 = .ok (.aload_n 0, 1) := by decide +kernel
theorem dX11_swim_38 : decode cX11_swim 38 = .ok (.getfield 16, 3) := by decide +kernel
theorem dX11_swim_41 : decode cX11_swim 41 = .ok (.iload 4, 2) := by decide +kernel
theorem dX11_swim_43 : decode cX11_swim 43 = .ok (.iaload, 1) := by decide +kernel
theorem dX11_swim_44 : decode cX11_swim 44 = .ok (.iload_n 1, 1) := by decide +kernel
theorem dX11_swim_45 : decode cX11_swim 45 = .ok (.if_icmp .ne 28, 3) := by decide +kernel
theorem dX11_swim_48 : decode cX11_swim 48 = .ok (.aload_n 0, 1) := by decide +kernel
theorem dX11_swim_49 : decode cX11_swim 49 = .ok (.getfield 19, 3) := by decide +kernel
theorem dX11_swim_52 : decode cX11_swim 52 = .ok (.iload 4, 2) := by decide +kernel
theorem dX11_swim_54 : decode cX11_swim 54 = .ok (.iaload, 1) := by decide +kernel
theorem dX11_swim_55 : decode cX11_swim 55 = .ok (.iload_n 2, 1) := by decide +kernel
theorem dX11_swim_56 : decode cX11_swim 56 = .ok (.if_icmp .eq 14, 3) := by decide +kernel
theorem dX11_swim_59 : decode cX11_swim 59 = .ok (.aload_n 0, 1) := by decide +kernel
theorem dX11_swim_60 : decode cX11_swim 60 = .ok (.getfield 22, 3) := by decide +kernel
theorem dX11_swim_63 : decode cX11_swim 63 = .ok (.iload 4, 2) := by decide +kernel
theorem dX11_swim_65 : decode cX11_swim 65 = .ok (.iaload, 1) := by decide +kernel
theorem dX11_swim_66 : decode cX11_swim 66 = .ok (.iload_n 3, 1) := by decide +kernel
theorem dX11_swim_67 : decode cX11_swim 67 = .ok (.if_icmp .ne 6, 3) := by decide +kernel
theorem dX11_swim_70 : decode cX11_swim 70 = .ok (.bipush (-2), 2) := by decide +kernel
theorem dX11_swim_72 : decode cX11_swim 72 = .ok (.ireturn, 1) := by decide +kernel
theorem dX11_swim_73 : decode cX11_swim 73 = .ok (.iinc 4 1, 3) := by decide +kernel
theorem dX11_swim_76 : decode cX11_swim 76 = .ok (.goto (-48), 3) := by decide +kernel
theorem dX11_swim_79 : decode cX11_swim 79 = .ok (.aload_n 0, 1) := by decide +kernel
theorem dX11_swim_80 : decode cX11_swim 80 = .ok (.getfield 98, 3) := by decide +kernel
theorem dX11_swim_83 : decode cX11_swim 83 = .ok (.bipush 64, 2) := by decide +kernel
theorem dX11_swim_85 : decode cX11_swim 85 = .ok (.if_icmp .ne 8, 3) := by decide +kernel
theorem dX11_swim_88 : decode cX11_swim 88 = .ok (.bipush (-4), 2) := by decide +kernel
theorem dX11_swim_90 : decode cX11_swim 90 = .ok (.goto 10, 3) := by decide +kernel
theorem dX11_swim_93 : decode cX11_swim 93 = .ok (.aload_n 0, 1) := by decide +kernel
theorem dX11_swim_94 : decode cX11_swim 94 = .ok (.iload_n 1, 1) := by decide +kernel
theorem dX11_swim_95 : decode cX11_swim 95 = .ok (.iload_n 2, 1) := by decide +kernel
theorem dX11_swim_96 : decode cX11_swim 96 = .ok (.iload_n 3, 1) := by decide +kernel
theorem dX11_swim_97 : decode cX11_swim 97 = .ok (.invokevirtual 115, 3) := by decide +kernel
theorem dX11_swim_100 : decode cX11_swim 100 = .ok (.ireturn, 1) := by decide +kernel
def fX11_swim_L28 (p1 : Int32) (p2 : Int32) (p3 : Int32) (a : Int32) (s : Sg) : Option (((Int32) ⊕ (Int32 ⊕ (Unit))) × Sg) :=
  if (gI s 49 3) ≤ a then
  some (.inr (.inr ()), s)
  else
  (aI s 52 64 a).bind fun v2 =>
  if v2 = p1 then
  (aI s 53 64 a).bind fun v5 =>
  if v5 = p2 then
  some (.inr (.inl (-2 : Int32)), s)
  else
  (aI s 54 64 a).bind fun v7 =>
  if v7 = p3 then
  some (.inr (.inl (-2 : Int32)), s)
  else
  bnd (a + (1 : Int32)) fun x8 =>
  some (.inl x8, s)
  else
  bnd (a + (1 : Int32)) fun x3 =>
  some (.inl x3, s)
def fX11_swim (x0_ : Int32) (x1_ : Int32) (x2_ : Int32) (s : Sg) : Option (Int32 × Sg) :=
  (fX11_isRace x0_ s).bind fun w1 =>
  if w1.1 = 0 then
  some ((-2 : Int32), w1.2)
  else
  (fX11_isSwimmer x1_ w1.2).bind fun w3 =>
  if w3.1 = 0 then
  some ((-2 : Int32), w3.2)
  else
  (fX11_isLane x2_ w3.2).bind fun w5 =>
  if w5.1 = 0 then
  some ((-2 : Int32), w5.2)
  else
  (lpG (fX11_swim_L28 x0_ x1_ x2_) FU (0 : Int32) w5.2).bind fun w6 =>
  Sum.elim (fun r27 => some (r27, w6.2)) (fun e7 => if (gI w6.2 49 3) = (64 : Int32) then
  some ((-4 : Int32), w6.2)
  else
  (fX11_swimMore x0_ x1_ x2_ w6.2).bind fun w8 =>
  some (w8.1, w8.2)) w6.1
theorem ct_X11_swim {g : Gl} {x0_ : Int32} {x1_ : Int32} {x2_ : Int32} {s : Sg} {w : Int32 × Sg}  (h : fX11_swim x0_ x1_ x2_ s = some w) : Ct SS g iX11_swim 2 43 [.ref (gad g 49), .int x0_, .int x1_, .int x2_] s (Dt (some (.int w.1)) w.2) := by
  refine Ct.ofV (by decide +kernel) 1 (lv0 := [some (.ref (gad g 49)), some (.int x0_), some (.int x1_), some (.int x2_), none]) rfl rfl (fun M hC => ?_)
  have hP : (Dt (some (.int w.1)) w.2) (some (.int w.1)) w.2 := ⟨rfl, rfl⟩
  generalize Dt (some (.int w.1)) w.2 = P at hP ⊢
  unfold fX11_swim at h
  refine v_aload_n (pc := 0) hC dX11_swim_0 rfl ?_
  refine v_iload_n (pc := 1) hC dX11_swim_1 rfl ?_
  obtain ⟨w1, hw1, h⟩ := obd_s h
  refine v_cV (pc := 2) [] [.int w1.1] gm_X11_isRace hC s_49 rfl rfl (ct_X11_isRace  hw1) ml_X11_105 rfl rfl rfl rfl rfl rfl dX11_swim_2 ?_
  refine v_if_eq (pc := 5) (tgt := 22) hC dX11_swim_5 rfl (fun c2 => ?_) (fun c2 => ?_)
  · replace h := (if_pos c2).symm.trans h
    refine v_bipush (pc := 22) (-2 : Int32) rfl hC dX11_swim_22 ?_
    obtain rfl := Option.some.inj h
    exact v_iret (pc := 24) hC rfl dX11_swim_24 hP
  · replace h := (if_neg c2).symm.trans h
    refine v_iload_n (pc := 8) hC dX11_swim_8 rfl ?_
    obtain ⟨w3, hw3, h⟩ := obd_s h
    refine v_cS (pc := 9) [] [.int w3.1] gm_X11_isSwimmer hC (ct_X11_isSwimmer  hw3) ml_X11_109 rfl rfl rfl rfl rfl rfl dX11_swim_9 ?_
    refine v_if_eq (pc := 12) (tgt := 22) hC dX11_swim_12 rfl (fun c4 => ?_) (fun c4 => ?_)
    · replace h := (if_pos c4).symm.trans h
      refine v_bipush (pc := 22) (-2 : Int32) rfl hC dX11_swim_22 ?_
      obtain rfl := Option.some.inj h
      exact v_iret (pc := 24) hC rfl dX11_swim_24 hP
    · replace h := (if_neg c4).symm.trans h
      refine v_iload_n (pc := 15) hC dX11_swim_15 rfl ?_
      obtain ⟨w5, hw5, h⟩ := obd_s h
      refine v_cS (pc := 16) [] [.int w5.1] gm_X11_isLane hC (ct_X11_isLane  hw5) ml_X11_112 rfl rfl rfl rfl rfl rfl dX11_swim_16 ?_
      refine v_if_ne (pc := 19) (tgt := 25) hC dX11_swim_19 rfl (fun c28 => ?_) (fun c28 => ?_)
      · replace h := (if_neg c28).symm.trans h
        refine v_iconst (pc := 25) (0 : Int32) rfl hC dX11_swim_25 ?_
        refine v_istore (pc := 26) (lv' := [some (.ref (gad g 49)), some (.int x0_), some (.int x1_), some (.int x2_), some (.int (0 : Int32))]) hC dX11_swim_26 rfl rfl rfl rfl ?_
        obtain ⟨w6, hw6, h⟩ := obd_s h
        have kr25 : ∀ r27, w6.1 = .inl r27 → P (some (.int r27)) w6.2 := by
          intro r27 hr27
          rw [hr27] at h
          replace h := (Sum.elim_inl _ _ _).symm.trans h
          obtain rfl := Option.some.inj h
          exact hP
        have ke26 : ∀ e7, w6.1 = .inr e7 → V SS g M iX11_swim (PQ SS g M P) 79 [some (.ref (gad g 49)), some (.int x0_), some (.int x1_), some (.int x2_), none] [] w6.2 := by
          intro e7 he7
          rw [he7] at h
          replace h := (Sum.elim_inr _ _ _).symm.trans h
          refine v_aload_n (pc := 79) hC dX11_swim_79 rfl ?_
          refine v_gt (pc := 80) 3 (.int (gI w6.2 49 3)) hC s_49 rfl rfl rfl rfl fl_X11_98 dX11_swim_80 ?_
          refine v_bipush (pc := 83) (64 : Int32) rfl hC dX11_swim_83 ?_
          refine v_ic_ne (pc := 85) (tgt := 93) hC dX11_swim_85 rfl (fun c9 => ?_) (fun c9 => ?_)
          · replace h := (if_neg c9).symm.trans h
            refine v_aload_n (pc := 93) hC dX11_swim_93 rfl ?_
            refine v_iload_n (pc := 94) hC dX11_swim_94 rfl ?_
            refine v_iload_n (pc := 95) hC dX11_swim_95 rfl ?_
            refine v_iload_n (pc := 96) hC dX11_swim_96 rfl ?_
            obtain ⟨w8, hw8, h⟩ := obd_s h
            refine v_cV (pc := 97) [] [.int w8.1] gm_X11_swimMore hC s_49 rfl rfl (ct_X11_swimMore  hw8) ml_X11_115 rfl rfl rfl rfl rfl rfl dX11_swim_97 ?_
            obtain rfl := Option.some.inj h
            exact v_iret (pc := 100) hC rfl dX11_swim_100 hP
          · replace h := (if_pos c9).symm.trans h
            refine v_bipush (pc := 88) (-4 : Int32) rfl hC dX11_swim_88 ?_
            refine v_goto (pc := 90) (tgt := 100) hC dX11_swim_90 rfl ?_
            obtain rfl := Option.some.inj h
            exact v_iret (pc := 100) hC rfl dX11_swim_100 hP
        refine V.ls (ls_some (ls_some (ls_some (ls_some (ls_some ls_nil))))) (v_loopR (pc := 28) (fun a12 => [some (.ref (gad g 49)), some (.int x0_), some (.int x1_), some (.int x2_), some (.int a12)]) (fun (r27 : Int32) t => P (some (.int r27)) t) (fun z t => V SS g M iX11_swim (PQ SS g M P) 79 [some (.ref (gad g 49)), some (.int x0_), some (.int x1_), some (.int x2_), none] [] t) (fun a12 s10 u11 hu11 k13 k15 k14 => ?_) _ _ _ _ hw6 kr25 ke26)
        unfold fX11_swim_L28 at hu11
        refine v_iload (pc := 28) hC dX11_swim_28 rfl ?_
        refine v_aload_n (pc := 30) hC dX11_swim_30 rfl ?_
        refine v_gt (pc := 31) 3 (.int (gI s10 49 3)) hC s_49 rfl rfl rfl rfl fl_X11_98 dX11_swim_31 ?_
        refine v_ic_ge (pc := 34) (tgt := 79) hC dX11_swim_34 rfl (fun c16 => ?_) (fun c16 => ?_)
        · replace hu11 := (if_pos c16).symm.trans hu11
          obtain rfl := Option.some.inj hu11
          exact V.ls (ls_some (ls_some (ls_some (ls_some (ls_none ls_nil))))) (k14 _ rfl)
        · replace hu11 := (if_neg c16).symm.trans hu11
          refine v_aload_n (pc := 37) hC dX11_swim_37 rfl ?_
          refine v_gt (pc := 38) 4 (.ref (gad g 52)) hC s_49 rfl rfl rfl rfl fl_X11_16 dX11_swim_38 ?_
          refine v_iload (pc := 41) hC dX11_swim_41 rfl ?_
          obtain ⟨v17, hv17, hu11⟩ := obd_s hu11
          refine v_aI (pc := 43) hC s_52 hv17 dX11_swim_43 ?_
          refine v_iload_n (pc := 44) hC dX11_swim_44 rfl ?_
          refine v_ic_ne (pc := 45) (tgt := 73) hC dX11_swim_45 rfl (fun c19 => ?_) (fun c19 => ?_)
          · replace hu11 := (if_neg c19).symm.trans hu11
            obtain ⟨x18, hx18, hu11⟩ := bnd_s hu11
            refine v_iinc (pc := 73) (lv' := [some (.ref (gad g 49)), some (.int x0_), some (.int x1_), some (.int x2_), some (.int x18)]) (1 : Int32) rfl hx18 hC dX11_swim_73 rfl rfl rfl rfl ?_
            refine v_goto (pc := 76) (tgt := 28) hC dX11_swim_76 rfl ?_
            obtain rfl := Option.some.inj hu11
            exact V.ls (ls_some (ls_some (ls_some (ls_some (ls_some ls_nil))))) (k13 _ rfl)
          · replace hu11 := (if_pos c19).symm.trans hu11
            refine v_aload_n (pc := 48) hC dX11_swim_48 rfl ?_
            refine v_gt (pc := 49) 5 (.ref (gad g 53)) hC s_49 rfl rfl rfl rfl fl_X11_19 dX11_swim_49 ?_
            refine v_iload (pc := 52) hC dX11_swim_52 rfl ?_
            obtain ⟨v20, hv20, hu11⟩ := obd_s hu11
            refine v_aI (pc := 54) hC s_53 hv20 dX11_swim_54 ?_
            refine v_iload_n (pc := 55) hC dX11_swim_55 rfl ?_
            refine v_ic_eq (pc := 56) (tgt := 70) hC dX11_swim_56 rfl (fun c21 => ?_) (fun c21 => ?_)
            · replace hu11 := (if_pos c21).symm.trans hu11
              refine v_bipush (pc := 70) (-2 : Int32) rfl hC dX11_swim_70 ?_
              obtain rfl := Option.some.inj hu11
              exact v_iret (pc := 72) hC rfl dX11_swim_72 (k15 _ rfl)
            · replace hu11 := (if_neg c21).symm.trans hu11
              refine v_aload_n (pc := 59) hC dX11_swim_59 rfl ?_
              refine v_gt (pc := 60) 6 (.ref (gad g 54)) hC s_49 rfl rfl rfl rfl fl_X11_22 dX11_swim_60 ?_
              refine v_iload (pc := 63) hC dX11_swim_63 rfl ?_
              obtain ⟨v22, hv22, hu11⟩ := obd_s hu11
              refine v_aI (pc := 65) hC s_54 hv22 dX11_swim_65 ?_
              refine v_iload_n (pc := 66) hC dX11_swim_66 rfl ?_
              refine v_ic_ne (pc := 67) (tgt := 73) hC dX11_swim_67 rfl (fun c24 => ?_) (fun c24 => ?_)
              · replace hu11 := (if_neg c24).symm.trans hu11
                obtain ⟨x23, hx23, hu11⟩ := bnd_s hu11
                refine v_iinc (pc := 73) (lv' := [some (.ref (gad g 49)), some (.int x0_), some (.int x1_), some (.int x2_), some (.int x23)]) (1 : Int32) rfl hx23 hC dX11_swim_73 rfl rfl rfl rfl ?_
                refine v_goto (pc := 76) (tgt := 28) hC dX11_swim_76 rfl ?_
                obtain rfl := Option.some.inj hu11
                exact V.ls (ls_some (ls_some (ls_some (ls_some (ls_some ls_nil))))) (k13 _ rfl)
              · replace hu11 := (if_pos c24).symm.trans hu11
                refine v_bipush (pc := 70) (-2 : Int32) rfl hC dX11_swim_70 ?_
                obtain rfl := Option.some.inj hu11
                exact v_iret (pc := 72) hC rfl dX11_swim_72 (k15 _ rfl)
      · replace h := (if_pos c28).symm.trans h
        refine v_bipush (pc := 22) (-2 : Int32) rfl hC dX11_swim_22 ?_
        obtain rfl := Option.some.inj h
        exact v_iret (pc := 24) hC rfl dX11_swim_24 hP
theorem dX11_isTime_0 : decode cX11_isTime 0 = .ok (.iload_n 0, 1) := by decide +kernel
theorem dX11_isTime_1 : decode cX11_isTime 1 = .ok (.iconst (-1), 1) := by decide +kernel
theorem dX11_isTime_2 : decode cX11_isTime 2 = .ok (.if_icmp .eq 14, 3) := by decide +kernel
theorem dX11_isTime_5 : decode cX11_isTime 5 = .ok (.iload_n 0, 1) := by decide +kernel
theorem dX11_isTime_6 : decode cX11_isTime 6 = .ok (.iconst 1, 1) := by decide +kernel
theorem dX11_isTime_7 : decode cX11_isTime 7 = .ok (.sipush 9999, 3) := by decide +kernel
theorem dX11_isTime_10 : decode cX11_isTime 10 = .ok (.invokestatic 94, 3) := by decide +kernel
theorem dX11_isTime_13 : decode cX11_isTime 13 = .ok (.ifCond .eq 7, 3) := by decide +kernel
theorem dX11_isTime_16 : decode cX11_isTime 16 = .ok (.iconst 1, 1) := by decide +kernel
theorem dX11_isTime_17 : decode cX11_isTime 17 = .ok (.goto 4, 3) := by decide +kernel
theorem dX11_isTime_20 : decode cX11_isTime 20 = .ok (.iconst 0, 1) := by decide +kernel
theorem dX11_isTime_21 : decode cX11_isTime 21 = .ok (.ireturn, 1) := by decide +kernel
def fX11_isTime (x0_ : Int32) (s : Sg) : Option (Int32 × Sg) :=
  if x0_ = (-1 : Int32) then
  some ((1 : Int32), s)
  else
  (fX11_in x0_ (1 : Int32) (9999 : Int32) s).bind fun w2 =>
  if w2.1 = 0 then
  some ((0 : Int32), w2.2)
  else
  some ((1 : Int32), w2.2)
theorem ct_X11_isTime {g : Gl} {x0_ : Int32} {s : Sg} {w : Int32 × Sg}  (h : fX11_isTime x0_ s = some w) : Ct SS g iX11_isTime 1 22 [.int x0_] s (Dt (some (.int w.1)) w.2) := by
  refine Ct.ofV (by decide +kernel) 0 (lv0 := [some (.int x0_)]) rfl rfl (fun M hC => ?_)
  have hP : (Dt (some (.int w.1)) w.2) (some (.int w.1)) w.2 := ⟨rfl, rfl⟩
  generalize Dt (some (.int w.1)) w.2 = P at hP ⊢
  unfold fX11_isTime at h
  refine v_iload_n (pc := 0) hC dX11_isTime_0 rfl ?_
  refine v_iconst (pc := 1) (-1 : Int32) rfl hC dX11_isTime_1 ?_
  refine v_ic_eq (pc := 2) (tgt := 16) hC dX11_isTime_2 rfl (fun c1 => ?_) (fun c1 => ?_)
  · replace h := (if_pos c1).symm.trans h
    refine v_iconst (pc := 16) (1 : Int32) rfl hC dX11_isTime_16 ?_
    refine v_goto (pc := 17) (tgt := 21) hC dX11_isTime_17 rfl ?_
    obtain rfl := Option.some.inj h
    exact v_zret (pc := 21) hC rfl rfl dX11_isTime_21 hP
  · replace h := (if_neg c1).symm.trans h
    refine v_iload_n (pc := 5) hC dX11_isTime_5 rfl ?_
    refine v_iconst (pc := 6) (1 : Int32) rfl hC dX11_isTime_6 ?_
    refine v_sipush (pc := 7) (9999 : Int32) rfl hC dX11_isTime_7 ?_
    obtain ⟨w2, hw2, h⟩ := obd_s h
    refine v_cS (pc := 10) [] [.int w2.1] gm_X11_in hC (ct_X11_in  hw2) ml_X11_94 rfl rfl rfl rfl rfl rfl dX11_isTime_10 ?_
    refine v_if_eq (pc := 13) (tgt := 20) hC dX11_isTime_13 rfl (fun c3 => ?_) (fun c3 => ?_)
    · replace h := (if_pos c3).symm.trans h
      refine v_iconst (pc := 20) (0 : Int32) rfl hC dX11_isTime_20 ?_
      obtain rfl := Option.some.inj h
      exact v_zret (pc := 21) hC rfl rfl dX11_isTime_21 hP
    · replace h := (if_neg c3).symm.trans h
      refine v_iconst (pc := 16) (1 : Int32) rfl hC dX11_isTime_16 ?_
      refine v_goto (pc := 17) (tgt := 21) hC dX11_isTime_17 rfl ?_
      obtain rfl := Option.some.inj h
      exact v_zret (pc := 21) hC rfl rfl dX11_isTime_21 hP
theorem dX11_time_0 : decode cX11_time 0 = .ok (.aload_n 0, 1) := by decide +kernel
theorem dX11_time_1 : decode cX11_time 1 = .ok (.iload_n 1, 1) := by decide +kernel
theorem dX11_time_2 : decode cX11_time 2 = .ok (.invokevirtual 119, 3) := by decide +kernel
theorem dX11_time_5 : decode cX11_time 5 = .ok (.ifCond .eq 31, 3) := by decide +kernel
theorem dX11_time_8 : decode cX11_time 8 = .ok (.iload_n 2, 1) := by decide +kernel
theorem dX11_time_9 : decode cX11_time 9 = .ok (.iconst 0, 1) := by decide +kernel
theorem dX11_time_10 : decode cX11_time 10 = .ok (.aload_n 0, 1) := by decide +kernel
theorem dX11_time_11 : decode cX11_time 11 = .ok (.getfield 7, 3) := by decide +kernel
theorem dX11_time_14 : decode cX11_time 14 = .ok (.aload_n 0, 1) := by decide +kernel
theorem dX11_time_15 : decode cX11_time 15 = .ok (.getfield 16, 3) := by decide +kernel
theorem dX11_time_18 : decode cX11_time 18 = .ok (.iload_n 1, 1) := by decide +kernel
theorem dX11_time_19 : decode cX11_time 19 = .ok (.iaload, 1) := by decide +kernel
theorem dX11_time_20 : decode cX11_time 20 = .ok (.iaload, 1) := by decide +kernel
theorem dX11_time_21 : decode cX11_time 21 = .ok (.iconst 1, 1) := by decide +kernel
theorem dX11_time_22 : decode cX11_time 22 = .ok (.isub, 1) := by decide +kernel
theorem dX11_time_23 : decode cX11_time 23 = .ok (.invokestatic 94, 3) := by decide +kernel
theorem dX11_time_26 : decode cX11_time 26 = .ok (.ifCond .eq 10, 3) := by decide +kernel
theorem dX11_time_29 : decode cX11_time 29 = .ok (.iload_n 3, 1) := by decide +kernel
theorem dX11_time_30 : decode cX11_time 30 = .ok (.invokestatic 122, 3) := by decide +kernel
theorem dX11_time_33 : decode cX11_time 33 = .ok (.ifCond .ne 6, 3) := by decide +kernel
theorem dX11_time_36 : decode cX11_time 36 = .ok (.bipush (-5), 2) := by decide +kernel
theorem dX11_time_38 : decode cX11_time 38 = .ok (.ireturn, 1) := by decide +kernel
theorem dX11_time_39 : decode cX11_time 39 = .ok (.aload_n 0, 1) := by decide +kernel
theorem dX11_time_40 : decode cX11_time 40 = .ok (.getfield 25, 3) := by decide +kernel
theorem dX11_time_43 : decode cX11_time 43 = .ok (.iconst 4, 1) := by decide +kernel
theorem dX11_time_44 : decode cX11_time 44 = .ok (.iload_n 1, 1) := by decide +kernel
theorem dX11_time_45 : decode cX11_time 45 = .ok (.imul, 1) := by decide +kernel
theorem dX11_time_46 : decode cX11_time 46 = .ok (.iload_n 2, 1) := by decide +kernel
theorem dX11_time_47 : decode cX11_time 47 = .ok (.iadd, 1) := by decide +kernel
theorem dX11_time_48 : decode cX11_time 48 = .ok (.iaload, 1) := by decide +kernel
theorem dX11_time_49 : decode cX11_time 49 = .ok (.istore 4, 2) := by decide +kernel
theorem dX11_time_51 : decode cX11_time 51 = .ok (.aload_n 0, 1) := by decide +kernel
theorem dX11_time_52 : decode cX11_time 52 = .ok (.getfield 25, 3) := by decide +kernel
theorem dX11_time_55 : decode cX11_time 55 = .ok (.iconst 4, 1) := by decide +kernel
theorem dX11_time_56 : decode cX11_time 56 = .ok (.iload_n 1, 1) := by decide +kernel
theorem dX11_time_57 : decode cX11_time 57 = .ok (.imul, 1) := by decide +kernel
theorem dX11_time_58 : decode cX11_time 58 = .ok (.iload_n 2, 1) := by decide +kernel
theorem dX11_time_59 : decode cX11_time 59 = .ok (.iadd, 1) := by decide +kernel
theorem dX11_time_60 : decode cX11_time 60 = .ok (.iload_n 3, 1) := by decide +kernel
theorem dX11_time_61 : decode cX11_time 61 = .ok (.iastore, 1) := by decide +kernel
theorem dX11_time_62 : decode cX11_time 62 = .ok (.iload 4, 2) := by decide +kernel
theorem dX11_time_64 : decode cX11_time 64 = .ok (.ireturn, 1) := by decide +kernel
def fX11_time (x0_ : Int32) (x1_ : Int32) (x2_ : Int32) (s : Sg) : Option (Int32 × Sg) :=
  (fX11_isSwim x0_ s).bind fun w1 =>
  if w1.1 = 0 then
  some ((-5 : Int32), w1.2)
  else
  (aI w1.2 52 64 x0_).bind fun v3 =>
  (aI w1.2 50 16 v3).bind fun v4 =>
  (fX11_in x1_ (0 : Int32) (v4 - (1 : Int32)) w1.2).bind fun w5 =>
  if w5.1 = 0 then
  some ((-5 : Int32), w5.2)
  else
  (fX11_isTime x2_ w5.2).bind fun w7 =>
  if w7.1 = 0 then
  some ((-5 : Int32), w7.2)
  else
  (aI w7.2 55 256 (((4 : Int32) * x0_) + x1_)).bind fun v8 =>
  (wI w7.2 55 256 (((4 : Int32) * x0_) + x1_) x2_).bind fun s9 =>
  some (v8, s9)
theorem ct_X11_time {g : Gl} {x0_ : Int32} {x1_ : Int32} {x2_ : Int32} {s : Sg} {w : Int32 × Sg}  (h : fX11_time x0_ x1_ x2_ s = some w) : Ct SS g iX11_time 2 43 [.ref (gad g 49), .int x0_, .int x1_, .int x2_] s (Dt (some (.int w.1)) w.2) := by
  refine Ct.ofV (by decide +kernel) 1 (lv0 := [some (.ref (gad g 49)), some (.int x0_), some (.int x1_), some (.int x2_), none]) rfl rfl (fun M hC => ?_)
  have hP : (Dt (some (.int w.1)) w.2) (some (.int w.1)) w.2 := ⟨rfl, rfl⟩
  generalize Dt (some (.int w.1)) w.2 = P at hP ⊢
  unfold fX11_time at h
  refine v_aload_n (pc := 0) hC dX11_time_0 rfl ?_
  refine v_iload_n (pc := 1) hC dX11_time_1 rfl ?_
  obtain ⟨w1, hw1, h⟩ := obd_s h
  refine v_cV (pc := 2) [] [.int w1.1] gm_X11_isSwim hC s_49 rfl rfl (ct_X11_isSwim  hw1) ml_X11_119 rfl rfl rfl rfl rfl rfl dX11_time_2 ?_
  refine v_if_eq (pc := 5) (tgt := 36) hC dX11_time_5 rfl (fun c2 => ?_) (fun c2 => ?_)
  · replace h := (if_pos c2).symm.trans h
    refine v_bipush (pc := 36) (-5 : Int32) rfl hC dX11_time_36 ?_
    obtain rfl := Option.some.inj h
    exact v_iret (pc := 38) hC rfl dX11_time_38 hP
  · replace h := (if_neg c2).symm.trans h
    refine v_iload_n (pc := 8) hC dX11_time_8 rfl ?_
    refine v_iconst (pc := 9) (0 : Int32) rfl hC dX11_time_9 ?_
    refine v_aload_n (pc := 10) hC dX11_time_10 rfl ?_
    refine v_gt (pc := 11) 1 (.ref (gad g 50)) hC s_49 rfl rfl rfl rfl fl_X11_7 dX11_time_11 ?_
    refine v_aload_n (pc := 14) hC dX11_time_14 rfl ?_
    refine v_gt (pc := 15) 4 (.ref (gad g 52)) hC s_49 rfl rfl rfl rfl fl_X11_16 dX11_time_15 ?_
    refine v_iload_n (pc := 18) hC dX11_time_18 rfl ?_
    obtain ⟨v3, hv3, h⟩ := obd_s h
    refine v_aI (pc := 19) hC s_52 hv3 dX11_time_19 ?_
    obtain ⟨v4, hv4, h⟩ := obd_s h
    refine v_aI (pc := 20) hC s_50 hv4 dX11_time_20 ?_
    refine v_iconst (pc := 21) (1 : Int32) rfl hC dX11_time_21 ?_
    refine v_isub (pc := 22) hC dX11_time_22 ?_
    obtain ⟨w5, hw5, h⟩ := obd_s h
    refine v_cS (pc := 23) [] [.int w5.1] gm_X11_in hC (ct_X11_in  hw5) ml_X11_94 rfl rfl rfl rfl rfl rfl dX11_time_23 ?_
    refine v_if_eq (pc := 26) (tgt := 36) hC dX11_time_26 rfl (fun c6 => ?_) (fun c6 => ?_)
    · replace h := (if_pos c6).symm.trans h
      refine v_bipush (pc := 36) (-5 : Int32) rfl hC dX11_time_36 ?_
      obtain rfl := Option.some.inj h
      exact v_iret (pc := 38) hC rfl dX11_time_38 hP
    · replace h := (if_neg c6).symm.trans h
      refine v_iload_n (pc := 29) hC dX11_time_29 rfl ?_
      obtain ⟨w7, hw7, h⟩ := obd_s h
      refine v_cS (pc := 30) [] [.int w7.1] gm_X11_isTime hC (ct_X11_isTime  hw7) ml_X11_122 rfl rfl rfl rfl rfl rfl dX11_time_30 ?_
      refine v_if_ne (pc := 33) (tgt := 39) hC dX11_time_33 rfl (fun c10 => ?_) (fun c10 => ?_)
      · replace h := (if_neg c10).symm.trans h
        refine v_aload_n (pc := 39) hC dX11_time_39 rfl ?_
        refine v_gt (pc := 40) 7 (.ref (gad g 55)) hC s_49 rfl rfl rfl rfl fl_X11_25 dX11_time_40 ?_
        refine v_iconst (pc := 43) (4 : Int32) rfl hC dX11_time_43 ?_
        refine v_iload_n (pc := 44) hC dX11_time_44 rfl ?_
        refine v_imul (pc := 45) hC dX11_time_45 ?_
        refine v_iload_n (pc := 46) hC dX11_time_46 rfl ?_
        refine v_iadd (pc := 47) hC dX11_time_47 ?_
        obtain ⟨v8, hv8, h⟩ := obd_s h
        refine v_aI (pc := 48) hC s_55 hv8 dX11_time_48 ?_
        refine v_istore (pc := 49) (lv' := [some (.ref (gad g 49)), some (.int x0_), some (.int x1_), some (.int x2_), some (.int v8)]) hC dX11_time_49 rfl rfl rfl rfl ?_
        refine v_aload_n (pc := 51) hC dX11_time_51 rfl ?_
        refine v_gt (pc := 52) 7 (.ref (gad g 55)) hC s_49 rfl rfl rfl rfl fl_X11_25 dX11_time_52 ?_
        refine v_iconst (pc := 55) (4 : Int32) rfl hC dX11_time_55 ?_
        refine v_iload_n (pc := 56) hC dX11_time_56 rfl ?_
        refine v_imul (pc := 57) hC dX11_time_57 ?_
        refine v_iload_n (pc := 58) hC dX11_time_58 rfl ?_
        refine v_iadd (pc := 59) hC dX11_time_59 ?_
        refine v_iload_n (pc := 60) hC dX11_time_60 rfl ?_
        obtain ⟨s9, hs9, h⟩ := obd_s h
        refine v_wI (pc := 61) hC s_55 hs9 dX11_time_61 ?_
        refine v_iload (pc := 62) hC dX11_time_62 rfl ?_
        obtain rfl := Option.some.inj h
        exact v_iret (pc := 64) hC rfl dX11_time_64 hP
      · replace h := (if_pos c10).symm.trans h
        refine v_bipush (pc := 36) (-5 : Int32) rfl hC dX11_time_36 ?_
        obtain rfl := Option.some.inj h
        exact v_iret (pc := 38) hC rfl dX11_time_38 hP
theorem dX11_isSheet_0 : decode cX11_isSheet 0 = .ok (.iload_n 0, 1) := by decide +kernel
theorem dX11_isSheet_1 : decode cX11_isSheet 1 = .ok (.iconst 0, 1) := by decide +kernel
theorem dX11_isSheet_2 : decode cX11_isSheet 2 = .ok (.iconst 3, 1) := by decide +kernel
theorem dX11_isSheet_3 : decode cX11_isSheet 3 = .ok (.invokestatic 94, 3) := by decide +kernel
theorem dX11_isSheet_6 : decode cX11_isSheet 6 = .ok (.ireturn, 1) := by decide +kernel
def fX11_isSheet (x0_ : Int32) (s : Sg) : Option (Int32 × Sg) :=
  (fX11_in x0_ (0 : Int32) (3 : Int32) s).bind fun w1 =>
  (zr w1.1).bind fun z2 =>
  some (z2, w1.2)
theorem ct_X11_isSheet {g : Gl} {x0_ : Int32} {s : Sg} {w : Int32 × Sg}  (h : fX11_isSheet x0_ s = some w) : Ct SS g iX11_isSheet 1 22 [.int x0_] s (Dt (some (.int w.1)) w.2) := by
  refine Ct.ofV (by decide +kernel) 0 (lv0 := [some (.int x0_)]) rfl rfl (fun M hC => ?_)
  have hP : (Dt (some (.int w.1)) w.2) (some (.int w.1)) w.2 := ⟨rfl, rfl⟩
  generalize Dt (some (.int w.1)) w.2 = P at hP ⊢
  unfold fX11_isSheet at h
  refine v_iload_n (pc := 0) hC dX11_isSheet_0 rfl ?_
  refine v_iconst (pc := 1) (0 : Int32) rfl hC dX11_isSheet_1 ?_
  refine v_iconst (pc := 2) (3 : Int32) rfl hC dX11_isSheet_2 ?_
  obtain ⟨w1, hw1, h⟩ := obd_s h
  refine v_cS (pc := 3) [] [.int w1.1] gm_X11_in hC (ct_X11_in  hw1) ml_X11_94 rfl rfl rfl rfl rfl rfl dX11_isSheet_3 ?_
  obtain ⟨z2, hz2, h⟩ := obd_s h
  obtain rfl := Option.some.inj h
  exact v_zr (pc := 6) hC rfl hz2 dX11_isSheet_6 hP
theorem dX11_meets_0 : decode cX11_meets 0 = .ok (.aload_n 0, 1) := by decide +kernel
theorem dX11_meets_1 : decode cX11_meets 1 = .ok (.iload_n 1, 1) := by decide +kernel
theorem dX11_meets_2 : decode cX11_meets 2 = .ok (.putfield 308, 3) := by decide +kernel
theorem dX11_meets_5 : decode cX11_meets 5 = .ok (.bipush (-10), 2) := by decide +kernel
theorem dX11_meets_7 : decode cX11_meets 7 = .ok (.iload_n 1, 1) := by decide +kernel
theorem dX11_meets_8 : decode cX11_meets 8 = .ok (.isub, 1) := by decide +kernel
theorem dX11_meets_9 : decode cX11_meets 9 = .ok (.ireturn, 1) := by decide +kernel
def fX11_meets (x0_ : Int32) (s : Sg) : Option (Int32 × Sg) :=
  bnd (sI s 49 33 x0_) fun s1 =>
  some (((-10 : Int32) - x0_), s1)
theorem ct_X11_meets {g : Gl} {x0_ : Int32} {s : Sg} {w : Int32 × Sg}  (h : fX11_meets x0_ s = some w) : Ct SS g iX11_meets 0 0 [.ref (gad g 49), .int x0_] s (Dt (some (.int w.1)) w.2) := by
  refine Ct.ofV (by decide +kernel) 0 (lv0 := [some (.ref (gad g 49)), some (.int x0_)]) rfl rfl (fun M hC => ?_)
  have hP : (Dt (some (.int w.1)) w.2) (some (.int w.1)) w.2 := ⟨rfl, rfl⟩
  generalize Dt (some (.int w.1)) w.2 = P at hP ⊢
  unfold fX11_meets at h
  refine v_aload_n (pc := 0) hC dX11_meets_0 rfl ?_
  refine v_iload_n (pc := 1) hC dX11_meets_1 rfl ?_
  obtain ⟨s1, hs1, h⟩ := bnd_s h
  refine v_pI (pc := 2) 33 hC s_49 rfl rfl rfl rfl rfl rfl fl_X11_308 hs1 dX11_meets_2 ?_
  refine v_bipush (pc := 5) (-10 : Int32) rfl hC dX11_meets_5 ?_
  refine v_iload_n (pc := 7) hC dX11_meets_7 rfl ?_
  refine v_isub (pc := 8) hC dX11_meets_8 ?_
  obtain rfl := Option.some.inj h
  exact v_iret (pc := 9) hC rfl dX11_meets_9 hP
theorem dX11_read_0 : decode cX11_read 0 = .ok (.iload_n 1, 1) := by decide +kernel
theorem dX11_read_1 : decode cX11_read 1 = .ok (.invokestatic 125, 3) := by decide +kernel
theorem dX11_read_4 : decode cX11_read 4 = .ok (.ifCond .eq 11, 3) := by decide +kernel
theorem dX11_read_7 : decode cX11_read 7 = .ok (.aload_n 0, 1) := by decide +kernel
theorem dX11_read_8 : decode cX11_read 8 = .ok (.iload_n 2, 1) := by decide +kernel
theorem dX11_read_9 : decode cX11_read 9 = .ok (.invokevirtual 119, 3) := by decide +kernel
theorem dX11_read_12 : decode cX11_read 12 = .ok (.ifCond .ne 6, 3) := by decide +kernel
theorem dX11_read_15 : decode cX11_read 15 = .ok (.bipush (-2), 2) := by decide +kernel
theorem dX11_read_17 : decode cX11_read 17 = .ok (.ireturn, 1) := by decide +kernel
theorem dX11_read_18 : decode cX11_read 18 = .ok (.aload_n 0, 1) := by decide +kernel
theorem dX11_read_19 : decode cX11_read 19 = .ok (.getfield 68, 3) := by decide +kernel
theorem dX11_read_22 : decode cX11_read 22 = .ok (.iload_n 1, 1) := by decide +kernel
theorem dX11_read_23 : decode cX11_read 23 = .ok (.baload, 1) := by decide +kernel
theorem dX11_read_24 : decode cX11_read 24 = .ok (.ifCond .ne 9, 3) := by decide +kernel
theorem dX11_read_27 : decode cX11_read 27 = .ok (.aload_n 0, 1) := by decide +kernel
theorem dX11_read_28 : decode cX11_read 28 = .ok (.iconst 1, 1) := by decide +kernel
theorem dX11_read_29 : decode cX11_read 29 = .ok (.invokevirtual 128, 3) := by decide +kernel
theorem dX11_read_32 : decode cX11_read 32 = .ok (.ireturn, 1) := by decide +kernel
theorem dX11_read_33 : decode cX11_read 33 = .ok (.iconst 0, 1) := by decide +kernel
theorem dX11_read_34 : decode cX11_read 34 = .ok (.istore_n 3, 1) := by decide +kernel
theorem dX11_read_35 : decode cX11_read 35 = .ok (.iload_n 3, 1) := by decide +kernel
theorem dX11_read_36 : decode cX11_read 36 = .ok (.aload_n 0, 1) := by decide +kernel
theorem dX11_read_37 : decode cX11_read 37 = .ok (.getfield 75, 3) := by decide +kernel
theorem dX11_read_40 : decode cX11_read 40 = .ok (.iload_n 1, 1) := by decide +kernel
theorem dX11_read_41 : decode cX11_read 41 = .ok (.iaload, 1) := by decide +kernel
theorem dX11_read_42 : decode cX11_read 42 = .ok (.if_icmp .ge 62, 3) := by decide +kernel
theorem dX11_read_45 : decode cX11_read 45 = .ok (.iload_n 3, 1) := by decide +kernel
theorem dX11_read_46 : decode cX11_read 46 = .ok (.aload_n 0, 1) := by decide +kernel
theorem dX11_read_47 : decode cX11_read 47 = .ok (.getfield 7, 3) := by decide +kernel
theorem dX11_read_50 : decode cX11_read 50 = .ok (.aload_n 0, 1) := by decide +kernel
theorem dX11_read_51 : decode cX11_read 51 = .ok (.getfield 16, 3) := by decide +kernel
theorem dX11_read_54 : decode cX11_read 54 = .ok (.iload_n 2, 1) := by decide +kernel
theorem dX11_read_55 : decode cX11_read 55 = .ok (.iaload, 1) := by decide +kernel
theorem dX11_read_56 : decode cX11_read 56 = .ok (.iaload, 1) := by decide +kernel
theorem dX11_read_57 : decode cX11_read 57 = .ok (.if_icmp .ge 47, 3) := by decide +kernel
theorem dX11_read_60 : decode cX11_read 60 = .ok (.aload_n 0, 1) := by decide +kernel
theorem dX11_read_61 : decode cX11_read 61 = .ok (.getfield 78, 3) := by decide +kernel
theorem dX11_read_64 : decode cX11_read 64 = .ok (.bipush 48, 2) := by decide +kernel
theorem dX11_read_66 : decode cX11_read 66 = .ok (.iload_n 1, 1) := by decide +kernel
theorem dX11_read_67 : decode cX11_read 67 = .ok (.imul, 1) := by decide +kernel
theorem dX11_read_68 : decode cX11_read 68 = .ok (.iload_n 3, 1) := by decide +kernel
theorem dX11_read_69 : decode cX11_read 69 = .ok (.iadd, 1) := by decide +kernel
theorem dX11_read_70 : decode cX11_read 70 = .ok (.iaload, 1) := by decide +kernel
theorem dX11_read_71 : decode cX11_read 71 = .ok (.invokestatic 122, 3) := by decide +kernel
theorem dX11_read_74 : decode cX11_read 74 = .ok (.ifCond .eq 30, 3) := by decide +kernel
theorem dX11_read_77 : decode cX11_read 77 = .ok (.aload_n 0, 1) := by decide +kernel
theorem dX11_read_78 : decode cX11_read 78 = .ok (.getfield 25, 3) := by decide +kernel
theorem dX11_read_81 : decode cX11_read 81 = .ok (.iconst 4, 1) := by decide +kernel
theorem dX11_read_82 : decode cX11_read 82 = .ok (.iload_n 2, 1) := by decide +kernel
theorem dX11_read_83 : decode cX11_read 83 = .ok (.imul, 1) := by decide +kernel
theorem dX11_read_84 : decode cX11_read 84 = .ok (.iload_n 3, 1) := by decide +kernel
theorem dX11_read_85 : decode cX11_read 85 = .ok (.iadd, 1) := by decide +kernel
theorem dX11_read_86 : decode cX11_read 86 = .ok (.aload_n 0, 1) := by decide +kernel
theorem dX11_read_87 : decode cX11_read 87 = .ok (.getfield 78, 3) := by decide +kernel
theorem dX11_read_90 : decode cX11_read 90 = .ok (.bipush 48, 2) := by decide +kernel
theorem dX11_read_92 : decode cX11_read 92 = .ok (.iload_n 1, 1) := by decide +kernel
theorem dX11_read_93 : decode cX11_read 93 = .ok (.imul, 1) := by decide +kernel
theorem dX11_read_94 : decode cX11_read 94 = .ok (.iload_n 3, 1) := by decide +kernel
theorem dX11_read_95 : decode cX11_read 95 = .ok (.iadd, 1) := by decide +kernel
theorem dX11_read_96 : decode cX11_read 96 = .ok (.iaload, 1) := by decide +kernel
theorem dX11_read_97 : decode cX11_read 97 = .ok (.iastore, 1) := by decide +kernel
theorem dX11_read_98 : decode cX11_read 98 = .ok (.iinc 3 1, 3) := by decide +kernel
theorem dX11_read_101 : decode cX11_read 101 = .ok (.goto (-66), 3) := by decide +kernel
theorem dX11_read_104 : decode cX11_read 104 = .ok (.iload_n 3, 1) := by decide +kernel
theorem dX11_read_105 : decode cX11_read 105 = .ok (.ireturn, 1) := by decide +kernel
def fX11_read_L35 (p1 : Int32) (p2 : Int32) (a : Int32) (s : Sg) : Option (((Int32) ⊕ (Int32)) × Sg) :=
  (aI s 71 4 p1).bind fun v1 =>
  if v1 ≤ a then
  some (.inr a, s)
  else
  (aI s 52 64 p2).bind fun v3 =>
  (aI s 50 16 v3).bind fun v4 =>
  if v4 ≤ a then
  some (.inr a, s)
  else
  (aI s 72 192 (((48 : Int32) * p1) + a)).bind fun v6 =>
  (fX11_isTime v6 s).bind fun w7 =>
  if w7.1 = 0 then
  some (.inr a, w7.2)
  else
  (aI w7.2 72 192 (((48 : Int32) * p1) + a)).bind fun v9 =>
  (wI w7.2 55 256 (((4 : Int32) * p2) + a) v9).bind fun s10 =>
  bnd (a + (1 : Int32)) fun x11 =>
  some (.inl x11, s10)
def fX11_read (x0_ : Int32) (x1_ : Int32) (s : Sg) : Option (Int32 × Sg) :=
  (fX11_isSheet x0_ s).bind fun w1 =>
  if w1.1 = 0 then
  some ((-2 : Int32), w1.2)
  else
  (fX11_isSwim x1_ w1.2).bind fun w3 =>
  if w3.1 = 0 then
  some ((-2 : Int32), w3.2)
  else
  (aI w3.2 69 4 x0_).bind fun v4 =>
  if v4 = 0 then
  (fX11_meets (1 : Int32) w3.2).bind fun w25 =>
  some (w25.1, w25.2)
  else
  (lpG (fX11_read_L35 x0_ x1_) FU (0 : Int32) w3.2).bind fun w5 =>
  some (w5.1, w5.2)
theorem ct_X11_read {g : Gl} {x0_ : Int32} {x1_ : Int32} {s : Sg} {w : Int32 × Sg}  (h : fX11_read x0_ x1_ s = some w) : Ct SS g iX11_read 2 43 [.ref (gad g 49), .int x0_, .int x1_] s (Dt (some (.int w.1)) w.2) := by
  refine Ct.ofV (by decide +kernel) 1 (lv0 := [some (.ref (gad g 49)), some (.int x0_), some (.int x1_), none]) rfl rfl (fun M hC => ?_)
  have hP : (Dt (some (.int w.1)) w.2) (some (.int w.1)) w.2 := ⟨rfl, rfl⟩
  generalize Dt (some (.int w.1)) w.2 = P at hP ⊢
  unfold fX11_read at h
  refine v_iload_n (pc := 0) hC dX11_read_0 rfl ?_
  obtain ⟨w1, hw1, h⟩ := obd_s h
  refine v_cS (pc := 1) [] [.int w1.1] gm_X11_isSheet hC (ct_X11_isSheet  hw1) ml_X11_125 rfl rfl rfl rfl rfl rfl dX11_read_1 ?_
  refine v_if_eq (pc := 4) (tgt := 15) hC dX11_read_4 rfl (fun c2 => ?_) (fun c2 => ?_)
  · replace h := (if_pos c2).symm.trans h
    refine v_bipush (pc := 15) (-2 : Int32) rfl hC dX11_read_15 ?_
    obtain rfl := Option.some.inj h
    exact v_iret (pc := 17) hC rfl dX11_read_17 hP
  · replace h := (if_neg c2).symm.trans h
    refine v_aload_n (pc := 7) hC dX11_read_7 rfl ?_
    refine v_iload_n (pc := 8) hC dX11_read_8 rfl ?_
    obtain ⟨w3, hw3, h⟩ := obd_s h
    refine v_cV (pc := 9) [] [.int w3.1] gm_X11_isSwim hC s_49 rfl rfl (ct_X11_isSwim  hw3) ml_X11_119 rfl rfl rfl rfl rfl rfl dX11_read_9 ?_
    refine v_if_ne (pc := 12) (tgt := 18) hC dX11_read_12 rfl (fun c26 => ?_) (fun c26 => ?_)
    · replace h := (if_neg c26).symm.trans h
      refine v_aload_n (pc := 18) hC dX11_read_18 rfl ?_
      refine v_gt (pc := 19) 28 (.ref (gad g 69)) hC s_49 rfl rfl rfl rfl fl_X11_68 dX11_read_19 ?_
      refine v_iload_n (pc := 22) hC dX11_read_22 rfl ?_
      obtain ⟨v4, hv4, h⟩ := obd_s h
      refine v_aZ (pc := 23) hC s_69 hv4 dX11_read_23 ?_
      refine v_if_ne (pc := 24) (tgt := 33) hC dX11_read_24 rfl (fun c24 => ?_) (fun c24 => ?_)
      · replace h := (if_neg c24).symm.trans h
        refine v_iconst (pc := 33) (0 : Int32) rfl hC dX11_read_33 ?_
        refine v_istore_n (pc := 34) (lv' := [some (.ref (gad g 49)), some (.int x0_), some (.int x1_), some (.int (0 : Int32))]) hC dX11_read_34 rfl rfl rfl rfl ?_
        obtain ⟨w5, hw5, h⟩ := obd_s h
        have kx23 : V SS g M iX11_read (PQ SS g M P) 104 [none, none, none, some (.int w5.1)] [] w5.2 := by
          refine v_iload_n (pc := 104) hC dX11_read_104 rfl ?_
          obtain rfl := Option.some.inj h
          exact v_iret (pc := 105) hC rfl dX11_read_105 hP
        refine V.ls (ls_some (ls_some (ls_some (ls_some ls_nil)))) (v_loop (pc := 35) (fun a8 => [some (.ref (gad g 49)), some (.int x0_), some (.int x1_), some (.int a8)]) (fun z t => V SS g M iX11_read (PQ SS g M P) 104 [none, none, none, some (.int z)] [] t) (fun a8 s6 u7 hu7 k9 k10 => ?_) _ _ _ _ hw5 kx23)
        unfold fX11_read_L35 at hu7
        refine v_iload_n (pc := 35) hC dX11_read_35 rfl ?_
        refine v_aload_n (pc := 36) hC dX11_read_36 rfl ?_
        refine v_gt (pc := 37) 30 (.ref (gad g 71)) hC s_49 rfl rfl rfl rfl fl_X11_75 dX11_read_37 ?_
        refine v_iload_n (pc := 40) hC dX11_read_40 rfl ?_
        obtain ⟨v12, hv12, hu7⟩ := obd_s hu7
        refine v_aI (pc := 41) hC s_71 hv12 dX11_read_41 ?_
        refine v_ic_ge (pc := 42) (tgt := 104) hC dX11_read_42 rfl (fun c13 => ?_) (fun c13 => ?_)
        · replace hu7 := (if_pos c13).symm.trans hu7
          obtain rfl := Option.some.inj hu7
          exact V.ls (ls_none (ls_none (ls_none (ls_some ls_nil)))) (k10 _ rfl)
        · replace hu7 := (if_neg c13).symm.trans hu7
          refine v_iload_n (pc := 45) hC dX11_read_45 rfl ?_
          refine v_aload_n (pc := 46) hC dX11_read_46 rfl ?_
          refine v_gt (pc := 47) 1 (.ref (gad g 50)) hC s_49 rfl rfl rfl rfl fl_X11_7 dX11_read_47 ?_
          refine v_aload_n (pc := 50) hC dX11_read_50 rfl ?_
          refine v_gt (pc := 51) 4 (.ref (gad g 52)) hC s_49 rfl rfl rfl rfl fl_X11_16 dX11_read_51 ?_
          refine v_iload_n (pc := 54) hC dX11_read_54 rfl ?_
          obtain ⟨v14, hv14, hu7⟩ := obd_s hu7
          refine v_aI (pc := 55) hC s_52 hv14 dX11_read_55 ?_
          obtain ⟨v15, hv15, hu7⟩ := obd_s hu7
          refine v_aI (pc := 56) hC s_50 hv15 dX11_read_56 ?_
          refine v_ic_ge (pc := 57) (tgt := 104) hC dX11_read_57 rfl (fun c16 => ?_) (fun c16 => ?_)
          · replace hu7 := (if_pos c16).symm.trans hu7
            obtain rfl := Option.some.inj hu7
            exact V.ls (ls_none (ls_none (ls_none (ls_some ls_nil)))) (k10 _ rfl)
          · replace hu7 := (if_neg c16).symm.trans hu7
            refine v_aload_n (pc := 60) hC dX11_read_60 rfl ?_
            refine v_gt (pc := 61) 31 (.ref (gad g 72)) hC s_49 rfl rfl rfl rfl fl_X11_78 dX11_read_61 ?_
            refine v_bipush (pc := 64) (48 : Int32) rfl hC dX11_read_64 ?_
            refine v_iload_n (pc := 66) hC dX11_read_66 rfl ?_
            refine v_imul (pc := 67) hC dX11_read_67 ?_
            refine v_iload_n (pc := 68) hC dX11_read_68 rfl ?_
            refine v_iadd (pc := 69) hC dX11_read_69 ?_
            obtain ⟨v17, hv17, hu7⟩ := obd_s hu7
            refine v_aI (pc := 70) hC s_72 hv17 dX11_read_70 ?_
            obtain ⟨w18, hw18, hu7⟩ := obd_s hu7
            refine v_cS (pc := 71) [] [.int w18.1] gm_X11_isTime hC (ct_X11_isTime  hw18) ml_X11_122 rfl rfl rfl rfl rfl rfl dX11_read_71 ?_
            refine v_if_eq (pc := 74) (tgt := 104) hC dX11_read_74 rfl (fun c19 => ?_) (fun c19 => ?_)
            · replace hu7 := (if_pos c19).symm.trans hu7
              obtain rfl := Option.some.inj hu7
              exact V.ls (ls_none (ls_none (ls_none (ls_some ls_nil)))) (k10 _ rfl)
            · replace hu7 := (if_neg c19).symm.trans hu7
              refine v_aload_n (pc := 77) hC dX11_read_77 rfl ?_
              refine v_gt (pc := 78) 7 (.ref (gad g 55)) hC s_49 rfl rfl rfl rfl fl_X11_25 dX11_read_78 ?_
              refine v_iconst (pc := 81) (4 : Int32) rfl hC dX11_read_81 ?_
              refine v_iload_n (pc := 82) hC dX11_read_82 rfl ?_
              refine v_imul (pc := 83) hC dX11_read_83 ?_
              refine v_iload_n (pc := 84) hC dX11_read_84 rfl ?_
              refine v_iadd (pc := 85) hC dX11_read_85 ?_
              refine v_aload_n (pc := 86) hC dX11_read_86 rfl ?_
              refine v_gt (pc := 87) 31 (.ref (gad g 72)) hC s_49 rfl rfl rfl rfl fl_X11_78 dX11_read_87 ?_
              refine v_bipush (pc := 90) (48 : Int32) rfl hC dX11_read_90 ?_
              refine v_iload_n (pc := 92) hC dX11_read_92 rfl ?_
              refine v_imul (pc := 93) hC dX11_read_93 ?_
              refine v_iload_n (pc := 94) hC dX11_read_94 rfl ?_
              refine v_iadd (pc := 95) hC dX11_read_95 ?_
              obtain ⟨v20, hv20, hu7⟩ := obd_s hu7
              refine v_aI (pc := 96) hC s_72 hv20 dX11_read_96 ?_
              obtain ⟨s21, hs21, hu7⟩ := obd_s hu7
              refine v_wI (pc := 97) hC s_55 hs21 dX11_read_97 ?_
              obtain ⟨x22, hx22, hu7⟩ := bnd_s hu7
              refine v_iinc (pc := 98) (lv' := [some (.ref (gad g 49)), some (.int x0_), some (.int x1_), some (.int x22)]) (1 : Int32) rfl hx22 hC dX11_read_98 rfl rfl rfl rfl ?_
              refine v_goto (pc := 101) (tgt := 35) hC dX11_read_101 rfl ?_
              obtain rfl := Option.some.inj hu7
              exact V.ls (ls_some (ls_some (ls_some (ls_some ls_nil)))) (k9 _ rfl)
      · replace h := (if_pos c24).symm.trans h
        refine v_aload_n (pc := 27) hC dX11_read_27 rfl ?_
        refine v_iconst (pc := 28) (1 : Int32) rfl hC dX11_read_28 ?_
        obtain ⟨w25, hw25, h⟩ := obd_s h
        refine v_cV (pc := 29) [] [.int w25.1] gm_X11_meets hC s_49 rfl rfl (ct_X11_meets  hw25) ml_X11_128 rfl rfl rfl rfl rfl rfl dX11_read_29 ?_
        obtain rfl := Option.some.inj h
        exact v_iret (pc := 32) hC rfl dX11_read_32 hP
    · replace h := (if_pos c26).symm.trans h
      refine v_bipush (pc := 15) (-2 : Int32) rfl hC dX11_read_15 ?_
      obtain rfl := Option.some.inj h
      exact v_iret (pc := 17) hC rfl dX11_read_17 hP
theorem dX11_seeds_0 : decode cX11_seeds 0 = .ok (.iload_n 1, 1) := by decide +kernel
theorem dX11_seeds_1 : decode cX11_seeds 1 = .ok (.invokestatic 109, 3) := by decide +kernel
theorem dX11_seeds_4 : decode cX11_seeds 4 = .ok (.ifCond .eq 14, 3) := by decide +kernel
theorem dX11_seeds_7 : decode cX11_seeds 7 = .ok (.iload_n 2, 1) := by decide +kernel
theorem dX11_seeds_8 : decode cX11_seeds 8 = .ok (.iconst 1, 1) := by decide +kernel
theorem dX11_seeds_9 : decode cX11_seeds 9 = .ok (.sipush 9999, 3) := by decide +kernel
theorem dX11_seeds_12 : decode cX11_seeds 12 = .ok (.invokestatic 94, 3) := by decide +kernel
theorem dX11_seeds_15 : decode cX11_seeds 15 = .ok (.ifCond .ne 6, 3) := by decide +kernel
theorem dX11_seeds_18 : decode cX11_seeds 18 = .ok (.bipush (-2), 2) := by decide +kernel
theorem dX11_seeds_20 : decode cX11_seeds 20 = .ok (.ireturn, 1) := by decide +kernel
theorem dX11_seeds_21 : decode cX11_seeds 21 = .ok (.aload_n 0, 1) := by decide +kernel
theorem dX11_seeds_22 : decode cX11_seeds 22 = .ok (.getfield 28, 3) := by decide +kernel
theorem dX11_seeds_25 : decode cX11_seeds 25 = .ok (.iload_n 1, 1) := by decide +kernel
theorem dX11_seeds_26 : decode cX11_seeds 26 = .ok (.iaload, 1) := by decide +kernel
theorem dX11_seeds_27 : decode cX11_seeds 27 = .ok (.istore_n 3, 1) := by decide +kernel
theorem dX11_seeds_28 : decode cX11_seeds 28 = .ok (.aload_n 0, 1) := by decide +kernel
theorem dX11_seeds_29 : decode cX11_seeds 29 = .ok (.getfield 28, 3) := by decide +kernel
theorem dX11_seeds_32 : decode cX11_seeds 32 = .ok (.iload_n 1, 1) := by decide +kernel
theorem dX11_seeds_33 : decode cX11_seeds 33 = .ok (.iload_n 2, 1) := by decide +kernel
theorem dX11_seeds_34 : decode cX11_seeds 34 = .ok (.iastore, 1) := by decide +kernel
theorem dX11_seeds_35 : decode cX11_seeds 35 = .ok (.iload_n 3, 1) := by decide +kernel
theorem dX11_seeds_36 : decode cX11_seeds 36 = .ok (.ireturn, 1) := by decide +kernel
def fX11_seeds (x0_ : Int32) (x1_ : Int32) (s : Sg) : Option (Int32 × Sg) :=
  (fX11_isSwimmer x0_ s).bind fun w1 =>
  if w1.1 = 0 then
  some ((-2 : Int32), w1.2)
  else
  (fX11_in x1_ (1 : Int32) (9999 : Int32) w1.2).bind fun w3 =>
  if w3.1 = 0 then
  some ((-2 : Int32), w3.2)
  else
  (aI w3.2 56 24 x0_).bind fun v4 =>
  (wI w3.2 56 24 x0_ x1_).bind fun s5 =>
  some (v4, s5)
theorem ct_X11_seeds {g : Gl} {x0_ : Int32} {x1_ : Int32} {s : Sg} {w : Int32 × Sg}  (h : fX11_seeds x0_ x1_ s = some w) : Ct SS g iX11_seeds 2 42 [.ref (gad g 49), .int x0_, .int x1_] s (Dt (some (.int w.1)) w.2) := by
  refine Ct.ofV (by decide +kernel) 1 (lv0 := [some (.ref (gad g 49)), some (.int x0_), some (.int x1_), none]) rfl rfl (fun M hC => ?_)
  have hP : (Dt (some (.int w.1)) w.2) (some (.int w.1)) w.2 := ⟨rfl, rfl⟩
  generalize Dt (some (.int w.1)) w.2 = P at hP ⊢
  unfold fX11_seeds at h
  refine v_iload_n (pc := 0) hC dX11_seeds_0 rfl ?_
  obtain ⟨w1, hw1, h⟩ := obd_s h
  refine v_cS (pc := 1) [] [.int w1.1] gm_X11_isSwimmer hC (ct_X11_isSwimmer  hw1) ml_X11_109 rfl rfl rfl rfl rfl rfl dX11_seeds_1 ?_
  refine v_if_eq (pc := 4) (tgt := 18) hC dX11_seeds_4 rfl (fun c2 => ?_) (fun c2 => ?_)
  · replace h := (if_pos c2).symm.trans h
    refine v_bipush (pc := 18) (-2 : Int32) rfl hC dX11_seeds_18 ?_
    obtain rfl := Option.some.inj h
    exact v_iret (pc := 20) hC rfl dX11_seeds_20 hP
  · replace h := (if_neg c2).symm.trans h
    refine v_iload_n (pc := 7) hC dX11_seeds_7 rfl ?_
    refine v_iconst (pc := 8) (1 : Int32) rfl hC dX11_seeds_8 ?_
    refine v_sipush (pc := 9) (9999 : Int32) rfl hC dX11_seeds_9 ?_
    obtain ⟨w3, hw3, h⟩ := obd_s h
    refine v_cS (pc := 12) [] [.int w3.1] gm_X11_in hC (ct_X11_in  hw3) ml_X11_94 rfl rfl rfl rfl rfl rfl dX11_seeds_12 ?_
    refine v_if_ne (pc := 15) (tgt := 21) hC dX11_seeds_15 rfl (fun c6 => ?_) (fun c6 => ?_)
    · replace h := (if_neg c6).symm.trans h
      refine v_aload_n (pc := 21) hC dX11_seeds_21 rfl ?_
      refine v_gt (pc := 22) 8 (.ref (gad g 56)) hC s_49 rfl rfl rfl rfl fl_X11_28 dX11_seeds_22 ?_
      refine v_iload_n (pc := 25) hC dX11_seeds_25 rfl ?_
      obtain ⟨v4, hv4, h⟩ := obd_s h
      refine v_aI (pc := 26) hC s_56 hv4 dX11_seeds_26 ?_
      refine v_istore_n (pc := 27) (lv' := [some (.ref (gad g 49)), some (.int x0_), some (.int x1_), some (.int v4)]) hC dX11_seeds_27 rfl rfl rfl rfl ?_
      refine v_aload_n (pc := 28) hC dX11_seeds_28 rfl ?_
      refine v_gt (pc := 29) 8 (.ref (gad g 56)) hC s_49 rfl rfl rfl rfl fl_X11_28 dX11_seeds_29 ?_
      refine v_iload_n (pc := 32) hC dX11_seeds_32 rfl ?_
      refine v_iload_n (pc := 33) hC dX11_seeds_33 rfl ?_
      obtain ⟨s5, hs5, h⟩ := obd_s h
      refine v_wI (pc := 34) hC s_56 hs5 dX11_seeds_34 ?_
      refine v_iload_n (pc := 35) hC dX11_seeds_35 rfl ?_
      obtain rfl := Option.some.inj h
      exact v_iret (pc := 36) hC rfl dX11_seeds_36 hP
    · replace h := (if_pos c6).symm.trans h
      refine v_bipush (pc := 18) (-2 : Int32) rfl hC dX11_seeds_18 ?_
      obtain rfl := Option.some.inj h
      exact v_iret (pc := 20) hC rfl dX11_seeds_20 hP
theorem dX11_feltOf_0 : decode cX11_feltOf 0 = .ok (.iconst 0, 1) := by decide +kernel
theorem dX11_feltOf_1 : decode cX11_feltOf 1 = .ok (.istore_n 2, 1) := by decide +kernel
theorem dX11_feltOf_2 : decode cX11_feltOf 2 = .ok (.iconst 0, 1) := by decide +kernel
theorem dX11_feltOf_3 : decode cX11_feltOf 3 = .ok (.istore_n 3, 1) := by decide +kernel
theorem dX11_feltOf_4 : decode cX11_feltOf 4 = .ok (.iload_n 3, 1) := by decide +kernel
theorem dX11_feltOf_5 : decode cX11_feltOf 5 = .ok (.iconst 4, 1) := by decide +kernel
theorem dX11_feltOf_6 : decode cX11_feltOf 6 = .ok (.if_icmp .ge 31, 3) := by decide +kernel
theorem dX11_feltOf_9 : decode cX11_feltOf 9 = .ok (.iload_n 2, 1) := by decide +kernel
theorem dX11_feltOf_10 : decode cX11_feltOf 10 = .ok (.aload_n 0, 1) := by decide +kernel
theorem dX11_feltOf_11 : decode cX11_feltOf 11 = .ok (.getfield 25, 3) := by decide +kernel
theorem dX11_feltOf_14 : decode cX11_feltOf 14 = .ok (.iconst 4, 1) := by decide +kernel
theorem dX11_feltOf_15 : decode cX11_feltOf 15 = .ok (.iload_n 1, 1) := by decide +kernel
theorem dX11_feltOf_16 : decode cX11_feltOf 16 = .ok (.imul, 1) := by decide +kernel
theorem dX11_feltOf_17 : decode cX11_feltOf 17 = .ok (.iload_n 3, 1) := by decide +kernel
theorem dX11_feltOf_18 : decode cX11_feltOf 18 = .ok (.iadd, 1) := by decide +kernel
theorem dX11_feltOf_19 : decode cX11_feltOf 19 = .ok (.iaload, 1) := by decide +kernel
theorem dX11_feltOf_20 : decode cX11_feltOf 20 = .ok (.iconst (-1), 1) := by decide +kernel
theorem dX11_feltOf_21 : decode cX11_feltOf 21 = .ok (.if_icmp .ne 7, 3) := by decide +kernel
theorem dX11_feltOf_24 : decode cX11_feltOf 24 = .ok (.iconst 0, 1) := by decide +kernel
theorem dX11_feltOf_25 : decode cX11_feltOf 25 = .ok (.goto 4, 3) := by decide +kernel
theorem dX11_feltOf_28 : decode cX11_feltOf 28 = .ok (.iconst 1, 1) := by decide +kernel
theorem dX11_feltOf_29 : decode cX11_feltOf 29 = .ok (.iadd, 1) := by decide +kernel
theorem dX11_feltOf_30 : decode cX11_feltOf 30 = .ok (.istore_n 2, 1) := by decide +kernel
theorem dX11_feltOf_31 : decode cX11_feltOf 31 = .ok (.iinc 3 1, 3) := by decide +kernel
theorem dX11_feltOf_34 : decode cX11_feltOf 34 = .ok (.goto (-30), 3) := by decide +kernel
theorem dX11_feltOf_37 : decode cX11_feltOf 37 = .ok (.iload_n 2, 1) := by decide +kernel
theorem dX11_feltOf_38 : decode cX11_feltOf 38 = .ok (.ireturn, 1) := by decide +kernel
def fX11_feltOf_L4 (p1 : Int32) (a : Int32 × Int32) (s : Sg) : Option (((Int32 × Int32) ⊕ (Int32)) × Sg) :=
  if (4 : Int32) ≤ a.2 then
  some (.inr a.1, s)
  else
  (aI s 55 256 (((4 : Int32) * p1) + a.2)).bind fun v2 =>
  ((if v2 = (-1 : Int32) then
  some (0 : Int32)
  else
  some (1 : Int32)) : Option (Int32)).bind fun w3 =>
  bnd (a.1 + w3) fun x5 =>
  bnd (a.2 + (1 : Int32)) fun x6 =>
  some (.inl (x5, x6), s)
def fX11_feltOf (x0_ : Int32) (s : Sg) : Option (Int32 × Sg) :=
  (lpG (fX11_feltOf_L4 x0_) FU ((0 : Int32), (0 : Int32)) s).bind fun w1 =>
  some (w1.1, w1.2)
theorem ct_X11_feltOf {g : Gl} {x0_ : Int32} {s : Sg} {w : Int32 × Sg}  (h : fX11_feltOf x0_ s = some w) : Ct SS g iX11_feltOf 0 0 [.ref (gad g 49), .int x0_] s (Dt (some (.int w.1)) w.2) := by
  refine Ct.ofV (by decide +kernel) 2 (lv0 := [some (.ref (gad g 49)), some (.int x0_), none, none]) rfl rfl (fun M hC => ?_)
  have hP : (Dt (some (.int w.1)) w.2) (some (.int w.1)) w.2 := ⟨rfl, rfl⟩
  generalize Dt (some (.int w.1)) w.2 = P at hP ⊢
  unfold fX11_feltOf at h
  refine v_iconst (pc := 0) (0 : Int32) rfl hC dX11_feltOf_0 ?_
  refine v_istore_n (pc := 1) (lv' := [some (.ref (gad g 49)), some (.int x0_), some (.int (0 : Int32)), none]) hC dX11_feltOf_1 rfl rfl rfl rfl ?_
  refine v_iconst (pc := 2) (0 : Int32) rfl hC dX11_feltOf_2 ?_
  refine v_istore_n (pc := 3) (lv' := [some (.ref (gad g 49)), some (.int x0_), some (.int (0 : Int32)), some (.int (0 : Int32))]) hC dX11_feltOf_3 rfl rfl rfl rfl ?_
  obtain ⟨w1, hw1, h⟩ := obd_s h
  have kx15 : V SS g M iX11_feltOf (PQ SS g M P) 37 [none, none, some (.int w1.1), none] [] w1.2 := by
    refine v_iload_n (pc := 37) hC dX11_feltOf_37 rfl ?_
    obtain rfl := Option.some.inj h
    exact v_iret (pc := 38) hC rfl dX11_feltOf_38 hP
  refine V.ls (ls_some (ls_some (ls_some (ls_some ls_nil)))) (v_loop (pc := 4) (fun a4 => [some (.ref (gad g 49)), some (.int x0_), some (.int a4.1), some (.int a4.2)]) (fun z t => V SS g M iX11_feltOf (PQ SS g M P) 37 [none, none, some (.int z), none] [] t) (fun a4 s2 u3 hu3 k5 k6 => ?_) _ _ _ _ hw1 kx15)
  unfold fX11_feltOf_L4 at hu3
  refine v_iload_n (pc := 4) hC dX11_feltOf_4 rfl ?_
  refine v_iconst (pc := 5) (4 : Int32) rfl hC dX11_feltOf_5 ?_
  refine v_ic_ge (pc := 6) (tgt := 37) hC dX11_feltOf_6 rfl (fun c8 => ?_) (fun c8 => ?_)
  · replace hu3 := (if_pos c8).symm.trans hu3
    obtain rfl := Option.some.inj hu3
    exact V.ls (ls_none (ls_none (ls_some (ls_none ls_nil)))) (k6 _ rfl)
  · replace hu3 := (if_neg c8).symm.trans hu3
    refine v_iload_n (pc := 9) hC dX11_feltOf_9 rfl ?_
    refine v_aload_n (pc := 10) hC dX11_feltOf_10 rfl ?_
    refine v_gt (pc := 11) 7 (.ref (gad g 55)) hC s_49 rfl rfl rfl rfl fl_X11_25 dX11_feltOf_11 ?_
    refine v_iconst (pc := 14) (4 : Int32) rfl hC dX11_feltOf_14 ?_
    refine v_iload_n (pc := 15) hC dX11_feltOf_15 rfl ?_
    refine v_imul (pc := 16) hC dX11_feltOf_16 ?_
    refine v_iload_n (pc := 17) hC dX11_feltOf_17 rfl ?_
    refine v_iadd (pc := 18) hC dX11_feltOf_18 ?_
    obtain ⟨v9, hv9, hu3⟩ := obd_s hu3
    refine v_aI (pc := 19) hC s_55 hv9 dX11_feltOf_19 ?_
    refine v_iconst (pc := 20) (-1 : Int32) rfl hC dX11_feltOf_20 ?_
    obtain ⟨w10, hw10, hu3⟩ := obd_s hu3
    have kj11 : V SS g M iX11_feltOf (PQ SS g M P) 29 [some (.ref (gad g 49)), some (.int x0_), none, some (.int a4.2)] [.int w10, .int a4.1] s2 := by
      refine v_iadd (pc := 29) hC dX11_feltOf_29 ?_
      obtain ⟨x12, hx12, hu3⟩ := bnd_s hu3
      refine v_istore_n (pc := 30) (lv' := [some (.ref (gad g 49)), some (.int x0_), some (.int x12), some (.int a4.2)]) hC dX11_feltOf_30 hx12 rfl rfl rfl ?_
      obtain ⟨x13, hx13, hu3⟩ := bnd_s hu3
      refine v_iinc (pc := 31) (lv' := [some (.ref (gad g 49)), some (.int x0_), some (.int x12), some (.int x13)]) (1 : Int32) rfl hx13 hC dX11_feltOf_31 rfl rfl rfl rfl ?_
      refine v_goto (pc := 34) (tgt := 4) hC dX11_feltOf_34 rfl ?_
      obtain rfl := Option.some.inj hu3
      exact V.ls (ls_some (ls_some (ls_some (ls_some ls_nil)))) (k5 _ rfl)
    refine v_ic_ne (pc := 21) (tgt := 28) hC dX11_feltOf_21 rfl (fun c14 => ?_) (fun c14 => ?_)
    · replace hw10 := (if_neg c14).symm.trans hw10
      refine v_iconst (pc := 28) (1 : Int32) rfl hC dX11_feltOf_28 ?_
      obtain rfl := Option.some.inj hw10
      exact V.ls (ls_some (ls_some (ls_none (ls_some ls_nil)))) kj11
    · replace hw10 := (if_pos c14).symm.trans hw10
      refine v_iconst (pc := 24) (0 : Int32) rfl hC dX11_feltOf_24 ?_
      refine v_goto (pc := 25) (tgt := 29) hC dX11_feltOf_25 rfl ?_
      obtain rfl := Option.some.inj hw10
      exact V.ls (ls_some (ls_some (ls_none (ls_some ls_nil)))) kj11
theorem dX11_totalOf_0 : decode cX11_totalOf 0 = .ok (.iconst 0, 1) := by decide +kernel
theorem dX11_totalOf_1 : decode cX11_totalOf 1 = .ok (.istore_n 2, 1) := by decide +kernel
theorem dX11_totalOf_2 : decode cX11_totalOf 2 = .ok (.iconst 0, 1) := by decide +kernel
theorem dX11_totalOf_3 : decode cX11_totalOf 3 = .ok (.istore_n 3, 1) := by decide +kernel
theorem dX11_totalOf_4 : decode cX11_totalOf 4 = .ok (.iload_n 3, 1) := by decide +kernel
theorem dX11_totalOf_5 : decode cX11_totalOf 5 = .ok (.iconst 4, 1) := by decide +kernel
theorem dX11_totalOf_6 : decode cX11_totalOf 6 = .ok (.if_icmp .ge 40, 3) := by decide +kernel
theorem dX11_totalOf_9 : decode cX11_totalOf 9 = .ok (.iload_n 2, 1) := by decide +kernel
theorem dX11_totalOf_10 : decode cX11_totalOf 10 = .ok (.aload_n 0, 1) := by decide +kernel
theorem dX11_totalOf_11 : decode cX11_totalOf 11 = .ok (.getfield 25, 3) := by decide +kernel
theorem dX11_totalOf_14 : decode cX11_totalOf 14 = .ok (.iconst 4, 1) := by decide +kernel
theorem dX11_totalOf_15 : decode cX11_totalOf 15 = .ok (.iload_n 1, 1) := by decide +kernel
theorem dX11_totalOf_16 : decode cX11_totalOf 16 = .ok (.imul, 1) := by decide +kernel
theorem dX11_totalOf_17 : decode cX11_totalOf 17 = .ok (.iload_n 3, 1) := by decide +kernel
theorem dX11_totalOf_18 : decode cX11_totalOf 18 = .ok (.iadd, 1) := by decide +kernel
theorem dX11_totalOf_19 : decode cX11_totalOf 19 = .ok (.iaload, 1) := by decide +kernel
theorem dX11_totalOf_20 : decode cX11_totalOf 20 = .ok (.iconst (-1), 1) := by decide +kernel
theorem dX11_totalOf_21 : decode cX11_totalOf 21 = .ok (.if_icmp .ne 7, 3) := by decide +kernel
theorem dX11_totalOf_24 : decode cX11_totalOf 24 = .ok (.iconst 0, 1) := by decide +kernel
theorem dX11_totalOf_25 : decode cX11_totalOf 25 = .ok (.goto 13, 3) := by decide +kernel
theorem dX11_totalOf_28 : decode cX11_totalOf 28 = .ok (.aload_n 0, 1) := by decide +kernel
theorem dX11_totalOf_29 : decode cX11_totalOf 29 = .ok (.getfield 25, 3) := by decide +kernel
theorem dX11_totalOf_32 : decode cX11_totalOf 32 = .ok (.iconst 4, 1) := by decide +kernel
theorem dX11_totalOf_33 : decode cX11_totalOf 33 = .ok (.iload_n 1, 1) := by decide +kernel
theorem dX11_totalOf_34 : decode cX11_totalOf 34 = .ok (.imul, 1) := by decide +kernel
theorem dX11_totalOf_35 : decode cX11_totalOf 35 = .ok (.iload_n 3, 1) := by decide +kernel
theorem dX11_totalOf_36 : decode cX11_totalOf 36 = .ok (.iadd, 1) := by decide +kernel
theorem dX11_totalOf_37 : decode cX11_totalOf 37 = .ok (.iaload, 1) := by decide +kernel
theorem dX11_totalOf_38 : decode cX11_totalOf 38 = .ok (.iadd, 1) := by decide +kernel
theorem dX11_totalOf_39 : decode cX11_totalOf 39 = .ok (.istore_n 2, 1) := by decide +kernel
theorem dX11_totalOf_40 : decode cX11_totalOf 40 = .ok (.iinc 3 1, 3) := by decide +kernel
theorem dX11_totalOf_43 : decode cX11_totalOf 43 = .ok (.goto (-39), 3) := by decide +kernel
theorem dX11_totalOf_46 : decode cX11_totalOf 46 = .ok (.iload_n 2, 1) := by decide +kernel
theorem dX11_totalOf_47 : decode cX11_totalOf 47 = .ok (.ireturn, 1) := by decide +kernel
def fX11_totalOf_L4 (p1 : Int32) (a : Int32 × Int32) (s : Sg) : Option (((Int32 × Int32) ⊕ (Int32)) × Sg) :=
  if (4 : Int32) ≤ a.2 then
  some (.inr a.1, s)
  else
  (aI s 55 256 (((4 : Int32) * p1) + a.2)).bind fun v2 =>
  ((if v2 = (-1 : Int32) then
  some (0 : Int32)
  else
  (aI s 55 256 (((4 : Int32) * p1) + a.2)).bind fun v7 =>
  some v7) : Option (Int32)).bind fun w3 =>
  bnd (a.1 + w3) fun x5 =>
  bnd (a.2 + (1 : Int32)) fun x6 =>
  some (.inl (x5, x6), s)
def fX11_totalOf (x0_ : Int32) (s : Sg) : Option (Int32 × Sg) :=
  (lpG (fX11_totalOf_L4 x0_) FU ((0 : Int32), (0 : Int32)) s).bind fun w1 =>
  some (w1.1, w1.2)
theorem ct_X11_totalOf {g : Gl} {x0_ : Int32} {s : Sg} {w : Int32 × Sg}  (h : fX11_totalOf x0_ s = some w) : Ct SS g iX11_totalOf 0 0 [.ref (gad g 49), .int x0_] s (Dt (some (.int w.1)) w.2) := by
  refine Ct.ofV (by decide +kernel) 2 (lv0 := [some (.ref (gad g 49)), some (.int x0_), none, none]) rfl rfl (fun M hC => ?_)
  have hP : (Dt (some (.int w.1)) w.2) (some (.int w.1)) w.2 := ⟨rfl, rfl⟩
  generalize Dt (some (.int w.1)) w.2 = P at hP ⊢
  unfold fX11_totalOf at h
  refine v_iconst (pc := 0) (0 : Int32) rfl hC dX11_totalOf_0 ?_
  refine v_istore_n (pc := 1) (lv' := [some (.ref (gad g 49)), some (.int x0_), some (.int (0 : Int32)), none]) hC dX11_totalOf_1 rfl rfl rfl rfl ?_
  refine v_iconst (pc := 2) (0 : Int32) rfl hC dX11_totalOf_2 ?_
  refine v_istore_n (pc := 3) (lv' := [some (.ref (gad g 49)), some (.int x0_), some (.int (0 : Int32)), some (.int (0 : Int32))]) hC dX11_totalOf_3 rfl rfl rfl rfl ?_
  obtain ⟨w1, hw1, h⟩ := obd_s h
  have kx16 : V SS g M iX11_totalOf (PQ SS g M P) 46 [none, none, some (.int w1.1), none] [] w1.2 := by
    refine v_iload_n (pc := 46) hC dX11_totalOf_46 rfl ?_
    obtain rfl := Option.some.inj h
    exact v_iret (pc := 47) hC rfl dX11_totalOf_47 hP
  refine V.ls (ls_some (ls_some (ls_some (ls_some ls_nil)))) (v_loop (pc := 4) (fun a4 => [some (.ref (gad g 49)), some (.int x0_), some (.int a4.1), some (.int a4.2)]) (fun z t => V SS g M iX11_totalOf (PQ SS g M P) 46 [none, none, some (.int z), none] [] t) (fun a4 s2 u3 hu3 k5 k6 => ?_) _ _ _ _ hw1 kx16)
  unfold fX11_totalOf_L4 at hu3
  refine v_iload_n (pc := 4) hC dX11_totalOf_4 rfl ?_
  refine v_iconst (pc := 5) (4 : Int32) rfl hC dX11_totalOf_5 ?_
  refine v_ic_ge (pc := 6) (tgt := 46) hC dX11_totalOf_6 rfl (fun c8 => ?_) (fun c8 => ?_)
  · replace hu3 := (if_pos c8).symm.trans hu3
    obtain rfl := Option.some.inj hu3
    exact V.ls (ls_none (ls_none (ls_some (ls_none ls_nil)))) (k6 _ rfl)
  · replace hu3 := (if_neg c8).symm.trans hu3
    refine v_iload_n (pc := 9) hC dX11_totalOf_9 rfl ?_
    refine v_aload_n (pc := 10) hC dX11_totalOf_10 rfl ?_
    refine v_gt (pc := 11) 7 (.ref (gad g 55)) hC s_49 rfl rfl rfl rfl fl_X11_25 dX11_totalOf_11 ?_
    refine v_iconst (pc := 14) (4 : Int32) rfl hC dX11_totalOf_14 ?_
    refine v_iload_n (pc := 15) hC dX11_totalOf_15 rfl ?_
    refine v_imul (pc := 16) hC dX11_totalOf_16 ?_
    refine v_iload_n (pc := 17) hC dX11_totalOf_17 rfl ?_
    refine v_iadd (pc := 18) hC dX11_totalOf_18 ?_
    obtain ⟨v9, hv9, hu3⟩ := obd_s hu3
    refine v_aI (pc := 19) hC s_55 hv9 dX11_totalOf_19 ?_
    refine v_iconst (pc := 20) (-1 : Int32) rfl hC dX11_totalOf_20 ?_
    obtain ⟨w10, hw10, hu3⟩ := obd_s hu3
    have kj11 : V SS g M iX11_totalOf (PQ SS g M P) 38 [some (.ref (gad g 49)), some (.int x0_), none, some (.int a4.2)] [.int w10, .int a4.1] s2 := by
      refine v_iadd (pc := 38) hC dX11_totalOf_38 ?_
      obtain ⟨x12, hx12, hu3⟩ := bnd_s hu3
      refine v_istore_n (pc := 39) (lv' := [some (.ref (gad g 49)), some (.int x0_), some (.int x12), some (.int a4.2)]) hC dX11_totalOf_39 hx12 rfl rfl rfl ?_
      obtain ⟨x13, hx13, hu3⟩ := bnd_s hu3
      refine v_iinc (pc := 40) (lv' := [some (.ref (gad g 49)), some (.int x0_), some (.int x12), some (.int x13)]) (1 : Int32) rfl hx13 hC dX11_totalOf_40 rfl rfl rfl rfl ?_
      refine v_goto (pc := 43) (tgt := 4) hC dX11_totalOf_43 rfl ?_
      obtain rfl := Option.some.inj hu3
      exact V.ls (ls_some (ls_some (ls_some (ls_some ls_nil)))) (k5 _ rfl)
    refine v_ic_ne (pc := 21) (tgt := 28) hC dX11_totalOf_21 rfl (fun c15 => ?_) (fun c15 => ?_)
    · replace hw10 := (if_neg c15).symm.trans hw10
      refine v_aload_n (pc := 28) hC dX11_totalOf_28 rfl ?_
      refine v_gt (pc := 29) 7 (.ref (gad g 55)) hC s_49 rfl rfl rfl rfl fl_X11_25 dX11_totalOf_29 ?_
      refine v_iconst (pc := 32) (4 : Int32) rfl hC dX11_totalOf_32 ?_
      refine v_iload_n (pc := 33) hC dX11_totalOf_33 rfl ?_
      refine v_imul (pc := 34) hC dX11_totalOf_34 ?_
      refine v_iload_n (pc := 35) hC dX11_totalOf_35 rfl ?_
      refine v_iadd (pc := 36) hC dX11_totalOf_36 ?_
      obtain ⟨v14, hv14, hw10⟩ := obd_s hw10
      refine v_aI (pc := 37) hC s_55 hv14 dX11_totalOf_37 ?_
      obtain rfl := Option.some.inj hw10
      exact V.ls (ls_some (ls_some (ls_none (ls_some ls_nil)))) kj11
    · replace hw10 := (if_pos c15).symm.trans hw10
      refine v_iconst (pc := 24) (0 : Int32) rfl hC dX11_totalOf_24 ?_
      refine v_goto (pc := 25) (tgt := 38) hC dX11_totalOf_25 rfl ?_
      obtain rfl := Option.some.inj hw10
      exact V.ls (ls_some (ls_some (ls_none (ls_some ls_nil)))) kj11
theorem dX11_about_0 : decode cX11_about 0 = .ok (.aload_n 0, 1) := by decide +kernel
theorem dX11_about_1 : decode cX11_about 1 = .ok (.iload_n 1, 1) := by decide +kernel
theorem dX11_about_2 : decode cX11_about 2 = .ok (.invokevirtual 119, 3) := by decide +kernel
theorem dX11_about_5 : decode cX11_about 5 = .ok (.ifCond .ne 6, 3) := by decide +kernel
theorem dX11_about_8 : decode cX11_about 8 = .ok (.bipush (-2), 2) := by decide +kernel
theorem dX11_about_10 : decode cX11_about 10 = .ok (.ireturn, 1) := by decide +kernel
theorem dX11_about_11 : decode cX11_about 11 = .ok (.iload_n 2, 1) := by decide +kernel
theorem dX11_about_12 : decode cX11_about 12 = .ok (.tableswitch 124 0 6 #[44, 51, 58, 65, 77, 89, 95], 44) := by decide +kernel
theorem dX11_about_56 : decode cX11_about 56 = .ok (.aload_n 0, 1) := by decide +kernel
theorem dX11_about_57 : decode cX11_about 57 = .ok (.getfield 16, 3) := by decide +kernel
theorem dX11_about_60 : decode cX11_about 60 = .ok (.iload_n 1, 1) := by decide +kernel
theorem dX11_about_61 : decode cX11_about 61 = .ok (.iaload, 1) := by decide +kernel
theorem dX11_about_62 : decode cX11_about 62 = .ok (.ireturn, 1) := by decide +kernel
theorem dX11_about_63 : decode cX11_about 63 = .ok (.aload_n 0, 1) := by decide +kernel
theorem dX11_about_64 : decode cX11_about 64 = .ok (.getfield 19, 3) := by decide +kernel
theorem dX11_about_67 : decode cX11_about 67 = .ok (.iload_n 1, 1) := by decide +kernel
theorem dX11_about_68 : decode cX11_about 68 = .ok (.iaload, 1) := by decide +kernel
theorem dX11_about_69 : decode cX11_about 69 = .ok (.ireturn, 1) := by decide +kernel
theorem dX11_about_70 : decode cX11_about 70 = .ok (.aload_n 0, 1) := by decide +kernel
theorem dX11_about_71 : decode cX11_about 71 = .ok (.getfield 22, 3) := by decide +kernel
theorem dX11_about_74 : decode cX11_about 74 = .ok (.iload_n 1, 1) := by decide +kernel
theorem dX11_about_75 : decode cX11_about 75 = .ok (.iaload, 1) := by decide +kernel
theorem dX11_about_76 : decode cX11_about 76 = .ok (.ireturn, 1) := by decide +kernel
theorem dX11_about_77 : decode cX11_about 77 = .ok (.aload_n 0, 1) := by decide +kernel
theorem dX11_about_78 : decode cX11_about 78 = .ok (.getfield 13, 3) := by decide +kernel
theorem dX11_about_81 : decode cX11_about 81 = .ok (.aload_n 0, 1) := by decide +kernel
theorem dX11_about_82 : decode cX11_about 82 = .ok (.getfield 16, 3) := by decide +kernel
theorem dX11_about_85 : decode cX11_about 85 = .ok (.iload_n 1, 1) := by decide +kernel
theorem dX11_about_86 : decode cX11_about 86 = .ok (.iaload, 1) := by decide +kernel
theorem dX11_about_87 : decode cX11_about 87 = .ok (.iaload, 1) := by decide +kernel
theorem dX11_about_88 : decode cX11_about 88 = .ok (.ireturn, 1) := by decide +kernel
theorem dX11_about_89 : decode cX11_about 89 = .ok (.aload_n 0, 1) := by decide +kernel
theorem dX11_about_90 : decode cX11_about 90 = .ok (.getfield 7, 3) := by decide +kernel
theorem dX11_about_93 : decode cX11_about 93 = .ok (.aload_n 0, 1) := by decide +kernel
theorem dX11_about_94 : decode cX11_about 94 = .ok (.getfield 16, 3) := by decide +kernel
theorem dX11_about_97 : decode cX11_about 97 = .ok (.iload_n 1, 1) := by decide +kernel
theorem dX11_about_98 : decode cX11_about 98 = .ok (.iaload, 1) := by decide +kernel
theorem dX11_about_99 : decode cX11_about 99 = .ok (.iaload, 1) := by decide +kernel
theorem dX11_about_100 : decode cX11_about 100 = .ok (.ireturn, 1) := by decide +kernel
theorem dX11_about_101 : decode cX11_about 101 = .ok (.aload_n 0, 1) := by decide +kernel
theorem dX11_about_102 : decode cX11_about 102 = .ok (.iload_n 1, 1) := by decide +kernel
theorem dX11_about_103 : decode cX11_about 103 = .ok (.invokevirtual 132, 3) := by decide +kernel
theorem dX11_about_106 : decode cX11_about 106 = .ok (.ireturn, 1) := by decide +kernel
theorem dX11_about_107 : decode cX11_about 107 = .ok (.aload_n 0, 1) := by decide +kernel
theorem dX11_about_108 : decode cX11_about 108 = .ok (.iload_n 1, 1) := by decide +kernel
theorem dX11_about_109 : decode cX11_about 109 = .ok (.invokevirtual 132, 3) := by decide +kernel
theorem dX11_about_112 : decode cX11_about 112 = .ok (.aload_n 0, 1) := by decide +kernel
theorem dX11_about_113 : decode cX11_about 113 = .ok (.getfield 7, 3) := by decide +kernel
theorem dX11_about_116 : decode cX11_about 116 = .ok (.aload_n 0, 1) := by decide +kernel
theorem dX11_about_117 : decode cX11_about 117 = .ok (.getfield 16, 3) := by decide +kernel
theorem dX11_about_120 : decode cX11_about 120 = .ok (.iload_n 1, 1) := by decide +kernel
theorem dX11_about_121 : decode cX11_about 121 = .ok (.iaload, 1) := by decide +kernel
theorem dX11_about_122 : decode cX11_about 122 = .ok (.iaload, 1) := by decide +kernel
theorem dX11_about_123 : decode cX11_about 123 = .ok (.if_icmp .ne 11, 3) := by decide +kernel
theorem dX11_about_126 : decode cX11_about 126 = .ok (.aload_n 0, 1) := by decide +kernel
theorem dX11_about_127 : decode cX11_about 127 = .ok (.iload_n 1, 1) := by decide +kernel
theorem dX11_about_128 : decode cX11_about 128 = .ok (.invokevirtual 135, 3) := by decide +kernel
theorem dX11_about_131 : decode cX11_about 131 = .ok (.goto 4, 3) := by decide +kernel
theorem dX11_about_134 : decode cX11_about 134 = .ok (.iconst (-1), 1) := by decide +kernel
theorem dX11_about_135 : decode cX11_about 135 = .ok (.ireturn, 1) := by decide +kernel
theorem dX11_about_136 : decode cX11_about 136 = .ok (.bipush (-2), 2) := by decide +kernel
theorem dX11_about_138 : decode cX11_about 138 = .ok (.ireturn, 1) := by decide +kernel
def fX11_about (x0_ : Int32) (x1_ : Int32) (s : Sg) : Option (Int32 × Sg) :=
  (fX11_isSwim x0_ s).bind fun w1 =>
  if w1.1 = 0 then
  some ((-2 : Int32), w1.2)
  else
  if x1_ = (0 : Int32) then ((aI w1.2 52 64 x0_).bind fun v3 =>
  some (v3, w1.2)) else if x1_ = (1 : Int32) then ((aI w1.2 53 64 x0_).bind fun v5 =>
  some (v5, w1.2)) else if x1_ = (2 : Int32) then ((aI w1.2 54 64 x0_).bind fun v7 =>
  some (v7, w1.2)) else if x1_ = (3 : Int32) then ((aI w1.2 52 64 x0_).bind fun v9 =>
  (aI w1.2 51 16 v9).bind fun v10 =>
  some (v10, w1.2)) else if x1_ = (4 : Int32) then ((aI w1.2 52 64 x0_).bind fun v12 =>
  (aI w1.2 50 16 v12).bind fun v13 =>
  some (v13, w1.2)) else if x1_ = (5 : Int32) then ((fX11_feltOf x0_ w1.2).bind fun w15 =>
  some (w15.1, w15.2)) else if x1_ = (6 : Int32) then ((fX11_feltOf x0_ w1.2).bind fun w17 =>
  (aI w17.2 52 64 x0_).bind fun v18 =>
  (aI w17.2 50 16 v18).bind fun v19 =>
  if w17.1 = v19 then
  (fX11_totalOf x0_ w17.2).bind fun w21 =>
  some (w21.1, w21.2)
  else
  some ((-1 : Int32), w17.2)) else (some ((-2 : Int32), w1.2))
theorem ct_X11_about {g : Gl} {x0_ : Int32} {x1_ : Int32} {s : Sg} {w : Int32 × Sg}  (h : fX11_about x0_ x1_ s = some w) : Ct SS g iX11_about 2 43 [.ref (gad g 49), .int x0_, .int x1_] s (Dt (some (.int w.1)) w.2) := by
  refine Ct.ofV (by decide +kernel) 0 (lv0 := [some (.ref (gad g 49)), some (.int x0_), some (.int x1_)]) rfl rfl (fun M hC => ?_)
  have hP : (Dt (some (.int w.1)) w.2) (some (.int w.1)) w.2 := ⟨rfl, rfl⟩
  generalize Dt (some (.int w.1)) w.2 = P at hP ⊢
  unfold fX11_about at h
  refine v_aload_n (pc := 0) hC dX11_about_0 rfl ?_
  refine v_iload_n (pc := 1) hC dX11_about_1 rfl ?_
  obtain ⟨w1, hw1, h⟩ := obd_s h
  refine v_cV (pc := 2) [] [.int w1.1] gm_X11_isSwim hC s_49 rfl rfl (ct_X11_isSwim  hw1) ml_X11_119 rfl rfl rfl rfl rfl rfl dX11_about_2 ?_
  refine v_if_ne (pc := 5) (tgt := 11) hC dX11_about_5 rfl (fun c22 => ?_) (fun c22 => ?_)
  · replace h := (if_neg c22).symm.trans h
    refine v_iload_n (pc := 11) hC dX11_about_11 rfl ?_
    by_cases c2 : x1_ = (0 : Int32)
    · replace h := (if_pos c2).symm.trans h
      refine v_tsIn (pc := 12) (tgt := 56) hC dX11_about_12 (by rw [c2]; decide) (by rw [c2]; decide) (by rw [c2]; rfl) rfl ?_
      refine v_aload_n (pc := 56) hC dX11_about_56 rfl ?_
      refine v_gt (pc := 57) 4 (.ref (gad g 52)) hC s_49 rfl rfl rfl rfl fl_X11_16 dX11_about_57 ?_
      refine v_iload_n (pc := 60) hC dX11_about_60 rfl ?_
      obtain ⟨v3, hv3, h⟩ := obd_s h
      refine v_aI (pc := 61) hC s_52 hv3 dX11_about_61 ?_
      obtain rfl := Option.some.inj h
      exact v_iret (pc := 62) hC rfl dX11_about_62 hP
    replace h := (if_neg c2).symm.trans h
    by_cases c4 : x1_ = (1 : Int32)
    · replace h := (if_pos c4).symm.trans h
      refine v_tsIn (pc := 12) (tgt := 63) hC dX11_about_12 (by rw [c4]; decide) (by rw [c4]; decide) (by rw [c4]; rfl) rfl ?_
      refine v_aload_n (pc := 63) hC dX11_about_63 rfl ?_
      refine v_gt (pc := 64) 5 (.ref (gad g 53)) hC s_49 rfl rfl rfl rfl fl_X11_19 dX11_about_64 ?_
      refine v_iload_n (pc := 67) hC dX11_about_67 rfl ?_
      obtain ⟨v5, hv5, h⟩ := obd_s h
      refine v_aI (pc := 68) hC s_53 hv5 dX11_about_68 ?_
      obtain rfl := Option.some.inj h
      exact v_iret (pc := 69) hC rfl dX11_about_69 hP
    replace h := (if_neg c4).symm.trans h
    by_cases c6 : x1_ = (2 : Int32)
    · replace h := (if_pos c6).symm.trans h
      refine v_tsIn (pc := 12) (tgt := 70) hC dX11_about_12 (by rw [c6]; decide) (by rw [c6]; decide) (by rw [c6]; rfl) rfl ?_
      refine v_aload_n (pc := 70) hC dX11_about_70 rfl ?_
      refine v_gt (pc := 71) 6 (.ref (gad g 54)) hC s_49 rfl rfl rfl rfl fl_X11_22 dX11_about_71 ?_
      refine v_iload_n (pc := 74) hC dX11_about_74 rfl ?_
      obtain ⟨v7, hv7, h⟩ := obd_s h
      refine v_aI (pc := 75) hC s_54 hv7 dX11_about_75 ?_
      obtain rfl := Option.some.inj h
      exact v_iret (pc := 76) hC rfl dX11_about_76 hP
    replace h := (if_neg c6).symm.trans h
    by_cases c8 : x1_ = (3 : Int32)
    · replace h := (if_pos c8).symm.trans h
      refine v_tsIn (pc := 12) (tgt := 77) hC dX11_about_12 (by rw [c8]; decide) (by rw [c8]; decide) (by rw [c8]; rfl) rfl ?_
      refine v_aload_n (pc := 77) hC dX11_about_77 rfl ?_
      refine v_gt (pc := 78) 2 (.ref (gad g 51)) hC s_49 rfl rfl rfl rfl fl_X11_13 dX11_about_78 ?_
      refine v_aload_n (pc := 81) hC dX11_about_81 rfl ?_
      refine v_gt (pc := 82) 4 (.ref (gad g 52)) hC s_49 rfl rfl rfl rfl fl_X11_16 dX11_about_82 ?_
      refine v_iload_n (pc := 85) hC dX11_about_85 rfl ?_
      obtain ⟨v9, hv9, h⟩ := obd_s h
      refine v_aI (pc := 86) hC s_52 hv9 dX11_about_86 ?_
      obtain ⟨v10, hv10, h⟩ := obd_s h
      refine v_aI (pc := 87) hC s_51 hv10 dX11_about_87 ?_
      obtain rfl := Option.some.inj h
      exact v_iret (pc := 88) hC rfl dX11_about_88 hP
    replace h := (if_neg c8).symm.trans h
    by_cases c11 : x1_ = (4 : Int32)
    · replace h := (if_pos c11).symm.trans h
      refine v_tsIn (pc := 12) (tgt := 89) hC dX11_about_12 (by rw [c11]; decide) (by rw [c11]; decide) (by rw [c11]; rfl) rfl ?_
      refine v_aload_n (pc := 89) hC dX11_about_89 rfl ?_
      refine v_gt (pc := 90) 1 (.ref (gad g 50)) hC s_49 rfl rfl rfl rfl fl_X11_7 dX11_about_90 ?_
      refine v_aload_n (pc := 93) hC dX11_about_93 rfl ?_
      refine v_gt (pc := 94) 4 (.ref (gad g 52)) hC s_49 rfl rfl rfl rfl fl_X11_16 dX11_about_94 ?_
      refine v_iload_n (pc := 97) hC dX11_about_97 rfl ?_
      obtain ⟨v12, hv12, h⟩ := obd_s h
      refine v_aI (pc := 98) hC s_52 hv12 dX11_about_98 ?_
      obtain ⟨v13, hv13, h⟩ := obd_s h
      refine v_aI (pc := 99) hC s_50 hv13 dX11_about_99 ?_
      obtain rfl := Option.some.inj h
      exact v_iret (pc := 100) hC rfl dX11_about_100 hP
    replace h := (if_neg c11).symm.trans h
    by_cases c14 : x1_ = (5 : Int32)
    · replace h := (if_pos c14).symm.trans h
      refine v_tsIn (pc := 12) (tgt := 101) hC dX11_about_12 (by rw [c14]; decide) (by rw [c14]; decide) (by rw [c14]; rfl) rfl ?_
      refine v_aload_n (pc := 101) hC dX11_about_101 rfl ?_
      refine v_iload_n (pc := 102) hC dX11_about_102 rfl ?_
      obtain ⟨w15, hw15, h⟩ := obd_s h
      refine v_cV (pc := 103) [] [.int w15.1] gm_X11_feltOf hC s_49 rfl rfl (ct_X11_feltOf  hw15) ml_X11_132 rfl rfl rfl rfl rfl rfl dX11_about_103 ?_
      obtain rfl := Option.some.inj h
      exact v_iret (pc := 106) hC rfl dX11_about_106 hP
    replace h := (if_neg c14).symm.trans h
    by_cases c16 : x1_ = (6 : Int32)
    · replace h := (if_pos c16).symm.trans h
      refine v_tsIn (pc := 12) (tgt := 107) hC dX11_about_12 (by rw [c16]; decide) (by rw [c16]; decide) (by rw [c16]; rfl) rfl ?_
      refine v_aload_n (pc := 107) hC dX11_about_107 rfl ?_
      refine v_iload_n (pc := 108) hC dX11_about_108 rfl ?_
      obtain ⟨w17, hw17, h⟩ := obd_s h
      refine v_cV (pc := 109) [] [.int w17.1] gm_X11_feltOf hC s_49 rfl rfl (ct_X11_feltOf  hw17) ml_X11_132 rfl rfl rfl rfl rfl rfl dX11_about_109 ?_
      refine v_aload_n (pc := 112) hC dX11_about_112 rfl ?_
      refine v_gt (pc := 113) 1 (.ref (gad g 50)) hC s_49 rfl rfl rfl rfl fl_X11_7 dX11_about_113 ?_
      refine v_aload_n (pc := 116) hC dX11_about_116 rfl ?_
      refine v_gt (pc := 117) 4 (.ref (gad g 52)) hC s_49 rfl rfl rfl rfl fl_X11_16 dX11_about_117 ?_
      refine v_iload_n (pc := 120) hC dX11_about_120 rfl ?_
      obtain ⟨v18, hv18, h⟩ := obd_s h
      refine v_aI (pc := 121) hC s_52 hv18 dX11_about_121 ?_
      obtain ⟨v19, hv19, h⟩ := obd_s h
      refine v_aI (pc := 122) hC s_50 hv19 dX11_about_122 ?_
      refine v_ic_ne (pc := 123) (tgt := 134) hC dX11_about_123 rfl (fun c20 => ?_) (fun c20 => ?_)
      · replace h := (if_neg c20).symm.trans h
        refine v_iconst (pc := 134) (-1 : Int32) rfl hC dX11_about_134 ?_
        obtain rfl := Option.some.inj h
        exact v_iret (pc := 135) hC rfl dX11_about_135 hP
      · replace h := (if_pos c20).symm.trans h
        refine v_aload_n (pc := 126) hC dX11_about_126 rfl ?_
        refine v_iload_n (pc := 127) hC dX11_about_127 rfl ?_
        obtain ⟨w21, hw21, h⟩ := obd_s h
        refine v_cV (pc := 128) [] [.int w21.1] gm_X11_totalOf hC s_49 rfl rfl (ct_X11_totalOf  hw21) ml_X11_135 rfl rfl rfl rfl rfl rfl dX11_about_128 ?_
        refine v_goto (pc := 131) (tgt := 135) hC dX11_about_131 rfl ?_
        obtain rfl := Option.some.inj h
        exact v_iret (pc := 135) hC rfl dX11_about_135 hP
    replace h := (if_neg c16).symm.trans h
    have ec2 : (x1_).toInt ≠ 0 := ne_toInt c2
    have ec4 : (x1_).toInt ≠ 1 := ne_toInt c4
    have ec6 : (x1_).toInt ≠ 2 := ne_toInt c6
    have ec8 : (x1_).toInt ≠ 3 := ne_toInt c8
    have ec11 : (x1_).toInt ≠ 4 := ne_toInt c11
    have ec14 : (x1_).toInt ≠ 5 := ne_toInt c14
    have ec16 : (x1_).toInt ≠ 6 := ne_toInt c16
    refine v_tsOut (pc := 12) (tgt := 136) hC dX11_about_12 (by omega) rfl ?_
    refine v_bipush (pc := 136) (-2 : Int32) rfl hC dX11_about_136 ?_
    obtain rfl := Option.some.inj h
    exact v_iret (pc := 138) hC rfl dX11_about_138 hP
  · replace h := (if_pos c22).symm.trans h
    refine v_bipush (pc := 8) (-2 : Int32) rfl hC dX11_about_8 ?_
    obtain rfl := Option.some.inj h
    exact v_iret (pc := 10) hC rfl dX11_about_10 hP
theorem dX11_feltOn_0 : decode cX11_feltOn 0 = .ok (.iconst 0, 1) := by decide +kernel
theorem dX11_feltOn_1 : decode cX11_feltOn 1 = .ok (.istore_n 3, 1) := by decide +kernel
theorem dX11_feltOn_2 : decode cX11_feltOn 2 = .ok (.iload_n 2, 1) := by decide +kernel
theorem dX11_feltOn_3 : decode cX11_feltOn 3 = .ok (.istore 4, 2) := by decide +kernel
theorem dX11_feltOn_5 : decode cX11_feltOn 5 = .ok (.iload 4, 2) := by decide +kernel
theorem dX11_feltOn_7 : decode cX11_feltOn 7 = .ok (.iconst 4, 1) := by decide +kernel
theorem dX11_feltOn_8 : decode cX11_feltOn 8 = .ok (.if_icmp .ge 32, 3) := by decide +kernel
theorem dX11_feltOn_11 : decode cX11_feltOn 11 = .ok (.iload_n 3, 1) := by decide +kernel
theorem dX11_feltOn_12 : decode cX11_feltOn 12 = .ok (.aload_n 0, 1) := by decide +kernel
theorem dX11_feltOn_13 : decode cX11_feltOn 13 = .ok (.getfield 25, 3) := by decide +kernel
theorem dX11_feltOn_16 : decode cX11_feltOn 16 = .ok (.iconst 4, 1) := by decide +kernel
theorem dX11_feltOn_17 : decode cX11_feltOn 17 = .ok (.iload_n 1, 1) := by decide +kernel
theorem dX11_feltOn_18 : decode cX11_feltOn 18 = .ok (.imul, 1) := by decide +kernel
theorem dX11_feltOn_19 : decode cX11_feltOn 19 = .ok (.iload 4, 2) := by decide +kernel
theorem dX11_feltOn_21 : decode cX11_feltOn 21 = .ok (.iadd, 1) := by decide +kernel
theorem dX11_feltOn_22 : decode cX11_feltOn 22 = .ok (.iaload, 1) := by decide +kernel
theorem dX11_feltOn_23 : decode cX11_feltOn 23 = .ok (.iconst (-1), 1) := by decide +kernel
theorem dX11_feltOn_24 : decode cX11_feltOn 24 = .ok (.if_icmp .ne 7, 3) := by decide +kernel
theorem dX11_feltOn_27 : decode cX11_feltOn 27 = .ok (.iconst 0, 1) := by decide +kernel
theorem dX11_feltOn_28 : decode cX11_feltOn 28 = .ok (.goto 4, 3) := by decide +kernel
theorem dX11_feltOn_31 : decode cX11_feltOn 31 = .ok (.iconst 1, 1) := by decide +kernel
theorem dX11_feltOn_32 : decode cX11_feltOn 32 = .ok (.iadd, 1) := by decide +kernel
theorem dX11_feltOn_33 : decode cX11_feltOn 33 = .ok (.istore_n 3, 1) := by decide +kernel
theorem dX11_feltOn_34 : decode cX11_feltOn 34 = .ok (.iinc 4 2, 3) := by decide +kernel
theorem dX11_feltOn_37 : decode cX11_feltOn 37 = .ok (.goto (-32), 3) := by decide +kernel
theorem dX11_feltOn_40 : decode cX11_feltOn 40 = .ok (.iload_n 3, 1) := by decide +kernel
theorem dX11_feltOn_41 : decode cX11_feltOn 41 = .ok (.ireturn, 1) := by decide +kernel
def fX11_feltOn_L5 (p1 : Int32) (a : Int32 × Int32) (s : Sg) : Option (((Int32 × Int32) ⊕ (Int32)) × Sg) :=
  if (4 : Int32) ≤ a.2 then
  some (.inr a.1, s)
  else
  (aI s 55 256 (((4 : Int32) * p1) + a.2)).bind fun v2 =>
  ((if v2 = (-1 : Int32) then
  some (0 : Int32)
  else
  some (1 : Int32)) : Option (Int32)).bind fun w3 =>
  bnd (a.1 + w3) fun x5 =>
  bnd (a.2 + (2 : Int32)) fun x6 =>
  some (.inl (x5, x6), s)
def fX11_feltOn (x0_ : Int32) (x1_ : Int32) (s : Sg) : Option (Int32 × Sg) :=
  (lpG (fX11_feltOn_L5 x0_) FU ((0 : Int32), x1_) s).bind fun w1 =>
  some (w1.1, w1.2)
theorem ct_X11_feltOn {g : Gl} {x0_ : Int32} {x1_ : Int32} {s : Sg} {w : Int32 × Sg}  (h : fX11_feltOn x0_ x1_ s = some w) : Ct SS g iX11_feltOn 0 0 [.ref (gad g 49), .int x0_, .int x1_] s (Dt (some (.int w.1)) w.2) := by
  refine Ct.ofV (by decide +kernel) 2 (lv0 := [some (.ref (gad g 49)), some (.int x0_), some (.int x1_), none, none]) rfl rfl (fun M hC => ?_)
  have hP : (Dt (some (.int w.1)) w.2) (some (.int w.1)) w.2 := ⟨rfl, rfl⟩
  generalize Dt (some (.int w.1)) w.2 = P at hP ⊢
  unfold fX11_feltOn at h
  refine v_iconst (pc := 0) (0 : Int32) rfl hC dX11_feltOn_0 ?_
  refine v_istore_n (pc := 1) (lv' := [some (.ref (gad g 49)), some (.int x0_), some (.int x1_), some (.int (0 : Int32)), none]) hC dX11_feltOn_1 rfl rfl rfl rfl ?_
  refine v_iload_n (pc := 2) hC dX11_feltOn_2 rfl ?_
  refine v_istore (pc := 3) (lv' := [some (.ref (gad g 49)), some (.int x0_), some (.int x1_), some (.int (0 : Int32)), some (.int x1_)]) hC dX11_feltOn_3 rfl rfl rfl rfl ?_
  obtain ⟨w1, hw1, h⟩ := obd_s h
  have kx15 : V SS g M iX11_feltOn (PQ SS g M P) 40 [none, none, none, some (.int w1.1), none] [] w1.2 := by
    refine v_iload_n (pc := 40) hC dX11_feltOn_40 rfl ?_
    obtain rfl := Option.some.inj h
    exact v_iret (pc := 41) hC rfl dX11_feltOn_41 hP
  refine V.ls (ls_some (ls_some (ls_none (ls_some (ls_some ls_nil))))) (v_loop (pc := 5) (fun a4 => [some (.ref (gad g 49)), some (.int x0_), none, some (.int a4.1), some (.int a4.2)]) (fun z t => V SS g M iX11_feltOn (PQ SS g M P) 40 [none, none, none, some (.int z), none] [] t) (fun a4 s2 u3 hu3 k5 k6 => ?_) _ _ _ _ hw1 kx15)
  unfold fX11_feltOn_L5 at hu3
  refine v_iload (pc := 5) hC dX11_feltOn_5 rfl ?_
  refine v_iconst (pc := 7) (4 : Int32) rfl hC dX11_feltOn_7 ?_
  refine v_ic_ge (pc := 8) (tgt := 40) hC dX11_feltOn_8 rfl (fun c8 => ?_) (fun c8 => ?_)
  · replace hu3 := (if_pos c8).symm.trans hu3
    obtain rfl := Option.some.inj hu3
    exact V.ls (ls_none (ls_none (ls_none (ls_some (ls_none ls_nil))))) (k6 _ rfl)
  · replace hu3 := (if_neg c8).symm.trans hu3
    refine v_iload_n (pc := 11) hC dX11_feltOn_11 rfl ?_
    refine v_aload_n (pc := 12) hC dX11_feltOn_12 rfl ?_
    refine v_gt (pc := 13) 7 (.ref (gad g 55)) hC s_49 rfl rfl rfl rfl fl_X11_25 dX11_feltOn_13 ?_
    refine v_iconst (pc := 16) (4 : Int32) rfl hC dX11_feltOn_16 ?_
    refine v_iload_n (pc := 17) hC dX11_feltOn_17 rfl ?_
    refine v_imul (pc := 18) hC dX11_feltOn_18 ?_
    refine v_iload (pc := 19) hC dX11_feltOn_19 rfl ?_
    refine v_iadd (pc := 21) hC dX11_feltOn_21 ?_
    obtain ⟨v9, hv9, hu3⟩ := obd_s hu3
    refine v_aI (pc := 22) hC s_55 hv9 dX11_feltOn_22 ?_
    refine v_iconst (pc := 23) (-1 : Int32) rfl hC dX11_feltOn_23 ?_
    obtain ⟨w10, hw10, hu3⟩ := obd_s hu3
    have kj11 : V SS g M iX11_feltOn (PQ SS g M P) 32 [some (.ref (gad g 49)), some (.int x0_), none, none, some (.int a4.2)] [.int w10, .int a4.1] s2 := by
      refine v_iadd (pc := 32) hC dX11_feltOn_32 ?_
      obtain ⟨x12, hx12, hu3⟩ := bnd_s hu3
      refine v_istore_n (pc := 33) (lv' := [some (.ref (gad g 49)), some (.int x0_), none, some (.int x12), some (.int a4.2)]) hC dX11_feltOn_33 hx12 rfl rfl rfl ?_
      obtain ⟨x13, hx13, hu3⟩ := bnd_s hu3
      refine v_iinc (pc := 34) (lv' := [some (.ref (gad g 49)), some (.int x0_), none, some (.int x12), some (.int x13)]) (2 : Int32) rfl hx13 hC dX11_feltOn_34 rfl rfl rfl rfl ?_
      refine v_goto (pc := 37) (tgt := 5) hC dX11_feltOn_37 rfl ?_
      obtain rfl := Option.some.inj hu3
      exact V.ls (ls_some (ls_some (ls_none (ls_some (ls_some ls_nil))))) (k5 _ rfl)
    refine v_ic_ne (pc := 24) (tgt := 31) hC dX11_feltOn_24 rfl (fun c14 => ?_) (fun c14 => ?_)
    · replace hw10 := (if_neg c14).symm.trans hw10
      refine v_iconst (pc := 31) (1 : Int32) rfl hC dX11_feltOn_31 ?_
      obtain rfl := Option.some.inj hw10
      exact V.ls (ls_some (ls_some (ls_none (ls_none (ls_some ls_nil))))) kj11
    · replace hw10 := (if_pos c14).symm.trans hw10
      refine v_iconst (pc := 27) (0 : Int32) rfl hC dX11_feltOn_27 ?_
      refine v_goto (pc := 28) (tgt := 32) hC dX11_feltOn_28 rfl ?_
      obtain rfl := Option.some.inj hw10
      exact V.ls (ls_some (ls_some (ls_none (ls_none (ls_some ls_nil))))) kj11
