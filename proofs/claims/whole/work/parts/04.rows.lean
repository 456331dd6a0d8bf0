section
variable {S : List Shp} {g : Gl} {M : Mc} {i : MI} {rm : Room} {Q : State → Prop} {pc : Nat} {lv lv' : List (Option Value)} {st : List Value} {σ : Sg}
theorem v_iconst {n : Int} (v : Int32) (hv : Int32.ofInt n = v) (hC : Cx S g M i rm) (hd : decode i.2.1 pc = .ok (.iconst n, 1)) (kk : V S g M i Q (pc + 1) lv (.int v :: st) σ) : V S g M i Q pc lv st σ := by
  obtain ⟨p, e, R, s, m, args, below, meth, c, cells, slots, A⟩ := M
  intro H locs ls hP hS hl
  exact lv_iconst hC.1 hC.2.1 hd hv (kk H locs ls hP hS hl)
theorem v_bipush {n : Int} (v : Int32) (hv : (Int8.ofInt n).toInt32 = v) (hC : Cx S g M i rm) (hd : decode i.2.1 pc = .ok (.bipush n, 2)) (kk : V S g M i Q (pc + 2) lv (.int v :: st) σ) : V S g M i Q pc lv st σ := by
  obtain ⟨p, e, R, s, m, args, below, meth, c, cells, slots, A⟩ := M
  intro H locs ls hP hS hl
  exact lv_bipush hC.1 hC.2.1 hd hv (kk H locs ls hP hS hl)
theorem v_sipush {n : Int} (v : Int32) (hv : (Int16.ofInt n).toInt32 = v) (hC : Cx S g M i rm) (hd : decode i.2.1 pc = .ok (.sipush n, 3)) (kk : V S g M i Q (pc + 3) lv (.int v :: st) σ) : V S g M i Q pc lv st σ := by
  obtain ⟨p, e, R, s, m, args, below, meth, c, cells, slots, A⟩ := M
  intro H locs ls hP hS hl
  exact lv_sipush hC.1 hC.2.1 hd hv (kk H locs ls hP hS hl)
theorem v_ldc {index : Nat} (v : Int32) (hv : Cond.constant i.1.cls index v ∈ gtb) (hC : Cx S g M i rm) (hd : decode i.2.1 pc = .ok (.ldc index, 2)) (kk : V S g M i Q (pc + 2) lv (.int v :: st) σ) : V S g M i Q pc lv st σ := by
  obtain ⟨p, e, R, s, m, args, below, meth, c, cells, slots, A⟩ := M
  intro H locs ls hP hS hl
  exact lv_ldc hC.1 hC.2.1 hC.2.2.2.1 (hC.2.2.2.2.1 _ hv) hd (kk H locs ls hP hS hl)
theorem v_ldcw {index : Nat} (v : Int32) (hv : Cond.constant i.1.cls index v ∈ gtb) (hC : Cx S g M i rm) (hd : decode i.2.1 pc = .ok (.ldc_w index, 3)) (kk : V S g M i Q (pc + 3) lv (.int v :: st) σ) : V S g M i Q pc lv st σ := by
  obtain ⟨p, e, R, s, m, args, below, meth, c, cells, slots, A⟩ := M
  intro H locs ls hP hS hl
  exact lv_ldcw hC.1 hC.2.1 hC.2.2.2.1 (hC.2.2.2.2.1 _ hv) hd (kk H locs ls hP hS hl)
theorem v_ldc2 {index : Nat} (v : Int64) (hv : Cond.constantLong i.1.cls index v ∈ gtb) (hC : Cx S g M i rm) (hd : decode i.2.1 pc = .ok (.ldc2_w index, 3)) (kk : V S g M i Q (pc + 3) lv (.long v :: st) σ) : V S g M i Q pc lv st σ := by
  obtain ⟨p, e, R, s, m, args, below, meth, c, cells, slots, A⟩ := M
  intro H locs ls hP hS hl
  exact lv_ldc2 hC.1 hC.2.1 hC.2.2.2.1 (hC.2.2.2.2.1 _ hv) hd (kk H locs ls hP hS hl)
theorem v_lconst {n : Fin 2} (v : Int64) (hv : Int64.ofNat (n : Nat) = v) (hC : Cx S g M i rm) (hd : decode i.2.1 pc = .ok (.lconst n, 1)) (kk : V S g M i Q (pc + 1) lv (.long v :: st) σ) : V S g M i Q pc lv st σ := by
  obtain ⟨p, e, R, s, m, args, below, meth, c, cells, slots, A⟩ := M
  intro H locs ls hP hS hl
  exact lv_lconst hC.1 hC.2.1 hd hv (kk H locs ls hP hS hl)
theorem v_iadd {x y : Int32} (hC : Cx S g M i rm)  (hd : decode i.2.1 pc = .ok (.iadd, 1)) (kk : V S g M i Q (pc + 1) lv (.int (x + y) :: st) σ) : V S g M i Q pc lv (.int y :: .int x :: st) σ := by
  obtain ⟨p, e, R, s, m, args, below, meth, c, cells, slots, A⟩ := M
  intro H locs ls hP hS hl
  exact lv_iadd hC.1 hC.2.1 hd (kk H locs ls hP hS hl)
theorem v_isub {x y : Int32} (hC : Cx S g M i rm)  (hd : decode i.2.1 pc = .ok (.isub, 1)) (kk : V S g M i Q (pc + 1) lv (.int (x - y) :: st) σ) : V S g M i Q pc lv (.int y :: .int x :: st) σ := by
  obtain ⟨p, e, R, s, m, args, below, meth, c, cells, slots, A⟩ := M
  intro H locs ls hP hS hl
  exact lv_isub hC.1 hC.2.1 hd (kk H locs ls hP hS hl)
theorem v_imul {x y : Int32} (hC : Cx S g M i rm)  (hd : decode i.2.1 pc = .ok (.imul, 1)) (kk : V S g M i Q (pc + 1) lv (.int (x * y) :: st) σ) : V S g M i Q pc lv (.int y :: .int x :: st) σ := by
  obtain ⟨p, e, R, s, m, args, below, meth, c, cells, slots, A⟩ := M
  intro H locs ls hP hS hl
  exact lv_imul hC.1 hC.2.1 hd (kk H locs ls hP hS hl)
theorem v_iand {x y : Int32} (hC : Cx S g M i rm)  (hd : decode i.2.1 pc = .ok (.iand, 1)) (kk : V S g M i Q (pc + 1) lv (.int (x &&& y) :: st) σ) : V S g M i Q pc lv (.int y :: .int x :: st) σ := by
  obtain ⟨p, e, R, s, m, args, below, meth, c, cells, slots, A⟩ := M
  intro H locs ls hP hS hl
  exact lv_iand hC.1 hC.2.1 hd (kk H locs ls hP hS hl)
theorem v_ior {x y : Int32} (hC : Cx S g M i rm)  (hd : decode i.2.1 pc = .ok (.ior, 1)) (kk : V S g M i Q (pc + 1) lv (.int (x ||| y) :: st) σ) : V S g M i Q pc lv (.int y :: .int x :: st) σ := by
  obtain ⟨p, e, R, s, m, args, below, meth, c, cells, slots, A⟩ := M
  intro H locs ls hP hS hl
  exact lv_ior hC.1 hC.2.1 hd (kk H locs ls hP hS hl)
theorem v_ixor {x y : Int32} (hC : Cx S g M i rm)  (hd : decode i.2.1 pc = .ok (.ixor, 1)) (kk : V S g M i Q (pc + 1) lv (.int (x ^^^ y) :: st) σ) : V S g M i Q pc lv (.int y :: .int x :: st) σ := by
  obtain ⟨p, e, R, s, m, args, below, meth, c, cells, slots, A⟩ := M
  intro H locs ls hP hS hl
  exact lv_ixor hC.1 hC.2.1 hd (kk H locs ls hP hS hl)
theorem v_ishl {x y : Int32} (hC : Cx S g M i rm)  (hd : decode i.2.1 pc = .ok (.ishl, 1)) (kk : V S g M i Q (pc + 1) lv (.int (x <<< (y &&& 31)) :: st) σ) : V S g M i Q pc lv (.int y :: .int x :: st) σ := by
  obtain ⟨p, e, R, s, m, args, below, meth, c, cells, slots, A⟩ := M
  intro H locs ls hP hS hl
  exact lv_ishl hC.1 hC.2.1 hd (kk H locs ls hP hS hl)
theorem v_ishr {x y : Int32} (hC : Cx S g M i rm)  (hd : decode i.2.1 pc = .ok (.ishr, 1)) (kk : V S g M i Q (pc + 1) lv (.int (x >>> (y &&& 31)) :: st) σ) : V S g M i Q pc lv (.int y :: .int x :: st) σ := by
  obtain ⟨p, e, R, s, m, args, below, meth, c, cells, slots, A⟩ := M
  intro H locs ls hP hS hl
  exact lv_ishr hC.1 hC.2.1 hd (kk H locs ls hP hS hl)
theorem v_ladd {x y : Int64} (hC : Cx S g M i rm)  (hd : decode i.2.1 pc = .ok (.ladd, 1)) (kk : V S g M i Q (pc + 1) lv (.long (x + y) :: st) σ) : V S g M i Q pc lv (.long y :: .long x :: st) σ := by
  obtain ⟨p, e, R, s, m, args, below, meth, c, cells, slots, A⟩ := M
  intro H locs ls hP hS hl
  exact lv_ladd hC.1 hC.2.1 hd (kk H locs ls hP hS hl)
theorem v_lsub {x y : Int64} (hC : Cx S g M i rm)  (hd : decode i.2.1 pc = .ok (.lsub, 1)) (kk : V S g M i Q (pc + 1) lv (.long (x - y) :: st) σ) : V S g M i Q pc lv (.long y :: .long x :: st) σ := by
  obtain ⟨p, e, R, s, m, args, below, meth, c, cells, slots, A⟩ := M
  intro H locs ls hP hS hl
  exact lv_lsub hC.1 hC.2.1 hd (kk H locs ls hP hS hl)
theorem v_lmul {x y : Int64} (hC : Cx S g M i rm)  (hd : decode i.2.1 pc = .ok (.lmul, 1)) (kk : V S g M i Q (pc + 1) lv (.long (x * y) :: st) σ) : V S g M i Q pc lv (.long y :: .long x :: st) σ := by
  obtain ⟨p, e, R, s, m, args, below, meth, c, cells, slots, A⟩ := M
  intro H locs ls hP hS hl
  exact lv_lmul hC.1 hC.2.1 hd (kk H locs ls hP hS hl)
theorem v_idiv {x y : Int32} (hC : Cx S g M i rm) (hne : ¬ y = 0) (hd : decode i.2.1 pc = .ok (.idiv, 1)) (kk : V S g M i Q (pc + 1) lv (.int (x / y) :: st) σ) : V S g M i Q pc lv (.int y :: .int x :: st) σ := by
  obtain ⟨p, e, R, s, m, args, below, meth, c, cells, slots, A⟩ := M
  intro H locs ls hP hS hl
  exact lv_idiv hC.1 hC.2.1 hd hne (kk H locs ls hP hS hl)
theorem v_irem {x y : Int32} (hC : Cx S g M i rm) (hne : ¬ y = 0) (hd : decode i.2.1 pc = .ok (.irem, 1)) (kk : V S g M i Q (pc + 1) lv (.int (x - x / y * y) :: st) σ) : V S g M i Q pc lv (.int y :: .int x :: st) σ := by
  obtain ⟨p, e, R, s, m, args, below, meth, c, cells, slots, A⟩ := M
  intro H locs ls hP hS hl
  exact lv_irem hC.1 hC.2.1 hd hne (kk H locs ls hP hS hl)
theorem v_ldiv {x y : Int64} (hC : Cx S g M i rm) (hne : ¬ y = 0) (hd : decode i.2.1 pc = .ok (.ldiv, 1)) (kk : V S g M i Q (pc + 1) lv (.long (x / y) :: st) σ) : V S g M i Q pc lv (.long y :: .long x :: st) σ := by
  obtain ⟨p, e, R, s, m, args, below, meth, c, cells, slots, A⟩ := M
  intro H locs ls hP hS hl
  exact lv_ldiv hC.1 hC.2.1 hd hne (kk H locs ls hP hS hl)
theorem v_lrem {x y : Int64} (hC : Cx S g M i rm) (hne : ¬ y = 0) (hd : decode i.2.1 pc = .ok (.lrem, 1)) (kk : V S g M i Q (pc + 1) lv (.long (x - x / y * y) :: st) σ) : V S g M i Q pc lv (.long y :: .long x :: st) σ := by
  obtain ⟨p, e, R, s, m, args, below, meth, c, cells, slots, A⟩ := M
  intro H locs ls hP hS hl
  exact lv_lrem hC.1 hC.2.1 hd hne (kk H locs ls hP hS hl)
theorem v_ineg {x : Int32} (hC : Cx S g M i rm)  (hd : decode i.2.1 pc = .ok (.ineg, 1)) (kk : V S g M i Q (pc + 1) lv (.int (-x) :: st) σ) : V S g M i Q pc lv (.int x :: st) σ := by
  obtain ⟨p, e, R, s, m, args, below, meth, c, cells, slots, A⟩ := M
  intro H locs ls hP hS hl
  exact lv_ineg hC.1 hC.2.1 hd (kk H locs ls hP hS hl)
theorem v_lneg {x : Int64} (hC : Cx S g M i rm)  (hd : decode i.2.1 pc = .ok (.lneg, 1)) (kk : V S g M i Q (pc + 1) lv (.long (-x) :: st) σ) : V S g M i Q pc lv (.long x :: st) σ := by
  obtain ⟨p, e, R, s, m, args, below, meth, c, cells, slots, A⟩ := M
  intro H locs ls hP hS hl
  exact lv_lneg hC.1 hC.2.1 hd (kk H locs ls hP hS hl)
theorem v_iushr {x y : Int32} (hC : Cx S g M i rm)  (hd : decode i.2.1 pc = .ok (.iushr, 1)) (kk : V S g M i Q (pc + 1) lv (.int (x.toUInt32 >>> (y.toUInt32 &&& Int32.toUInt32 31)).toInt32 :: st) σ) : V S g M i Q pc lv (.int y :: .int x :: st) σ := by
  obtain ⟨p, e, R, s, m, args, below, meth, c, cells, slots, A⟩ := M
  intro H locs ls hP hS hl
  exact lv_iushr hC.1 hC.2.1 hd rfl (kk H locs ls hP hS hl)
theorem v_i2l {x : Int32} (hC : Cx S g M i rm)  (hd : decode i.2.1 pc = .ok (.i2l, 1)) (kk : V S g M i Q (pc + 1) lv (.long x.toInt64 :: st) σ) : V S g M i Q pc lv (.int x :: st) σ := by
  obtain ⟨p, e, R, s, m, args, below, meth, c, cells, slots, A⟩ := M
  intro H locs ls hP hS hl
  exact lv_i2l hC.1 hC.2.1 hd rfl (kk H locs ls hP hS hl)
theorem v_l2i {x : Int64} (hC : Cx S g M i rm)  (hd : decode i.2.1 pc = .ok (.l2i, 1)) (kk : V S g M i Q (pc + 1) lv (.int x.toInt32 :: st) σ) : V S g M i Q pc lv (.long x :: st) σ := by
  obtain ⟨p, e, R, s, m, args, below, meth, c, cells, slots, A⟩ := M
  intro H locs ls hP hS hl
  exact lv_l2i hC.1 hC.2.1 hd rfl (kk H locs ls hP hS hl)
theorem v_i2b {x : Int32} (hC : Cx S g M i rm)  (hd : decode i.2.1 pc = .ok (.i2b, 1)) (kk : V S g M i Q (pc + 1) lv (.int x.toInt8.toInt32 :: st) σ) : V S g M i Q pc lv (.int x :: st) σ := by
  obtain ⟨p, e, R, s, m, args, below, meth, c, cells, slots, A⟩ := M
  intro H locs ls hP hS hl
  exact lv_i2b hC.1 hC.2.1 hd rfl (kk H locs ls hP hS hl)
theorem v_i2s {x : Int32} (hC : Cx S g M i rm)  (hd : decode i.2.1 pc = .ok (.i2s, 1)) (kk : V S g M i Q (pc + 1) lv (.int x.toInt16.toInt32 :: st) σ) : V S g M i Q pc lv (.int x :: st) σ := by
  obtain ⟨p, e, R, s, m, args, below, meth, c, cells, slots, A⟩ := M
  intro H locs ls hP hS hl
  exact lv_i2s hC.1 hC.2.1 hd rfl (kk H locs ls hP hS hl)
theorem v_lcmp {x y : Int64} (hC : Cx S g M i rm)  (hd : decode i.2.1 pc = .ok (.lcmp, 1)) (kk : V S g M i Q (pc + 1) lv (.int (lg_cmp x y) :: st) σ) : V S g M i Q pc lv (.long y :: .long x :: st) σ := by
  obtain ⟨p, e, R, s, m, args, below, meth, c, cells, slots, A⟩ := M
  intro H locs ls hP hS hl
  exact W.lcmp hC.1 hC.2.1 hd (kk H locs ls hP hS hl)
theorem v_dup {a : Value} (hC : Cx S g M i rm) (hc : a.category = 1) (hd : decode i.2.1 pc = .ok (.dup, 1)) (kk : V S g M i Q (pc + 1) lv (a :: a :: st) σ) : V S g M i Q pc lv (a :: st) σ := by
  obtain ⟨p, e, R, s, m, args, below, meth, c, cells, slots, A⟩ := M
  intro H locs ls hP hS hl
  exact lv_dup hC.1 hC.2.1 hd hc (kk H locs ls hP hS hl)
theorem v_pop {a : Value} (hC : Cx S g M i rm) (hc : a.category = 1) (hd : decode i.2.1 pc = .ok (.pop, 1)) (kk : V S g M i Q (pc + 1) lv (st) σ) : V S g M i Q pc lv (a :: st) σ := by
  obtain ⟨p, e, R, s, m, args, below, meth, c, cells, slots, A⟩ := M
  intro H locs ls hP hS hl
  exact lv_pop hC.1 hC.2.1 hd hc (kk H locs ls hP hS hl)
theorem v_dup2 {a b : Value} (hC : Cx S g M i rm) (hc : a.category = 1) (hc2 : b.category = 1) (hd : decode i.2.1 pc = .ok (.dup2, 1)) (kk : V S g M i Q (pc + 1) lv (a :: b :: a :: b :: st) σ) : V S g M i Q pc lv (a :: b :: st) σ := by
  obtain ⟨p, e, R, s, m, args, below, meth, c, cells, slots, A⟩ := M
  intro H locs ls hP hS hl
  exact lv_dup2_11 hC.1 hC.2.1 hd hc hc2 (kk H locs ls hP hS hl)
theorem v_if_eq {x : Int32} {off : Int} {tgt : Nat} (hC : Cx S g M i rm) (hd : decode i.2.1 pc = .ok (.ifCond .eq off, 3)) (ht : (pc : Int) + off = (tgt : Int)) (kt : x = 0 → V S g M i Q tgt lv st σ) (kf : ¬ (x = 0) → V S g M i Q (pc + 3) lv st σ) : V S g M i Q pc lv (.int x :: st) σ := by
  obtain ⟨p, e, R, s, m, args, below, meth, c, cells, slots, A⟩ := M
  intro H locs ls hP hS hl
  exact lv_if_eq hC.1 hC.2.1 hd ht (fun h => kt h H locs ls hP hS hl) (fun h => kf h H locs ls hP hS hl)
theorem v_ic_eq {x y : Int32} {off : Int} {tgt : Nat} (hC : Cx S g M i rm) (hd : decode i.2.1 pc = .ok (.if_icmp .eq off, 3)) (ht : (pc : Int) + off = (tgt : Int)) (kt : x = y → V S g M i Q tgt lv st σ) (kf : ¬ (x = y) → V S g M i Q (pc + 3) lv st σ) : V S g M i Q pc lv (.int y :: .int x :: st) σ := by
  obtain ⟨p, e, R, s, m, args, below, meth, c, cells, slots, A⟩ := M
  intro H locs ls hP hS hl
  exact lv_icmp_eq hC.1 hC.2.1 hd ht (fun h => kt h H locs ls hP hS hl) (fun h => kf h H locs ls hP hS hl)
theorem v_if_ne {x : Int32} {off : Int} {tgt : Nat} (hC : Cx S g M i rm) (hd : decode i.2.1 pc = .ok (.ifCond .ne off, 3)) (ht : (pc : Int) + off = (tgt : Int)) (kt : ¬ x = 0 → V S g M i Q tgt lv st σ) (kf : x = 0 → V S g M i Q (pc + 3) lv st σ) : V S g M i Q pc lv (.int x :: st) σ := by
  obtain ⟨p, e, R, s, m, args, below, meth, c, cells, slots, A⟩ := M
  intro H locs ls hP hS hl
  exact lv_if_ne hC.1 hC.2.1 hd ht (fun h => kt h H locs ls hP hS hl) (fun h => kf h H locs ls hP hS hl)
theorem v_ic_ne {x y : Int32} {off : Int} {tgt : Nat} (hC : Cx S g M i rm) (hd : decode i.2.1 pc = .ok (.if_icmp .ne off, 3)) (ht : (pc : Int) + off = (tgt : Int)) (kt : ¬ x = y → V S g M i Q tgt lv st σ) (kf : x = y → V S g M i Q (pc + 3) lv st σ) : V S g M i Q pc lv (.int y :: .int x :: st) σ := by
  obtain ⟨p, e, R, s, m, args, below, meth, c, cells, slots, A⟩ := M
  intro H locs ls hP hS hl
  exact lv_icmp_ne hC.1 hC.2.1 hd ht (fun h => kt h H locs ls hP hS hl) (fun h => kf h H locs ls hP hS hl)
theorem v_if_lt {x : Int32} {off : Int} {tgt : Nat} (hC : Cx S g M i rm) (hd : decode i.2.1 pc = .ok (.ifCond .lt off, 3)) (ht : (pc : Int) + off = (tgt : Int)) (kt : x < 0 → V S g M i Q tgt lv st σ) (kf : ¬ (x < 0) → V S g M i Q (pc + 3) lv st σ) : V S g M i Q pc lv (.int x :: st) σ := by
  obtain ⟨p, e, R, s, m, args, below, meth, c, cells, slots, A⟩ := M
  intro H locs ls hP hS hl
  exact lv_if_lt hC.1 hC.2.1 hd ht (fun h => kt h H locs ls hP hS hl) (fun h => kf h H locs ls hP hS hl)
theorem v_ic_lt {x y : Int32} {off : Int} {tgt : Nat} (hC : Cx S g M i rm) (hd : decode i.2.1 pc = .ok (.if_icmp .lt off, 3)) (ht : (pc : Int) + off = (tgt : Int)) (kt : x < y → V S g M i Q tgt lv st σ) (kf : ¬ (x < y) → V S g M i Q (pc + 3) lv st σ) : V S g M i Q pc lv (.int y :: .int x :: st) σ := by
  obtain ⟨p, e, R, s, m, args, below, meth, c, cells, slots, A⟩ := M
  intro H locs ls hP hS hl
  exact lv_icmp_lt hC.1 hC.2.1 hd ht (fun h => kt h H locs ls hP hS hl) (fun h => kf h H locs ls hP hS hl)
theorem v_if_ge {x : Int32} {off : Int} {tgt : Nat} (hC : Cx S g M i rm) (hd : decode i.2.1 pc = .ok (.ifCond .ge off, 3)) (ht : (pc : Int) + off = (tgt : Int)) (kt : 0 ≤ x → V S g M i Q tgt lv st σ) (kf : ¬ (0 ≤ x) → V S g M i Q (pc + 3) lv st σ) : V S g M i Q pc lv (.int x :: st) σ := by
  obtain ⟨p, e, R, s, m, args, below, meth, c, cells, slots, A⟩ := M
  intro H locs ls hP hS hl
  exact lv_if_ge hC.1 hC.2.1 hd ht (fun h => kt h H locs ls hP hS hl) (fun h => kf h H locs ls hP hS hl)
theorem v_ic_ge {x y : Int32} {off : Int} {tgt : Nat} (hC : Cx S g M i rm) (hd : decode i.2.1 pc = .ok (.if_icmp .ge off, 3)) (ht : (pc : Int) + off = (tgt : Int)) (kt : y ≤ x → V S g M i Q tgt lv st σ) (kf : ¬ (y ≤ x) → V S g M i Q (pc + 3) lv st σ) : V S g M i Q pc lv (.int y :: .int x :: st) σ := by
  obtain ⟨p, e, R, s, m, args, below, meth, c, cells, slots, A⟩ := M
  intro H locs ls hP hS hl
  exact lv_icmp_ge hC.1 hC.2.1 hd ht (fun h => kt h H locs ls hP hS hl) (fun h => kf h H locs ls hP hS hl)
theorem v_if_gt {x : Int32} {off : Int} {tgt : Nat} (hC : Cx S g M i rm) (hd : decode i.2.1 pc = .ok (.ifCond .gt off, 3)) (ht : (pc : Int) + off = (tgt : Int)) (kt : 0 < x → V S g M i Q tgt lv st σ) (kf : ¬ (0 < x) → V S g M i Q (pc + 3) lv st σ) : V S g M i Q pc lv (.int x :: st) σ := by
  obtain ⟨p, e, R, s, m, args, below, meth, c, cells, slots, A⟩ := M
  intro H locs ls hP hS hl
  exact lv_if_gt hC.1 hC.2.1 hd ht (fun h => kt h H locs ls hP hS hl) (fun h => kf h H locs ls hP hS hl)
theorem v_ic_gt {x y : Int32} {off : Int} {tgt : Nat} (hC : Cx S g M i rm) (hd : decode i.2.1 pc = .ok (.if_icmp .gt off, 3)) (ht : (pc : Int) + off = (tgt : Int)) (kt : y < x → V S g M i Q tgt lv st σ) (kf : ¬ (y < x) → V S g M i Q (pc + 3) lv st σ) : V S g M i Q pc lv (.int y :: .int x :: st) σ := by
  obtain ⟨p, e, R, s, m, args, below, meth, c, cells, slots, A⟩ := M
  intro H locs ls hP hS hl
  exact lv_icmp_gt hC.1 hC.2.1 hd ht (fun h => kt h H locs ls hP hS hl) (fun h => kf h H locs ls hP hS hl)
theorem v_if_le {x : Int32} {off : Int} {tgt : Nat} (hC : Cx S g M i rm) (hd : decode i.2.1 pc = .ok (.ifCond .le off, 3)) (ht : (pc : Int) + off = (tgt : Int)) (kt : x ≤ 0 → V S g M i Q tgt lv st σ) (kf : ¬ (x ≤ 0) → V S g M i Q (pc + 3) lv st σ) : V S g M i Q pc lv (.int x :: st) σ := by
  obtain ⟨p, e, R, s, m, args, below, meth, c, cells, slots, A⟩ := M
  intro H locs ls hP hS hl
  exact lv_if_le hC.1 hC.2.1 hd ht (fun h => kt h H locs ls hP hS hl) (fun h => kf h H locs ls hP hS hl)
theorem v_ic_le {x y : Int32} {off : Int} {tgt : Nat} (hC : Cx S g M i rm) (hd : decode i.2.1 pc = .ok (.if_icmp .le off, 3)) (ht : (pc : Int) + off = (tgt : Int)) (kt : x ≤ y → V S g M i Q tgt lv st σ) (kf : ¬ (x ≤ y) → V S g M i Q (pc + 3) lv st σ) : V S g M i Q pc lv (.int y :: .int x :: st) σ := by
  obtain ⟨p, e, R, s, m, args, below, meth, c, cells, slots, A⟩ := M
  intro H locs ls hP hS hl
  exact lv_icmp_le hC.1 hC.2.1 hd ht (fun h => kt h H locs ls hP hS hl) (fun h => kf h H locs ls hP hS hl)
theorem v_goto {off : Int} {tgt : Nat} (hC : Cx S g M i rm) (hd : decode i.2.1 pc = .ok (.goto off, 3)) (ht : (pc : Int) + off = (tgt : Int)) (k : V S g M i Q tgt lv st σ) : V S g M i Q pc lv st σ := by
  obtain ⟨p, e, R, s, m, args, below, meth, c, cells, slots, A⟩ := M
  intro H locs ls hP hS hl
  exact lv_goto hC.1 hC.2.1 hd ht (k H locs ls hP hS hl)
theorem v_tsOut {dflt lo hi : Int} {offs : Array Int} {len : Nat} {x : Int32} {tgt : Nat} (hC : Cx S g M i rm) (hd : decode i.2.1 pc = .ok (.tableswitch dflt lo hi offs, len)) (h : x.toInt < lo ∨ hi < x.toInt) (ht : (pc : Int) + dflt = (tgt : Int)) (k : V S g M i Q tgt lv st σ) : V S g M i Q pc lv (.int x :: st) σ := by
  obtain ⟨p, e, R, s, m, args, below, meth, c, cells, slots, A⟩ := M
  intro H locs ls hP hS hl
  exact lv_tableOut hC.1 hC.2.1 hd h ht (k H locs ls hP hS hl)
theorem v_tsIn {dflt lo hi off : Int} {offs : Array Int} {len : Nat} {x : Int32} {tgt : Nat} (hC : Cx S g M i rm) (hd : decode i.2.1 pc = .ok (.tableswitch dflt lo hi offs, len)) (h1 : ¬ x.toInt < lo) (h2 : ¬ hi < x.toInt) (ho : offs[(x.toInt - lo).toNat]? = some off) (ht : (pc : Int) + off = (tgt : Int)) (k : V S g M i Q tgt lv st σ) : V S g M i Q pc lv (.int x :: st) σ := by
  obtain ⟨p, e, R, s, m, args, below, meth, c, cells, slots, A⟩ := M
  intro H locs ls hP hS hl
  exact lv_tableIn hC.1 hC.2.1 hd h1 h2 ho ht (k H locs ls hP hS hl)
theorem v_iload {k : Nat} {x : Int32} (hC : Cx S g M i rm) (hd : decode i.2.1 pc = .ok (.iload k, 2)) (hk : lv[k]? = some (some (.int x))) (kk : V S g M i Q (pc + 2) lv (.int x :: st) σ) : V S g M i Q pc lv st σ := by
  obtain ⟨p, e, R, s, m, args, below, meth, c, cells, slots, A⟩ := M
  intro H locs ls hP hS hl
  exact lv_iload hC.1 hC.2.1 hd (hl.2.2.2 k _ hk) (kk H locs ls hP hS hl)
theorem v_iload_n {k : Fin 4} {x : Int32} (hC : Cx S g M i rm) (hd : decode i.2.1 pc = .ok (.iload_n k, 1)) (hk : lv[(k : Nat)]? = some (some (.int x))) (kk : V S g M i Q (pc + 1) lv (.int x :: st) σ) : V S g M i Q pc lv st σ := by
  obtain ⟨p, e, R, s, m, args, below, meth, c, cells, slots, A⟩ := M
  intro H locs ls hP hS hl
  exact lv_iload_n hC.1 hC.2.1 hd rfl (hl.2.2.2 _ _ hk) (kk H locs ls hP hS hl)
theorem v_lload {k : Nat} {x : Int64} (hC : Cx S g M i rm) (hd : decode i.2.1 pc = .ok (.lload k, 2)) (hk : lv[k]? = some (some (.long x))) (kk : V S g M i Q (pc + 2) lv (.long x :: st) σ) : V S g M i Q pc lv st σ := by
  obtain ⟨p, e, R, s, m, args, below, meth, c, cells, slots, A⟩ := M
  intro H locs ls hP hS hl
  exact lv_lload hC.1 hC.2.1 hd (hl.2.2.2 k _ hk) (kk H locs ls hP hS hl)
theorem v_lload_n {k : Fin 4} {x : Int64} (hC : Cx S g M i rm) (hd : decode i.2.1 pc = .ok (.lload_n k, 1)) (hk : lv[(k : Nat)]? = some (some (.long x))) (kk : V S g M i Q (pc + 1) lv (.long x :: st) σ) : V S g M i Q pc lv st σ := by
  obtain ⟨p, e, R, s, m, args, below, meth, c, cells, slots, A⟩ := M
  intro H locs ls hP hS hl
  exact lv_lload_n hC.1 hC.2.1 hd rfl (hl.2.2.2 _ _ hk) (kk H locs ls hP hS hl)
theorem v_aload {k : Nat} {x : Nat} (hC : Cx S g M i rm) (hd : decode i.2.1 pc = .ok (.aload k, 2)) (hk : lv[k]? = some (some (.ref x))) (kk : V S g M i Q (pc + 2) lv (.ref x :: st) σ) : V S g M i Q pc lv st σ := by
  obtain ⟨p, e, R, s, m, args, below, meth, c, cells, slots, A⟩ := M
  intro H locs ls hP hS hl
  exact lv_aload hC.1 hC.2.1 hd (hl.2.2.2 k _ hk) (kk H locs ls hP hS hl)
theorem v_aload_n {k : Fin 4} {x : Nat} (hC : Cx S g M i rm) (hd : decode i.2.1 pc = .ok (.aload_n k, 1)) (hk : lv[(k : Nat)]? = some (some (.ref x))) (kk : V S g M i Q (pc + 1) lv (.ref x :: st) σ) : V S g M i Q pc lv st σ := by
  obtain ⟨p, e, R, s, m, args, below, meth, c, cells, slots, A⟩ := M
  intro H locs ls hP hS hl
  exact lv_aload_n hC.1 hC.2.1 hd rfl (hl.2.2.2 _ _ hk) (kk H locs ls hP hS hl)
end
def asl (lv : List (Option Value)) : List (Nat × Value) := (List.range lv.length).filterMap (fun i => (lv[i]?).bind (fun o => o.map (fun v => (i, v))))
theorem asl_iff {lv : List (Option Value)} {j : Nat} {v : Value} : (j, v) ∈ asl lv ↔ lv[j]? = some (some v) := by
  simp only [asl, List.mem_filterMap, List.mem_range]
  constructor
  · rintro ⟨a, ha, h⟩
    cases h1 : lv[a]? with
    | none => rw [h1] at h; cases h
    | some o =>
      rw [h1] at h
      cases o with
      | none => cases h
      | some w =>
        simp at h
        obtain ⟨rfl, rfl⟩ := h
        exact h1
  · intro h
    exact ⟨j, (List.getElem?_eq_some_iff.mp h).1, by rw [h]; rfl⟩
theorem lvh_has {ls : Array Slot} {lv : List (Option Value)} {n : Nat} (h : lvh ls lv n) : lv_has ls n (asl lv) := ⟨h.2.1, h.2.2.1, fun q hq => h.2.2.2 q.1 q.2 (asl_iff.mp hq)⟩
/-- no long stands just ahead of the place -/
def ok1 (lv : List (Option Value)) (k : Nat) : Bool := match k with
  | 0 => true
  | j + 1 => match lv[j]? with
    | some (some v) => v.category != 2
    | _ => true
theorem lvh_st1 {ls' : Array Slot} {lv : List (Option Value)} {n k : Nat} {v : Value} (hn : lv.length = n) (hk : ok1 lv k = true) (hl : k < n) (h : lv_has ls' n ((k, v) :: (asl lv).filter (fun q => !(q.1 == k) && !(q.1 + 1 == k && q.2.category == 2)))) : lvh ls' (lv.set k (some v)) n := by
  refine ⟨by simp [hn], h.1, h.2.1, fun j w hj => ?_⟩
  by_cases e : j = k
  · subst e
    rw [List.getElem?_set_self (by omega)] at hj
    simp at hj
    subst hj
    exact h.2.2 (j, v) List.mem_cons_self
  · rw [List.getElem?_set_ne (Ne.symm e)] at hj
    refine h.2.2 (j, w) (List.mem_cons_of_mem _ (List.mem_filter.mpr ⟨asl_iff.mpr hj, ?_⟩))
    simp only [Bool.and_eq_true, Bool.not_eq_true', beq_eq_false_iff_ne, ne_eq, e, not_false_eq_true, true_and, Bool.and_eq_false_iff]
    by_cases e2 : j + 1 = k
    · right
      subst e2
      simp only [ok1, hj] at hk
      simpa using hk
    · left
      exact e2
theorem lvh_st2 {ls' : Array Slot} {lv : List (Option Value)} {n k : Nat} {v : Value} (hn : lv.length = n) (hk : ok1 lv k = true) (hl : k + 1 < n) (h : lv_has ls' n ((k, v) :: (asl lv).filter (fun q => !(q.1 == k) && (!(q.1 == k + 1) && !(q.1 + 1 == k && q.2.category == 2))))) : lvh ls' ((lv.set k (some v)).set (k + 1) none) n := by
  refine ⟨by simp [hn], h.1, h.2.1, fun j w hj => ?_⟩
  by_cases e1 : j = k + 1
  · subst e1
    rw [List.getElem?_set_self (by simp; omega)] at hj
    simp at hj
  · rw [List.getElem?_set_ne (Ne.symm e1)] at hj
    by_cases e : j = k
    · subst e
      rw [List.getElem?_set_self (by omega)] at hj
      simp at hj
      subst hj
      exact h.2.2 (j, v) List.mem_cons_self
    · rw [List.getElem?_set_ne (Ne.symm e)] at hj
      refine h.2.2 (j, w) (List.mem_cons_of_mem _ (List.mem_filter.mpr ⟨asl_iff.mpr hj, ?_⟩))
      simp only [Bool.and_eq_true, Bool.not_eq_true', beq_eq_false_iff_ne, ne_eq, e, e1, not_false_eq_true, true_and, Bool.and_eq_false_iff]
      by_cases e2 : j + 1 = k
      · right
        subst e2
        simp only [ok1, hj] at hk
        simpa using hk
      · left
        exact e2
section
variable {S : List Shp} {g : Gl} {M : Mc} {i : MI} {rm : Room} {Q : State → Prop} {pc : Nat} {lv lv' : List (Option Value)} {st : List Value} {σ : Sg}
theorem v_istore {k : Nat} {x x' : Int32} (hC : Cx S g M i rm) (hd : decode i.2.1 pc = .ok (.istore k, 2)) (hx : x = x') (hn : Nat.blt k i.2.2.1 = true) (ho : ok1 lv k = true) (hs : lv.set k (some (.int x')) = lv') (kk : V S g M i Q (pc + 2) lv' st σ) : V S g M i Q pc lv (.int x :: st) σ := by
  obtain ⟨p, e, R, s, m, args, below, meth, c, cells, slots, A⟩ := M
  intro H locs ls hP hS hl
  subst hs; subst hx
  have hn' : k < i.2.2.1 := by simpa [Nat.blt_eq] using hn
  exact lv_istore hC.1 hC.2.1 hd (lvh_has hl) hn' rfl (fun ls' h => kk H locs ls' hP hS (lvh_st1 hl.1 ho hn' h))
theorem v_istore_n {k : Fin 4} {x x' : Int32} (hC : Cx S g M i rm) (hd : decode i.2.1 pc = .ok (.istore_n k, 1)) (hx : x = x') (hn : Nat.blt (k : Nat) i.2.2.1 = true) (ho : ok1 lv (k : Nat) = true) (hs : lv.set (k : Nat) (some (.int x')) = lv') (kk : V S g M i Q (pc + 1) lv' st σ) : V S g M i Q pc lv (.int x :: st) σ := by
  obtain ⟨p, e, R, s, m, args, below, meth, c, cells, slots, A⟩ := M
  intro H locs ls hP hS hl
  subst hs; subst hx
  have hn' : (k : Nat) < i.2.2.1 := by simpa [Nat.blt_eq] using hn
  exact lv_istore_n hC.1 hC.2.1 hd rfl (lvh_has hl) hn' rfl (fun ls' h => kk H locs ls' hP hS (lvh_st1 hl.1 ho hn' h))
theorem v_astore {k : Nat} {x x' : Nat} (hC : Cx S g M i rm) (hd : decode i.2.1 pc = .ok (.astore k, 2)) (hx : x = x') (hn : Nat.blt k i.2.2.1 = true) (ho : ok1 lv k = true) (hs : lv.set k (some (.ref x')) = lv') (kk : V S g M i Q (pc + 2) lv' st σ) : V S g M i Q pc lv (.ref x :: st) σ := by
  obtain ⟨p, e, R, s, m, args, below, meth, c, cells, slots, A⟩ := M
  intro H locs ls hP hS hl
  subst hs; subst hx
  have hn' : k < i.2.2.1 := by simpa [Nat.blt_eq] using hn
  exact lv_astore hC.1 hC.2.1 hd (lvh_has hl) hn' rfl (fun ls' h => kk H locs ls' hP hS (lvh_st1 hl.1 ho hn' h))
theorem v_astore_n {k : Fin 4} {x x' : Nat} (hC : Cx S g M i rm) (hd : decode i.2.1 pc = .ok (.astore_n k, 1)) (hx : x = x') (hn : Nat.blt (k : Nat) i.2.2.1 = true) (ho : ok1 lv (k : Nat) = true) (hs : lv.set (k : Nat) (some (.ref x')) = lv') (kk : V S g M i Q (pc + 1) lv' st σ) : V S g M i Q pc lv (.ref x :: st) σ := by
  obtain ⟨p, e, R, s, m, args, below, meth, c, cells, slots, A⟩ := M
  intro H locs ls hP hS hl
  subst hs; subst hx
  have hn' : (k : Nat) < i.2.2.1 := by simpa [Nat.blt_eq] using hn
  exact lv_astore_n hC.1 hC.2.1 hd rfl (lvh_has hl) hn' rfl (fun ls' h => kk H locs ls' hP hS (lvh_st1 hl.1 ho hn' h))
theorem v_lstore {k : Nat} {x x' : Int64} (hC : Cx S g M i rm) (hd : decode i.2.1 pc = .ok (.lstore k, 2)) (hx : x = x') (hn : Nat.blt (k + 1) i.2.2.1 = true) (ho : ok1 lv k = true) (hs : (lv.set k (some (.long x'))).set (k + 1) none = lv') (kk : V S g M i Q (pc + 2) lv' st σ) : V S g M i Q pc lv (.long x :: st) σ := by
  obtain ⟨p, e, R, s, m, args, below, meth, c, cells, slots, A⟩ := M
  intro H locs ls hP hS hl
  subst hs; subst hx
  have hn' : k + 1 < i.2.2.1 := by simpa [Nat.blt_eq] using hn
  exact lv_lstore hC.1 hC.2.1 hd (lvh_has hl) hn' rfl (fun ls' h => kk H locs ls' hP hS (lvh_st2 hl.1 ho hn' h))
theorem v_lstore_n {k : Fin 4} {x x' : Int64} (hC : Cx S g M i rm) (hd : decode i.2.1 pc = .ok (.lstore_n k, 1)) (hx : x = x') (hn : Nat.blt ((k : Nat) + 1) i.2.2.1 = true) (ho : ok1 lv (k : Nat) = true) (hs : (lv.set (k : Nat) (some (.long x'))).set ((k : Nat) + 1) none = lv') (kk : V S g M i Q (pc + 1) lv' st σ) : V S g M i Q pc lv (.long x :: st) σ := by
  obtain ⟨p, e, R, s, m, args, below, meth, c, cells, slots, A⟩ := M
  intro H locs ls hP hS hl
  subst hs; subst hx
  have hn' : (k : Nat) + 1 < i.2.2.1 := by simpa [Nat.blt_eq] using hn
  exact lv_lstore_n hC.1 hC.2.1 hd rfl (lvh_has hl) hn' rfl (fun ls' h => kk H locs ls' hP hS (lvh_st2 hl.1 ho hn' h))
theorem v_iinc {k : Nat} {n : Int} {x x' : Int32} (d : Int32) (he : Int32.ofInt n = d) (hx : x + d = x') (hC : Cx S g M i rm) (hd : decode i.2.1 pc = .ok (.iinc k n, 3)) (hk : lv[k]? = some (some (.int x))) (hn : Nat.blt k i.2.2.1 = true) (ho : ok1 lv k = true) (hs : lv.set k (some (.int x')) = lv') (kk : V S g M i Q (pc + 3) lv' st σ) : V S g M i Q pc lv st σ := by
  obtain ⟨p, e, R, s, m, args, below, meth, c, cells, slots, A⟩ := M
  intro H locs ls hP hS hl
  subst hs; subst hx
  subst he
  have hn' : k < i.2.2.1 := by simpa [Nat.blt_eq] using hn
  obtain ⟨q, hq⟩ := List.getElem?_of_mem (asl_iff.mpr hk)
  exact lv_iinc hC.1 hC.2.1 hd (lvh_has hl) hq rfl hn' rfl (fun ls' h => kk H locs ls' hP hS (lvh_st1 hl.1 ho hn' h))
end
