/-! rows of V for the heap, calls, returns, loops -/
theorem fs_I {g : Gl} {σ : Sg} {j k : Nat} {ks : List Nat} {v : Int32} (hk : ks[k]? = some 0) : ks.mapIdx (fun x t => fv g (sI σ j k v) j x t) = (ks.mapIdx (fun x t => fv g σ j x t)).set k (.int v) := by
  apply List.ext_getElem?
  intro x
  by_cases e : x = k
  · subst e
    rw [List.getElem?_set_self (by simp; exact (List.getElem?_eq_some_iff.mp hk).1)]
    simp [hk, fv, gI_same]
  · rw [List.getElem?_set_ne (Ne.symm e)]
    simp only [List.getElem?_mapIdx]
    congr 1
    funext t
    match t with
    | 0 => simp only [fv]; rw [gI_ne σ v (Or.inr e)]
    | 1 => simp only [fv, gL_sI]
    | t + 2 => rfl
theorem fs_L {g : Gl} {σ : Sg} {j k : Nat} {ks : List Nat} {v : Int64} (hk : ks[k]? = some 1) : ks.mapIdx (fun x t => fv g (sL σ j k v) j x t) = (ks.mapIdx (fun x t => fv g σ j x t)).set k (.long v) := by
  apply List.ext_getElem?
  intro x
  by_cases e : x = k
  · subst e
    rw [List.getElem?_set_self (by simp; exact (List.getElem?_eq_some_iff.mp hk).1)]
    simp [hk, fv, gL_same]
  · rw [List.getElem?_set_ne (Ne.symm e)]
    simp only [List.getElem?_mapIdx]
    congr 1
    funext t
    match t with
    | 0 => simp only [fv, gI_sL]
    | 1 => simp only [fv]; rw [gL_ne σ v (Or.inr e)]
    | t + 2 => rfl
theorem rowI (σ : Sg) (j k : Nat) (v : Int32) : gI (sI σ j k v) j = upd (gI σ j) k v := by funext b; simp [gI, sI]; rfl
theorem rowL (σ : Sg) (j k : Nat) (v : Int64) : gL (sL σ j k v) j = vp_updL (gL σ j) k v := by funext b; simp [gL, sL]; rfl
section
variable {S : List Shp} {g : Gl} {M : Mc} {i : MI} {rm : Room} {Q : State → Prop} {pc : Nat} {lv lv' : List (Option Value)} {st : List Value} {σ : Sg}
theorem V.weak (h : lv.length = lv'.length) (hw : ∀ (j : Nat) (v : Value), lv'[j]? = some (some v) → lv[j]? = some (some v)) (kk : V S g M i Q pc lv' st σ) : V S g M i Q pc lv st σ := by
  obtain ⟨p, e, R, s, m, args, below, meth, c, cells, slots, A⟩ := M
  intro H locs ls hP hS hl
  exact kk H locs ls hP hS ⟨h ▸ hl.1, hl.2.1, hl.2.2.1, fun j v hj => hl.2.2.2 j v (hw j v hj)⟩
theorem v_get {index j ci t : Nat} {ks : List Nat} {q : vw_C} {v : Value} (k : Nat) (hC : Cx S g M i rm) (hS : S[j]? = some (.inr (ci, ks))) (hc : classes[ci]? = some q) (hk : k < q.2.2) (ht : ks[k]? = some t) (hv : fv g σ j k t = v) (hlink : Cond.fieldLink i.1.cls index (q.2.1 k).1 (q.2.1 k).2.1 (q.2.1 k).2.2.1 ∈ gtb) (hd : decode i.2.1 pc = .ok (.getfield index, 3)) (kk : V S g M i Q (pc + 3) lv (v :: st) σ) : V S g M i Q pc lv (.ref (gad g j) :: st) σ := by
  obtain ⟨p, e, R, s, m, args, below, meth, c, cells, slots, A⟩ := M
  intro H locs ls hP hS' hl
  obtain ⟨hx, hb, hml, hown, hts, hK, hret, hlk, hR, hroom, hgap, hA, hA2, hN⟩ := hC
  exact va_get hx hb hts (en_in ci q hc) hown hK hP j (wd_at hS) hc k hk (hts _ hlink) (fun _ h => h) (v := v) (by subst hv; simp [ht]) hd (kk H locs ls hP hS' hl)
theorem v_getN {index j ci t : Nat} {ks : List Nat} {q : vw_C} {v : Value} {host : String} (k : Nat) (hC : Cx S g M i rm) (hS : S[j]? = some (.inr (ci, ks))) (hc : classes[ci]? = some q) (hk : k < q.2.2) (ht : ks[k]? = some t) (hv : fv g σ j k t = v) (hlink : Cond.fieldLinkNest i.1.cls index (q.2.1 k).1 (q.2.1 k).2.1 (q.2.1 k).2.2.1 host ∈ nst) (hd : decode i.2.1 pc = .ok (.getfield index, 3)) (kk : V S g M i Q (pc + 3) lv (v :: st) σ) : V S g M i Q pc lv (.ref (gad g j) :: st) σ := by
  obtain ⟨p, e, R, s, m, args, below, meth, c, cells, slots, A⟩ := M
  intro H locs ls hP hS' hl
  obtain ⟨hx, hb, hml, hown, hts, hK, hret, hlk, hR, hroom, hgap, hA, hA2, hN⟩ := hC
  exact va_getN hx hb hts (en_in ci q hc) hown hK hP j (wd_at hS) hc k hk (va_Nw.use rfl (hN _ hlink)) (fun _ h => h) (v := v) (by subst hv; simp [ht]) hd (kk H locs ls hP hS' hl)
theorem v_putI {index j ci : Nat} {ks : List Nat} {q : vw_C} {x : Int32} (k : Nat) (hC : Cx S g M i rm) (hS : S[j]? = some (.inr (ci, ks))) (hc : classes[ci]? = some q) (hk : k < q.2.2) (ht : ks[k]? = some 0) (hfin : (q.2.1 k).2.2.2 = false) (hn : narrow (en_ty ci k) (.int x) = .int x) (hfit : fits (en_ty ci k) (.int x) = true) (hlink : Cond.fieldLink i.1.cls index (q.2.1 k).1 (q.2.1 k).2.1 (q.2.1 k).2.2.1 ∈ gtb) (hd : decode i.2.1 pc = .ok (.putfield index, 3)) (kk : V S g M i Q (pc + 3) lv st (sI σ j k x)) : V S g M i Q pc lv (.int x :: .ref (gad g j) :: st) σ := by
  obtain ⟨p, e, R, s, m, args, below, meth, c, cells, slots, A⟩ := M
  intro H locs ls hP hS' hl
  obtain ⟨hx, hb, hml, hown, hts, hK, hret, hlk, hR, hroom, hgap, hA, hA2, hN⟩ := hC
  refine va_put hx hb hts (en_in ci q hc) (en_ty ci) (en_tyok ci q hc) (en_nm ci q hc) hown hK hP (wd_D hgap hA σ) hS' j (wd_at hS) hc k hk (hts _ hlink) (fun _ h => h) hfin (en_tyok ci q hc k hk) hn hfit (by simp; exact (List.getElem?_eq_some_iff.mp ht).1) hd (fun H1 locs1 hP1 _ hS1 => ?_)
  refine kk H1 locs1 ls ?_ hS1 hl
  rw [wd_setI hS (by show Sum.inr (ci, _) = _; rw [fs_I ht])] at hP1
  exact hP1
theorem v_putIN {index j ci : Nat} {ks : List Nat} {q : vw_C} {x : Int32} {host : String} (k : Nat) (hC : Cx S g M i rm) (hS : S[j]? = some (.inr (ci, ks))) (hc : classes[ci]? = some q) (hk : k < q.2.2) (ht : ks[k]? = some 0) (hfin : (q.2.1 k).2.2.2 = false) (hn : narrow (en_ty ci k) (.int x) = .int x) (hfit : fits (en_ty ci k) (.int x) = true) (hlink : Cond.fieldLinkNest i.1.cls index (q.2.1 k).1 (q.2.1 k).2.1 (q.2.1 k).2.2.1 host ∈ nst) (hd : decode i.2.1 pc = .ok (.putfield index, 3)) (kk : V S g M i Q (pc + 3) lv st (sI σ j k x)) : V S g M i Q pc lv (.int x :: .ref (gad g j) :: st) σ := by
  obtain ⟨p, e, R, s, m, args, below, meth, c, cells, slots, A⟩ := M
  intro H locs ls hP hS' hl
  obtain ⟨hx, hb, hml, hown, hts, hK, hret, hlk, hR, hroom, hgap, hA, hA2, hN⟩ := hC
  refine va_putN hx hb hts (en_in ci q hc) (en_ty ci) (en_tyok ci q hc) (en_nm ci q hc) hown hK hP (wd_D hgap hA σ) hS' j (wd_at hS) hc k hk (va_Nw.use rfl (hN _ hlink)) (fun _ h => h) hfin (en_tyok ci q hc k hk) hn hfit (by simp; exact (List.getElem?_eq_some_iff.mp ht).1) hd (fun H1 locs1 hP1 _ hS1 => ?_)
  refine kk H1 locs1 ls ?_ hS1 hl
  rw [wd_setI hS (by show Sum.inr (ci, _) = _; rw [fs_I ht])] at hP1
  exact hP1
theorem v_putL {index j ci : Nat} {ks : List Nat} {q : vw_C} {x : Int64} (k : Nat) (hC : Cx S g M i rm) (hS : S[j]? = some (.inr (ci, ks))) (hc : classes[ci]? = some q) (hk : k < q.2.2) (ht : ks[k]? = some 1) (hfin : (q.2.1 k).2.2.2 = false) (hn : narrow (en_ty ci k) (.long x) = .long x) (hfit : fits (en_ty ci k) (.long x) = true) (hlink : Cond.fieldLink i.1.cls index (q.2.1 k).1 (q.2.1 k).2.1 (q.2.1 k).2.2.1 ∈ gtb) (hd : decode i.2.1 pc = .ok (.putfield index, 3)) (kk : V S g M i Q (pc + 3) lv st (sL σ j k x)) : V S g M i Q pc lv (.long x :: .ref (gad g j) :: st) σ := by
  obtain ⟨p, e, R, s, m, args, below, meth, c, cells, slots, A⟩ := M
  intro H locs ls hP hS' hl
  obtain ⟨hx, hb, hml, hown, hts, hK, hret, hlk, hR, hroom, hgap, hA, hA2, hN⟩ := hC
  refine va_put hx hb hts (en_in ci q hc) (en_ty ci) (en_tyok ci q hc) (en_nm ci q hc) hown hK hP (wd_D hgap hA σ) hS' j (wd_at hS) hc k hk (hts _ hlink) (fun _ h => h) hfin (en_tyok ci q hc k hk) hn hfit (by simp; exact (List.getElem?_eq_some_iff.mp ht).1) hd (fun H1 locs1 hP1 _ hS1 => ?_)
  refine kk H1 locs1 ls ?_ hS1 hl
  rw [wd_setL hS (by show Sum.inr (ci, _) = _; rw [fs_L ht])] at hP1
  exact hP1
theorem v_iald {j n : Nat} {x : Int32} (hC : Cx S g M i rm) (hS : S[j]? = some (.inl (0, n))) (hin : vp_in x n) (hd : decode i.2.1 pc = .ok (.iaload, 1)) (kk : V S g M i Q (pc + 1) lv (.int (gI σ j x.toNatClampNeg) :: st) σ) : V S g M i Q pc lv (.int x :: .ref (gad g j) :: st) σ := by
  obtain ⟨p, e, R, s, m, args, below, meth, c, cells, slots, A⟩ := M
  intro H locs ls hP hS' hl
  obtain ⟨hx, hb, hml, hown, hts, hK, hret, hlk, hR, hroom, hgap, hA, hA2, hN⟩ := hC
  exact va_iald hx hb hK hP j 0 (wd_at hS) rfl hin hd (kk H locs ls hP hS' hl)
theorem v_zald {j n : Nat} {x : Int32} (hC : Cx S g M i rm) (hS : S[j]? = some (.inl (2, n))) (hin : vp_in x n) (hd : decode i.2.1 pc = .ok (.baload, 1)) (kk : V S g M i Q (pc + 1) lv (.int (gI σ j x.toNatClampNeg) :: st) σ) : V S g M i Q pc lv (.int x :: .ref (gad g j) :: st) σ := by
  obtain ⟨p, e, R, s, m, args, below, meth, c, cells, slots, A⟩ := M
  intro H locs ls hP hS' hl
  obtain ⟨hx, hb, hml, hown, hts, hK, hret, hlk, hR, hroom, hgap, hA, hA2, hN⟩ := hC
  exact va_zald hx hb hK hP j 2 (wd_at hS) rfl hin hd (kk H locs ls hP hS' hl)
theorem v_lald {j n : Nat} {x : Int32} (hC : Cx S g M i rm) (hS : S[j]? = some (.inl (1, n))) (hin : vp_in x n) (hd : decode i.2.1 pc = .ok (.laload, 1)) (kk : V S g M i Q (pc + 1) lv (.long (gL σ j x.toNatClampNeg) :: st) σ) : V S g M i Q pc lv (.int x :: .ref (gad g j) :: st) σ := by
  obtain ⟨p, e, R, s, m, args, below, meth, c, cells, slots, A⟩ := M
  intro H locs ls hP hS' hl
  obtain ⟨hx, hb, hml, hown, hts, hK, hret, hlk, hR, hroom, hgap, hA, hA2, hN⟩ := hC
  exact va_lald hx hb hK hP j 1 (wd_at hS) rfl hin hd (kk H locs ls hP hS' hl)
theorem v_aald {j n t : Nat} {C : String} {cA : ClassId} {x : Int32} (hC : Cx S g M i rm) (hS : S[j]? = some (.inl (t + 3, n))) (hty : (gty g)[t + 3]? = some (g.2.2.2 (t + 3), .object C)) (hin : vp_in x n) (hd : decode i.2.1 pc = .ok (.aaload, 1)) (kk : V S g M i Q (pc + 1) lv (.ref (gad g (rix t x.toNatClampNeg)) :: st) σ) : V S g M i Q pc lv (.int x :: .ref (gad g j) :: st) σ := by
  obtain ⟨p, e, R, s, m, args, below, meth, c, cells, slots, A⟩ := M
  intro H locs ls hP hS' hl
  obtain ⟨hx, hb, hml, hown, hts, hK, hret, hlk, hR, hroom, hgap, hA, hA2, hN⟩ := hC
  exact va_aldq hx hb hK hP j (t + 3) (wd_at hS) hty hin hd (kk H locs ls hP hS' hl)
theorem v_iast {j n : Nat} {x y : Int32} (hC : Cx S g M i rm) (hS : S[j]? = some (.inl (0, n))) (hin : vp_in x n) (hd : decode i.2.1 pc = .ok (.iastore, 1)) (kk : V S g M i Q (pc + 1) lv st (sI σ j x.toNatClampNeg y)) : V S g M i Q pc lv (.int y :: .int x :: .ref (gad g j) :: st) σ := by
  obtain ⟨p, e, R, s, m, args, below, meth, c, cells, slots, A⟩ := M
  intro H locs ls hP hS' hl
  obtain ⟨hx, hb, hml, hown, hts, hK, hret, hlk, hR, hroom, hgap, hA, hA2, hN⟩ := hC
  refine va_iast hx hb hK hP (wd_D hgap hA σ) hS' j 0 (wd_at hS) rfl hin hd (fun H1 locs1 hP1 _ hS1 => kk H1 locs1 ls ?_ hS1 hl)
  rw [wd_setI (k := x.toNatClampNeg) (v := y) hS (by simp only [cE, rowI])] at hP1
  exact hP1
theorem v_zast {j n : Nat} {x y : Int32} (hC : Cx S g M i rm) (hS : S[j]? = some (.inl (2, n))) (hin : vp_in x n) (hd : decode i.2.1 pc = .ok (.bastore, 1)) (kk : V S g M i Q (pc + 1) lv st (sI σ j x.toNatClampNeg (vp_nar .boolean y))) : V S g M i Q pc lv (.int y :: .int x :: .ref (gad g j) :: st) σ := by
  obtain ⟨p, e, R, s, m, args, below, meth, c, cells, slots, A⟩ := M
  intro H locs ls hP hS' hl
  obtain ⟨hx, hb, hml, hown, hts, hK, hret, hlk, hR, hroom, hgap, hA, hA2, hN⟩ := hC
  refine va_zast hx hb hK hP (wd_D hgap hA σ) hS' j 2 (wd_at hS) rfl hin hd (fun H1 locs1 hP1 _ hS1 => kk H1 locs1 ls ?_ hS1 hl)
  rw [wd_setI (k := x.toNatClampNeg) (v := vp_nar .boolean y) hS (by simp only [cE, rowI])] at hP1
  exact hP1
theorem v_last {j n : Nat} {x : Int32} {y : Int64} (hC : Cx S g M i rm) (hS : S[j]? = some (.inl (1, n))) (hin : vp_in x n) (hd : decode i.2.1 pc = .ok (.lastore, 1)) (kk : V S g M i Q (pc + 1) lv st (sL σ j x.toNatClampNeg y)) : V S g M i Q pc lv (.long y :: .int x :: .ref (gad g j) :: st) σ := by
  obtain ⟨p, e, R, s, m, args, below, meth, c, cells, slots, A⟩ := M
  intro H locs ls hP hS' hl
  obtain ⟨hx, hb, hml, hown, hts, hK, hret, hlk, hR, hroom, hgap, hA, hA2, hN⟩ := hC
  refine va_last hx hb hK hP (wd_D hgap hA σ) hS' j 1 (wd_at hS) rfl hin hd (fun H1 locs1 hP1 _ hS1 => kk H1 locs1 ls ?_ hS1 hl)
  rw [wd_setL (k := x.toNatClampNeg) (v := y) hS (by simp only [cE, rowL])] at hP1
  exact hP1
theorem v_alen {j n : Nat} (v : Int32) (hv : Int32.ofNat n = v) (hC : Cx S g M i rm) (hS : S[j]? = some (.inl (0, n))) (hd : decode i.2.1 pc = .ok (.arraylength, 1)) (kk : V S g M i Q (pc + 1) lv (.int v :: st) σ) : V S g M i Q pc lv (.ref (gad g j) :: st) σ := by
  obtain ⟨p, e, R, s, m, args, below, meth, c, cells, slots, A⟩ := M
  intro H locs ls hP hS' hl
  obtain ⟨hx, hb, hml, hown, hts, hK, hret, hlk, hR, hroom, hgap, hA, hA2, hN⟩ := hC
  exact va_alen hx hb hK hP j 0 (wd_at hS) (ty := .int) rfl hv hd (kk H locs ls hP hS' hl)
def cpI (σ : Sg) (j0 j1 sp dp n : Nat) : Sg := (fun a => if a = j1 then va_cpy (σ.1 j0) (σ.1 j1) sp dp n else σ.1 a, σ.2)
theorem wd_cp {j0 j1 sp dp n N : Nat} (h : S[j1]? = some (.inl (0, N))) : (wd S g σ).set j1 (gad g j1, .inl (g.2.2.2 0, N, .inl (va_cpy (gI σ j0) (gI σ j1) sp dp n))) = wd S g (cpI σ j0 j1 sp dp n) := by
  apply List.ext_getElem?
  intro a
  by_cases hj : a = j1
  · subst hj
    rw [List.getElem?_set_self (by simp [wd]; exact (List.getElem?_eq_some_iff.mp h).1), wd_at h]
    simp only [cE, cpI]
    have e : gI (fun b => if b = a then va_cpy (σ.1 j0) (σ.1 a) sp dp n else σ.1 b, σ.2) a = va_cpy (gI σ j0) (gI σ a) sp dp n := by
      show (if a = a then va_cpy (σ.1 j0) (σ.1 a) sp dp n else σ.1 a) = _
      rw [if_pos rfl]; rfl
    rw [e]
  · rw [List.getElem?_set_ne (Ne.symm hj)]
    simp only [wd, List.getElem?_mapIdx]
    congr 1
    funext s'
    have hI : gI (cpI σ j0 j1 sp dp n) a = gI σ a := by funext b; simp [gI, cpI, hj]
    have hL : gL (cpI σ j0 j1 sp dp n) = gL σ := rfl
    congr 1
    rcases s' with ⟨t, n'⟩ | ⟨ci, ks⟩
    · match t with
      | 0 => simp only [cE, hI]
      | 1 => simp only [cE, hL]
      | 2 => simp only [cE, hI]
      | t + 3 => rfl
    · simp only [cE]
      congr 2
      apply List.ext_getElem?
      intro x
      simp only [List.getElem?_mapIdx]
      congr 1
      funext t
      match t with
      | 0 => simp only [fv, hI]
      | 1 => simp only [fv, hL]
      | t + 2 => rfl
theorem v_acopy {index j0 j1 n0 n1 fr lo : Nat} {sp dp n : Int32} (hC : Cx S g M i { frames := fr, cells := 0, slots := 0, locals := lo }) (hS0 : S[j0]? = some (.inl (0, n0))) (hS1 : S[j1]? = some (.inl (0, n1))) (h1 : ¬ sp < 0) (h2 : ¬ dp < 0) (h3 : ¬ n < 0) (h4 : sp.toNatClampNeg + n.toNatClampNeg ≤ n0) (h5 : dp.toNatClampNeg + n.toNatClampNeg ≤ n1)
    (hlink : Cond.methodLink i.1.cls index arraycopyName ∈ gtb) (hnat : Cond.native arraycopyName ∈ gtb) (hstat : Cond.static arraycopyName ∈ gtb) (hini : Cond.initialized "java/lang/System" ∈ gtb)
    (hfr : 1 ≤ fr) (hlo : nativeFrameWords "java/lang/System" "arraycopy" 5 + 11 ≤ lo) (hd : decode i.2.1 pc = .ok (.invokestatic index, 3)) (kk : V S g M i Q (pc + 3) lv [] (cpI σ j0 j1 sp.toNatClampNeg dp.toNatClampNeg n.toNatClampNeg)) : V S g M i Q pc lv [.int n, .int dp, .ref (gad g j1), .int sp, .ref (gad g j0)] σ := by
  obtain ⟨p, e, R, s, m, args, below, meth, c, cells, slots, A⟩ := M
  intro H locs ls hP hS' hl
  obtain ⟨hx, hb, hml, hown, hts, hK, hret, hlk, hR, hroom, hgap, hA, hA2, hN⟩ := hC
  subst hR
  refine va_copyi hx hb (hml.trans hl.2.1.symm) hown (hts _ hlink) (hts _ hnat) (hts _ hstat) (hts _ hini) hK hP (wd_D hgap hA σ) hS' j0 j1 0 0 (wd_at hS0) (wd_at hS1) rfl rfl rfl h1 h2 h3 h4 h5 (fun _ _ => rfl) hfr (by simpa using hlo) hd (fun H1 locs1 hP1 _ hS1' => kk H1 locs1 ls ?_ hS1' hl)
  rw [wd_cp hS1] at hP1
  exact hP1
theorem v_iret {P : Option Value → Sg → Prop} {x : Int32} (hC : Cx S g M i rm) (hr : i.2.2.2 = some .int) (hd : decode i.2.1 pc = .ok (.ireturn, 1)) (hp : P (some (.int x)) σ) : V S g M i (PQ S g M P) pc lv [.int x] σ := by
  obtain ⟨p, e, R, s, m, args, below, meth, c, cells, slots, A⟩ := M
  intro H locs ls hP hS' hl
  obtain ⟨hx, hb, hml, hown, hts, hK, hret, hlk, hR, hroom, hgap, hA, hA2, hN⟩ := hC
  exact W.iret hx hb (hret.trans hr) (fun t ht hW => ⟨⟨_, σ, rfl, hp, by rw [ht]; exact hP, hK.moved hW.alike⟩, hS'.F ht⟩) hS'.2.2 hd hlk
theorem v_zret {P : Option Value → Sg → Prop} {x : Int32} (hC : Cx S g M i rm) (hr : i.2.2.2 = some .boolean) (hn : narrow .boolean (.int x) = .int x) (hd : decode i.2.1 pc = .ok (.ireturn, 1)) (hp : P (some (.int x)) σ) : V S g M i (PQ S g M P) pc lv [.int x] σ := by
  obtain ⟨p, e, R, s, m, args, below, meth, c, cells, slots, A⟩ := M
  intro H locs ls hP hS' hl
  obtain ⟨hx, hb, hml, hown, hts, hK, hret, hlk, hR, hroom, hgap, hA, hA2, hN⟩ := hC
  exact W.zret hx hb (hret.trans hr) hn (fun t ht hW => ⟨⟨_, σ, rfl, hp, by rw [ht]; exact hP, hK.moved hW.alike⟩, hS'.F ht⟩) hS'.2.2 hd hlk
theorem v_lret {P : Option Value → Sg → Prop} {x : Int64} (hC : Cx S g M i rm) (hr : i.2.2.2 = some .long) (hd : decode i.2.1 pc = .ok (.lreturn, 1)) (hp : P (some (.long x)) σ) : V S g M i (PQ S g M P) pc lv [.long x] σ := by
  obtain ⟨p, e, R, s, m, args, below, meth, c, cells, slots, A⟩ := M
  intro H locs ls hP hS' hl
  obtain ⟨hx, hb, hml, hown, hts, hK, hret, hlk, hR, hroom, hgap, hA, hA2, hN⟩ := hC
  exact W.lret hx hb (hret.trans hr) (fun t ht hW => ⟨⟨_, σ, rfl, hp, by rw [ht]; exact hP, hK.moved hW.alike⟩, hS'.F ht⟩) hS'.2.2 hd hlk
theorem v_vret {P : Option Value → Sg → Prop} (hC : Cx S g M i rm) (hr : i.2.2.2 = none) (hd : decode i.2.1 pc = .ok (.return_, 1)) (hp : P none σ) : V S g M i (PQ S g M P) pc lv [] σ := by
  obtain ⟨p, e, R, s, m, args, below, meth, c, cells, slots, A⟩ := M
  intro H locs ls hP hS' hl
  obtain ⟨hx, hb, hml, hown, hts, hK, hret, hlk, hR, hroom, hgap, hA, hA2, hN⟩ := hC
  exact W.vret hx hb (hret.trans hr) (fun t ht hW => ⟨⟨_, σ, rfl, hp, by rw [ht]; exact hP, hK.moved hW.alike⟩, hS'.F ht⟩) hS'.2.2 hd hlk
end
