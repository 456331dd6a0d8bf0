/-! Math.max, min, abs -/
def mxI (x y : Int32) : Int32 := if x < y then y else x
def mnI (x y : Int32) : Int32 := if y < x then y else x
def abL (x : Int64) : Int64 := if 0 < x then x else -x
theorem z_ini : Cond.initialized "java/lang/Math" ∈ gtb := gtb_m (List.mem_of_getElem? (i := 84) (by decide +kernel)) rfl
theorem z_mxs : Cond.static Lib.Math.max.name ∈ gtb := gtb_m (List.mem_of_getElem? (i := 208) (by decide +kernel)) rfl
theorem z_mxc : Cond.code Lib.Math.max.name Lib.Math.max.code 2 (some .int) ∈ gtb := gtb_m (List.mem_of_getElem? (i := 209) (by decide +kernel)) rfl
theorem z_mns : Cond.static Lib.Math.min.name ∈ gtb := gtb_m (List.mem_of_getElem? (i := 497) (by decide +kernel)) rfl
theorem z_mnc : Cond.code Lib.Math.min.name Lib.Math.min.code 2 (some .int) ∈ gtb := gtb_m (List.mem_of_getElem? (i := 498) (by decide +kernel)) rfl
theorem z_abs : Cond.static Lib.MathLoose.abs_long.x ∈ gtb := gtb_m (List.mem_of_getElem? (i := 545) (by decide +kernel)) rfl
theorem z_abc : Cond.code Lib.MathLoose.abs_long.x Lib.MathLoose.abs_long.code 2 (some .long) ∈ gtb := gtb_m (List.mem_of_getElem? (i := 546) (by decide +kernel)) rfl
theorem mm_X7_7 : Cond.methodLink RX7 7 Lib.Math.max.name ∈ gtb := gtb_m (List.mem_of_getElem? (i := 207) (by decide +kernel)) rfl
theorem mm_X10_152 : Cond.methodLink RX10 152 Lib.Math.min.name ∈ gtb := gtb_m (List.mem_of_getElem? (i := 496) (by decide +kernel)) rfl
theorem mm_X0_16 : Cond.methodLink RX0 16 Lib.MathLoose.abs_long.x ∈ gtb := gtb_m (List.mem_of_getElem? (i := 544) (by decide +kernel)) rfl
theorem mm_X8_115 : Cond.methodLink RX8 115 Lib.Math.max.name ∈ gtb := gtb_m (List.mem_of_getElem? (i := 640) (by decide +kernel)) rfl
theorem mm_X6_67 : Cond.methodLink RX6 67 Lib.Math.max.name ∈ gtb := gtb_m (List.mem_of_getElem? (i := 689) (by decide +kernel)) rfl
theorem mm_X2_79 : Cond.methodLink RX2 79 Lib.Math.min.name ∈ gtb := gtb_m (List.mem_of_getElem? (i := 884) (by decide +kernel)) rfl
theorem mm_X2_85 : Cond.methodLink RX2 85 Lib.Math.max.name ∈ gtb := gtb_m (List.mem_of_getElem? (i := 885) (by decide +kernel)) rfl
section
variable {S : List Shp} {g : Gl} {M : Mc} {i : MI} {Q : State → Prop} {pc index fr lo : Nat} {lv : List (Option Value)} {rest : List Value} {σ : Sg}
theorem v_mx {x y : Int32} (hC : Cx S g M i { frames := fr, cells := 0, slots := 0, locals := lo }) (hl : Cond.methodLink i.1.cls index Lib.Math.max.name ∈ gtb) (hfr : Nat.ble 1 fr = true) (hW : Nat.ble ((rest.map fun v => v.category).sum + 13) lo = true) (hd : decode i.2.1 pc = .ok (.invokestatic index, 3)) (kk : V S g M i Q (pc + 3) lv (.int (mxI x y) :: rest) σ) : V S g M i Q pc lv (.int y :: .int x :: rest) σ := by
  obtain ⟨p, e, R, s, m, args, below, meth, c, cells, slots, A⟩ := M
  intro H locs ls hP hS hl'
  obtain ⟨hx, hb, hml, hown, hts, hK, hret, hlk, hRr, hroom, hgap, hA, hA2, hN⟩ := hC
  subst hRr
  exact va_mmax hx hb (hml.trans hl'.2.1.symm) hown (hts _ hl) (hts _ z_mxs) (hts _ z_ini) (hts _ z_mxc) (Nat.le_of_ble_eq_true hfr) (Nat.le_of_ble_eq_true hW) hroom.1 hroom.2 hd (kk H locs ls hP hS hl')
theorem v_mn {x y : Int32} (hC : Cx S g M i { frames := fr, cells := 0, slots := 0, locals := lo }) (hl : Cond.methodLink i.1.cls index Lib.Math.min.name ∈ gtb) (hfr : Nat.ble 1 fr = true) (hW : Nat.ble ((rest.map fun v => v.category).sum + 13) lo = true) (hd : decode i.2.1 pc = .ok (.invokestatic index, 3)) (kk : V S g M i Q (pc + 3) lv (.int (mnI x y) :: rest) σ) : V S g M i Q pc lv (.int y :: .int x :: rest) σ := by
  obtain ⟨p, e, R, s, m, args, below, meth, c, cells, slots, A⟩ := M
  intro H locs ls hP hS hl'
  obtain ⟨hx, hb, hml, hown, hts, hK, hret, hlk, hRr, hroom, hgap, hA, hA2, hN⟩ := hC
  subst hRr
  exact va_mmin hx hb (hml.trans hl'.2.1.symm) hown (hts _ hl) (hts _ z_mns) (hts _ z_ini) (hts _ z_mnc) (Nat.le_of_ble_eq_true hfr) (Nat.le_of_ble_eq_true hW) hroom.1 hroom.2 hd (kk H locs ls hP hS hl')
theorem v_ab {x : Int64} (hC : Cx S g M i { frames := fr, cells := 0, slots := 0, locals := lo }) (hl : Cond.methodLink i.1.cls index Lib.MathLoose.abs_long.x ∈ gtb) (hfr : Nat.ble 1 fr = true) (hW : Nat.ble ((rest.map fun v => v.category).sum + 13) lo = true) (hd : decode i.2.1 pc = .ok (.invokestatic index, 3)) (kk : V S g M i Q (pc + 3) lv (.long (abL x) :: rest) σ) : V S g M i Q pc lv (.long x :: rest) σ := by
  obtain ⟨p, e, R, s, m, args, below, meth, c, cells, slots, A⟩ := M
  intro H locs ls hP hS hl'
  obtain ⟨hx, hb, hml, hown, hts, hK, hret, hlk, hRr, hroom, hgap, hA, hA2, hN⟩ := hC
  subst hRr
  exact va_mabs_long hx hb (hml.trans hl'.2.1.symm) hown (hts _ hl) (hts _ z_abs) (hts _ z_ini) (hts _ z_abc) (Nat.le_of_ble_eq_true hfr) (Nat.le_of_ble_eq_true hW) hroom.1 hroom.2 hd (kk H locs ls hP hS hl')
end
