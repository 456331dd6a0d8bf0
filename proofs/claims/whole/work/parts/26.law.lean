/-! the law: its cases and its loop (printed by wip/whole/gen/law.py) -/
abbrev iL : MI := (x, code, 4, ret)
theorem iL_cls : RL = iL.1.cls := rfl
def HX (M : Mc) (b L : Nat) (xs : Nat → Int32) : Prop := match M with
  | (_, _, _, s, _, _, _, _, _, _, _, A) => va_X b L xs s s.heap ∧ b < s.heap.size ∧ ¬ A b
section
variable {S : List Shp} {g : Gl} {M : Mc} {i i' : MI} {rm : Room} {Q : State → Prop} {pc : Nat} {lv : List (Option Value)} {st : List Value} {σ τ : Sg} {b L : Nat} {xs : Nat → Int32}
theorem v_sld {z : Int32} (hC : Cx S g M i rm) (hX : HX M b L xs) (hin : vp_in z L) (hd : decode i.2.1 pc = .ok (.iaload, 1)) (kk : V S g M i Q (pc + 1) lv (.int (xs z.toNatClampNeg) :: st) σ) : V S g M i Q pc lv (.int z :: .ref b :: st) σ := by
  obtain ⟨p, e, R, s, m, args, below, meth, c, cells, slots, A⟩ := M
  intro H locs ls hP hS' hl
  obtain ⟨hx, hb, hml, hown, hts, hK, hret, hlk, hR, hroom, hgap, hA, hA2, hN⟩ := hC
  obtain ⟨h1, h2, h3⟩ := hX
  exact va_sld hx hb h1 h2 h3 hS' hin hd (kk H locs ls hP hS' hl)
theorem v_slen (hC : Cx S g M i rm) (hX : HX M b L xs) (hd : decode i.2.1 pc = .ok (.arraylength, 1)) (kk : V S g M i Q (pc + 1) lv (.int (nI L) :: st) σ) : V S g M i Q pc lv (.ref b :: st) σ := by
  obtain ⟨p, e, R, s, m, args, below, meth, c, cells, slots, A⟩ := M
  intro H locs ls hP hS' hl
  obtain ⟨hx, hb, hml, hown, hts, hK, hret, hlk, hR, hroom, hgap, hA, hA2, hN⟩ := hC
  obtain ⟨h1, h2, h3⟩ := hX
  exact va_slen hx hb h1 h2 h3 hS' hd (kk H locs ls hP hS' hl)
theorem v_cVr {index n fr' lo' j ci : Nat} {ks : List Nat} {q : vw_C} {stk as : List Value} {r : Option Value} (rest stk' : List Value) (hG : GmV i' n) (hC : Cx S g M i rm) (hS0 : S[j]? = some (.inr (ci, ks))) (hq : classes[ci]? = some q) (hq1 : q.1 = i'.1.cls) (hc : Ct S g i' fr' lo' (.ref (gad g j) :: as) σ (Dt r τ)) (hl : Cond.methodLink i.1.cls index i'.1 ∈ gtb) (hn : as.length = n) (hR : Nat.ble (fr' + 1) rm.frames = true) (hR2 : Nat.ble (8 + (i'.2.2.1 + 11) + lo') rm.locals = true) (hstk : stk = as.reverse ++ .ref (gad g j) :: rest) (hW : Nat.ble (rest.map fun v => v.category).sum 8 = true) (he : r.toList ++ rest = stk') (hd : decode i.2.1 pc = .ok (.invokevirtual index, 3)) (kk : V S g M i Q (pc + 3) lv stk' τ) : V S g M i Q pc lv stk σ := by
  obtain ⟨p, e, R, s, m, args, below, meth, c, cells, slots, A⟩ := M
  intro H locs ls hP hS hl'
  obtain ⟨hx, hb, hml, hown, hts, hK, hret, hlk, hRr, hroom, hgap, hA, hA2, hN⟩ := hC
  subst hRr
  obtain ⟨hG, hins, hsel⟩ := hG
  exact ct_run hS hA hA2 (va_runV (As := as) (rest := rest) (C := i'.1.cls) ⟨hx, hb, hml, hown, hts⟩ (hc H.size) ⟨callB_of n hts (gm_good hG) rfl rfl rfl (hts _ hG.2.1) (hts _ hl) hG.2.2 ⟨Nat.le_of_ble_eq_true hR, Nat.le_of_ble_eq_true hR2⟩, hts _ hins, hts _ hsel⟩ ⟨ct_blind, hq1 ▸ va_recv hK hP hq (wd_at hS0), fun U hU hW => ⟨rfl, by rw [hU], by rw [hU]; exact hP, va_K.moved hW.alike hK, hgap, Nst.warm hW hN⟩⟩ rfl hn hl'.2.1 hstk (by show 2 * 0 + _ ≤ 8; have := Nat.le_of_ble_eq_true hW; omega) hd hroom) (fun H1 locs1 h1 h2 => kk H1 locs1 ls h1 h2 hl' |> fun h => he ▸ h)
end
/-- what the two sides owe of race -/
def ok_race (Inv : Sg → Prop) : Prop := ∀ (y0 y1 : Int32) (s : Sg), Inv s → ∃ (r : Int32) (s1 s2 : Sg), fX10_race y0 y1 s = some (r, s1) ∧ fX11_race y0 y1 s1 = some (r, s2) ∧ Inv s2
/-- what the two sides owe of swim -/
def ok_swim (Inv : Sg → Prop) : Prop := ∀ (y0 y1 y2 : Int32) (s : Sg), Inv s → ∃ (r : Int32) (s1 s2 : Sg), fX10_swim y0 y1 y2 s = some (r, s1) ∧ fX11_swim y0 y1 y2 s1 = some (r, s2) ∧ Inv s2
/-- what the two sides owe of time -/
def ok_time (Inv : Sg → Prop) : Prop := ∀ (y0 y1 y2 : Int32) (s : Sg), Inv s → ∃ (r : Int32) (s1 s2 : Sg), fX10_time y0 y1 y2 s = some (r, s1) ∧ fX11_time y0 y1 y2 s1 = some (r, s2) ∧ Inv s2
/-- what the two sides owe of read -/
def ok_read (Inv : Sg → Prop) : Prop := ∀ (y0 y1 : Int32) (s : Sg), Inv s → ∃ (r : Int32) (s1 s2 : Sg), fX10_read y0 y1 s = some (r, s1) ∧ fX11_read y0 y1 s1 = some (r, s2) ∧ Inv s2
/-- what the two sides owe of seeds -/
def ok_seeds (Inv : Sg → Prop) : Prop := ∀ (y0 y1 : Int32) (s : Sg), Inv s → ∃ (r : Int32) (s1 s2 : Sg), fX10_seeds y0 y1 s = some (r, s1) ∧ fX11_seeds y0 y1 s1 = some (r, s2) ∧ Inv s2
/-- what the two sides owe of about -/
def ok_about (Inv : Sg → Prop) : Prop := ∀ (y0 y1 : Int32) (s : Sg), Inv s → ∃ (r : Int32) (s1 s2 : Sg), fX10_about y0 y1 s = some (r, s1) ∧ fX11_about y0 y1 s1 = some (r, s2) ∧ Inv s2
/-- what the two sides owe of diff -/
def ok_diff (Inv : Sg → Prop) : Prop := ∀ (y0 y1 : Int32) (s : Sg), Inv s → ∃ (r : Int64) (s1 s2 : Sg), fX10_diff y0 y1 s = some (r, s1) ∧ fX11_diff y0 y1 s1 = some (r, s2) ∧ Inv s2
/-- what the two sides owe of lane -/
def ok_lane (Inv : Sg → Prop) : Prop := ∀ (y0 y1 y2 : Int32) (s : Sg), Inv s → ∃ (r : Int64) (s1 s2 : Sg), fX10_lane y0 y1 y2 s = some (r, s1) ∧ fX11_lane y0 y1 y2 s1 = some (r, s2) ∧ Inv s2
/-- what the two sides owe of counts -/
def ok_counts (Inv : Sg → Prop) : Prop := ∀ (y0 : Int32) (s : Sg), Inv s → ∃ (r : Int32) (s1 s2 : Sg), fX10_counts y0 s = some (r, s1) ∧ fX11_counts y0 s1 = some (r, s2) ∧ Inv s2
/-- what the two sides owe of lean -/
def ok_lean (Inv : Sg → Prop) : Prop := ∀ (y0 y1 : Int32) (s : Sg), Inv s → ∃ (r : Int32) (s1 s2 : Sg), fX10_lean y0 y1 s = some (r, s1) ∧ fX11_lean y0 y1 s1 = some (r, s2) ∧ Inv s2
/-- what the two sides owe of chance -/
def ok_chance (Inv : Sg → Prop) : Prop := ∀ (s : Sg), Inv s → ∃ (r : Int32) (s1 s2 : Sg), fX10_chance s = some (r, s1) ∧ fX11_chance s1 = some (r, s2) ∧ Inv s2
/-- what the two sides owe of ran -/
def ok_ran (Inv : Sg → Prop) : Prop := ∀ (y0 : Int32) (s : Sg), Inv s → ∃ (r : Int32) (s1 s2 : Sg), fX10_ran y0 s = some (r, s1) ∧ fX11_ran y0 s1 = some (r, s2) ∧ Inv s2
/-- what the two sides owe of own -/
def ok_own (Inv : Sg → Prop) : Prop := ∀ (y0 y1 : Int32) (s : Sg), Inv s → ∃ (r : Int64) (s1 s2 : Sg), fX10_own y0 y1 s = some (r, s1) ∧ fX11_own y0 y1 s1 = some (r, s2) ∧ Inv s2
/-- what the two sides owe of fast -/
def ok_fast (Inv : Sg → Prop) : Prop := ∀ (y0 : Int32) (s : Sg), Inv s → ∃ (r : Int32) (s1 s2 : Sg), fX10_fast y0 s = some (r, s1) ∧ fX11_fast y0 s1 = some (r, s2) ∧ Inv s2
/-- what the two sides owe of twice -/
def ok_twice (Inv : Sg → Prop) : Prop := ∀ (y0 y1 : Int32) (s : Sg), Inv s → ∃ (r : Int32) (s1 s2 : Sg), fX10_twice y0 y1 s = some (r, s1) ∧ fX11_twice y0 y1 s1 = some (r, s2) ∧ Inv s2
/-- what the two sides owe of order -/
def ok_order (Inv : Sg → Prop) : Prop := ∀ (y0 : Int32) (s : Sg), Inv s → ∃ (r : Int32) (s1 s2 : Sg), fX10_order y0 s = some (r, s1) ∧ fX11_order y0 s1 = some (r, s2) ∧ Inv s2
/-- what the two sides owe of right -/
def ok_right (Inv : Sg → Prop) : Prop := ∀ (y0 y1 : Int32) (s : Sg), Inv s → ∃ (r : Int64) (s1 s2 : Sg), fX10_right y0 y1 s = some (r, s1) ∧ fX11_right y0 y1 s1 = some (r, s2) ∧ Inv s2
/-- what the two sides owe of place -/
def ok_place (Inv : Sg → Prop) : Prop := ∀ (y0 y1 : Int32) (s : Sg), Inv s → ∃ (r : Int32) (s1 s2 : Sg), fX10_place y0 y1 s = some (r, s1) ∧ fX11_place y0 y1 s1 = some (r, s2) ∧ Inv s2
/-- what the two sides owe of medals -/
def ok_medals (Inv : Sg → Prop) : Prop := ∀ (y0 : Int32) (s : Sg), Inv s → ∃ (r : Int32) (s1 s2 : Sg), fX10_medals y0 s = some (r, s1) ∧ fX11_medals y0 s1 = some (r, s2) ∧ Inv s2
/-- what the two sides owe of type -/
def ok_type (Inv : Sg → Prop) : Prop := ∀ (y0 y1 : Int32) (s : Sg), Inv s → ∃ (r : Int32) (s1 s2 : Sg), fX10_type y0 y1 s = some (r, s1) ∧ fX11_type y0 y1 s1 = some (r, s2) ∧ Inv s2
/-- what the two sides owe of wipe -/
def ok_wipe (Inv : Sg → Prop) : Prop := ∀ (y0 : Int32) (s : Sg), Inv s → ∃ (r : Int32) (s1 s2 : Sg), fX10_wipe y0 s = some (r, s1) ∧ fX11_wipe y0 s1 = some (r, s2) ∧ Inv s2
/-- what the two sides owe of fault -/
def ok_fault (Inv : Sg → Prop) : Prop := ∀ (y0 : Int32) (s : Sg), Inv s → ∃ (r : Int32) (s1 s2 : Sg), fX10_fault y0 s = some (r, s1) ∧ fX11_fault y0 s1 = some (r, s2) ∧ Inv s2
/-- what the two sides owe of given -/
def ok_given (Inv : Sg → Prop) : Prop := ∀ (y0 : Int32) (s : Sg), Inv s → ∃ (r : Int32) (s1 s2 : Sg), fX10_given y0 s = some (r, s1) ∧ fX11_given y0 s1 = some (r, s2) ∧ Inv s2
/-- what the two sides owe of tenths -/
def ok_tenths (Inv : Sg → Prop) : Prop := ∀ (y0 y1 : Int32) (s : Sg), Inv s → ∃ (r : Int32) (s1 s2 : Sg), fX10_tenths y0 y1 s = some (r, s1) ∧ fX11_tenths y0 y1 s1 = some (r, s2) ∧ Inv s2
/-- what the two sides owe of world -/
def ok_world (Inv : Sg → Prop) : Prop := ∀ (y0 : Int32) (s : Sg), Inv s → ∃ (r : Int32) (s1 s2 : Sg), fX10_world y0 s = some (r, s1) ∧ fX11_world y0 s1 = some (r, s2) ∧ Inv s2
/-- what the two sides owe of made -/
def ok_made (Inv : Sg → Prop) : Prop := ∀ (y0 y1 y2 y3 y4 : Int32) (s : Sg), Inv s → ∃ (r : Int32) (s1 s2 : Sg), fX10_made y0 y1 y2 y3 y4 s = some (r, s1) ∧ fX11_made y0 y1 y2 y3 y4 s1 = some (r, s2) ∧ Inv s2
/-- what the two sides owe of sheet -/
def ok_sheet (Inv : Sg → Prop) : Prop := ∀ (y0 y1 y2 : Int32) (s : Sg), Inv s → ∃ (r : Int32) (s1 s2 : Sg), fX10_sheet y0 y1 y2 s = some (r, s1) ∧ fX11_sheet y0 y1 y2 s1 = some (r, s2) ∧ Inv s2
/-- what the two sides owe of lose -/
def ok_lose (Inv : Sg → Prop) : Prop := ∀ (y0 : Int32) (s : Sg), Inv s → ∃ (r : Int32) (s1 s2 : Sg), fX10_lose y0 s = some (r, s1) ∧ fX11_lose y0 s1 = some (r, s2) ∧ Inv s2
/-- what the two sides owe of put -/
def ok_put (Inv : Sg → Prop) : Prop := ∀ (y0 y1 y2 y3 : Int32) (s : Sg), Inv s → ∃ (r : Int32) (s1 s2 : Sg), fX10_put y0 y1 y2 y3 s = some (r, s1) ∧ fX11_put y0 y1 y2 y3 s1 = some (r, s2) ∧ Inv s2
/-- what the two sides owe of get -/
def ok_get (Inv : Sg → Prop) : Prop := ∀ (y0 y1 y2 : Int32) (s : Sg), Inv s → ∃ (r : Int32) (s1 s2 : Sg), fX10_get y0 y1 y2 s = some (r, s1) ∧ fX11_get y0 y1 y2 s1 = some (r, s2) ∧ Inv s2
/-- what the two sides owe of copy -/
def ok_copy (Inv : Sg → Prop) : Prop := ∀ (y0 y1 y2 y3 y4 : Int32) (s : Sg), Inv s → ∃ (r : Int32) (s1 s2 : Sg), fX10_copy y0 y1 y2 y3 y4 s = some (r, s1) ∧ fX11_copy y0 y1 y2 y3 y4 s1 = some (r, s2) ∧ Inv s2
/-- what the two sides owe of write -/
def ok_write (Inv : Sg → Prop) : Prop := ∀ (y0 y1 : Int32) (s : Sg), Inv s → ∃ (r : Int32) (s1 s2 : Sg), fX10_write y0 y1 s = some (r, s1) ∧ fX11_write y0 y1 s1 = some (r, s2) ∧ Inv s2
/-- what the two sides owe of count -/
def ok_count (Inv : Sg → Prop) : Prop := ∀ (y0 : Int32) (s : Sg), Inv s → ∃ (r : Int32) (s1 s2 : Sg), fX10_count y0 s = some (r, s1) ∧ fX11_count y0 s1 = some (r, s2) ∧ Inv s2
/-- what the two sides owe of digest -/
def ok_digest (Inv : Sg → Prop) : Prop := ∀ (s : Sg), Inv s → ∃ (r : Int64) (s1 s2 : Sg), fX10_digest s = some (r, s1) ∧ fX11_digest s1 = some (r, s2) ∧ Inv s2
def AllOk (Inv : Sg → Prop) : Prop := ok_race Inv ∧ ok_swim Inv ∧ ok_time Inv ∧ ok_read Inv ∧ ok_seeds Inv ∧ ok_about Inv ∧ ok_diff Inv ∧ ok_lane Inv ∧ ok_counts Inv ∧ ok_lean Inv ∧ ok_chance Inv ∧ ok_ran Inv ∧ ok_own Inv ∧ ok_fast Inv ∧ ok_twice Inv ∧ ok_order Inv ∧ ok_right Inv ∧ ok_place Inv ∧ ok_medals Inv ∧ ok_type Inv ∧ ok_wipe Inv ∧ ok_fault Inv ∧ ok_given Inv ∧ ok_tenths Inv ∧ ok_world Inv ∧ ok_made Inv ∧ ok_sheet Inv ∧ ok_lose Inv ∧ ok_put Inv ∧ ok_get Inv ∧ ok_copy Inv ∧ ok_write Inv ∧ ok_count Inv ∧ ok_digest Inv
theorem dL_law_18 : decode code 18 = .ok (.iload_n 3, 1) := by decide +kernel
theorem dL_law_19 : decode code 19 = .ok (.aload_n 0, 1) := by decide +kernel
theorem dL_law_20 : decode code 20 = .ok (.arraylength, 1) := by decide +kernel
theorem dL_law_21 : decode code 21 = .ok (.bipush 6, 2) := by decide +kernel
theorem dL_law_23 : decode code 23 = .ok (.isub, 1) := by decide +kernel
theorem dL_law_24 : decode code 24 = .ok (.if_icmp .gt 1273, 3) := by decide +kernel
theorem dL_law_27 : decode code 27 = .ok (.aload_n 0, 1) := by decide +kernel
theorem dL_law_28 : decode code 28 = .ok (.iload_n 3, 1) := by decide +kernel
theorem dL_law_29 : decode code 29 = .ok (.iaload, 1) := by decide +kernel
theorem dL_law_30 : decode code 30 = .ok (.bipush 63, 2) := by decide +kernel
theorem dL_law_32 : decode code 32 = .ok (.iand, 1) := by decide +kernel
theorem dL_law_33 : decode code 33 = .ok (.tableswitch 1258 0 33 #[151, 184, 227, 270, 303, 336, 369, 403, 447, 470, 503, 516, 539, 573, 596, 629, 652, 686, 719, 742, 775, 798, 821, 844, 877, 900, 963, 1006, 1029, 1082, 1125, 1188, 1221, 1244], 151) := by decide +kernel
theorem dL_law_184 : decode code 184 = .ok (.aload_n 1, 1) := by decide +kernel
theorem dL_law_185 : decode code 185 = .ok (.aload_n 0, 1) := by decide +kernel
theorem dL_law_186 : decode code 186 = .ok (.iload_n 3, 1) := by decide +kernel
theorem dL_law_187 : decode code 187 = .ok (.iconst 1, 1) := by decide +kernel
theorem dL_law_188 : decode code 188 = .ok (.iadd, 1) := by decide +kernel
theorem dL_law_189 : decode code 189 = .ok (.iaload, 1) := by decide +kernel
theorem dL_law_190 : decode code 190 = .ok (.aload_n 0, 1) := by decide +kernel
theorem dL_law_191 : decode code 191 = .ok (.iload_n 3, 1) := by decide +kernel
theorem dL_law_192 : decode code 192 = .ok (.iconst 2, 1) := by decide +kernel
theorem dL_law_193 : decode code 193 = .ok (.iadd, 1) := by decide +kernel
theorem dL_law_194 : decode code 194 = .ok (.iaload, 1) := by decide +kernel
theorem dL_law_195 : decode code 195 = .ok (.invokevirtual 13, 3) := by decide +kernel
theorem dL_law_198 : decode code 198 = .ok (.aload_n 2, 1) := by decide +kernel
theorem dL_law_199 : decode code 199 = .ok (.aload_n 0, 1) := by decide +kernel
theorem dL_law_200 : decode code 200 = .ok (.iload_n 3, 1) := by decide +kernel
theorem dL_law_201 : decode code 201 = .ok (.iconst 1, 1) := by decide +kernel
theorem dL_law_202 : decode code 202 = .ok (.iadd, 1) := by decide +kernel
theorem dL_law_203 : decode code 203 = .ok (.iaload, 1) := by decide +kernel
theorem dL_law_204 : decode code 204 = .ok (.aload_n 0, 1) := by decide +kernel
theorem dL_law_205 : decode code 205 = .ok (.iload_n 3, 1) := by decide +kernel
theorem dL_law_206 : decode code 206 = .ok (.iconst 2, 1) := by decide +kernel
theorem dL_law_207 : decode code 207 = .ok (.iadd, 1) := by decide +kernel
theorem dL_law_208 : decode code 208 = .ok (.iaload, 1) := by decide +kernel
theorem dL_law_209 : decode code 209 = .ok (.invokevirtual 17, 3) := by decide +kernel
theorem dL_law_212 : decode code 212 = .ok (.if_icmp .eq 1079, 3) := by decide +kernel
theorem dL_law_217 : decode code 217 = .ok (.aload_n 1, 1) := by decide +kernel
theorem dL_law_218 : decode code 218 = .ok (.aload_n 0, 1) := by decide +kernel
theorem dL_law_219 : decode code 219 = .ok (.iload_n 3, 1) := by decide +kernel
theorem dL_law_220 : decode code 220 = .ok (.iconst 1, 1) := by decide +kernel
theorem dL_law_221 : decode code 221 = .ok (.iadd, 1) := by decide +kernel
theorem dL_law_222 : decode code 222 = .ok (.iaload, 1) := by decide +kernel
theorem dL_law_223 : decode code 223 = .ok (.aload_n 0, 1) := by decide +kernel
theorem dL_law_224 : decode code 224 = .ok (.iload_n 3, 1) := by decide +kernel
theorem dL_law_225 : decode code 225 = .ok (.iconst 2, 1) := by decide +kernel
theorem dL_law_226 : decode code 226 = .ok (.iadd, 1) := by decide +kernel
theorem dL_law_227 : decode code 227 = .ok (.iaload, 1) := by decide +kernel
theorem dL_law_228 : decode code 228 = .ok (.aload_n 0, 1) := by decide +kernel
theorem dL_law_229 : decode code 229 = .ok (.iload_n 3, 1) := by decide +kernel
theorem dL_law_230 : decode code 230 = .ok (.iconst 3, 1) := by decide +kernel
theorem dL_law_231 : decode code 231 = .ok (.iadd, 1) := by decide +kernel
theorem dL_law_232 : decode code 232 = .ok (.iaload, 1) := by decide +kernel
theorem dL_law_233 : decode code 233 = .ok (.invokevirtual 18, 3) := by decide +kernel
theorem dL_law_236 : decode code 236 = .ok (.aload_n 2, 1) := by decide +kernel
theorem dL_law_237 : decode code 237 = .ok (.aload_n 0, 1) := by decide +kernel
theorem dL_law_238 : decode code 238 = .ok (.iload_n 3, 1) := by decide +kernel
theorem dL_law_239 : decode code 239 = .ok (.iconst 1, 1) := by decide +kernel
theorem dL_law_240 : decode code 240 = .ok (.iadd, 1) := by decide +kernel
theorem dL_law_241 : decode code 241 = .ok (.iaload, 1) := by decide +kernel
theorem dL_law_242 : decode code 242 = .ok (.aload_n 0, 1) := by decide +kernel
theorem dL_law_243 : decode code 243 = .ok (.iload_n 3, 1) := by decide +kernel
theorem dL_law_244 : decode code 244 = .ok (.iconst 2, 1) := by decide +kernel
theorem dL_law_245 : decode code 245 = .ok (.iadd, 1) := by decide +kernel
theorem dL_law_246 : decode code 246 = .ok (.iaload, 1) := by decide +kernel
theorem dL_law_247 : decode code 247 = .ok (.aload_n 0, 1) := by decide +kernel
theorem dL_law_248 : decode code 248 = .ok (.iload_n 3, 1) := by decide +kernel
theorem dL_law_249 : decode code 249 = .ok (.iconst 3, 1) := by decide +kernel
theorem dL_law_250 : decode code 250 = .ok (.iadd, 1) := by decide +kernel
theorem dL_law_251 : decode code 251 = .ok (.iaload, 1) := by decide +kernel
theorem dL_law_252 : decode code 252 = .ok (.invokevirtual 22, 3) := by decide +kernel
theorem dL_law_255 : decode code 255 = .ok (.if_icmp .eq 1036, 3) := by decide +kernel
theorem dL_law_260 : decode code 260 = .ok (.aload_n 1, 1) := by decide +kernel
theorem dL_law_261 : decode code 261 = .ok (.aload_n 0, 1) := by decide +kernel
theorem dL_law_262 : decode code 262 = .ok (.iload_n 3, 1) := by decide +kernel
theorem dL_law_263 : decode code 263 = .ok (.iconst 1, 1) := by decide +kernel
theorem dL_law_264 : decode code 264 = .ok (.iadd, 1) := by decide +kernel
theorem dL_law_265 : decode code 265 = .ok (.iaload, 1) := by decide +kernel
theorem dL_law_266 : decode code 266 = .ok (.aload_n 0, 1) := by decide +kernel
theorem dL_law_267 : decode code 267 = .ok (.iload_n 3, 1) := by decide +kernel
theorem dL_law_268 : decode code 268 = .ok (.iconst 2, 1) := by decide +kernel
theorem dL_law_269 : decode code 269 = .ok (.iadd, 1) := by decide +kernel
theorem dL_law_270 : decode code 270 = .ok (.iaload, 1) := by decide +kernel
theorem dL_law_271 : decode code 271 = .ok (.aload_n 0, 1) := by decide +kernel
theorem dL_law_272 : decode code 272 = .ok (.iload_n 3, 1) := by decide +kernel
theorem dL_law_273 : decode code 273 = .ok (.iconst 3, 1) := by decide +kernel
theorem dL_law_274 : decode code 274 = .ok (.iadd, 1) := by decide +kernel
theorem dL_law_275 : decode code 275 = .ok (.iaload, 1) := by decide +kernel
theorem dL_law_276 : decode code 276 = .ok (.invokevirtual 23, 3) := by decide +kernel
theorem dL_law_279 : decode code 279 = .ok (.aload_n 2, 1) := by decide +kernel
theorem dL_law_280 : decode code 280 = .ok (.aload_n 0, 1) := by decide +kernel
theorem dL_law_281 : decode code 281 = .ok (.iload_n 3, 1) := by decide +kernel
theorem dL_law_282 : decode code 282 = .ok (.iconst 1, 1) := by decide +kernel
theorem dL_law_283 : decode code 283 = .ok (.iadd, 1) := by decide +kernel
theorem dL_law_284 : decode code 284 = .ok (.iaload, 1) := by decide +kernel
theorem dL_law_285 : decode code 285 = .ok (.aload_n 0, 1) := by decide +kernel
theorem dL_law_286 : decode code 286 = .ok (.iload_n 3, 1) := by decide +kernel
theorem dL_law_287 : decode code 287 = .ok (.iconst 2, 1) := by decide +kernel
theorem dL_law_288 : decode code 288 = .ok (.iadd, 1) := by decide +kernel
theorem dL_law_289 : decode code 289 = .ok (.iaload, 1) := by decide +kernel
theorem dL_law_290 : decode code 290 = .ok (.aload_n 0, 1) := by decide +kernel
theorem dL_law_291 : decode code 291 = .ok (.iload_n 3, 1) := by decide +kernel
theorem dL_law_292 : decode code 292 = .ok (.iconst 3, 1) := by decide +kernel
theorem dL_law_293 : decode code 293 = .ok (.iadd, 1) := by decide +kernel
theorem dL_law_294 : decode code 294 = .ok (.iaload, 1) := by decide +kernel
theorem dL_law_295 : decode code 295 = .ok (.invokevirtual 26, 3) := by decide +kernel
theorem dL_law_298 : decode code 298 = .ok (.if_icmp .eq 993, 3) := by decide +kernel
theorem dL_law_303 : decode code 303 = .ok (.aload_n 1, 1) := by decide +kernel
theorem dL_law_304 : decode code 304 = .ok (.aload_n 0, 1) := by decide +kernel
theorem dL_law_305 : decode code 305 = .ok (.iload_n 3, 1) := by decide +kernel
theorem dL_law_306 : decode code 306 = .ok (.iconst 1, 1) := by decide +kernel
theorem dL_law_307 : decode code 307 = .ok (.iadd, 1) := by decide +kernel
theorem dL_law_308 : decode code 308 = .ok (.iaload, 1) := by decide +kernel
theorem dL_law_309 : decode code 309 = .ok (.aload_n 0, 1) := by decide +kernel
theorem dL_law_310 : decode code 310 = .ok (.iload_n 3, 1) := by decide +kernel
theorem dL_law_311 : decode code 311 = .ok (.iconst 2, 1) := by decide +kernel
theorem dL_law_312 : decode code 312 = .ok (.iadd, 1) := by decide +kernel
theorem dL_law_313 : decode code 313 = .ok (.iaload, 1) := by decide +kernel
theorem dL_law_314 : decode code 314 = .ok (.invokevirtual 27, 3) := by decide +kernel
theorem dL_law_317 : decode code 317 = .ok (.aload_n 2, 1) := by decide +kernel
theorem dL_law_318 : decode code 318 = .ok (.aload_n 0, 1) := by decide +kernel
theorem dL_law_319 : decode code 319 = .ok (.iload_n 3, 1) := by decide +kernel
theorem dL_law_320 : decode code 320 = .ok (.iconst 1, 1) := by decide +kernel
theorem dL_law_321 : decode code 321 = .ok (.iadd, 1) := by decide +kernel
theorem dL_law_322 : decode code 322 = .ok (.iaload, 1) := by decide +kernel
theorem dL_law_323 : decode code 323 = .ok (.aload_n 0, 1) := by decide +kernel
theorem dL_law_324 : decode code 324 = .ok (.iload_n 3, 1) := by decide +kernel
theorem dL_law_325 : decode code 325 = .ok (.iconst 2, 1) := by decide +kernel
theorem dL_law_326 : decode code 326 = .ok (.iadd, 1) := by decide +kernel
theorem dL_law_327 : decode code 327 = .ok (.iaload, 1) := by decide +kernel
theorem dL_law_328 : decode code 328 = .ok (.invokevirtual 30, 3) := by decide +kernel
theorem dL_law_331 : decode code 331 = .ok (.if_icmp .eq 960, 3) := by decide +kernel
theorem dL_law_336 : decode code 336 = .ok (.aload_n 1, 1) := by decide +kernel
theorem dL_law_337 : decode code 337 = .ok (.aload_n 0, 1) := by decide +kernel
theorem dL_law_338 : decode code 338 = .ok (.iload_n 3, 1) := by decide +kernel
theorem dL_law_339 : decode code 339 = .ok (.iconst 1, 1) := by decide +kernel
theorem dL_law_340 : decode code 340 = .ok (.iadd, 1) := by decide +kernel
theorem dL_law_341 : decode code 341 = .ok (.iaload, 1) := by decide +kernel
theorem dL_law_342 : decode code 342 = .ok (.aload_n 0, 1) := by decide +kernel
theorem dL_law_343 : decode code 343 = .ok (.iload_n 3, 1) := by decide +kernel
theorem dL_law_344 : decode code 344 = .ok (.iconst 2, 1) := by decide +kernel
theorem dL_law_345 : decode code 345 = .ok (.iadd, 1) := by decide +kernel
theorem dL_law_346 : decode code 346 = .ok (.iaload, 1) := by decide +kernel
theorem dL_law_347 : decode code 347 = .ok (.invokevirtual 31, 3) := by decide +kernel
theorem dL_law_350 : decode code 350 = .ok (.aload_n 2, 1) := by decide +kernel
theorem dL_law_351 : decode code 351 = .ok (.aload_n 0, 1) := by decide +kernel
theorem dL_law_352 : decode code 352 = .ok (.iload_n 3, 1) := by decide +kernel
theorem dL_law_353 : decode code 353 = .ok (.iconst 1, 1) := by decide +kernel
theorem dL_law_354 : decode code 354 = .ok (.iadd, 1) := by decide +kernel
theorem dL_law_355 : decode code 355 = .ok (.iaload, 1) := by decide +kernel
theorem dL_law_356 : decode code 356 = .ok (.aload_n 0, 1) := by decide +kernel
theorem dL_law_357 : decode code 357 = .ok (.iload_n 3, 1) := by decide +kernel
theorem dL_law_358 : decode code 358 = .ok (.iconst 2, 1) := by decide +kernel
theorem dL_law_359 : decode code 359 = .ok (.iadd, 1) := by decide +kernel
theorem dL_law_360 : decode code 360 = .ok (.iaload, 1) := by decide +kernel
theorem dL_law_361 : decode code 361 = .ok (.invokevirtual 34, 3) := by decide +kernel
theorem dL_law_364 : decode code 364 = .ok (.if_icmp .eq 927, 3) := by decide +kernel
theorem dL_law_369 : decode code 369 = .ok (.aload_n 1, 1) := by decide +kernel
theorem dL_law_370 : decode code 370 = .ok (.aload_n 0, 1) := by decide +kernel
theorem dL_law_371 : decode code 371 = .ok (.iload_n 3, 1) := by decide +kernel
theorem dL_law_372 : decode code 372 = .ok (.iconst 1, 1) := by decide +kernel
theorem dL_law_373 : decode code 373 = .ok (.iadd, 1) := by decide +kernel
theorem dL_law_374 : decode code 374 = .ok (.iaload, 1) := by decide +kernel
theorem dL_law_375 : decode code 375 = .ok (.aload_n 0, 1) := by decide +kernel
theorem dL_law_376 : decode code 376 = .ok (.iload_n 3, 1) := by decide +kernel
theorem dL_law_377 : decode code 377 = .ok (.iconst 2, 1) := by decide +kernel
theorem dL_law_378 : decode code 378 = .ok (.iadd, 1) := by decide +kernel
theorem dL_law_379 : decode code 379 = .ok (.iaload, 1) := by decide +kernel
theorem dL_law_380 : decode code 380 = .ok (.invokevirtual 35, 3) := by decide +kernel
theorem dL_law_383 : decode code 383 = .ok (.aload_n 2, 1) := by decide +kernel
theorem dL_law_384 : decode code 384 = .ok (.aload_n 0, 1) := by decide +kernel
theorem dL_law_385 : decode code 385 = .ok (.iload_n 3, 1) := by decide +kernel
theorem dL_law_386 : decode code 386 = .ok (.iconst 1, 1) := by decide +kernel
theorem dL_law_387 : decode code 387 = .ok (.iadd, 1) := by decide +kernel
theorem dL_law_388 : decode code 388 = .ok (.iaload, 1) := by decide +kernel
theorem dL_law_389 : decode code 389 = .ok (.aload_n 0, 1) := by decide +kernel
theorem dL_law_390 : decode code 390 = .ok (.iload_n 3, 1) := by decide +kernel
theorem dL_law_391 : decode code 391 = .ok (.iconst 2, 1) := by decide +kernel
theorem dL_law_392 : decode code 392 = .ok (.iadd, 1) := by decide +kernel
theorem dL_law_393 : decode code 393 = .ok (.iaload, 1) := by decide +kernel
theorem dL_law_394 : decode code 394 = .ok (.invokevirtual 38, 3) := by decide +kernel
theorem dL_law_397 : decode code 397 = .ok (.if_icmp .eq 894, 3) := by decide +kernel
theorem dL_law_402 : decode code 402 = .ok (.aload_n 1, 1) := by decide +kernel
theorem dL_law_403 : decode code 403 = .ok (.aload_n 0, 1) := by decide +kernel
theorem dL_law_404 : decode code 404 = .ok (.iload_n 3, 1) := by decide +kernel
theorem dL_law_405 : decode code 405 = .ok (.iconst 1, 1) := by decide +kernel
theorem dL_law_406 : decode code 406 = .ok (.iadd, 1) := by decide +kernel
theorem dL_law_407 : decode code 407 = .ok (.iaload, 1) := by decide +kernel
theorem dL_law_408 : decode code 408 = .ok (.aload_n 0, 1) := by decide +kernel
theorem dL_law_409 : decode code 409 = .ok (.iload_n 3, 1) := by decide +kernel
theorem dL_law_410 : decode code 410 = .ok (.iconst 2, 1) := by decide +kernel
theorem dL_law_411 : decode code 411 = .ok (.iadd, 1) := by decide +kernel
theorem dL_law_412 : decode code 412 = .ok (.iaload, 1) := by decide +kernel
theorem dL_law_413 : decode code 413 = .ok (.invokevirtual 39, 3) := by decide +kernel
theorem dL_law_416 : decode code 416 = .ok (.aload_n 2, 1) := by decide +kernel
theorem dL_law_417 : decode code 417 = .ok (.aload_n 0, 1) := by decide +kernel
theorem dL_law_418 : decode code 418 = .ok (.iload_n 3, 1) := by decide +kernel
theorem dL_law_419 : decode code 419 = .ok (.iconst 1, 1) := by decide +kernel
theorem dL_law_420 : decode code 420 = .ok (.iadd, 1) := by decide +kernel
theorem dL_law_421 : decode code 421 = .ok (.iaload, 1) := by decide +kernel
theorem dL_law_422 : decode code 422 = .ok (.aload_n 0, 1) := by decide +kernel
theorem dL_law_423 : decode code 423 = .ok (.iload_n 3, 1) := by decide +kernel
theorem dL_law_424 : decode code 424 = .ok (.iconst 2, 1) := by decide +kernel
theorem dL_law_425 : decode code 425 = .ok (.iadd, 1) := by decide +kernel
theorem dL_law_426 : decode code 426 = .ok (.iaload, 1) := by decide +kernel
theorem dL_law_427 : decode code 427 = .ok (.invokevirtual 43, 3) := by decide +kernel
theorem dL_law_430 : decode code 430 = .ok (.lcmp, 1) := by decide +kernel
theorem dL_law_431 : decode code 431 = .ok (.ifCond .eq 860, 3) := by decide +kernel
theorem dL_law_436 : decode code 436 = .ok (.aload_n 1, 1) := by decide +kernel
theorem dL_law_437 : decode code 437 = .ok (.aload_n 0, 1) := by decide +kernel
theorem dL_law_438 : decode code 438 = .ok (.iload_n 3, 1) := by decide +kernel
theorem dL_law_439 : decode code 439 = .ok (.iconst 1, 1) := by decide +kernel
theorem dL_law_440 : decode code 440 = .ok (.iadd, 1) := by decide +kernel
theorem dL_law_441 : decode code 441 = .ok (.iaload, 1) := by decide +kernel
theorem dL_law_442 : decode code 442 = .ok (.aload_n 0, 1) := by decide +kernel
theorem dL_law_443 : decode code 443 = .ok (.iload_n 3, 1) := by decide +kernel
theorem dL_law_444 : decode code 444 = .ok (.iconst 2, 1) := by decide +kernel
theorem dL_law_445 : decode code 445 = .ok (.iadd, 1) := by decide +kernel
theorem dL_law_446 : decode code 446 = .ok (.iaload, 1) := by decide +kernel
theorem dL_law_447 : decode code 447 = .ok (.aload_n 0, 1) := by decide +kernel
theorem dL_law_448 : decode code 448 = .ok (.iload_n 3, 1) := by decide +kernel
theorem dL_law_449 : decode code 449 = .ok (.iconst 3, 1) := by decide +kernel
theorem dL_law_450 : decode code 450 = .ok (.iadd, 1) := by decide +kernel
theorem dL_law_451 : decode code 451 = .ok (.iaload, 1) := by decide +kernel
theorem dL_law_452 : decode code 452 = .ok (.invokevirtual 44, 3) := by decide +kernel
theorem dL_law_455 : decode code 455 = .ok (.aload_n 2, 1) := by decide +kernel
theorem dL_law_456 : decode code 456 = .ok (.aload_n 0, 1) := by decide +kernel
theorem dL_law_457 : decode code 457 = .ok (.iload_n 3, 1) := by decide +kernel
theorem dL_law_458 : decode code 458 = .ok (.iconst 1, 1) := by decide +kernel
theorem dL_law_459 : decode code 459 = .ok (.iadd, 1) := by decide +kernel
theorem dL_law_460 : decode code 460 = .ok (.iaload, 1) := by decide +kernel
theorem dL_law_461 : decode code 461 = .ok (.aload_n 0, 1) := by decide +kernel
theorem dL_law_462 : decode code 462 = .ok (.iload_n 3, 1) := by decide +kernel
theorem dL_law_463 : decode code 463 = .ok (.iconst 2, 1) := by decide +kernel
theorem dL_law_464 : decode code 464 = .ok (.iadd, 1) := by decide +kernel
theorem dL_law_465 : decode code 465 = .ok (.iaload, 1) := by decide +kernel
theorem dL_law_466 : decode code 466 = .ok (.aload_n 0, 1) := by decide +kernel
theorem dL_law_467 : decode code 467 = .ok (.iload_n 3, 1) := by decide +kernel
theorem dL_law_468 : decode code 468 = .ok (.iconst 3, 1) := by decide +kernel
theorem dL_law_469 : decode code 469 = .ok (.iadd, 1) := by decide +kernel
theorem dL_law_470 : decode code 470 = .ok (.iaload, 1) := by decide +kernel
theorem dL_law_471 : decode code 471 = .ok (.invokevirtual 48, 3) := by decide +kernel
theorem dL_law_474 : decode code 474 = .ok (.lcmp, 1) := by decide +kernel
theorem dL_law_475 : decode code 475 = .ok (.ifCond .eq 816, 3) := by decide +kernel
theorem dL_law_480 : decode code 480 = .ok (.aload_n 1, 1) := by decide +kernel
theorem dL_law_481 : decode code 481 = .ok (.aload_n 0, 1) := by decide +kernel
theorem dL_law_482 : decode code 482 = .ok (.iload_n 3, 1) := by decide +kernel
theorem dL_law_483 : decode code 483 = .ok (.iconst 1, 1) := by decide +kernel
theorem dL_law_484 : decode code 484 = .ok (.iadd, 1) := by decide +kernel
theorem dL_law_485 : decode code 485 = .ok (.iaload, 1) := by decide +kernel
theorem dL_law_486 : decode code 486 = .ok (.invokevirtual 49, 3) := by decide +kernel
theorem dL_law_489 : decode code 489 = .ok (.aload_n 2, 1) := by decide +kernel
theorem dL_law_490 : decode code 490 = .ok (.aload_n 0, 1) := by decide +kernel
theorem dL_law_491 : decode code 491 = .ok (.iload_n 3, 1) := by decide +kernel
theorem dL_law_492 : decode code 492 = .ok (.iconst 1, 1) := by decide +kernel
theorem dL_law_493 : decode code 493 = .ok (.iadd, 1) := by decide +kernel
theorem dL_law_494 : decode code 494 = .ok (.iaload, 1) := by decide +kernel
theorem dL_law_495 : decode code 495 = .ok (.invokevirtual 53, 3) := by decide +kernel
theorem dL_law_498 : decode code 498 = .ok (.if_icmp .eq 793, 3) := by decide +kernel
theorem dL_law_503 : decode code 503 = .ok (.aload_n 1, 1) := by decide +kernel
theorem dL_law_504 : decode code 504 = .ok (.aload_n 0, 1) := by decide +kernel
theorem dL_law_505 : decode code 505 = .ok (.iload_n 3, 1) := by decide +kernel
theorem dL_law_506 : decode code 506 = .ok (.iconst 1, 1) := by decide +kernel
theorem dL_law_507 : decode code 507 = .ok (.iadd, 1) := by decide +kernel
theorem dL_law_508 : decode code 508 = .ok (.iaload, 1) := by decide +kernel
theorem dL_law_509 : decode code 509 = .ok (.aload_n 0, 1) := by decide +kernel
theorem dL_law_510 : decode code 510 = .ok (.iload_n 3, 1) := by decide +kernel
theorem dL_law_511 : decode code 511 = .ok (.iconst 2, 1) := by decide +kernel
theorem dL_law_512 : decode code 512 = .ok (.iadd, 1) := by decide +kernel
theorem dL_law_513 : decode code 513 = .ok (.iaload, 1) := by decide +kernel
theorem dL_law_514 : decode code 514 = .ok (.invokevirtual 54, 3) := by decide +kernel
theorem dL_law_517 : decode code 517 = .ok (.aload_n 2, 1) := by decide +kernel
theorem dL_law_518 : decode code 518 = .ok (.aload_n 0, 1) := by decide +kernel
theorem dL_law_519 : decode code 519 = .ok (.iload_n 3, 1) := by decide +kernel
theorem dL_law_520 : decode code 520 = .ok (.iconst 1, 1) := by decide +kernel
theorem dL_law_521 : decode code 521 = .ok (.iadd, 1) := by decide +kernel
theorem dL_law_522 : decode code 522 = .ok (.iaload, 1) := by decide +kernel
theorem dL_law_523 : decode code 523 = .ok (.aload_n 0, 1) := by decide +kernel
theorem dL_law_524 : decode code 524 = .ok (.iload_n 3, 1) := by decide +kernel
theorem dL_law_525 : decode code 525 = .ok (.iconst 2, 1) := by decide +kernel
theorem dL_law_526 : decode code 526 = .ok (.iadd, 1) := by decide +kernel
theorem dL_law_527 : decode code 527 = .ok (.iaload, 1) := by decide +kernel
theorem dL_law_528 : decode code 528 = .ok (.invokevirtual 57, 3) := by decide +kernel
theorem dL_law_531 : decode code 531 = .ok (.if_icmp .eq 760, 3) := by decide +kernel
theorem dL_law_536 : decode code 536 = .ok (.aload_n 1, 1) := by decide +kernel
theorem dL_law_537 : decode code 537 = .ok (.invokevirtual 58, 3) := by decide +kernel
theorem dL_law_540 : decode code 540 = .ok (.aload_n 2, 1) := by decide +kernel
theorem dL_law_541 : decode code 541 = .ok (.invokevirtual 62, 3) := by decide +kernel
theorem dL_law_544 : decode code 544 = .ok (.if_icmp .eq 747, 3) := by decide +kernel
theorem dL_law_549 : decode code 549 = .ok (.aload_n 1, 1) := by decide +kernel
theorem dL_law_550 : decode code 550 = .ok (.aload_n 0, 1) := by decide +kernel
theorem dL_law_551 : decode code 551 = .ok (.iload_n 3, 1) := by decide +kernel
theorem dL_law_552 : decode code 552 = .ok (.iconst 1, 1) := by decide +kernel
theorem dL_law_553 : decode code 553 = .ok (.iadd, 1) := by decide +kernel
theorem dL_law_554 : decode code 554 = .ok (.iaload, 1) := by decide +kernel
theorem dL_law_555 : decode code 555 = .ok (.invokevirtual 63, 3) := by decide +kernel
theorem dL_law_558 : decode code 558 = .ok (.aload_n 2, 1) := by decide +kernel
theorem dL_law_559 : decode code 559 = .ok (.aload_n 0, 1) := by decide +kernel
theorem dL_law_560 : decode code 560 = .ok (.iload_n 3, 1) := by decide +kernel
theorem dL_law_561 : decode code 561 = .ok (.iconst 1, 1) := by decide +kernel
theorem dL_law_562 : decode code 562 = .ok (.iadd, 1) := by decide +kernel
theorem dL_law_563 : decode code 563 = .ok (.iaload, 1) := by decide +kernel
theorem dL_law_564 : decode code 564 = .ok (.invokevirtual 66, 3) := by decide +kernel
theorem dL_law_567 : decode code 567 = .ok (.if_icmp .eq 724, 3) := by decide +kernel
theorem dL_law_572 : decode code 572 = .ok (.aload_n 1, 1) := by decide +kernel
theorem dL_law_573 : decode code 573 = .ok (.aload_n 0, 1) := by decide +kernel
theorem dL_law_574 : decode code 574 = .ok (.iload_n 3, 1) := by decide +kernel
theorem dL_law_575 : decode code 575 = .ok (.iconst 1, 1) := by decide +kernel
theorem dL_law_576 : decode code 576 = .ok (.iadd, 1) := by decide +kernel
theorem dL_law_577 : decode code 577 = .ok (.iaload, 1) := by decide +kernel
theorem dL_law_578 : decode code 578 = .ok (.aload_n 0, 1) := by decide +kernel
theorem dL_law_579 : decode code 579 = .ok (.iload_n 3, 1) := by decide +kernel
theorem dL_law_580 : decode code 580 = .ok (.iconst 2, 1) := by decide +kernel
theorem dL_law_581 : decode code 581 = .ok (.iadd, 1) := by decide +kernel
theorem dL_law_582 : decode code 582 = .ok (.iaload, 1) := by decide +kernel
theorem dL_law_583 : decode code 583 = .ok (.invokevirtual 67, 3) := by decide +kernel
theorem dL_law_586 : decode code 586 = .ok (.aload_n 2, 1) := by decide +kernel
theorem dL_law_587 : decode code 587 = .ok (.aload_n 0, 1) := by decide +kernel
theorem dL_law_588 : decode code 588 = .ok (.iload_n 3, 1) := by decide +kernel
theorem dL_law_589 : decode code 589 = .ok (.iconst 1, 1) := by decide +kernel
theorem dL_law_590 : decode code 590 = .ok (.iadd, 1) := by decide +kernel
theorem dL_law_591 : decode code 591 = .ok (.iaload, 1) := by decide +kernel
theorem dL_law_592 : decode code 592 = .ok (.aload_n 0, 1) := by decide +kernel
theorem dL_law_593 : decode code 593 = .ok (.iload_n 3, 1) := by decide +kernel
theorem dL_law_594 : decode code 594 = .ok (.iconst 2, 1) := by decide +kernel
theorem dL_law_595 : decode code 595 = .ok (.iadd, 1) := by decide +kernel
theorem dL_law_596 : decode code 596 = .ok (.iaload, 1) := by decide +kernel
theorem dL_law_597 : decode code 597 = .ok (.invokevirtual 70, 3) := by decide +kernel
theorem dL_law_600 : decode code 600 = .ok (.lcmp, 1) := by decide +kernel
theorem dL_law_601 : decode code 601 = .ok (.ifCond .eq 690, 3) := by decide +kernel
theorem dL_law_606 : decode code 606 = .ok (.aload_n 1, 1) := by decide +kernel
theorem dL_law_607 : decode code 607 = .ok (.aload_n 0, 1) := by decide +kernel
theorem dL_law_608 : decode code 608 = .ok (.iload_n 3, 1) := by decide +kernel
theorem dL_law_609 : decode code 609 = .ok (.iconst 1, 1) := by decide +kernel
theorem dL_law_610 : decode code 610 = .ok (.iadd, 1) := by decide +kernel
theorem dL_law_611 : decode code 611 = .ok (.iaload, 1) := by decide +kernel
theorem dL_law_612 : decode code 612 = .ok (.invokevirtual 71, 3) := by decide +kernel
theorem dL_law_615 : decode code 615 = .ok (.aload_n 2, 1) := by decide +kernel
theorem dL_law_616 : decode code 616 = .ok (.aload_n 0, 1) := by decide +kernel
theorem dL_law_617 : decode code 617 = .ok (.iload_n 3, 1) := by decide +kernel
theorem dL_law_618 : decode code 618 = .ok (.iconst 1, 1) := by decide +kernel
theorem dL_law_619 : decode code 619 = .ok (.iadd, 1) := by decide +kernel
theorem dL_law_620 : decode code 620 = .ok (.iaload, 1) := by decide +kernel
theorem dL_law_621 : decode code 621 = .ok (.invokevirtual 74, 3) := by decide +kernel
theorem dL_law_624 : decode code 624 = .ok (.if_icmp .eq 667, 3) := by decide +kernel
theorem dL_law_629 : decode code 629 = .ok (.aload_n 1, 1) := by decide +kernel
theorem dL_law_630 : decode code 630 = .ok (.aload_n 0, 1) := by decide +kernel
theorem dL_law_631 : decode code 631 = .ok (.iload_n 3, 1) := by decide +kernel
theorem dL_law_632 : decode code 632 = .ok (.iconst 1, 1) := by decide +kernel
theorem dL_law_633 : decode code 633 = .ok (.iadd, 1) := by decide +kernel
theorem dL_law_634 : decode code 634 = .ok (.iaload, 1) := by decide +kernel
theorem dL_law_635 : decode code 635 = .ok (.aload_n 0, 1) := by decide +kernel
theorem dL_law_636 : decode code 636 = .ok (.iload_n 3, 1) := by decide +kernel
theorem dL_law_637 : decode code 637 = .ok (.iconst 2, 1) := by decide +kernel
theorem dL_law_638 : decode code 638 = .ok (.iadd, 1) := by decide +kernel
theorem dL_law_639 : decode code 639 = .ok (.iaload, 1) := by decide +kernel
theorem dL_law_640 : decode code 640 = .ok (.invokevirtual 75, 3) := by decide +kernel
theorem dL_law_643 : decode code 643 = .ok (.aload_n 2, 1) := by decide +kernel
theorem dL_law_644 : decode code 644 = .ok (.aload_n 0, 1) := by decide +kernel
theorem dL_law_645 : decode code 645 = .ok (.iload_n 3, 1) := by decide +kernel
theorem dL_law_646 : decode code 646 = .ok (.iconst 1, 1) := by decide +kernel
theorem dL_law_647 : decode code 647 = .ok (.iadd, 1) := by decide +kernel
theorem dL_law_648 : decode code 648 = .ok (.iaload, 1) := by decide +kernel
theorem dL_law_649 : decode code 649 = .ok (.aload_n 0, 1) := by decide +kernel
theorem dL_law_650 : decode code 650 = .ok (.iload_n 3, 1) := by decide +kernel
theorem dL_law_651 : decode code 651 = .ok (.iconst 2, 1) := by decide +kernel
theorem dL_law_652 : decode code 652 = .ok (.iadd, 1) := by decide +kernel
theorem dL_law_653 : decode code 653 = .ok (.iaload, 1) := by decide +kernel
theorem dL_law_654 : decode code 654 = .ok (.invokevirtual 78, 3) := by decide +kernel
theorem dL_law_657 : decode code 657 = .ok (.if_icmp .eq 634, 3) := by decide +kernel
theorem dL_law_662 : decode code 662 = .ok (.aload_n 1, 1) := by decide +kernel
theorem dL_law_663 : decode code 663 = .ok (.aload_n 0, 1) := by decide +kernel
theorem dL_law_664 : decode code 664 = .ok (.iload_n 3, 1) := by decide +kernel
theorem dL_law_665 : decode code 665 = .ok (.iconst 1, 1) := by decide +kernel
theorem dL_law_666 : decode code 666 = .ok (.iadd, 1) := by decide +kernel
theorem dL_law_667 : decode code 667 = .ok (.iaload, 1) := by decide +kernel
theorem dL_law_668 : decode code 668 = .ok (.invokevirtual 79, 3) := by decide +kernel
theorem dL_law_671 : decode code 671 = .ok (.aload_n 2, 1) := by decide +kernel
theorem dL_law_672 : decode code 672 = .ok (.aload_n 0, 1) := by decide +kernel
theorem dL_law_673 : decode code 673 = .ok (.iload_n 3, 1) := by decide +kernel
theorem dL_law_674 : decode code 674 = .ok (.iconst 1, 1) := by decide +kernel
theorem dL_law_675 : decode code 675 = .ok (.iadd, 1) := by decide +kernel
theorem dL_law_676 : decode code 676 = .ok (.iaload, 1) := by decide +kernel
theorem dL_law_677 : decode code 677 = .ok (.invokevirtual 82, 3) := by decide +kernel
theorem dL_law_680 : decode code 680 = .ok (.if_icmp .eq 611, 3) := by decide +kernel
theorem dL_law_685 : decode code 685 = .ok (.aload_n 1, 1) := by decide +kernel
theorem dL_law_686 : decode code 686 = .ok (.aload_n 0, 1) := by decide +kernel
theorem dL_law_687 : decode code 687 = .ok (.iload_n 3, 1) := by decide +kernel
theorem dL_law_688 : decode code 688 = .ok (.iconst 1, 1) := by decide +kernel
theorem dL_law_689 : decode code 689 = .ok (.iadd, 1) := by decide +kernel
theorem dL_law_690 : decode code 690 = .ok (.iaload, 1) := by decide +kernel
theorem dL_law_691 : decode code 691 = .ok (.aload_n 0, 1) := by decide +kernel
theorem dL_law_692 : decode code 692 = .ok (.iload_n 3, 1) := by decide +kernel
theorem dL_law_693 : decode code 693 = .ok (.iconst 2, 1) := by decide +kernel
theorem dL_law_694 : decode code 694 = .ok (.iadd, 1) := by decide +kernel
theorem dL_law_695 : decode code 695 = .ok (.iaload, 1) := by decide +kernel
theorem dL_law_696 : decode code 696 = .ok (.invokevirtual 83, 3) := by decide +kernel
theorem dL_law_699 : decode code 699 = .ok (.aload_n 2, 1) := by decide +kernel
theorem dL_law_700 : decode code 700 = .ok (.aload_n 0, 1) := by decide +kernel
theorem dL_law_701 : decode code 701 = .ok (.iload_n 3, 1) := by decide +kernel
theorem dL_law_702 : decode code 702 = .ok (.iconst 1, 1) := by decide +kernel
theorem dL_law_703 : decode code 703 = .ok (.iadd, 1) := by decide +kernel
theorem dL_law_704 : decode code 704 = .ok (.iaload, 1) := by decide +kernel
theorem dL_law_705 : decode code 705 = .ok (.aload_n 0, 1) := by decide +kernel
theorem dL_law_706 : decode code 706 = .ok (.iload_n 3, 1) := by decide +kernel
theorem dL_law_707 : decode code 707 = .ok (.iconst 2, 1) := by decide +kernel
theorem dL_law_708 : decode code 708 = .ok (.iadd, 1) := by decide +kernel
theorem dL_law_709 : decode code 709 = .ok (.iaload, 1) := by decide +kernel
theorem dL_law_710 : decode code 710 = .ok (.invokevirtual 86, 3) := by decide +kernel
theorem dL_law_713 : decode code 713 = .ok (.lcmp, 1) := by decide +kernel
theorem dL_law_714 : decode code 714 = .ok (.ifCond .eq 577, 3) := by decide +kernel
theorem dL_law_719 : decode code 719 = .ok (.aload_n 1, 1) := by decide +kernel
theorem dL_law_720 : decode code 720 = .ok (.aload_n 0, 1) := by decide +kernel
theorem dL_law_721 : decode code 721 = .ok (.iload_n 3, 1) := by decide +kernel
theorem dL_law_722 : decode code 722 = .ok (.iconst 1, 1) := by decide +kernel
theorem dL_law_723 : decode code 723 = .ok (.iadd, 1) := by decide +kernel
theorem dL_law_724 : decode code 724 = .ok (.iaload, 1) := by decide +kernel
theorem dL_law_725 : decode code 725 = .ok (.aload_n 0, 1) := by decide +kernel
theorem dL_law_726 : decode code 726 = .ok (.iload_n 3, 1) := by decide +kernel
theorem dL_law_727 : decode code 727 = .ok (.iconst 2, 1) := by decide +kernel
theorem dL_law_728 : decode code 728 = .ok (.iadd, 1) := by decide +kernel
theorem dL_law_729 : decode code 729 = .ok (.iaload, 1) := by decide +kernel
theorem dL_law_730 : decode code 730 = .ok (.invokevirtual 87, 3) := by decide +kernel
theorem dL_law_733 : decode code 733 = .ok (.aload_n 2, 1) := by decide +kernel
theorem dL_law_734 : decode code 734 = .ok (.aload_n 0, 1) := by decide +kernel
theorem dL_law_735 : decode code 735 = .ok (.iload_n 3, 1) := by decide +kernel
theorem dL_law_736 : decode code 736 = .ok (.iconst 1, 1) := by decide +kernel
theorem dL_law_737 : decode code 737 = .ok (.iadd, 1) := by decide +kernel
theorem dL_law_738 : decode code 738 = .ok (.iaload, 1) := by decide +kernel
theorem dL_law_739 : decode code 739 = .ok (.aload_n 0, 1) := by decide +kernel
theorem dL_law_740 : decode code 740 = .ok (.iload_n 3, 1) := by decide +kernel
theorem dL_law_741 : decode code 741 = .ok (.iconst 2, 1) := by decide +kernel
theorem dL_law_742 : decode code 742 = .ok (.iadd, 1) := by decide +kernel
theorem dL_law_743 : decode code 743 = .ok (.iaload, 1) := by decide +kernel
theorem dL_law_744 : decode code 744 = .ok (.invokevirtual 90, 3) := by decide +kernel
theorem dL_law_747 : decode code 747 = .ok (.if_icmp .eq 544, 3) := by decide +kernel
theorem dL_law_752 : decode code 752 = .ok (.aload_n 1, 1) := by decide +kernel
theorem dL_law_753 : decode code 753 = .ok (.aload_n 0, 1) := by decide +kernel
theorem dL_law_754 : decode code 754 = .ok (.iload_n 3, 1) := by decide +kernel
theorem dL_law_755 : decode code 755 = .ok (.iconst 1, 1) := by decide +kernel
theorem dL_law_756 : decode code 756 = .ok (.iadd, 1) := by decide +kernel
theorem dL_law_757 : decode code 757 = .ok (.iaload, 1) := by decide +kernel
theorem dL_law_758 : decode code 758 = .ok (.invokevirtual 91, 3) := by decide +kernel
theorem dL_law_761 : decode code 761 = .ok (.aload_n 2, 1) := by decide +kernel
theorem dL_law_762 : decode code 762 = .ok (.aload_n 0, 1) := by decide +kernel
theorem dL_law_763 : decode code 763 = .ok (.iload_n 3, 1) := by decide +kernel
theorem dL_law_764 : decode code 764 = .ok (.iconst 1, 1) := by decide +kernel
theorem dL_law_765 : decode code 765 = .ok (.iadd, 1) := by decide +kernel
theorem dL_law_766 : decode code 766 = .ok (.iaload, 1) := by decide +kernel
theorem dL_law_767 : decode code 767 = .ok (.invokevirtual 94, 3) := by decide +kernel
theorem dL_law_770 : decode code 770 = .ok (.if_icmp .eq 521, 3) := by decide +kernel
theorem dL_law_775 : decode code 775 = .ok (.aload_n 1, 1) := by decide +kernel
theorem dL_law_776 : decode code 776 = .ok (.aload_n 0, 1) := by decide +kernel
theorem dL_law_777 : decode code 777 = .ok (.iload_n 3, 1) := by decide +kernel
theorem dL_law_778 : decode code 778 = .ok (.iconst 1, 1) := by decide +kernel
theorem dL_law_779 : decode code 779 = .ok (.iadd, 1) := by decide +kernel
theorem dL_law_780 : decode code 780 = .ok (.iaload, 1) := by decide +kernel
theorem dL_law_781 : decode code 781 = .ok (.aload_n 0, 1) := by decide +kernel
theorem dL_law_782 : decode code 782 = .ok (.iload_n 3, 1) := by decide +kernel
theorem dL_law_783 : decode code 783 = .ok (.iconst 2, 1) := by decide +kernel
theorem dL_law_784 : decode code 784 = .ok (.iadd, 1) := by decide +kernel
theorem dL_law_785 : decode code 785 = .ok (.iaload, 1) := by decide +kernel
theorem dL_law_786 : decode code 786 = .ok (.invokevirtual 95, 3) := by decide +kernel
theorem dL_law_789 : decode code 789 = .ok (.aload_n 2, 1) := by decide +kernel
theorem dL_law_790 : decode code 790 = .ok (.aload_n 0, 1) := by decide +kernel
theorem dL_law_791 : decode code 791 = .ok (.iload_n 3, 1) := by decide +kernel
theorem dL_law_792 : decode code 792 = .ok (.iconst 1, 1) := by decide +kernel
theorem dL_law_793 : decode code 793 = .ok (.iadd, 1) := by decide +kernel
theorem dL_law_794 : decode code 794 = .ok (.iaload, 1) := by decide +kernel
theorem dL_law_795 : decode code 795 = .ok (.aload_n 0, 1) := by decide +kernel
theorem dL_law_796 : decode code 796 = .ok (.iload_n 3, 1) := by decide +kernel
theorem dL_law_797 : decode code 797 = .ok (.iconst 2, 1) := by decide +kernel
theorem dL_law_798 : decode code 798 = .ok (.iadd, 1) := by decide +kernel
theorem dL_law_799 : decode code 799 = .ok (.iaload, 1) := by decide +kernel
theorem dL_law_800 : decode code 800 = .ok (.invokevirtual 98, 3) := by decide +kernel
theorem dL_law_803 : decode code 803 = .ok (.if_icmp .eq 488, 3) := by decide +kernel
theorem dL_law_808 : decode code 808 = .ok (.aload_n 1, 1) := by decide +kernel
theorem dL_law_809 : decode code 809 = .ok (.aload_n 0, 1) := by decide +kernel
theorem dL_law_810 : decode code 810 = .ok (.iload_n 3, 1) := by decide +kernel
theorem dL_law_811 : decode code 811 = .ok (.iconst 1, 1) := by decide +kernel
theorem dL_law_812 : decode code 812 = .ok (.iadd, 1) := by decide +kernel
theorem dL_law_813 : decode code 813 = .ok (.iaload, 1) := by decide +kernel
theorem dL_law_814 : decode code 814 = .ok (.invokevirtual 99, 3) := by decide +kernel
theorem dL_law_817 : decode code 817 = .ok (.aload_n 2, 1) := by decide +kernel
theorem dL_law_818 : decode code 818 = .ok (.aload_n 0, 1) := by decide +kernel
theorem dL_law_819 : decode code 819 = .ok (.iload_n 3, 1) := by decide +kernel
theorem dL_law_820 : decode code 820 = .ok (.iconst 1, 1) := by decide +kernel
theorem dL_law_821 : decode code 821 = .ok (.iadd, 1) := by decide +kernel
theorem dL_law_822 : decode code 822 = .ok (.iaload, 1) := by decide +kernel
theorem dL_law_823 : decode code 823 = .ok (.invokevirtual 102, 3) := by decide +kernel
theorem dL_law_826 : decode code 826 = .ok (.if_icmp .eq 465, 3) := by decide +kernel
theorem dL_law_831 : decode code 831 = .ok (.aload_n 1, 1) := by decide +kernel
theorem dL_law_832 : decode code 832 = .ok (.aload_n 0, 1) := by decide +kernel
theorem dL_law_833 : decode code 833 = .ok (.iload_n 3, 1) := by decide +kernel
theorem dL_law_834 : decode code 834 = .ok (.iconst 1, 1) := by decide +kernel
theorem dL_law_835 : decode code 835 = .ok (.iadd, 1) := by decide +kernel
theorem dL_law_836 : decode code 836 = .ok (.iaload, 1) := by decide +kernel
theorem dL_law_837 : decode code 837 = .ok (.invokevirtual 103, 3) := by decide +kernel
theorem dL_law_840 : decode code 840 = .ok (.aload_n 2, 1) := by decide +kernel
theorem dL_law_841 : decode code 841 = .ok (.aload_n 0, 1) := by decide +kernel
theorem dL_law_842 : decode code 842 = .ok (.iload_n 3, 1) := by decide +kernel
theorem dL_law_843 : decode code 843 = .ok (.iconst 1, 1) := by decide +kernel
theorem dL_law_844 : decode code 844 = .ok (.iadd, 1) := by decide +kernel
theorem dL_law_845 : decode code 845 = .ok (.iaload, 1) := by decide +kernel
theorem dL_law_846 : decode code 846 = .ok (.invokevirtual 106, 3) := by decide +kernel
theorem dL_law_849 : decode code 849 = .ok (.if_icmp .eq 442, 3) := by decide +kernel
theorem dL_law_854 : decode code 854 = .ok (.aload_n 1, 1) := by decide +kernel
theorem dL_law_855 : decode code 855 = .ok (.aload_n 0, 1) := by decide +kernel
theorem dL_law_856 : decode code 856 = .ok (.iload_n 3, 1) := by decide +kernel
theorem dL_law_857 : decode code 857 = .ok (.iconst 1, 1) := by decide +kernel
theorem dL_law_858 : decode code 858 = .ok (.iadd, 1) := by decide +kernel
theorem dL_law_859 : decode code 859 = .ok (.iaload, 1) := by decide +kernel
theorem dL_law_860 : decode code 860 = .ok (.invokevirtual 107, 3) := by decide +kernel
theorem dL_law_863 : decode code 863 = .ok (.aload_n 2, 1) := by decide +kernel
theorem dL_law_864 : decode code 864 = .ok (.aload_n 0, 1) := by decide +kernel
theorem dL_law_865 : decode code 865 = .ok (.iload_n 3, 1) := by decide +kernel
theorem dL_law_866 : decode code 866 = .ok (.iconst 1, 1) := by decide +kernel
theorem dL_law_867 : decode code 867 = .ok (.iadd, 1) := by decide +kernel
theorem dL_law_868 : decode code 868 = .ok (.iaload, 1) := by decide +kernel
theorem dL_law_869 : decode code 869 = .ok (.invokevirtual 110, 3) := by decide +kernel
theorem dL_law_872 : decode code 872 = .ok (.if_icmp .eq 419, 3) := by decide +kernel
theorem dL_law_877 : decode code 877 = .ok (.aload_n 1, 1) := by decide +kernel
theorem dL_law_878 : decode code 878 = .ok (.aload_n 0, 1) := by decide +kernel
theorem dL_law_879 : decode code 879 = .ok (.iload_n 3, 1) := by decide +kernel
theorem dL_law_880 : decode code 880 = .ok (.iconst 1, 1) := by decide +kernel
theorem dL_law_881 : decode code 881 = .ok (.iadd, 1) := by decide +kernel
theorem dL_law_882 : decode code 882 = .ok (.iaload, 1) := by decide +kernel
theorem dL_law_883 : decode code 883 = .ok (.aload_n 0, 1) := by decide +kernel
theorem dL_law_884 : decode code 884 = .ok (.iload_n 3, 1) := by decide +kernel
theorem dL_law_885 : decode code 885 = .ok (.iconst 2, 1) := by decide +kernel
theorem dL_law_886 : decode code 886 = .ok (.iadd, 1) := by decide +kernel
theorem dL_law_887 : decode code 887 = .ok (.iaload, 1) := by decide +kernel
theorem dL_law_888 : decode code 888 = .ok (.invokevirtual 111, 3) := by decide +kernel
theorem dL_law_891 : decode code 891 = .ok (.aload_n 2, 1) := by decide +kernel
theorem dL_law_892 : decode code 892 = .ok (.aload_n 0, 1) := by decide +kernel
theorem dL_law_893 : decode code 893 = .ok (.iload_n 3, 1) := by decide +kernel
theorem dL_law_894 : decode code 894 = .ok (.iconst 1, 1) := by decide +kernel
theorem dL_law_895 : decode code 895 = .ok (.iadd, 1) := by decide +kernel
theorem dL_law_896 : decode code 896 = .ok (.iaload, 1) := by decide +kernel
theorem dL_law_897 : decode code 897 = .ok (.aload_n 0, 1) := by decide +kernel
theorem dL_law_898 : decode code 898 = .ok (.iload_n 3, 1) := by decide +kernel
theorem dL_law_899 : decode code 899 = .ok (.iconst 2, 1) := by decide +kernel
theorem dL_law_900 : decode code 900 = .ok (.iadd, 1) := by decide +kernel
theorem dL_law_901 : decode code 901 = .ok (.iaload, 1) := by decide +kernel
theorem dL_law_902 : decode code 902 = .ok (.invokevirtual 114, 3) := by decide +kernel
theorem dL_law_905 : decode code 905 = .ok (.if_icmp .eq 386, 3) := by decide +kernel
theorem dL_law_910 : decode code 910 = .ok (.aload_n 1, 1) := by decide +kernel
theorem dL_law_911 : decode code 911 = .ok (.aload_n 0, 1) := by decide +kernel
theorem dL_law_912 : decode code 912 = .ok (.iload_n 3, 1) := by decide +kernel
theorem dL_law_913 : decode code 913 = .ok (.iconst 1, 1) := by decide +kernel
theorem dL_law_914 : decode code 914 = .ok (.iadd, 1) := by decide +kernel
theorem dL_law_915 : decode code 915 = .ok (.iaload, 1) := by decide +kernel
theorem dL_law_916 : decode code 916 = .ok (.invokevirtual 115, 3) := by decide +kernel
theorem dL_law_919 : decode code 919 = .ok (.aload_n 2, 1) := by decide +kernel
theorem dL_law_920 : decode code 920 = .ok (.aload_n 0, 1) := by decide +kernel
theorem dL_law_921 : decode code 921 = .ok (.iload_n 3, 1) := by decide +kernel
theorem dL_law_922 : decode code 922 = .ok (.iconst 1, 1) := by decide +kernel
theorem dL_law_923 : decode code 923 = .ok (.iadd, 1) := by decide +kernel
theorem dL_law_924 : decode code 924 = .ok (.iaload, 1) := by decide +kernel
theorem dL_law_925 : decode code 925 = .ok (.invokevirtual 118, 3) := by decide +kernel
theorem dL_law_928 : decode code 928 = .ok (.if_icmp .eq 363, 3) := by decide +kernel
theorem dL_law_933 : decode code 933 = .ok (.aload_n 1, 1) := by decide +kernel
theorem dL_law_934 : decode code 934 = .ok (.aload_n 0, 1) := by decide +kernel
theorem dL_law_935 : decode code 935 = .ok (.iload_n 3, 1) := by decide +kernel
theorem dL_law_936 : decode code 936 = .ok (.iconst 1, 1) := by decide +kernel
theorem dL_law_937 : decode code 937 = .ok (.iadd, 1) := by decide +kernel
theorem dL_law_938 : decode code 938 = .ok (.iaload, 1) := by decide +kernel
theorem dL_law_939 : decode code 939 = .ok (.aload_n 0, 1) := by decide +kernel
theorem dL_law_940 : decode code 940 = .ok (.iload_n 3, 1) := by decide +kernel
theorem dL_law_941 : decode code 941 = .ok (.iconst 2, 1) := by decide +kernel
theorem dL_law_942 : decode code 942 = .ok (.iadd, 1) := by decide +kernel
theorem dL_law_943 : decode code 943 = .ok (.iaload, 1) := by decide +kernel
theorem dL_law_944 : decode code 944 = .ok (.aload_n 0, 1) := by decide +kernel
theorem dL_law_945 : decode code 945 = .ok (.iload_n 3, 1) := by decide +kernel
theorem dL_law_946 : decode code 946 = .ok (.iconst 3, 1) := by decide +kernel
theorem dL_law_947 : decode code 947 = .ok (.iadd, 1) := by decide +kernel
theorem dL_law_948 : decode code 948 = .ok (.iaload, 1) := by decide +kernel
theorem dL_law_949 : decode code 949 = .ok (.aload_n 0, 1) := by decide +kernel
theorem dL_law_950 : decode code 950 = .ok (.iload_n 3, 1) := by decide +kernel
theorem dL_law_951 : decode code 951 = .ok (.iconst 4, 1) := by decide +kernel
theorem dL_law_952 : decode code 952 = .ok (.iadd, 1) := by decide +kernel
theorem dL_law_953 : decode code 953 = .ok (.iaload, 1) := by decide +kernel
theorem dL_law_954 : decode code 954 = .ok (.aload_n 0, 1) := by decide +kernel
theorem dL_law_955 : decode code 955 = .ok (.iload_n 3, 1) := by decide +kernel
theorem dL_law_956 : decode code 956 = .ok (.iconst 5, 1) := by decide +kernel
theorem dL_law_957 : decode code 957 = .ok (.iadd, 1) := by decide +kernel
theorem dL_law_958 : decode code 958 = .ok (.iaload, 1) := by decide +kernel
theorem dL_law_959 : decode code 959 = .ok (.invokevirtual 119, 3) := by decide +kernel
theorem dL_law_962 : decode code 962 = .ok (.aload_n 2, 1) := by decide +kernel
theorem dL_law_963 : decode code 963 = .ok (.aload_n 0, 1) := by decide +kernel
theorem dL_law_964 : decode code 964 = .ok (.iload_n 3, 1) := by decide +kernel
theorem dL_law_965 : decode code 965 = .ok (.iconst 1, 1) := by decide +kernel
theorem dL_law_966 : decode code 966 = .ok (.iadd, 1) := by decide +kernel
theorem dL_law_967 : decode code 967 = .ok (.iaload, 1) := by decide +kernel
theorem dL_law_968 : decode code 968 = .ok (.aload_n 0, 1) := by decide +kernel
theorem dL_law_969 : decode code 969 = .ok (.iload_n 3, 1) := by decide +kernel
theorem dL_law_970 : decode code 970 = .ok (.iconst 2, 1) := by decide +kernel
theorem dL_law_971 : decode code 971 = .ok (.iadd, 1) := by decide +kernel
theorem dL_law_972 : decode code 972 = .ok (.iaload, 1) := by decide +kernel
theorem dL_law_973 : decode code 973 = .ok (.aload_n 0, 1) := by decide +kernel
theorem dL_law_974 : decode code 974 = .ok (.iload_n 3, 1) := by decide +kernel
theorem dL_law_975 : decode code 975 = .ok (.iconst 3, 1) := by decide +kernel
theorem dL_law_976 : decode code 976 = .ok (.iadd, 1) := by decide +kernel
theorem dL_law_977 : decode code 977 = .ok (.iaload, 1) := by decide +kernel
theorem dL_law_978 : decode code 978 = .ok (.aload_n 0, 1) := by decide +kernel
theorem dL_law_979 : decode code 979 = .ok (.iload_n 3, 1) := by decide +kernel
theorem dL_law_980 : decode code 980 = .ok (.iconst 4, 1) := by decide +kernel
theorem dL_law_981 : decode code 981 = .ok (.iadd, 1) := by decide +kernel
theorem dL_law_982 : decode code 982 = .ok (.iaload, 1) := by decide +kernel
theorem dL_law_983 : decode code 983 = .ok (.aload_n 0, 1) := by decide +kernel
theorem dL_law_984 : decode code 984 = .ok (.iload_n 3, 1) := by decide +kernel
theorem dL_law_985 : decode code 985 = .ok (.iconst 5, 1) := by decide +kernel
theorem dL_law_986 : decode code 986 = .ok (.iadd, 1) := by decide +kernel
theorem dL_law_987 : decode code 987 = .ok (.iaload, 1) := by decide +kernel
theorem dL_law_988 : decode code 988 = .ok (.invokevirtual 123, 3) := by decide +kernel
theorem dL_law_991 : decode code 991 = .ok (.if_icmp .eq 300, 3) := by decide +kernel
theorem dL_law_996 : decode code 996 = .ok (.aload_n 1, 1) := by decide +kernel
theorem dL_law_997 : decode code 997 = .ok (.aload_n 0, 1) := by decide +kernel
theorem dL_law_998 : decode code 998 = .ok (.iload_n 3, 1) := by decide +kernel
theorem dL_law_999 : decode code 999 = .ok (.iconst 1, 1) := by decide +kernel
theorem dL_law_1000 : decode code 1000 = .ok (.iadd, 1) := by decide +kernel
theorem dL_law_1001 : decode code 1001 = .ok (.iaload, 1) := by decide +kernel
theorem dL_law_1002 : decode code 1002 = .ok (.aload_n 0, 1) := by decide +kernel
theorem dL_law_1003 : decode code 1003 = .ok (.iload_n 3, 1) := by decide +kernel
theorem dL_law_1004 : decode code 1004 = .ok (.iconst 2, 1) := by decide +kernel
theorem dL_law_1005 : decode code 1005 = .ok (.iadd, 1) := by decide +kernel
theorem dL_law_1006 : decode code 1006 = .ok (.iaload, 1) := by decide +kernel
theorem dL_law_1007 : decode code 1007 = .ok (.aload_n 0, 1) := by decide +kernel
theorem dL_law_1008 : decode code 1008 = .ok (.iload_n 3, 1) := by decide +kernel
theorem dL_law_1009 : decode code 1009 = .ok (.iconst 3, 1) := by decide +kernel
theorem dL_law_1010 : decode code 1010 = .ok (.iadd, 1) := by decide +kernel
theorem dL_law_1011 : decode code 1011 = .ok (.iaload, 1) := by decide +kernel
theorem dL_law_1012 : decode code 1012 = .ok (.invokevirtual 124, 3) := by decide +kernel
theorem dL_law_1015 : decode code 1015 = .ok (.aload_n 2, 1) := by decide +kernel
theorem dL_law_1016 : decode code 1016 = .ok (.aload_n 0, 1) := by decide +kernel
theorem dL_law_1017 : decode code 1017 = .ok (.iload_n 3, 1) := by decide +kernel
theorem dL_law_1018 : decode code 1018 = .ok (.iconst 1, 1) := by decide +kernel
theorem dL_law_1019 : decode code 1019 = .ok (.iadd, 1) := by decide +kernel
theorem dL_law_1020 : decode code 1020 = .ok (.iaload, 1) := by decide +kernel
theorem dL_law_1021 : decode code 1021 = .ok (.aload_n 0, 1) := by decide +kernel
theorem dL_law_1022 : decode code 1022 = .ok (.iload_n 3, 1) := by decide +kernel
theorem dL_law_1023 : decode code 1023 = .ok (.iconst 2, 1) := by decide +kernel
theorem dL_law_1024 : decode code 1024 = .ok (.iadd, 1) := by decide +kernel
theorem dL_law_1025 : decode code 1025 = .ok (.iaload, 1) := by decide +kernel
theorem dL_law_1026 : decode code 1026 = .ok (.aload_n 0, 1) := by decide +kernel
theorem dL_law_1027 : decode code 1027 = .ok (.iload_n 3, 1) := by decide +kernel
theorem dL_law_1028 : decode code 1028 = .ok (.iconst 3, 1) := by decide +kernel
theorem dL_law_1029 : decode code 1029 = .ok (.iadd, 1) := by decide +kernel
theorem dL_law_1030 : decode code 1030 = .ok (.iaload, 1) := by decide +kernel
theorem dL_law_1031 : decode code 1031 = .ok (.invokevirtual 127, 3) := by decide +kernel
theorem dL_law_1034 : decode code 1034 = .ok (.if_icmp .eq 257, 3) := by decide +kernel
theorem dL_law_1039 : decode code 1039 = .ok (.aload_n 1, 1) := by decide +kernel
theorem dL_law_1040 : decode code 1040 = .ok (.aload_n 0, 1) := by decide +kernel
theorem dL_law_1041 : decode code 1041 = .ok (.iload_n 3, 1) := by decide +kernel
theorem dL_law_1042 : decode code 1042 = .ok (.iconst 1, 1) := by decide +kernel
theorem dL_law_1043 : decode code 1043 = .ok (.iadd, 1) := by decide +kernel
theorem dL_law_1044 : decode code 1044 = .ok (.iaload, 1) := by decide +kernel
theorem dL_law_1045 : decode code 1045 = .ok (.invokevirtual 128, 3) := by decide +kernel
theorem dL_law_1048 : decode code 1048 = .ok (.aload_n 2, 1) := by decide +kernel
theorem dL_law_1049 : decode code 1049 = .ok (.aload_n 0, 1) := by decide +kernel
theorem dL_law_1050 : decode code 1050 = .ok (.iload_n 3, 1) := by decide +kernel
theorem dL_law_1051 : decode code 1051 = .ok (.iconst 1, 1) := by decide +kernel
theorem dL_law_1052 : decode code 1052 = .ok (.iadd, 1) := by decide +kernel
theorem dL_law_1053 : decode code 1053 = .ok (.iaload, 1) := by decide +kernel
theorem dL_law_1054 : decode code 1054 = .ok (.invokevirtual 131, 3) := by decide +kernel
theorem dL_law_1057 : decode code 1057 = .ok (.if_icmp .eq 234, 3) := by decide +kernel
theorem dL_law_1062 : decode code 1062 = .ok (.aload_n 1, 1) := by decide +kernel
theorem dL_law_1063 : decode code 1063 = .ok (.aload_n 0, 1) := by decide +kernel
theorem dL_law_1064 : decode code 1064 = .ok (.iload_n 3, 1) := by decide +kernel
theorem dL_law_1065 : decode code 1065 = .ok (.iconst 1, 1) := by decide +kernel
theorem dL_law_1066 : decode code 1066 = .ok (.iadd, 1) := by decide +kernel
theorem dL_law_1067 : decode code 1067 = .ok (.iaload, 1) := by decide +kernel
theorem dL_law_1068 : decode code 1068 = .ok (.aload_n 0, 1) := by decide +kernel
theorem dL_law_1069 : decode code 1069 = .ok (.iload_n 3, 1) := by decide +kernel
theorem dL_law_1070 : decode code 1070 = .ok (.iconst 2, 1) := by decide +kernel
theorem dL_law_1071 : decode code 1071 = .ok (.iadd, 1) := by decide +kernel
theorem dL_law_1072 : decode code 1072 = .ok (.iaload, 1) := by decide +kernel
theorem dL_law_1073 : decode code 1073 = .ok (.aload_n 0, 1) := by decide +kernel
theorem dL_law_1074 : decode code 1074 = .ok (.iload_n 3, 1) := by decide +kernel
theorem dL_law_1075 : decode code 1075 = .ok (.iconst 3, 1) := by decide +kernel
theorem dL_law_1076 : decode code 1076 = .ok (.iadd, 1) := by decide +kernel
theorem dL_law_1077 : decode code 1077 = .ok (.iaload, 1) := by decide +kernel
theorem dL_law_1078 : decode code 1078 = .ok (.aload_n 0, 1) := by decide +kernel
theorem dL_law_1079 : decode code 1079 = .ok (.iload_n 3, 1) := by decide +kernel
theorem dL_law_1080 : decode code 1080 = .ok (.iconst 4, 1) := by decide +kernel
theorem dL_law_1081 : decode code 1081 = .ok (.iadd, 1) := by decide +kernel
theorem dL_law_1082 : decode code 1082 = .ok (.iaload, 1) := by decide +kernel
theorem dL_law_1083 : decode code 1083 = .ok (.invokevirtual 132, 3) := by decide +kernel
theorem dL_law_1086 : decode code 1086 = .ok (.aload_n 2, 1) := by decide +kernel
theorem dL_law_1087 : decode code 1087 = .ok (.aload_n 0, 1) := by decide +kernel
theorem dL_law_1088 : decode code 1088 = .ok (.iload_n 3, 1) := by decide +kernel
theorem dL_law_1089 : decode code 1089 = .ok (.iconst 1, 1) := by decide +kernel
theorem dL_law_1090 : decode code 1090 = .ok (.iadd, 1) := by decide +kernel
theorem dL_law_1091 : decode code 1091 = .ok (.iaload, 1) := by decide +kernel
theorem dL_law_1092 : decode code 1092 = .ok (.aload_n 0, 1) := by decide +kernel
theorem dL_law_1093 : decode code 1093 = .ok (.iload_n 3, 1) := by decide +kernel
theorem dL_law_1094 : decode code 1094 = .ok (.iconst 2, 1) := by decide +kernel
theorem dL_law_1095 : decode code 1095 = .ok (.iadd, 1) := by decide +kernel
theorem dL_law_1096 : decode code 1096 = .ok (.iaload, 1) := by decide +kernel
theorem dL_law_1097 : decode code 1097 = .ok (.aload_n 0, 1) := by decide +kernel
theorem dL_law_1098 : decode code 1098 = .ok (.iload_n 3, 1) := by decide +kernel
theorem dL_law_1099 : decode code 1099 = .ok (.iconst 3, 1) := by decide +kernel
theorem dL_law_1100 : decode code 1100 = .ok (.iadd, 1) := by decide +kernel
theorem dL_law_1101 : decode code 1101 = .ok (.iaload, 1) := by decide +kernel
theorem dL_law_1102 : decode code 1102 = .ok (.aload_n 0, 1) := by decide +kernel
theorem dL_law_1103 : decode code 1103 = .ok (.iload_n 3, 1) := by decide +kernel
theorem dL_law_1104 : decode code 1104 = .ok (.iconst 4, 1) := by decide +kernel
theorem dL_law_1105 : decode code 1105 = .ok (.iadd, 1) := by decide +kernel
theorem dL_law_1106 : decode code 1106 = .ok (.iaload, 1) := by decide +kernel
theorem dL_law_1107 : decode code 1107 = .ok (.invokevirtual 136, 3) := by decide +kernel
theorem dL_law_1110 : decode code 1110 = .ok (.if_icmp .eq 181, 3) := by decide +kernel
theorem dL_law_1115 : decode code 1115 = .ok (.aload_n 1, 1) := by decide +kernel
theorem dL_law_1116 : decode code 1116 = .ok (.aload_n 0, 1) := by decide +kernel
theorem dL_law_1117 : decode code 1117 = .ok (.iload_n 3, 1) := by decide +kernel
theorem dL_law_1118 : decode code 1118 = .ok (.iconst 1, 1) := by decide +kernel
theorem dL_law_1119 : decode code 1119 = .ok (.iadd, 1) := by decide +kernel
theorem dL_law_1120 : decode code 1120 = .ok (.iaload, 1) := by decide +kernel
theorem dL_law_1121 : decode code 1121 = .ok (.aload_n 0, 1) := by decide +kernel
theorem dL_law_1122 : decode code 1122 = .ok (.iload_n 3, 1) := by decide +kernel
theorem dL_law_1123 : decode code 1123 = .ok (.iconst 2, 1) := by decide +kernel
theorem dL_law_1124 : decode code 1124 = .ok (.iadd, 1) := by decide +kernel
theorem dL_law_1125 : decode code 1125 = .ok (.iaload, 1) := by decide +kernel
theorem dL_law_1126 : decode code 1126 = .ok (.aload_n 0, 1) := by decide +kernel
theorem dL_law_1127 : decode code 1127 = .ok (.iload_n 3, 1) := by decide +kernel
theorem dL_law_1128 : decode code 1128 = .ok (.iconst 3, 1) := by decide +kernel
theorem dL_law_1129 : decode code 1129 = .ok (.iadd, 1) := by decide +kernel
theorem dL_law_1130 : decode code 1130 = .ok (.iaload, 1) := by decide +kernel
theorem dL_law_1131 : decode code 1131 = .ok (.invokevirtual 137, 3) := by decide +kernel
theorem dL_law_1134 : decode code 1134 = .ok (.aload_n 2, 1) := by decide +kernel
theorem dL_law_1135 : decode code 1135 = .ok (.aload_n 0, 1) := by decide +kernel
theorem dL_law_1136 : decode code 1136 = .ok (.iload_n 3, 1) := by decide +kernel
theorem dL_law_1137 : decode code 1137 = .ok (.iconst 1, 1) := by decide +kernel
theorem dL_law_1138 : decode code 1138 = .ok (.iadd, 1) := by decide +kernel
theorem dL_law_1139 : decode code 1139 = .ok (.iaload, 1) := by decide +kernel
theorem dL_law_1140 : decode code 1140 = .ok (.aload_n 0, 1) := by decide +kernel
theorem dL_law_1141 : decode code 1141 = .ok (.iload_n 3, 1) := by decide +kernel
theorem dL_law_1142 : decode code 1142 = .ok (.iconst 2, 1) := by decide +kernel
theorem dL_law_1143 : decode code 1143 = .ok (.iadd, 1) := by decide +kernel
theorem dL_law_1144 : decode code 1144 = .ok (.iaload, 1) := by decide +kernel
theorem dL_law_1145 : decode code 1145 = .ok (.aload_n 0, 1) := by decide +kernel
theorem dL_law_1146 : decode code 1146 = .ok (.iload_n 3, 1) := by decide +kernel
theorem dL_law_1147 : decode code 1147 = .ok (.iconst 3, 1) := by decide +kernel
theorem dL_law_1148 : decode code 1148 = .ok (.iadd, 1) := by decide +kernel
theorem dL_law_1149 : decode code 1149 = .ok (.iaload, 1) := by decide +kernel
theorem dL_law_1150 : decode code 1150 = .ok (.invokevirtual 140, 3) := by decide +kernel
theorem dL_law_1153 : decode code 1153 = .ok (.if_icmp .eq 138, 3) := by decide +kernel
theorem dL_law_1158 : decode code 1158 = .ok (.aload_n 1, 1) := by decide +kernel
theorem dL_law_1159 : decode code 1159 = .ok (.aload_n 0, 1) := by decide +kernel
theorem dL_law_1160 : decode code 1160 = .ok (.iload_n 3, 1) := by decide +kernel
theorem dL_law_1161 : decode code 1161 = .ok (.iconst 1, 1) := by decide +kernel
theorem dL_law_1162 : decode code 1162 = .ok (.iadd, 1) := by decide +kernel
theorem dL_law_1163 : decode code 1163 = .ok (.iaload, 1) := by decide +kernel
theorem dL_law_1164 : decode code 1164 = .ok (.aload_n 0, 1) := by decide +kernel
theorem dL_law_1165 : decode code 1165 = .ok (.iload_n 3, 1) := by decide +kernel
theorem dL_law_1166 : decode code 1166 = .ok (.iconst 2, 1) := by decide +kernel
theorem dL_law_1167 : decode code 1167 = .ok (.iadd, 1) := by decide +kernel
theorem dL_law_1168 : decode code 1168 = .ok (.iaload, 1) := by decide +kernel
theorem dL_law_1169 : decode code 1169 = .ok (.aload_n 0, 1) := by decide +kernel
theorem dL_law_1170 : decode code 1170 = .ok (.iload_n 3, 1) := by decide +kernel
theorem dL_law_1171 : decode code 1171 = .ok (.iconst 3, 1) := by decide +kernel
theorem dL_law_1172 : decode code 1172 = .ok (.iadd, 1) := by decide +kernel
theorem dL_law_1173 : decode code 1173 = .ok (.iaload, 1) := by decide +kernel
theorem dL_law_1174 : decode code 1174 = .ok (.aload_n 0, 1) := by decide +kernel
theorem dL_law_1175 : decode code 1175 = .ok (.iload_n 3, 1) := by decide +kernel
theorem dL_law_1176 : decode code 1176 = .ok (.iconst 4, 1) := by decide +kernel
theorem dL_law_1177 : decode code 1177 = .ok (.iadd, 1) := by decide +kernel
theorem dL_law_1178 : decode code 1178 = .ok (.iaload, 1) := by decide +kernel
theorem dL_law_1179 : decode code 1179 = .ok (.aload_n 0, 1) := by decide +kernel
theorem dL_law_1180 : decode code 1180 = .ok (.iload_n 3, 1) := by decide +kernel
theorem dL_law_1181 : decode code 1181 = .ok (.iconst 5, 1) := by decide +kernel
theorem dL_law_1182 : decode code 1182 = .ok (.iadd, 1) := by decide +kernel
theorem dL_law_1183 : decode code 1183 = .ok (.iaload, 1) := by decide +kernel
theorem dL_law_1184 : decode code 1184 = .ok (.invokevirtual 141, 3) := by decide +kernel
theorem dL_law_1187 : decode code 1187 = .ok (.aload_n 2, 1) := by decide +kernel
theorem dL_law_1188 : decode code 1188 = .ok (.aload_n 0, 1) := by decide +kernel
theorem dL_law_1189 : decode code 1189 = .ok (.iload_n 3, 1) := by decide +kernel
theorem dL_law_1190 : decode code 1190 = .ok (.iconst 1, 1) := by decide +kernel
theorem dL_law_1191 : decode code 1191 = .ok (.iadd, 1) := by decide +kernel
theorem dL_law_1192 : decode code 1192 = .ok (.iaload, 1) := by decide +kernel
theorem dL_law_1193 : decode code 1193 = .ok (.aload_n 0, 1) := by decide +kernel
theorem dL_law_1194 : decode code 1194 = .ok (.iload_n 3, 1) := by decide +kernel
theorem dL_law_1195 : decode code 1195 = .ok (.iconst 2, 1) := by decide +kernel
theorem dL_law_1196 : decode code 1196 = .ok (.iadd, 1) := by decide +kernel
theorem dL_law_1197 : decode code 1197 = .ok (.iaload, 1) := by decide +kernel
theorem dL_law_1198 : decode code 1198 = .ok (.aload_n 0, 1) := by decide +kernel
theorem dL_law_1199 : decode code 1199 = .ok (.iload_n 3, 1) := by decide +kernel
theorem dL_law_1200 : decode code 1200 = .ok (.iconst 3, 1) := by decide +kernel
theorem dL_law_1201 : decode code 1201 = .ok (.iadd, 1) := by decide +kernel
theorem dL_law_1202 : decode code 1202 = .ok (.iaload, 1) := by decide +kernel
theorem dL_law_1203 : decode code 1203 = .ok (.aload_n 0, 1) := by decide +kernel
theorem dL_law_1204 : decode code 1204 = .ok (.iload_n 3, 1) := by decide +kernel
theorem dL_law_1205 : decode code 1205 = .ok (.iconst 4, 1) := by decide +kernel
theorem dL_law_1206 : decode code 1206 = .ok (.iadd, 1) := by decide +kernel
theorem dL_law_1207 : decode code 1207 = .ok (.iaload, 1) := by decide +kernel
theorem dL_law_1208 : decode code 1208 = .ok (.aload_n 0, 1) := by decide +kernel
theorem dL_law_1209 : decode code 1209 = .ok (.iload_n 3, 1) := by decide +kernel
theorem dL_law_1210 : decode code 1210 = .ok (.iconst 5, 1) := by decide +kernel
theorem dL_law_1211 : decode code 1211 = .ok (.iadd, 1) := by decide +kernel
theorem dL_law_1212 : decode code 1212 = .ok (.iaload, 1) := by decide +kernel
theorem dL_law_1213 : decode code 1213 = .ok (.invokevirtual 144, 3) := by decide +kernel
theorem dL_law_1216 : decode code 1216 = .ok (.if_icmp .eq 75, 3) := by decide +kernel
theorem dL_law_1221 : decode code 1221 = .ok (.aload_n 1, 1) := by decide +kernel
theorem dL_law_1222 : decode code 1222 = .ok (.aload_n 0, 1) := by decide +kernel
theorem dL_law_1223 : decode code 1223 = .ok (.iload_n 3, 1) := by decide +kernel
theorem dL_law_1224 : decode code 1224 = .ok (.iconst 1, 1) := by decide +kernel
theorem dL_law_1225 : decode code 1225 = .ok (.iadd, 1) := by decide +kernel
theorem dL_law_1226 : decode code 1226 = .ok (.iaload, 1) := by decide +kernel
theorem dL_law_1227 : decode code 1227 = .ok (.aload_n 0, 1) := by decide +kernel
theorem dL_law_1228 : decode code 1228 = .ok (.iload_n 3, 1) := by decide +kernel
theorem dL_law_1229 : decode code 1229 = .ok (.iconst 2, 1) := by decide +kernel
theorem dL_law_1230 : decode code 1230 = .ok (.iadd, 1) := by decide +kernel
theorem dL_law_1231 : decode code 1231 = .ok (.iaload, 1) := by decide +kernel
theorem dL_law_1232 : decode code 1232 = .ok (.invokevirtual 145, 3) := by decide +kernel
theorem dL_law_1235 : decode code 1235 = .ok (.aload_n 2, 1) := by decide +kernel
theorem dL_law_1236 : decode code 1236 = .ok (.aload_n 0, 1) := by decide +kernel
theorem dL_law_1237 : decode code 1237 = .ok (.iload_n 3, 1) := by decide +kernel
theorem dL_law_1238 : decode code 1238 = .ok (.iconst 1, 1) := by decide +kernel
theorem dL_law_1239 : decode code 1239 = .ok (.iadd, 1) := by decide +kernel
theorem dL_law_1240 : decode code 1240 = .ok (.iaload, 1) := by decide +kernel
theorem dL_law_1241 : decode code 1241 = .ok (.aload_n 0, 1) := by decide +kernel
theorem dL_law_1242 : decode code 1242 = .ok (.iload_n 3, 1) := by decide +kernel
theorem dL_law_1243 : decode code 1243 = .ok (.iconst 2, 1) := by decide +kernel
theorem dL_law_1244 : decode code 1244 = .ok (.iadd, 1) := by decide +kernel
theorem dL_law_1245 : decode code 1245 = .ok (.iaload, 1) := by decide +kernel
theorem dL_law_1246 : decode code 1246 = .ok (.invokevirtual 148, 3) := by decide +kernel
theorem dL_law_1249 : decode code 1249 = .ok (.if_icmp .eq 42, 3) := by decide +kernel
theorem dL_law_1254 : decode code 1254 = .ok (.aload_n 1, 1) := by decide +kernel
theorem dL_law_1255 : decode code 1255 = .ok (.aload_n 0, 1) := by decide +kernel
theorem dL_law_1256 : decode code 1256 = .ok (.iload_n 3, 1) := by decide +kernel
theorem dL_law_1257 : decode code 1257 = .ok (.iconst 1, 1) := by decide +kernel
theorem dL_law_1258 : decode code 1258 = .ok (.iadd, 1) := by decide +kernel
theorem dL_law_1259 : decode code 1259 = .ok (.iaload, 1) := by decide +kernel
theorem dL_law_1260 : decode code 1260 = .ok (.invokevirtual 149, 3) := by decide +kernel
theorem dL_law_1263 : decode code 1263 = .ok (.aload_n 2, 1) := by decide +kernel
theorem dL_law_1264 : decode code 1264 = .ok (.aload_n 0, 1) := by decide +kernel
theorem dL_law_1265 : decode code 1265 = .ok (.iload_n 3, 1) := by decide +kernel
theorem dL_law_1266 : decode code 1266 = .ok (.iconst 1, 1) := by decide +kernel
theorem dL_law_1267 : decode code 1267 = .ok (.iadd, 1) := by decide +kernel
theorem dL_law_1268 : decode code 1268 = .ok (.iaload, 1) := by decide +kernel
theorem dL_law_1269 : decode code 1269 = .ok (.invokevirtual 152, 3) := by decide +kernel
theorem dL_law_1272 : decode code 1272 = .ok (.if_icmp .eq 19, 3) := by decide +kernel
theorem dL_law_1277 : decode code 1277 = .ok (.aload_n 1, 1) := by decide +kernel
theorem dL_law_1278 : decode code 1278 = .ok (.invokevirtual 153, 3) := by decide +kernel
theorem dL_law_1281 : decode code 1281 = .ok (.aload_n 2, 1) := by decide +kernel
theorem dL_law_1282 : decode code 1282 = .ok (.invokevirtual 157, 3) := by decide +kernel
theorem dL_law_1285 : decode code 1285 = .ok (.lcmp, 1) := by decide +kernel
theorem dL_law_1286 : decode code 1286 = .ok (.ifCond .eq 5, 3) := by decide +kernel
theorem dL_law_1291 : decode code 1291 = .ok (.iinc 3 6, 3) := by decide +kernel
theorem dL_law_1294 : decode code 1294 = .ok (.goto (-1276), 3) := by decide +kernel
theorem dL_law_1297 : decode code 1297 = .ok (.iconst 1, 1) := by decide +kernel
theorem dL_law_1298 : decode code 1298 = .ok (.ireturn, 1) := by decide +kernel
theorem law_race {g : Gl} {M : Mc} {rm : Room} {Q : State → Prop} {b L j : Nat} {xs : Nat → Int32} {Inv : Sg → Prop} {s : Sg} (hfr : rm.frames = 10) (hlo : rm.locals = 404) (hok : ok_race Inv) (hI : Inv s) (hC : Cx SS g M iL rm) (hX : HX M b L xs) (h1 : vp_in (nI j + (1 : Int32)) L) (h2 : vp_in (nI j + (2 : Int32)) L) (h3 : vp_in (nI j + (3 : Int32)) L) (h4 : vp_in (nI j + (4 : Int32)) L) (h5 : vp_in (nI j + (5 : Int32)) L) (kk : ∀ s2, Inv s2 → V SS g M iL Q 1291 [some (.ref b), some (.ref (gad g 0)), some (.ref (gad g 49)), some (.int (nI j))] [] s2) : V SS g M iL Q 184 [some (.ref b), some (.ref (gad g 0)), some (.ref (gad g 49)), some (.int (nI j))] [] s := by
  obtain ⟨fr0, ce0, sl0, lo0⟩ := rm
  simp only at hfr hlo
  subst hfr; subst hlo
  obtain ⟨r, s1, s2, e1, e2, e3⟩ := hok (xs ((nI j) + (1 : Int32)).toNatClampNeg) (xs ((nI j) + (2 : Int32)).toNatClampNeg) s hI
  refine v_aload_n (pc := 184) hC dL_law_184 rfl ?_
  refine v_aload_n (pc := 185) hC dL_law_185 rfl ?_
  refine v_iload_n (pc := 186) hC dL_law_186 rfl ?_
  refine v_iconst (pc := 187) (1 : Int32) rfl hC dL_law_187 ?_
  refine v_iadd (pc := 188) hC dL_law_188 ?_
  refine v_sld (pc := 189) hC hX h1 dL_law_189 ?_
  refine v_aload_n (pc := 190) hC dL_law_190 rfl ?_
  refine v_iload_n (pc := 191) hC dL_law_191 rfl ?_
  refine v_iconst (pc := 192) (2 : Int32) rfl hC dL_law_192 ?_
  refine v_iadd (pc := 193) hC dL_law_193 ?_
  refine v_sld (pc := 194) hC hX h2 dL_law_194 ?_
  refine v_cVr (pc := 195) [] [.int r] gm_X10_race hC s_0 rfl rfl (ct_X10_race e1) ml_L_13 rfl rfl rfl rfl rfl rfl dL_law_195 ?_
  refine v_aload_n (pc := 198) hC dL_law_198 rfl ?_
  refine v_aload_n (pc := 199) hC dL_law_199 rfl ?_
  refine v_iload_n (pc := 200) hC dL_law_200 rfl ?_
  refine v_iconst (pc := 201) (1 : Int32) rfl hC dL_law_201 ?_
  refine v_iadd (pc := 202) hC dL_law_202 ?_
  refine v_sld (pc := 203) hC hX h1 dL_law_203 ?_
  refine v_aload_n (pc := 204) hC dL_law_204 rfl ?_
  refine v_iload_n (pc := 205) hC dL_law_205 rfl ?_
  refine v_iconst (pc := 206) (2 : Int32) rfl hC dL_law_206 ?_
  refine v_iadd (pc := 207) hC dL_law_207 ?_
  refine v_sld (pc := 208) hC hX h2 dL_law_208 ?_
  refine v_cVr (pc := 209) [.int r] [.int r, .int r] gm_X11_race hC s_49 rfl rfl (ct_X11_race e2) ml_L_17 rfl rfl rfl rfl rfl rfl dL_law_209 ?_
  refine v_ic_eq (pc := 212) (tgt := 1291) hC dL_law_212 rfl (fun _ => ?_) (fun c => absurd rfl c)
  exact kk s2 e3
theorem law_swim {g : Gl} {M : Mc} {rm : Room} {Q : State → Prop} {b L j : Nat} {xs : Nat → Int32} {Inv : Sg → Prop} {s : Sg} (hfr : rm.frames = 10) (hlo : rm.locals = 404) (hok : ok_swim Inv) (hI : Inv s) (hC : Cx SS g M iL rm) (hX : HX M b L xs) (h1 : vp_in (nI j + (1 : Int32)) L) (h2 : vp_in (nI j + (2 : Int32)) L) (h3 : vp_in (nI j + (3 : Int32)) L) (h4 : vp_in (nI j + (4 : Int32)) L) (h5 : vp_in (nI j + (5 : Int32)) L) (kk : ∀ s2, Inv s2 → V SS g M iL Q 1291 [some (.ref b), some (.ref (gad g 0)), some (.ref (gad g 49)), some (.int (nI j))] [] s2) : V SS g M iL Q 217 [some (.ref b), some (.ref (gad g 0)), some (.ref (gad g 49)), some (.int (nI j))] [] s := by
  obtain ⟨fr0, ce0, sl0, lo0⟩ := rm
  simp only at hfr hlo
  subst hfr; subst hlo
  obtain ⟨r, s1, s2, e1, e2, e3⟩ := hok (xs ((nI j) + (1 : Int32)).toNatClampNeg) (xs ((nI j) + (2 : Int32)).toNatClampNeg) (xs ((nI j) + (3 : Int32)).toNatClampNeg) s hI
  refine v_aload_n (pc := 217) hC dL_law_217 rfl ?_
  refine v_aload_n (pc := 218) hC dL_law_218 rfl ?_
  refine v_iload_n (pc := 219) hC dL_law_219 rfl ?_
  refine v_iconst (pc := 220) (1 : Int32) rfl hC dL_law_220 ?_
  refine v_iadd (pc := 221) hC dL_law_221 ?_
  refine v_sld (pc := 222) hC hX h1 dL_law_222 ?_
  refine v_aload_n (pc := 223) hC dL_law_223 rfl ?_
  refine v_iload_n (pc := 224) hC dL_law_224 rfl ?_
  refine v_iconst (pc := 225) (2 : Int32) rfl hC dL_law_225 ?_
  refine v_iadd (pc := 226) hC dL_law_226 ?_
  refine v_sld (pc := 227) hC hX h2 dL_law_227 ?_
  refine v_aload_n (pc := 228) hC dL_law_228 rfl ?_
  refine v_iload_n (pc := 229) hC dL_law_229 rfl ?_
  refine v_iconst (pc := 230) (3 : Int32) rfl hC dL_law_230 ?_
  refine v_iadd (pc := 231) hC dL_law_231 ?_
  refine v_sld (pc := 232) hC hX h3 dL_law_232 ?_
  refine v_cVr (pc := 233) [] [.int r] gm_X10_swim hC s_0 rfl rfl (ct_X10_swim e1) ml_L_18 rfl rfl rfl rfl rfl rfl dL_law_233 ?_
  refine v_aload_n (pc := 236) hC dL_law_236 rfl ?_
  refine v_aload_n (pc := 237) hC dL_law_237 rfl ?_
  refine v_iload_n (pc := 238) hC dL_law_238 rfl ?_
  refine v_iconst (pc := 239) (1 : Int32) rfl hC dL_law_239 ?_
  refine v_iadd (pc := 240) hC dL_law_240 ?_
  refine v_sld (pc := 241) hC hX h1 dL_law_241 ?_
  refine v_aload_n (pc := 242) hC dL_law_242 rfl ?_
  refine v_iload_n (pc := 243) hC dL_law_243 rfl ?_
  refine v_iconst (pc := 244) (2 : Int32) rfl hC dL_law_244 ?_
  refine v_iadd (pc := 245) hC dL_law_245 ?_
  refine v_sld (pc := 246) hC hX h2 dL_law_246 ?_
  refine v_aload_n (pc := 247) hC dL_law_247 rfl ?_
  refine v_iload_n (pc := 248) hC dL_law_248 rfl ?_
  refine v_iconst (pc := 249) (3 : Int32) rfl hC dL_law_249 ?_
  refine v_iadd (pc := 250) hC dL_law_250 ?_
  refine v_sld (pc := 251) hC hX h3 dL_law_251 ?_
  refine v_cVr (pc := 252) [.int r] [.int r, .int r] gm_X11_swim hC s_49 rfl rfl (ct_X11_swim e2) ml_L_22 rfl rfl rfl rfl rfl rfl dL_law_252 ?_
  refine v_ic_eq (pc := 255) (tgt := 1291) hC dL_law_255 rfl (fun _ => ?_) (fun c => absurd rfl c)
  exact kk s2 e3
theorem law_time {g : Gl} {M : Mc} {rm : Room} {Q : State → Prop} {b L j : Nat} {xs : Nat → Int32} {Inv : Sg → Prop} {s : Sg} (hfr : rm.frames = 10) (hlo : rm.locals = 404) (hok : ok_time Inv) (hI : Inv s) (hC : Cx SS g M iL rm) (hX : HX M b L xs) (h1 : vp_in (nI j + (1 : Int32)) L) (h2 : vp_in (nI j + (2 : Int32)) L) (h3 : vp_in (nI j + (3 : Int32)) L) (h4 : vp_in (nI j + (4 : Int32)) L) (h5 : vp_in (nI j + (5 : Int32)) L) (kk : ∀ s2, Inv s2 → V SS g M iL Q 1291 [some (.ref b), some (.ref (gad g 0)), some (.ref (gad g 49)), some (.int (nI j))] [] s2) : V SS g M iL Q 260 [some (.ref b), some (.ref (gad g 0)), some (.ref (gad g 49)), some (.int (nI j))] [] s := by
  obtain ⟨fr0, ce0, sl0, lo0⟩ := rm
  simp only at hfr hlo
  subst hfr; subst hlo
  obtain ⟨r, s1, s2, e1, e2, e3⟩ := hok (xs ((nI j) + (1 : Int32)).toNatClampNeg) (xs ((nI j) + (2 : Int32)).toNatClampNeg) (xs ((nI j) + (3 : Int32)).toNatClampNeg) s hI
  refine v_aload_n (pc := 260) hC dL_law_260 rfl ?_
  refine v_aload_n (pc := 261) hC dL_law_261 rfl ?_
  refine v_iload_n (pc := 262) hC dL_law_262 rfl ?_
  refine v_iconst (pc := 263) (1 : Int32) rfl hC dL_law_263 ?_
  refine v_iadd (pc := 264) hC dL_law_264 ?_
  refine v_sld (pc := 265) hC hX h1 dL_law_265 ?_
  refine v_aload_n (pc := 266) hC dL_law_266 rfl ?_
  refine v_iload_n (pc := 267) hC dL_law_267 rfl ?_
  refine v_iconst (pc := 268) (2 : Int32) rfl hC dL_law_268 ?_
  refine v_iadd (pc := 269) hC dL_law_269 ?_
  refine v_sld (pc := 270) hC hX h2 dL_law_270 ?_
  refine v_aload_n (pc := 271) hC dL_law_271 rfl ?_
  refine v_iload_n (pc := 272) hC dL_law_272 rfl ?_
  refine v_iconst (pc := 273) (3 : Int32) rfl hC dL_law_273 ?_
  refine v_iadd (pc := 274) hC dL_law_274 ?_
  refine v_sld (pc := 275) hC hX h3 dL_law_275 ?_
  refine v_cVr (pc := 276) [] [.int r] gm_X10_time hC s_0 rfl rfl (ct_X10_time e1) ml_L_23 rfl rfl rfl rfl rfl rfl dL_law_276 ?_
  refine v_aload_n (pc := 279) hC dL_law_279 rfl ?_
  refine v_aload_n (pc := 280) hC dL_law_280 rfl ?_
  refine v_iload_n (pc := 281) hC dL_law_281 rfl ?_
  refine v_iconst (pc := 282) (1 : Int32) rfl hC dL_law_282 ?_
  refine v_iadd (pc := 283) hC dL_law_283 ?_
  refine v_sld (pc := 284) hC hX h1 dL_law_284 ?_
  refine v_aload_n (pc := 285) hC dL_law_285 rfl ?_
  refine v_iload_n (pc := 286) hC dL_law_286 rfl ?_
  refine v_iconst (pc := 287) (2 : Int32) rfl hC dL_law_287 ?_
  refine v_iadd (pc := 288) hC dL_law_288 ?_
  refine v_sld (pc := 289) hC hX h2 dL_law_289 ?_
  refine v_aload_n (pc := 290) hC dL_law_290 rfl ?_
  refine v_iload_n (pc := 291) hC dL_law_291 rfl ?_
  refine v_iconst (pc := 292) (3 : Int32) rfl hC dL_law_292 ?_
  refine v_iadd (pc := 293) hC dL_law_293 ?_
  refine v_sld (pc := 294) hC hX h3 dL_law_294 ?_
  refine v_cVr (pc := 295) [.int r] [.int r, .int r] gm_X11_time hC s_49 rfl rfl (ct_X11_time e2) ml_L_26 rfl rfl rfl rfl rfl rfl dL_law_295 ?_
  refine v_ic_eq (pc := 298) (tgt := 1291) hC dL_law_298 rfl (fun _ => ?_) (fun c => absurd rfl c)
  exact kk s2 e3
theorem law_read {g : Gl} {M : Mc} {rm : Room} {Q : State → Prop} {b L j : Nat} {xs : Nat → Int32} {Inv : Sg → Prop} {s : Sg} (hfr : rm.frames = 10) (hlo : rm.locals = 404) (hok : ok_read Inv) (hI : Inv s) (hC : Cx SS g M iL rm) (hX : HX M b L xs) (h1 : vp_in (nI j + (1 : Int32)) L) (h2 : vp_in (nI j + (2 : Int32)) L) (h3 : vp_in (nI j + (3 : Int32)) L) (h4 : vp_in (nI j + (4 : Int32)) L) (h5 : vp_in (nI j + (5 : Int32)) L) (kk : ∀ s2, Inv s2 → V SS g M iL Q 1291 [some (.ref b), some (.ref (gad g 0)), some (.ref (gad g 49)), some (.int (nI j))] [] s2) : V SS g M iL Q 303 [some (.ref b), some (.ref (gad g 0)), some (.ref (gad g 49)), some (.int (nI j))] [] s := by
  obtain ⟨fr0, ce0, sl0, lo0⟩ := rm
  simp only at hfr hlo
  subst hfr; subst hlo
  obtain ⟨r, s1, s2, e1, e2, e3⟩ := hok (xs ((nI j) + (1 : Int32)).toNatClampNeg) (xs ((nI j) + (2 : Int32)).toNatClampNeg) s hI
  refine v_aload_n (pc := 303) hC dL_law_303 rfl ?_
  refine v_aload_n (pc := 304) hC dL_law_304 rfl ?_
  refine v_iload_n (pc := 305) hC dL_law_305 rfl ?_
  refine v_iconst (pc := 306) (1 : Int32) rfl hC dL_law_306 ?_
  refine v_iadd (pc := 307) hC dL_law_307 ?_
  refine v_sld (pc := 308) hC hX h1 dL_law_308 ?_
  refine v_aload_n (pc := 309) hC dL_law_309 rfl ?_
  refine v_iload_n (pc := 310) hC dL_law_310 rfl ?_
  refine v_iconst (pc := 311) (2 : Int32) rfl hC dL_law_311 ?_
  refine v_iadd (pc := 312) hC dL_law_312 ?_
  refine v_sld (pc := 313) hC hX h2 dL_law_313 ?_
  refine v_cVr (pc := 314) [] [.int r] gm_X10_read hC s_0 rfl rfl (ct_X10_read e1) ml_L_27 rfl rfl rfl rfl rfl rfl dL_law_314 ?_
  refine v_aload_n (pc := 317) hC dL_law_317 rfl ?_
  refine v_aload_n (pc := 318) hC dL_law_318 rfl ?_
  refine v_iload_n (pc := 319) hC dL_law_319 rfl ?_
  refine v_iconst (pc := 320) (1 : Int32) rfl hC dL_law_320 ?_
  refine v_iadd (pc := 321) hC dL_law_321 ?_
  refine v_sld (pc := 322) hC hX h1 dL_law_322 ?_
  refine v_aload_n (pc := 323) hC dL_law_323 rfl ?_
  refine v_iload_n (pc := 324) hC dL_law_324 rfl ?_
  refine v_iconst (pc := 325) (2 : Int32) rfl hC dL_law_325 ?_
  refine v_iadd (pc := 326) hC dL_law_326 ?_
  refine v_sld (pc := 327) hC hX h2 dL_law_327 ?_
  refine v_cVr (pc := 328) [.int r] [.int r, .int r] gm_X11_read hC s_49 rfl rfl (ct_X11_read e2) ml_L_30 rfl rfl rfl rfl rfl rfl dL_law_328 ?_
  refine v_ic_eq (pc := 331) (tgt := 1291) hC dL_law_331 rfl (fun _ => ?_) (fun c => absurd rfl c)
  exact kk s2 e3
theorem law_seeds {g : Gl} {M : Mc} {rm : Room} {Q : State → Prop} {b L j : Nat} {xs : Nat → Int32} {Inv : Sg → Prop} {s : Sg} (hfr : rm.frames = 10) (hlo : rm.locals = 404) (hok : ok_seeds Inv) (hI : Inv s) (hC : Cx SS g M iL rm) (hX : HX M b L xs) (h1 : vp_in (nI j + (1 : Int32)) L) (h2 : vp_in (nI j + (2 : Int32)) L) (h3 : vp_in (nI j + (3 : Int32)) L) (h4 : vp_in (nI j + (4 : Int32)) L) (h5 : vp_in (nI j + (5 : Int32)) L) (kk : ∀ s2, Inv s2 → V SS g M iL Q 1291 [some (.ref b), some (.ref (gad g 0)), some (.ref (gad g 49)), some (.int (nI j))] [] s2) : V SS g M iL Q 336 [some (.ref b), some (.ref (gad g 0)), some (.ref (gad g 49)), some (.int (nI j))] [] s := by
  obtain ⟨fr0, ce0, sl0, lo0⟩ := rm
  simp only at hfr hlo
  subst hfr; subst hlo
  obtain ⟨r, s1, s2, e1, e2, e3⟩ := hok (xs ((nI j) + (1 : Int32)).toNatClampNeg) (xs ((nI j) + (2 : Int32)).toNatClampNeg) s hI
  refine v_aload_n (pc := 336) hC dL_law_336 rfl ?_
  refine v_aload_n (pc := 337) hC dL_law_337 rfl ?_
  refine v_iload_n (pc := 338) hC dL_law_338 rfl ?_
  refine v_iconst (pc := 339) (1 : Int32) rfl hC dL_law_339 ?_
  refine v_iadd (pc := 340) hC dL_law_340 ?_
  refine v_sld (pc := 341) hC hX h1 dL_law_341 ?_
  refine v_aload_n (pc := 342) hC dL_law_342 rfl ?_
  refine v_iload_n (pc := 343) hC dL_law_343 rfl ?_
  refine v_iconst (pc := 344) (2 : Int32) rfl hC dL_law_344 ?_
  refine v_iadd (pc := 345) hC dL_law_345 ?_
  refine v_sld (pc := 346) hC hX h2 dL_law_346 ?_
  refine v_cVr (pc := 347) [] [.int r] gm_X10_seeds hC s_0 rfl rfl (ct_X10_seeds e1) ml_L_31 rfl rfl rfl rfl rfl rfl dL_law_347 ?_
  refine v_aload_n (pc := 350) hC dL_law_350 rfl ?_
  refine v_aload_n (pc := 351) hC dL_law_351 rfl ?_
  refine v_iload_n (pc := 352) hC dL_law_352 rfl ?_
  refine v_iconst (pc := 353) (1 : Int32) rfl hC dL_law_353 ?_
  refine v_iadd (pc := 354) hC dL_law_354 ?_
  refine v_sld (pc := 355) hC hX h1 dL_law_355 ?_
  refine v_aload_n (pc := 356) hC dL_law_356 rfl ?_
  refine v_iload_n (pc := 357) hC dL_law_357 rfl ?_
  refine v_iconst (pc := 358) (2 : Int32) rfl hC dL_law_358 ?_
  refine v_iadd (pc := 359) hC dL_law_359 ?_
  refine v_sld (pc := 360) hC hX h2 dL_law_360 ?_
  refine v_cVr (pc := 361) [.int r] [.int r, .int r] gm_X11_seeds hC s_49 rfl rfl (ct_X11_seeds e2) ml_L_34 rfl rfl rfl rfl rfl rfl dL_law_361 ?_
  refine v_ic_eq (pc := 364) (tgt := 1291) hC dL_law_364 rfl (fun _ => ?_) (fun c => absurd rfl c)
  exact kk s2 e3
theorem law_about {g : Gl} {M : Mc} {rm : Room} {Q : State → Prop} {b L j : Nat} {xs : Nat → Int32} {Inv : Sg → Prop} {s : Sg} (hfr : rm.frames = 10) (hlo : rm.locals = 404) (hok : ok_about Inv) (hI : Inv s) (hC : Cx SS g M iL rm) (hX : HX M b L xs) (h1 : vp_in (nI j + (1 : Int32)) L) (h2 : vp_in (nI j + (2 : Int32)) L) (h3 : vp_in (nI j + (3 : Int32)) L) (h4 : vp_in (nI j + (4 : Int32)) L) (h5 : vp_in (nI j + (5 : Int32)) L) (kk : ∀ s2, Inv s2 → V SS g M iL Q 1291 [some (.ref b), some (.ref (gad g 0)), some (.ref (gad g 49)), some (.int (nI j))] [] s2) : V SS g M iL Q 369 [some (.ref b), some (.ref (gad g 0)), some (.ref (gad g 49)), some (.int (nI j))] [] s := by
  obtain ⟨fr0, ce0, sl0, lo0⟩ := rm
  simp only at hfr hlo
  subst hfr; subst hlo
  obtain ⟨r, s1, s2, e1, e2, e3⟩ := hok (xs ((nI j) + (1 : Int32)).toNatClampNeg) (xs ((nI j) + (2 : Int32)).toNatClampNeg) s hI
  refine v_aload_n (pc := 369) hC dL_law_369 rfl ?_
  refine v_aload_n (pc := 370) hC dL_law_370 rfl ?_
  refine v_iload_n (pc := 371) hC dL_law_371 rfl ?_
  refine v_iconst (pc := 372) (1 : Int32) rfl hC dL_law_372 ?_
  refine v_iadd (pc := 373) hC dL_law_373 ?_
  refine v_sld (pc := 374) hC hX h1 dL_law_374 ?_
  refine v_aload_n (pc := 375) hC dL_law_375 rfl ?_
  refine v_iload_n (pc := 376) hC dL_law_376 rfl ?_
  refine v_iconst (pc := 377) (2 : Int32) rfl hC dL_law_377 ?_
  refine v_iadd (pc := 378) hC dL_law_378 ?_
  refine v_sld (pc := 379) hC hX h2 dL_law_379 ?_
  refine v_cVr (pc := 380) [] [.int r] gm_X10_about hC s_0 rfl rfl (ct_X10_about e1) ml_L_35 rfl rfl rfl rfl rfl rfl dL_law_380 ?_
  refine v_aload_n (pc := 383) hC dL_law_383 rfl ?_
  refine v_aload_n (pc := 384) hC dL_law_384 rfl ?_
  refine v_iload_n (pc := 385) hC dL_law_385 rfl ?_
  refine v_iconst (pc := 386) (1 : Int32) rfl hC dL_law_386 ?_
  refine v_iadd (pc := 387) hC dL_law_387 ?_
  refine v_sld (pc := 388) hC hX h1 dL_law_388 ?_
  refine v_aload_n (pc := 389) hC dL_law_389 rfl ?_
  refine v_iload_n (pc := 390) hC dL_law_390 rfl ?_
  refine v_iconst (pc := 391) (2 : Int32) rfl hC dL_law_391 ?_
  refine v_iadd (pc := 392) hC dL_law_392 ?_
  refine v_sld (pc := 393) hC hX h2 dL_law_393 ?_
  refine v_cVr (pc := 394) [.int r] [.int r, .int r] gm_X11_about hC s_49 rfl rfl (ct_X11_about e2) ml_L_38 rfl rfl rfl rfl rfl rfl dL_law_394 ?_
  refine v_ic_eq (pc := 397) (tgt := 1291) hC dL_law_397 rfl (fun _ => ?_) (fun c => absurd rfl c)
  exact kk s2 e3
theorem law_diff {g : Gl} {M : Mc} {rm : Room} {Q : State → Prop} {b L j : Nat} {xs : Nat → Int32} {Inv : Sg → Prop} {s : Sg} (hfr : rm.frames = 10) (hlo : rm.locals = 404) (hok : ok_diff Inv) (hI : Inv s) (hC : Cx SS g M iL rm) (hX : HX M b L xs) (h1 : vp_in (nI j + (1 : Int32)) L) (h2 : vp_in (nI j + (2 : Int32)) L) (h3 : vp_in (nI j + (3 : Int32)) L) (h4 : vp_in (nI j + (4 : Int32)) L) (h5 : vp_in (nI j + (5 : Int32)) L) (kk : ∀ s2, Inv s2 → V SS g M iL Q 1291 [some (.ref b), some (.ref (gad g 0)), some (.ref (gad g 49)), some (.int (nI j))] [] s2) : V SS g M iL Q 402 [some (.ref b), some (.ref (gad g 0)), some (.ref (gad g 49)), some (.int (nI j))] [] s := by
  obtain ⟨fr0, ce0, sl0, lo0⟩ := rm
  simp only at hfr hlo
  subst hfr; subst hlo
  obtain ⟨r, s1, s2, e1, e2, e3⟩ := hok (xs ((nI j) + (1 : Int32)).toNatClampNeg) (xs ((nI j) + (2 : Int32)).toNatClampNeg) s hI
  refine v_aload_n (pc := 402) hC dL_law_402 rfl ?_
  refine v_aload_n (pc := 403) hC dL_law_403 rfl ?_
  refine v_iload_n (pc := 404) hC dL_law_404 rfl ?_
  refine v_iconst (pc := 405) (1 : Int32) rfl hC dL_law_405 ?_
  refine v_iadd (pc := 406) hC dL_law_406 ?_
  refine v_sld (pc := 407) hC hX h1 dL_law_407 ?_
  refine v_aload_n (pc := 408) hC dL_law_408 rfl ?_
  refine v_iload_n (pc := 409) hC dL_law_409 rfl ?_
  refine v_iconst (pc := 410) (2 : Int32) rfl hC dL_law_410 ?_
  refine v_iadd (pc := 411) hC dL_law_411 ?_
  refine v_sld (pc := 412) hC hX h2 dL_law_412 ?_
  refine v_cVr (pc := 413) [] [.long r] gm_X10_diff hC s_0 rfl rfl (ct_X10_diff e1) ml_L_39 rfl rfl rfl rfl rfl rfl dL_law_413 ?_
  refine v_aload_n (pc := 416) hC dL_law_416 rfl ?_
  refine v_aload_n (pc := 417) hC dL_law_417 rfl ?_
  refine v_iload_n (pc := 418) hC dL_law_418 rfl ?_
  refine v_iconst (pc := 419) (1 : Int32) rfl hC dL_law_419 ?_
  refine v_iadd (pc := 420) hC dL_law_420 ?_
  refine v_sld (pc := 421) hC hX h1 dL_law_421 ?_
  refine v_aload_n (pc := 422) hC dL_law_422 rfl ?_
  refine v_iload_n (pc := 423) hC dL_law_423 rfl ?_
  refine v_iconst (pc := 424) (2 : Int32) rfl hC dL_law_424 ?_
  refine v_iadd (pc := 425) hC dL_law_425 ?_
  refine v_sld (pc := 426) hC hX h2 dL_law_426 ?_
  refine v_cVr (pc := 427) [.long r] [.long r, .long r] gm_X11_diff hC s_49 rfl rfl (ct_X11_diff e2) ml_L_43 rfl rfl rfl rfl rfl rfl dL_law_427 ?_
  refine v_lcmp (pc := 430) hC dL_law_430 ?_
  refine v_if_eq (pc := 431) (tgt := 1291) hC dL_law_431 rfl (fun _ => ?_) (fun c => absurd ((lg_cmp_eq r r).mpr rfl) c)
  exact kk s2 e3
theorem law_lane {g : Gl} {M : Mc} {rm : Room} {Q : State → Prop} {b L j : Nat} {xs : Nat → Int32} {Inv : Sg → Prop} {s : Sg} (hfr : rm.frames = 10) (hlo : rm.locals = 404) (hok : ok_lane Inv) (hI : Inv s) (hC : Cx SS g M iL rm) (hX : HX M b L xs) (h1 : vp_in (nI j + (1 : Int32)) L) (h2 : vp_in (nI j + (2 : Int32)) L) (h3 : vp_in (nI j + (3 : Int32)) L) (h4 : vp_in (nI j + (4 : Int32)) L) (h5 : vp_in (nI j + (5 : Int32)) L) (kk : ∀ s2, Inv s2 → V SS g M iL Q 1291 [some (.ref b), some (.ref (gad g 0)), some (.ref (gad g 49)), some (.int (nI j))] [] s2) : V SS g M iL Q 436 [some (.ref b), some (.ref (gad g 0)), some (.ref (gad g 49)), some (.int (nI j))] [] s := by
  obtain ⟨fr0, ce0, sl0, lo0⟩ := rm
  simp only at hfr hlo
  subst hfr; subst hlo
  obtain ⟨r, s1, s2, e1, e2, e3⟩ := hok (xs ((nI j) + (1 : Int32)).toNatClampNeg) (xs ((nI j) + (2 : Int32)).toNatClampNeg) (xs ((nI j) + (3 : Int32)).toNatClampNeg) s hI
  refine v_aload_n (pc := 436) hC dL_law_436 rfl ?_
  refine v_aload_n (pc := 437) hC dL_law_437 rfl ?_
  refine v_iload_n (pc := 438) hC dL_law_438 rfl ?_
  refine v_iconst (pc := 439) (1 : Int32) rfl hC dL_law_439 ?_
  refine v_iadd (pc := 440) hC dL_law_440 ?_
  refine v_sld (pc := 441) hC hX h1 dL_law_441 ?_
  refine v_aload_n (pc := 442) hC dL_law_442 rfl ?_
  refine v_iload_n (pc := 443) hC dL_law_443 rfl ?_
  refine v_iconst (pc := 444) (2 : Int32) rfl hC dL_law_444 ?_
  refine v_iadd (pc := 445) hC dL_law_445 ?_
  refine v_sld (pc := 446) hC hX h2 dL_law_446 ?_
  refine v_aload_n (pc := 447) hC dL_law_447 rfl ?_
  refine v_iload_n (pc := 448) hC dL_law_448 rfl ?_
  refine v_iconst (pc := 449) (3 : Int32) rfl hC dL_law_449 ?_
  refine v_iadd (pc := 450) hC dL_law_450 ?_
  refine v_sld (pc := 451) hC hX h3 dL_law_451 ?_
  refine v_cVr (pc := 452) [] [.long r] gm_X10_lane hC s_0 rfl rfl (ct_X10_lane e1) ml_L_44 rfl rfl rfl rfl rfl rfl dL_law_452 ?_
  refine v_aload_n (pc := 455) hC dL_law_455 rfl ?_
  refine v_aload_n (pc := 456) hC dL_law_456 rfl ?_
  refine v_iload_n (pc := 457) hC dL_law_457 rfl ?_
  refine v_iconst (pc := 458) (1 : Int32) rfl hC dL_law_458 ?_
  refine v_iadd (pc := 459) hC dL_law_459 ?_
  refine v_sld (pc := 460) hC hX h1 dL_law_460 ?_
  refine v_aload_n (pc := 461) hC dL_law_461 rfl ?_
  refine v_iload_n (pc := 462) hC dL_law_462 rfl ?_
  refine v_iconst (pc := 463) (2 : Int32) rfl hC dL_law_463 ?_
  refine v_iadd (pc := 464) hC dL_law_464 ?_
  refine v_sld (pc := 465) hC hX h2 dL_law_465 ?_
  refine v_aload_n (pc := 466) hC dL_law_466 rfl ?_
  refine v_iload_n (pc := 467) hC dL_law_467 rfl ?_
  refine v_iconst (pc := 468) (3 : Int32) rfl hC dL_law_468 ?_
  refine v_iadd (pc := 469) hC dL_law_469 ?_
  refine v_sld (pc := 470) hC hX h3 dL_law_470 ?_
  refine v_cVr (pc := 471) [.long r] [.long r, .long r] gm_X11_lane hC s_49 rfl rfl (ct_X11_lane e2) ml_L_48 rfl rfl rfl rfl rfl rfl dL_law_471 ?_
  refine v_lcmp (pc := 474) hC dL_law_474 ?_
  refine v_if_eq (pc := 475) (tgt := 1291) hC dL_law_475 rfl (fun _ => ?_) (fun c => absurd ((lg_cmp_eq r r).mpr rfl) c)
  exact kk s2 e3
theorem law_counts {g : Gl} {M : Mc} {rm : Room} {Q : State → Prop} {b L j : Nat} {xs : Nat → Int32} {Inv : Sg → Prop} {s : Sg} (hfr : rm.frames = 10) (hlo : rm.locals = 404) (hok : ok_counts Inv) (hI : Inv s) (hC : Cx SS g M iL rm) (hX : HX M b L xs) (h1 : vp_in (nI j + (1 : Int32)) L) (h2 : vp_in (nI j + (2 : Int32)) L) (h3 : vp_in (nI j + (3 : Int32)) L) (h4 : vp_in (nI j + (4 : Int32)) L) (h5 : vp_in (nI j + (5 : Int32)) L) (kk : ∀ s2, Inv s2 → V SS g M iL Q 1291 [some (.ref b), some (.ref (gad g 0)), some (.ref (gad g 49)), some (.int (nI j))] [] s2) : V SS g M iL Q 480 [some (.ref b), some (.ref (gad g 0)), some (.ref (gad g 49)), some (.int (nI j))] [] s := by
  obtain ⟨fr0, ce0, sl0, lo0⟩ := rm
  simp only at hfr hlo
  subst hfr; subst hlo
  obtain ⟨r, s1, s2, e1, e2, e3⟩ := hok (xs ((nI j) + (1 : Int32)).toNatClampNeg) s hI
  refine v_aload_n (pc := 480) hC dL_law_480 rfl ?_
  refine v_aload_n (pc := 481) hC dL_law_481 rfl ?_
  refine v_iload_n (pc := 482) hC dL_law_482 rfl ?_
  refine v_iconst (pc := 483) (1 : Int32) rfl hC dL_law_483 ?_
  refine v_iadd (pc := 484) hC dL_law_484 ?_
  refine v_sld (pc := 485) hC hX h1 dL_law_485 ?_
  refine v_cVr (pc := 486) [] [.int r] gm_X10_counts hC s_0 rfl rfl (ct_X10_counts e1) ml_L_49 rfl rfl rfl rfl rfl rfl dL_law_486 ?_
  refine v_aload_n (pc := 489) hC dL_law_489 rfl ?_
  refine v_aload_n (pc := 490) hC dL_law_490 rfl ?_
  refine v_iload_n (pc := 491) hC dL_law_491 rfl ?_
  refine v_iconst (pc := 492) (1 : Int32) rfl hC dL_law_492 ?_
  refine v_iadd (pc := 493) hC dL_law_493 ?_
  refine v_sld (pc := 494) hC hX h1 dL_law_494 ?_
  refine v_cVr (pc := 495) [.int r] [.int r, .int r] gm_X11_counts hC s_49 rfl rfl (ct_X11_counts e2) ml_L_53 rfl rfl rfl rfl rfl rfl dL_law_495 ?_
  refine v_ic_eq (pc := 498) (tgt := 1291) hC dL_law_498 rfl (fun _ => ?_) (fun c => absurd rfl c)
  exact kk s2 e3
theorem law_lean {g : Gl} {M : Mc} {rm : Room} {Q : State → Prop} {b L j : Nat} {xs : Nat → Int32} {Inv : Sg → Prop} {s : Sg} (hfr : rm.frames = 10) (hlo : rm.locals = 404) (hok : ok_lean Inv) (hI : Inv s) (hC : Cx SS g M iL rm) (hX : HX M b L xs) (h1 : vp_in (nI j + (1 : Int32)) L) (h2 : vp_in (nI j + (2 : Int32)) L) (h3 : vp_in (nI j + (3 : Int32)) L) (h4 : vp_in (nI j + (4 : Int32)) L) (h5 : vp_in (nI j + (5 : Int32)) L) (kk : ∀ s2, Inv s2 → V SS g M iL Q 1291 [some (.ref b), some (.ref (gad g 0)), some (.ref (gad g 49)), some (.int (nI j))] [] s2) : V SS g M iL Q 503 [some (.ref b), some (.ref (gad g 0)), some (.ref (gad g 49)), some (.int (nI j))] [] s := by
  obtain ⟨fr0, ce0, sl0, lo0⟩ := rm
  simp only at hfr hlo
  subst hfr; subst hlo
  obtain ⟨r, s1, s2, e1, e2, e3⟩ := hok (xs ((nI j) + (1 : Int32)).toNatClampNeg) (xs ((nI j) + (2 : Int32)).toNatClampNeg) s hI
  refine v_aload_n (pc := 503) hC dL_law_503 rfl ?_
  refine v_aload_n (pc := 504) hC dL_law_504 rfl ?_
  refine v_iload_n (pc := 505) hC dL_law_505 rfl ?_
  refine v_iconst (pc := 506) (1 : Int32) rfl hC dL_law_506 ?_
  refine v_iadd (pc := 507) hC dL_law_507 ?_
  refine v_sld (pc := 508) hC hX h1 dL_law_508 ?_
  refine v_aload_n (pc := 509) hC dL_law_509 rfl ?_
  refine v_iload_n (pc := 510) hC dL_law_510 rfl ?_
  refine v_iconst (pc := 511) (2 : Int32) rfl hC dL_law_511 ?_
  refine v_iadd (pc := 512) hC dL_law_512 ?_
  refine v_sld (pc := 513) hC hX h2 dL_law_513 ?_
  refine v_cVr (pc := 514) [] [.int r] gm_X10_lean hC s_0 rfl rfl (ct_X10_lean e1) ml_L_54 rfl rfl rfl rfl rfl rfl dL_law_514 ?_
  refine v_aload_n (pc := 517) hC dL_law_517 rfl ?_
  refine v_aload_n (pc := 518) hC dL_law_518 rfl ?_
  refine v_iload_n (pc := 519) hC dL_law_519 rfl ?_
  refine v_iconst (pc := 520) (1 : Int32) rfl hC dL_law_520 ?_
  refine v_iadd (pc := 521) hC dL_law_521 ?_
  refine v_sld (pc := 522) hC hX h1 dL_law_522 ?_
  refine v_aload_n (pc := 523) hC dL_law_523 rfl ?_
  refine v_iload_n (pc := 524) hC dL_law_524 rfl ?_
  refine v_iconst (pc := 525) (2 : Int32) rfl hC dL_law_525 ?_
  refine v_iadd (pc := 526) hC dL_law_526 ?_
  refine v_sld (pc := 527) hC hX h2 dL_law_527 ?_
  refine v_cVr (pc := 528) [.int r] [.int r, .int r] gm_X11_lean hC s_49 rfl rfl (ct_X11_lean e2) ml_L_57 rfl rfl rfl rfl rfl rfl dL_law_528 ?_
  refine v_ic_eq (pc := 531) (tgt := 1291) hC dL_law_531 rfl (fun _ => ?_) (fun c => absurd rfl c)
  exact kk s2 e3
theorem law_chance {g : Gl} {M : Mc} {rm : Room} {Q : State → Prop} {b L j : Nat} {xs : Nat → Int32} {Inv : Sg → Prop} {s : Sg} (hfr : rm.frames = 10) (hlo : rm.locals = 404) (hok : ok_chance Inv) (hI : Inv s) (hC : Cx SS g M iL rm) (hX : HX M b L xs) (h1 : vp_in (nI j + (1 : Int32)) L) (h2 : vp_in (nI j + (2 : Int32)) L) (h3 : vp_in (nI j + (3 : Int32)) L) (h4 : vp_in (nI j + (4 : Int32)) L) (h5 : vp_in (nI j + (5 : Int32)) L) (kk : ∀ s2, Inv s2 → V SS g M iL Q 1291 [some (.ref b), some (.ref (gad g 0)), some (.ref (gad g 49)), some (.int (nI j))] [] s2) : V SS g M iL Q 536 [some (.ref b), some (.ref (gad g 0)), some (.ref (gad g 49)), some (.int (nI j))] [] s := by
  obtain ⟨fr0, ce0, sl0, lo0⟩ := rm
  simp only at hfr hlo
  subst hfr; subst hlo
  obtain ⟨r, s1, s2, e1, e2, e3⟩ := hok s hI
  refine v_aload_n (pc := 536) hC dL_law_536 rfl ?_
  refine v_cVr (pc := 537) [] [.int r] gm_X10_chance hC s_0 rfl rfl (ct_X10_chance e1) ml_L_58 rfl rfl rfl rfl rfl rfl dL_law_537 ?_
  refine v_aload_n (pc := 540) hC dL_law_540 rfl ?_
  refine v_cVr (pc := 541) [.int r] [.int r, .int r] gm_X11_chance hC s_49 rfl rfl (ct_X11_chance e2) ml_L_62 rfl rfl rfl rfl rfl rfl dL_law_541 ?_
  refine v_ic_eq (pc := 544) (tgt := 1291) hC dL_law_544 rfl (fun _ => ?_) (fun c => absurd rfl c)
  exact kk s2 e3
theorem law_ran {g : Gl} {M : Mc} {rm : Room} {Q : State → Prop} {b L j : Nat} {xs : Nat → Int32} {Inv : Sg → Prop} {s : Sg} (hfr : rm.frames = 10) (hlo : rm.locals = 404) (hok : ok_ran Inv) (hI : Inv s) (hC : Cx SS g M iL rm) (hX : HX M b L xs) (h1 : vp_in (nI j + (1 : Int32)) L) (h2 : vp_in (nI j + (2 : Int32)) L) (h3 : vp_in (nI j + (3 : Int32)) L) (h4 : vp_in (nI j + (4 : Int32)) L) (h5 : vp_in (nI j + (5 : Int32)) L) (kk : ∀ s2, Inv s2 → V SS g M iL Q 1291 [some (.ref b), some (.ref (gad g 0)), some (.ref (gad g 49)), some (.int (nI j))] [] s2) : V SS g M iL Q 549 [some (.ref b), some (.ref (gad g 0)), some (.ref (gad g 49)), some (.int (nI j))] [] s := by
  obtain ⟨fr0, ce0, sl0, lo0⟩ := rm
  simp only at hfr hlo
  subst hfr; subst hlo
  obtain ⟨r, s1, s2, e1, e2, e3⟩ := hok (xs ((nI j) + (1 : Int32)).toNatClampNeg) s hI
  refine v_aload_n (pc := 549) hC dL_law_549 rfl ?_
  refine v_aload_n (pc := 550) hC dL_law_550 rfl ?_
  refine v_iload_n (pc := 551) hC dL_law_551 rfl ?_
  refine v_iconst (pc := 552) (1 : Int32) rfl hC dL_law_552 ?_
  refine v_iadd (pc := 553) hC dL_law_553 ?_
  refine v_sld (pc := 554) hC hX h1 dL_law_554 ?_
  refine v_cVr (pc := 555) [] [.int r] gm_X10_ran hC s_0 rfl rfl (ct_X10_ran e1) ml_L_63 rfl rfl rfl rfl rfl rfl dL_law_555 ?_
  refine v_aload_n (pc := 558) hC dL_law_558 rfl ?_
  refine v_aload_n (pc := 559) hC dL_law_559 rfl ?_
  refine v_iload_n (pc := 560) hC dL_law_560 rfl ?_
  refine v_iconst (pc := 561) (1 : Int32) rfl hC dL_law_561 ?_
  refine v_iadd (pc := 562) hC dL_law_562 ?_
  refine v_sld (pc := 563) hC hX h1 dL_law_563 ?_
  refine v_cVr (pc := 564) [.int r] [.int r, .int r] gm_X11_ran hC s_49 rfl rfl (ct_X11_ran e2) ml_L_66 rfl rfl rfl rfl rfl rfl dL_law_564 ?_
  refine v_ic_eq (pc := 567) (tgt := 1291) hC dL_law_567 rfl (fun _ => ?_) (fun c => absurd rfl c)
  exact kk s2 e3
theorem law_own {g : Gl} {M : Mc} {rm : Room} {Q : State → Prop} {b L j : Nat} {xs : Nat → Int32} {Inv : Sg → Prop} {s : Sg} (hfr : rm.frames = 10) (hlo : rm.locals = 404) (hok : ok_own Inv) (hI : Inv s) (hC : Cx SS g M iL rm) (hX : HX M b L xs) (h1 : vp_in (nI j + (1 : Int32)) L) (h2 : vp_in (nI j + (2 : Int32)) L) (h3 : vp_in (nI j + (3 : Int32)) L) (h4 : vp_in (nI j + (4 : Int32)) L) (h5 : vp_in (nI j + (5 : Int32)) L) (kk : ∀ s2, Inv s2 → V SS g M iL Q 1291 [some (.ref b), some (.ref (gad g 0)), some (.ref (gad g 49)), some (.int (nI j))] [] s2) : V SS g M iL Q 572 [some (.ref b), some (.ref (gad g 0)), some (.ref (gad g 49)), some (.int (nI j))] [] s := by
  obtain ⟨fr0, ce0, sl0, lo0⟩ := rm
  simp only at hfr hlo
  subst hfr; subst hlo
  obtain ⟨r, s1, s2, e1, e2, e3⟩ := hok (xs ((nI j) + (1 : Int32)).toNatClampNeg) (xs ((nI j) + (2 : Int32)).toNatClampNeg) s hI
  refine v_aload_n (pc := 572) hC dL_law_572 rfl ?_
  refine v_aload_n (pc := 573) hC dL_law_573 rfl ?_
  refine v_iload_n (pc := 574) hC dL_law_574 rfl ?_
  refine v_iconst (pc := 575) (1 : Int32) rfl hC dL_law_575 ?_
  refine v_iadd (pc := 576) hC dL_law_576 ?_
  refine v_sld (pc := 577) hC hX h1 dL_law_577 ?_
  refine v_aload_n (pc := 578) hC dL_law_578 rfl ?_
  refine v_iload_n (pc := 579) hC dL_law_579 rfl ?_
  refine v_iconst (pc := 580) (2 : Int32) rfl hC dL_law_580 ?_
  refine v_iadd (pc := 581) hC dL_law_581 ?_
  refine v_sld (pc := 582) hC hX h2 dL_law_582 ?_
  refine v_cVr (pc := 583) [] [.long r] gm_X10_own hC s_0 rfl rfl (ct_X10_own e1) ml_L_67 rfl rfl rfl rfl rfl rfl dL_law_583 ?_
  refine v_aload_n (pc := 586) hC dL_law_586 rfl ?_
  refine v_aload_n (pc := 587) hC dL_law_587 rfl ?_
  refine v_iload_n (pc := 588) hC dL_law_588 rfl ?_
  refine v_iconst (pc := 589) (1 : Int32) rfl hC dL_law_589 ?_
  refine v_iadd (pc := 590) hC dL_law_590 ?_
  refine v_sld (pc := 591) hC hX h1 dL_law_591 ?_
  refine v_aload_n (pc := 592) hC dL_law_592 rfl ?_
  refine v_iload_n (pc := 593) hC dL_law_593 rfl ?_
  refine v_iconst (pc := 594) (2 : Int32) rfl hC dL_law_594 ?_
  refine v_iadd (pc := 595) hC dL_law_595 ?_
  refine v_sld (pc := 596) hC hX h2 dL_law_596 ?_
  refine v_cVr (pc := 597) [.long r] [.long r, .long r] gm_X11_own hC s_49 rfl rfl (ct_X11_own e2) ml_L_70 rfl rfl rfl rfl rfl rfl dL_law_597 ?_
  refine v_lcmp (pc := 600) hC dL_law_600 ?_
  refine v_if_eq (pc := 601) (tgt := 1291) hC dL_law_601 rfl (fun _ => ?_) (fun c => absurd ((lg_cmp_eq r r).mpr rfl) c)
  exact kk s2 e3
theorem law_fast {g : Gl} {M : Mc} {rm : Room} {Q : State → Prop} {b L j : Nat} {xs : Nat → Int32} {Inv : Sg → Prop} {s : Sg} (hfr : rm.frames = 10) (hlo : rm.locals = 404) (hok : ok_fast Inv) (hI : Inv s) (hC : Cx SS g M iL rm) (hX : HX M b L xs) (h1 : vp_in (nI j + (1 : Int32)) L) (h2 : vp_in (nI j + (2 : Int32)) L) (h3 : vp_in (nI j + (3 : Int32)) L) (h4 : vp_in (nI j + (4 : Int32)) L) (h5 : vp_in (nI j + (5 : Int32)) L) (kk : ∀ s2, Inv s2 → V SS g M iL Q 1291 [some (.ref b), some (.ref (gad g 0)), some (.ref (gad g 49)), some (.int (nI j))] [] s2) : V SS g M iL Q 606 [some (.ref b), some (.ref (gad g 0)), some (.ref (gad g 49)), some (.int (nI j))] [] s := by
  obtain ⟨fr0, ce0, sl0, lo0⟩ := rm
  simp only at hfr hlo
  subst hfr; subst hlo
  obtain ⟨r, s1, s2, e1, e2, e3⟩ := hok (xs ((nI j) + (1 : Int32)).toNatClampNeg) s hI
  refine v_aload_n (pc := 606) hC dL_law_606 rfl ?_
  refine v_aload_n (pc := 607) hC dL_law_607 rfl ?_
  refine v_iload_n (pc := 608) hC dL_law_608 rfl ?_
  refine v_iconst (pc := 609) (1 : Int32) rfl hC dL_law_609 ?_
  refine v_iadd (pc := 610) hC dL_law_610 ?_
  refine v_sld (pc := 611) hC hX h1 dL_law_611 ?_
  refine v_cVr (pc := 612) [] [.int r] gm_X10_fast hC s_0 rfl rfl (ct_X10_fast e1) ml_L_71 rfl rfl rfl rfl rfl rfl dL_law_612 ?_
  refine v_aload_n (pc := 615) hC dL_law_615 rfl ?_
  refine v_aload_n (pc := 616) hC dL_law_616 rfl ?_
  refine v_iload_n (pc := 617) hC dL_law_617 rfl ?_
  refine v_iconst (pc := 618) (1 : Int32) rfl hC dL_law_618 ?_
  refine v_iadd (pc := 619) hC dL_law_619 ?_
  refine v_sld (pc := 620) hC hX h1 dL_law_620 ?_
  refine v_cVr (pc := 621) [.int r] [.int r, .int r] gm_X11_fast hC s_49 rfl rfl (ct_X11_fast e2) ml_L_74 rfl rfl rfl rfl rfl rfl dL_law_621 ?_
  refine v_ic_eq (pc := 624) (tgt := 1291) hC dL_law_624 rfl (fun _ => ?_) (fun c => absurd rfl c)
  exact kk s2 e3
theorem law_twice {g : Gl} {M : Mc} {rm : Room} {Q : State → Prop} {b L j : Nat} {xs : Nat → Int32} {Inv : Sg → Prop} {s : Sg} (hfr : rm.frames = 10) (hlo : rm.locals = 404) (hok : ok_twice Inv) (hI : Inv s) (hC : Cx SS g M iL rm) (hX : HX M b L xs) (h1 : vp_in (nI j + (1 : Int32)) L) (h2 : vp_in (nI j + (2 : Int32)) L) (h3 : vp_in (nI j + (3 : Int32)) L) (h4 : vp_in (nI j + (4 : Int32)) L) (h5 : vp_in (nI j + (5 : Int32)) L) (kk : ∀ s2, Inv s2 → V SS g M iL Q 1291 [some (.ref b), some (.ref (gad g 0)), some (.ref (gad g 49)), some (.int (nI j))] [] s2) : V SS g M iL Q 629 [some (.ref b), some (.ref (gad g 0)), some (.ref (gad g 49)), some (.int (nI j))] [] s := by
  obtain ⟨fr0, ce0, sl0, lo0⟩ := rm
  simp only at hfr hlo
  subst hfr; subst hlo
  obtain ⟨r, s1, s2, e1, e2, e3⟩ := hok (xs ((nI j) + (1 : Int32)).toNatClampNeg) (xs ((nI j) + (2 : Int32)).toNatClampNeg) s hI
  refine v_aload_n (pc := 629) hC dL_law_629 rfl ?_
  refine v_aload_n (pc := 630) hC dL_law_630 rfl ?_
  refine v_iload_n (pc := 631) hC dL_law_631 rfl ?_
  refine v_iconst (pc := 632) (1 : Int32) rfl hC dL_law_632 ?_
  refine v_iadd (pc := 633) hC dL_law_633 ?_
  refine v_sld (pc := 634) hC hX h1 dL_law_634 ?_
  refine v_aload_n (pc := 635) hC dL_law_635 rfl ?_
  refine v_iload_n (pc := 636) hC dL_law_636 rfl ?_
  refine v_iconst (pc := 637) (2 : Int32) rfl hC dL_law_637 ?_
  refine v_iadd (pc := 638) hC dL_law_638 ?_
  refine v_sld (pc := 639) hC hX h2 dL_law_639 ?_
  refine v_cVr (pc := 640) [] [.int r] gm_X10_twice hC s_0 rfl rfl (ct_X10_twice e1) ml_L_75 rfl rfl rfl rfl rfl rfl dL_law_640 ?_
  refine v_aload_n (pc := 643) hC dL_law_643 rfl ?_
  refine v_aload_n (pc := 644) hC dL_law_644 rfl ?_
  refine v_iload_n (pc := 645) hC dL_law_645 rfl ?_
  refine v_iconst (pc := 646) (1 : Int32) rfl hC dL_law_646 ?_
  refine v_iadd (pc := 647) hC dL_law_647 ?_
  refine v_sld (pc := 648) hC hX h1 dL_law_648 ?_
  refine v_aload_n (pc := 649) hC dL_law_649 rfl ?_
  refine v_iload_n (pc := 650) hC dL_law_650 rfl ?_
  refine v_iconst (pc := 651) (2 : Int32) rfl hC dL_law_651 ?_
  refine v_iadd (pc := 652) hC dL_law_652 ?_
  refine v_sld (pc := 653) hC hX h2 dL_law_653 ?_
  refine v_cVr (pc := 654) [.int r] [.int r, .int r] gm_X11_twice hC s_49 rfl rfl (ct_X11_twice e2) ml_L_78 rfl rfl rfl rfl rfl rfl dL_law_654 ?_
  refine v_ic_eq (pc := 657) (tgt := 1291) hC dL_law_657 rfl (fun _ => ?_) (fun c => absurd rfl c)
  exact kk s2 e3
theorem law_order {g : Gl} {M : Mc} {rm : Room} {Q : State → Prop} {b L j : Nat} {xs : Nat → Int32} {Inv : Sg → Prop} {s : Sg} (hfr : rm.frames = 10) (hlo : rm.locals = 404) (hok : ok_order Inv) (hI : Inv s) (hC : Cx SS g M iL rm) (hX : HX M b L xs) (h1 : vp_in (nI j + (1 : Int32)) L) (h2 : vp_in (nI j + (2 : Int32)) L) (h3 : vp_in (nI j + (3 : Int32)) L) (h4 : vp_in (nI j + (4 : Int32)) L) (h5 : vp_in (nI j + (5 : Int32)) L) (kk : ∀ s2, Inv s2 → V SS g M iL Q 1291 [some (.ref b), some (.ref (gad g 0)), some (.ref (gad g 49)), some (.int (nI j))] [] s2) : V SS g M iL Q 662 [some (.ref b), some (.ref (gad g 0)), some (.ref (gad g 49)), some (.int (nI j))] [] s := by
  obtain ⟨fr0, ce0, sl0, lo0⟩ := rm
  simp only at hfr hlo
  subst hfr; subst hlo
  obtain ⟨r, s1, s2, e1, e2, e3⟩ := hok (xs ((nI j) + (1 : Int32)).toNatClampNeg) s hI
  refine v_aload_n (pc := 662) hC dL_law_662 rfl ?_
  refine v_aload_n (pc := 663) hC dL_law_663 rfl ?_
  refine v_iload_n (pc := 664) hC dL_law_664 rfl ?_
  refine v_iconst (pc := 665) (1 : Int32) rfl hC dL_law_665 ?_
  refine v_iadd (pc := 666) hC dL_law_666 ?_
  refine v_sld (pc := 667) hC hX h1 dL_law_667 ?_
  refine v_cVr (pc := 668) [] [.int r] gm_X10_order hC s_0 rfl rfl (ct_X10_order e1) ml_L_79 rfl rfl rfl rfl rfl rfl dL_law_668 ?_
  refine v_aload_n (pc := 671) hC dL_law_671 rfl ?_
  refine v_aload_n (pc := 672) hC dL_law_672 rfl ?_
  refine v_iload_n (pc := 673) hC dL_law_673 rfl ?_
  refine v_iconst (pc := 674) (1 : Int32) rfl hC dL_law_674 ?_
  refine v_iadd (pc := 675) hC dL_law_675 ?_
  refine v_sld (pc := 676) hC hX h1 dL_law_676 ?_
  refine v_cVr (pc := 677) [.int r] [.int r, .int r] gm_X11_order hC s_49 rfl rfl (ct_X11_order e2) ml_L_82 rfl rfl rfl rfl rfl rfl dL_law_677 ?_
  refine v_ic_eq (pc := 680) (tgt := 1291) hC dL_law_680 rfl (fun _ => ?_) (fun c => absurd rfl c)
  exact kk s2 e3
theorem law_right {g : Gl} {M : Mc} {rm : Room} {Q : State → Prop} {b L j : Nat} {xs : Nat → Int32} {Inv : Sg → Prop} {s : Sg} (hfr : rm.frames = 10) (hlo : rm.locals = 404) (hok : ok_right Inv) (hI : Inv s) (hC : Cx SS g M iL rm) (hX : HX M b L xs) (h1 : vp_in (nI j + (1 : Int32)) L) (h2 : vp_in (nI j + (2 : Int32)) L) (h3 : vp_in (nI j + (3 : Int32)) L) (h4 : vp_in (nI j + (4 : Int32)) L) (h5 : vp_in (nI j + (5 : Int32)) L) (kk : ∀ s2, Inv s2 → V SS g M iL Q 1291 [some (.ref b), some (.ref (gad g 0)), some (.ref (gad g 49)), some (.int (nI j))] [] s2) : V SS g M iL Q 685 [some (.ref b), some (.ref (gad g 0)), some (.ref (gad g 49)), some (.int (nI j))] [] s := by
  obtain ⟨fr0, ce0, sl0, lo0⟩ := rm
  simp only at hfr hlo
  subst hfr; subst hlo
  obtain ⟨r, s1, s2, e1, e2, e3⟩ := hok (xs ((nI j) + (1 : Int32)).toNatClampNeg) (xs ((nI j) + (2 : Int32)).toNatClampNeg) s hI
  refine v_aload_n (pc := 685) hC dL_law_685 rfl ?_
  refine v_aload_n (pc := 686) hC dL_law_686 rfl ?_
  refine v_iload_n (pc := 687) hC dL_law_687 rfl ?_
  refine v_iconst (pc := 688) (1 : Int32) rfl hC dL_law_688 ?_
  refine v_iadd (pc := 689) hC dL_law_689 ?_
  refine v_sld (pc := 690) hC hX h1 dL_law_690 ?_
  refine v_aload_n (pc := 691) hC dL_law_691 rfl ?_
  refine v_iload_n (pc := 692) hC dL_law_692 rfl ?_
  refine v_iconst (pc := 693) (2 : Int32) rfl hC dL_law_693 ?_
  refine v_iadd (pc := 694) hC dL_law_694 ?_
  refine v_sld (pc := 695) hC hX h2 dL_law_695 ?_
  refine v_cVr (pc := 696) [] [.long r] gm_X10_right hC s_0 rfl rfl (ct_X10_right e1) ml_L_83 rfl rfl rfl rfl rfl rfl dL_law_696 ?_
  refine v_aload_n (pc := 699) hC dL_law_699 rfl ?_
  refine v_aload_n (pc := 700) hC dL_law_700 rfl ?_
  refine v_iload_n (pc := 701) hC dL_law_701 rfl ?_
  refine v_iconst (pc := 702) (1 : Int32) rfl hC dL_law_702 ?_
  refine v_iadd (pc := 703) hC dL_law_703 ?_
  refine v_sld (pc := 704) hC hX h1 dL_law_704 ?_
  refine v_aload_n (pc := 705) hC dL_law_705 rfl ?_
  refine v_iload_n (pc := 706) hC dL_law_706 rfl ?_
  refine v_iconst (pc := 707) (2 : Int32) rfl hC dL_law_707 ?_
  refine v_iadd (pc := 708) hC dL_law_708 ?_
  refine v_sld (pc := 709) hC hX h2 dL_law_709 ?_
  refine v_cVr (pc := 710) [.long r] [.long r, .long r] gm_X11_right hC s_49 rfl rfl (ct_X11_right e2) ml_L_86 rfl rfl rfl rfl rfl rfl dL_law_710 ?_
  refine v_lcmp (pc := 713) hC dL_law_713 ?_
  refine v_if_eq (pc := 714) (tgt := 1291) hC dL_law_714 rfl (fun _ => ?_) (fun c => absurd ((lg_cmp_eq r r).mpr rfl) c)
  exact kk s2 e3
theorem law_place {g : Gl} {M : Mc} {rm : Room} {Q : State → Prop} {b L j : Nat} {xs : Nat → Int32} {Inv : Sg → Prop} {s : Sg} (hfr : rm.frames = 10) (hlo : rm.locals = 404) (hok : ok_place Inv) (hI : Inv s) (hC : Cx SS g M iL rm) (hX : HX M b L xs) (h1 : vp_in (nI j + (1 : Int32)) L) (h2 : vp_in (nI j + (2 : Int32)) L) (h3 : vp_in (nI j + (3 : Int32)) L) (h4 : vp_in (nI j + (4 : Int32)) L) (h5 : vp_in (nI j + (5 : Int32)) L) (kk : ∀ s2, Inv s2 → V SS g M iL Q 1291 [some (.ref b), some (.ref (gad g 0)), some (.ref (gad g 49)), some (.int (nI j))] [] s2) : V SS g M iL Q 719 [some (.ref b), some (.ref (gad g 0)), some (.ref (gad g 49)), some (.int (nI j))] [] s := by
  obtain ⟨fr0, ce0, sl0, lo0⟩ := rm
  simp only at hfr hlo
  subst hfr; subst hlo
  obtain ⟨r, s1, s2, e1, e2, e3⟩ := hok (xs ((nI j) + (1 : Int32)).toNatClampNeg) (xs ((nI j) + (2 : Int32)).toNatClampNeg) s hI
  refine v_aload_n (pc := 719) hC dL_law_719 rfl ?_
  refine v_aload_n (pc := 720) hC dL_law_720 rfl ?_
  refine v_iload_n (pc := 721) hC dL_law_721 rfl ?_
  refine v_iconst (pc := 722) (1 : Int32) rfl hC dL_law_722 ?_
  refine v_iadd (pc := 723) hC dL_law_723 ?_
  refine v_sld (pc := 724) hC hX h1 dL_law_724 ?_
  refine v_aload_n (pc := 725) hC dL_law_725 rfl ?_
  refine v_iload_n (pc := 726) hC dL_law_726 rfl ?_
  refine v_iconst (pc := 727) (2 : Int32) rfl hC dL_law_727 ?_
  refine v_iadd (pc := 728) hC dL_law_728 ?_
  refine v_sld (pc := 729) hC hX h2 dL_law_729 ?_
  refine v_cVr (pc := 730) [] [.int r] gm_X10_place hC s_0 rfl rfl (ct_X10_place e1) ml_L_87 rfl rfl rfl rfl rfl rfl dL_law_730 ?_
  refine v_aload_n (pc := 733) hC dL_law_733 rfl ?_
  refine v_aload_n (pc := 734) hC dL_law_734 rfl ?_
  refine v_iload_n (pc := 735) hC dL_law_735 rfl ?_
  refine v_iconst (pc := 736) (1 : Int32) rfl hC dL_law_736 ?_
  refine v_iadd (pc := 737) hC dL_law_737 ?_
  refine v_sld (pc := 738) hC hX h1 dL_law_738 ?_
  refine v_aload_n (pc := 739) hC dL_law_739 rfl ?_
  refine v_iload_n (pc := 740) hC dL_law_740 rfl ?_
  refine v_iconst (pc := 741) (2 : Int32) rfl hC dL_law_741 ?_
  refine v_iadd (pc := 742) hC dL_law_742 ?_
  refine v_sld (pc := 743) hC hX h2 dL_law_743 ?_
  refine v_cVr (pc := 744) [.int r] [.int r, .int r] gm_X11_place hC s_49 rfl rfl (ct_X11_place e2) ml_L_90 rfl rfl rfl rfl rfl rfl dL_law_744 ?_
  refine v_ic_eq (pc := 747) (tgt := 1291) hC dL_law_747 rfl (fun _ => ?_) (fun c => absurd rfl c)
  exact kk s2 e3
theorem law_medals {g : Gl} {M : Mc} {rm : Room} {Q : State → Prop} {b L j : Nat} {xs : Nat → Int32} {Inv : Sg → Prop} {s : Sg} (hfr : rm.frames = 10) (hlo : rm.locals = 404) (hok : ok_medals Inv) (hI : Inv s) (hC : Cx SS g M iL rm) (hX : HX M b L xs) (h1 : vp_in (nI j + (1 : Int32)) L) (h2 : vp_in (nI j + (2 : Int32)) L) (h3 : vp_in (nI j + (3 : Int32)) L) (h4 : vp_in (nI j + (4 : Int32)) L) (h5 : vp_in (nI j + (5 : Int32)) L) (kk : ∀ s2, Inv s2 → V SS g M iL Q 1291 [some (.ref b), some (.ref (gad g 0)), some (.ref (gad g 49)), some (.int (nI j))] [] s2) : V SS g M iL Q 752 [some (.ref b), some (.ref (gad g 0)), some (.ref (gad g 49)), some (.int (nI j))] [] s := by
  obtain ⟨fr0, ce0, sl0, lo0⟩ := rm
  simp only at hfr hlo
  subst hfr; subst hlo
  obtain ⟨r, s1, s2, e1, e2, e3⟩ := hok (xs ((nI j) + (1 : Int32)).toNatClampNeg) s hI
  refine v_aload_n (pc := 752) hC dL_law_752 rfl ?_
  refine v_aload_n (pc := 753) hC dL_law_753 rfl ?_
  refine v_iload_n (pc := 754) hC dL_law_754 rfl ?_
  refine v_iconst (pc := 755) (1 : Int32) rfl hC dL_law_755 ?_
  refine v_iadd (pc := 756) hC dL_law_756 ?_
  refine v_sld (pc := 757) hC hX h1 dL_law_757 ?_
  refine v_cVr (pc := 758) [] [.int r] gm_X10_medals hC s_0 rfl rfl (ct_X10_medals e1) ml_L_91 rfl rfl rfl rfl rfl rfl dL_law_758 ?_
  refine v_aload_n (pc := 761) hC dL_law_761 rfl ?_
  refine v_aload_n (pc := 762) hC dL_law_762 rfl ?_
  refine v_iload_n (pc := 763) hC dL_law_763 rfl ?_
  refine v_iconst (pc := 764) (1 : Int32) rfl hC dL_law_764 ?_
  refine v_iadd (pc := 765) hC dL_law_765 ?_
  refine v_sld (pc := 766) hC hX h1 dL_law_766 ?_
  refine v_cVr (pc := 767) [.int r] [.int r, .int r] gm_X11_medals hC s_49 rfl rfl (ct_X11_medals e2) ml_L_94 rfl rfl rfl rfl rfl rfl dL_law_767 ?_
  refine v_ic_eq (pc := 770) (tgt := 1291) hC dL_law_770 rfl (fun _ => ?_) (fun c => absurd rfl c)
  exact kk s2 e3
theorem law_type {g : Gl} {M : Mc} {rm : Room} {Q : State → Prop} {b L j : Nat} {xs : Nat → Int32} {Inv : Sg → Prop} {s : Sg} (hfr : rm.frames = 10) (hlo : rm.locals = 404) (hok : ok_type Inv) (hI : Inv s) (hC : Cx SS g M iL rm) (hX : HX M b L xs) (h1 : vp_in (nI j + (1 : Int32)) L) (h2 : vp_in (nI j + (2 : Int32)) L) (h3 : vp_in (nI j + (3 : Int32)) L) (h4 : vp_in (nI j + (4 : Int32)) L) (h5 : vp_in (nI j + (5 : Int32)) L) (kk : ∀ s2, Inv s2 → V SS g M iL Q 1291 [some (.ref b), some (.ref (gad g 0)), some (.ref (gad g 49)), some (.int (nI j))] [] s2) : V SS g M iL Q 775 [some (.ref b), some (.ref (gad g 0)), some (.ref (gad g 49)), some (.int (nI j))] [] s := by
  obtain ⟨fr0, ce0, sl0, lo0⟩ := rm
  simp only at hfr hlo
  subst hfr; subst hlo
  obtain ⟨r, s1, s2, e1, e2, e3⟩ := hok (xs ((nI j) + (1 : Int32)).toNatClampNeg) (xs ((nI j) + (2 : Int32)).toNatClampNeg) s hI
  refine v_aload_n (pc := 775) hC dL_law_775 rfl ?_
  refine v_aload_n (pc := 776) hC dL_law_776 rfl ?_
  refine v_iload_n (pc := 777) hC dL_law_777 rfl ?_
  refine v_iconst (pc := 778) (1 : Int32) rfl hC dL_law_778 ?_
  refine v_iadd (pc := 779) hC dL_law_779 ?_
  refine v_sld (pc := 780) hC hX h1 dL_law_780 ?_
  refine v_aload_n (pc := 781) hC dL_law_781 rfl ?_
  refine v_iload_n (pc := 782) hC dL_law_782 rfl ?_
  refine v_iconst (pc := 783) (2 : Int32) rfl hC dL_law_783 ?_
  refine v_iadd (pc := 784) hC dL_law_784 ?_
  refine v_sld (pc := 785) hC hX h2 dL_law_785 ?_
  refine v_cVr (pc := 786) [] [.int r] gm_X10_type hC s_0 rfl rfl (ct_X10_type e1) ml_L_95 rfl rfl rfl rfl rfl rfl dL_law_786 ?_
  refine v_aload_n (pc := 789) hC dL_law_789 rfl ?_
  refine v_aload_n (pc := 790) hC dL_law_790 rfl ?_
  refine v_iload_n (pc := 791) hC dL_law_791 rfl ?_
  refine v_iconst (pc := 792) (1 : Int32) rfl hC dL_law_792 ?_
  refine v_iadd (pc := 793) hC dL_law_793 ?_
  refine v_sld (pc := 794) hC hX h1 dL_law_794 ?_
  refine v_aload_n (pc := 795) hC dL_law_795 rfl ?_
  refine v_iload_n (pc := 796) hC dL_law_796 rfl ?_
  refine v_iconst (pc := 797) (2 : Int32) rfl hC dL_law_797 ?_
  refine v_iadd (pc := 798) hC dL_law_798 ?_
  refine v_sld (pc := 799) hC hX h2 dL_law_799 ?_
  refine v_cVr (pc := 800) [.int r] [.int r, .int r] gm_X11_type hC s_49 rfl rfl (ct_X11_type e2) ml_L_98 rfl rfl rfl rfl rfl rfl dL_law_800 ?_
  refine v_ic_eq (pc := 803) (tgt := 1291) hC dL_law_803 rfl (fun _ => ?_) (fun c => absurd rfl c)
  exact kk s2 e3
theorem law_wipe {g : Gl} {M : Mc} {rm : Room} {Q : State → Prop} {b L j : Nat} {xs : Nat → Int32} {Inv : Sg → Prop} {s : Sg} (hfr : rm.frames = 10) (hlo : rm.locals = 404) (hok : ok_wipe Inv) (hI : Inv s) (hC : Cx SS g M iL rm) (hX : HX M b L xs) (h1 : vp_in (nI j + (1 : Int32)) L) (h2 : vp_in (nI j + (2 : Int32)) L) (h3 : vp_in (nI j + (3 : Int32)) L) (h4 : vp_in (nI j + (4 : Int32)) L) (h5 : vp_in (nI j + (5 : Int32)) L) (kk : ∀ s2, Inv s2 → V SS g M iL Q 1291 [some (.ref b), some (.ref (gad g 0)), some (.ref (gad g 49)), some (.int (nI j))] [] s2) : V SS g M iL Q 808 [some (.ref b), some (.ref (gad g 0)), some (.ref (gad g 49)), some (.int (nI j))] [] s := by
  obtain ⟨fr0, ce0, sl0, lo0⟩ := rm
  simp only at hfr hlo
  subst hfr; subst hlo
  obtain ⟨r, s1, s2, e1, e2, e3⟩ := hok (xs ((nI j) + (1 : Int32)).toNatClampNeg) s hI
  refine v_aload_n (pc := 808) hC dL_law_808 rfl ?_
  refine v_aload_n (pc := 809) hC dL_law_809 rfl ?_
  refine v_iload_n (pc := 810) hC dL_law_810 rfl ?_
  refine v_iconst (pc := 811) (1 : Int32) rfl hC dL_law_811 ?_
  refine v_iadd (pc := 812) hC dL_law_812 ?_
  refine v_sld (pc := 813) hC hX h1 dL_law_813 ?_
  refine v_cVr (pc := 814) [] [.int r] gm_X10_wipe hC s_0 rfl rfl (ct_X10_wipe e1) ml_L_99 rfl rfl rfl rfl rfl rfl dL_law_814 ?_
  refine v_aload_n (pc := 817) hC dL_law_817 rfl ?_
  refine v_aload_n (pc := 818) hC dL_law_818 rfl ?_
  refine v_iload_n (pc := 819) hC dL_law_819 rfl ?_
  refine v_iconst (pc := 820) (1 : Int32) rfl hC dL_law_820 ?_
  refine v_iadd (pc := 821) hC dL_law_821 ?_
  refine v_sld (pc := 822) hC hX h1 dL_law_822 ?_
  refine v_cVr (pc := 823) [.int r] [.int r, .int r] gm_X11_wipe hC s_49 rfl rfl (ct_X11_wipe e2) ml_L_102 rfl rfl rfl rfl rfl rfl dL_law_823 ?_
  refine v_ic_eq (pc := 826) (tgt := 1291) hC dL_law_826 rfl (fun _ => ?_) (fun c => absurd rfl c)
  exact kk s2 e3
theorem law_fault {g : Gl} {M : Mc} {rm : Room} {Q : State → Prop} {b L j : Nat} {xs : Nat → Int32} {Inv : Sg → Prop} {s : Sg} (hfr : rm.frames = 10) (hlo : rm.locals = 404) (hok : ok_fault Inv) (hI : Inv s) (hC : Cx SS g M iL rm) (hX : HX M b L xs) (h1 : vp_in (nI j + (1 : Int32)) L) (h2 : vp_in (nI j + (2 : Int32)) L) (h3 : vp_in (nI j + (3 : Int32)) L) (h4 : vp_in (nI j + (4 : Int32)) L) (h5 : vp_in (nI j + (5 : Int32)) L) (kk : ∀ s2, Inv s2 → V SS g M iL Q 1291 [some (.ref b), some (.ref (gad g 0)), some (.ref (gad g 49)), some (.int (nI j))] [] s2) : V SS g M iL Q 831 [some (.ref b), some (.ref (gad g 0)), some (.ref (gad g 49)), some (.int (nI j))] [] s := by
  obtain ⟨fr0, ce0, sl0, lo0⟩ := rm
  simp only at hfr hlo
  subst hfr; subst hlo
  obtain ⟨r, s1, s2, e1, e2, e3⟩ := hok (xs ((nI j) + (1 : Int32)).toNatClampNeg) s hI
  refine v_aload_n (pc := 831) hC dL_law_831 rfl ?_
  refine v_aload_n (pc := 832) hC dL_law_832 rfl ?_
  refine v_iload_n (pc := 833) hC dL_law_833 rfl ?_
  refine v_iconst (pc := 834) (1 : Int32) rfl hC dL_law_834 ?_
  refine v_iadd (pc := 835) hC dL_law_835 ?_
  refine v_sld (pc := 836) hC hX h1 dL_law_836 ?_
  refine v_cVr (pc := 837) [] [.int r] gm_X10_fault hC s_0 rfl rfl (ct_X10_fault e1) ml_L_103 rfl rfl rfl rfl rfl rfl dL_law_837 ?_
  refine v_aload_n (pc := 840) hC dL_law_840 rfl ?_
  refine v_aload_n (pc := 841) hC dL_law_841 rfl ?_
  refine v_iload_n (pc := 842) hC dL_law_842 rfl ?_
  refine v_iconst (pc := 843) (1 : Int32) rfl hC dL_law_843 ?_
  refine v_iadd (pc := 844) hC dL_law_844 ?_
  refine v_sld (pc := 845) hC hX h1 dL_law_845 ?_
  refine v_cVr (pc := 846) [.int r] [.int r, .int r] gm_X11_fault hC s_49 rfl rfl (ct_X11_fault e2) ml_L_106 rfl rfl rfl rfl rfl rfl dL_law_846 ?_
  refine v_ic_eq (pc := 849) (tgt := 1291) hC dL_law_849 rfl (fun _ => ?_) (fun c => absurd rfl c)
  exact kk s2 e3
theorem law_given {g : Gl} {M : Mc} {rm : Room} {Q : State → Prop} {b L j : Nat} {xs : Nat → Int32} {Inv : Sg → Prop} {s : Sg} (hfr : rm.frames = 10) (hlo : rm.locals = 404) (hok : ok_given Inv) (hI : Inv s) (hC : Cx SS g M iL rm) (hX : HX M b L xs) (h1 : vp_in (nI j + (1 : Int32)) L) (h2 : vp_in (nI j + (2 : Int32)) L) (h3 : vp_in (nI j + (3 : Int32)) L) (h4 : vp_in (nI j + (4 : Int32)) L) (h5 : vp_in (nI j + (5 : Int32)) L) (kk : ∀ s2, Inv s2 → V SS g M iL Q 1291 [some (.ref b), some (.ref (gad g 0)), some (.ref (gad g 49)), some (.int (nI j))] [] s2) : V SS g M iL Q 854 [some (.ref b), some (.ref (gad g 0)), some (.ref (gad g 49)), some (.int (nI j))] [] s := by
  obtain ⟨fr0, ce0, sl0, lo0⟩ := rm
  simp only at hfr hlo
  subst hfr; subst hlo
  obtain ⟨r, s1, s2, e1, e2, e3⟩ := hok (xs ((nI j) + (1 : Int32)).toNatClampNeg) s hI
  refine v_aload_n (pc := 854) hC dL_law_854 rfl ?_
  refine v_aload_n (pc := 855) hC dL_law_855 rfl ?_
  refine v_iload_n (pc := 856) hC dL_law_856 rfl ?_
  refine v_iconst (pc := 857) (1 : Int32) rfl hC dL_law_857 ?_
  refine v_iadd (pc := 858) hC dL_law_858 ?_
  refine v_sld (pc := 859) hC hX h1 dL_law_859 ?_
  refine v_cVr (pc := 860) [] [.int r] gm_X10_given hC s_0 rfl rfl (ct_X10_given e1) ml_L_107 rfl rfl rfl rfl rfl rfl dL_law_860 ?_
  refine v_aload_n (pc := 863) hC dL_law_863 rfl ?_
  refine v_aload_n (pc := 864) hC dL_law_864 rfl ?_
  refine v_iload_n (pc := 865) hC dL_law_865 rfl ?_
  refine v_iconst (pc := 866) (1 : Int32) rfl hC dL_law_866 ?_
  refine v_iadd (pc := 867) hC dL_law_867 ?_
  refine v_sld (pc := 868) hC hX h1 dL_law_868 ?_
  refine v_cVr (pc := 869) [.int r] [.int r, .int r] gm_X11_given hC s_49 rfl rfl (ct_X11_given e2) ml_L_110 rfl rfl rfl rfl rfl rfl dL_law_869 ?_
  refine v_ic_eq (pc := 872) (tgt := 1291) hC dL_law_872 rfl (fun _ => ?_) (fun c => absurd rfl c)
  exact kk s2 e3
theorem law_tenths {g : Gl} {M : Mc} {rm : Room} {Q : State → Prop} {b L j : Nat} {xs : Nat → Int32} {Inv : Sg → Prop} {s : Sg} (hfr : rm.frames = 10) (hlo : rm.locals = 404) (hok : ok_tenths Inv) (hI : Inv s) (hC : Cx SS g M iL rm) (hX : HX M b L xs) (h1 : vp_in (nI j + (1 : Int32)) L) (h2 : vp_in (nI j + (2 : Int32)) L) (h3 : vp_in (nI j + (3 : Int32)) L) (h4 : vp_in (nI j + (4 : Int32)) L) (h5 : vp_in (nI j + (5 : Int32)) L) (kk : ∀ s2, Inv s2 → V SS g M iL Q 1291 [some (.ref b), some (.ref (gad g 0)), some (.ref (gad g 49)), some (.int (nI j))] [] s2) : V SS g M iL Q 877 [some (.ref b), some (.ref (gad g 0)), some (.ref (gad g 49)), some (.int (nI j))] [] s := by
  obtain ⟨fr0, ce0, sl0, lo0⟩ := rm
  simp only at hfr hlo
  subst hfr; subst hlo
  obtain ⟨r, s1, s2, e1, e2, e3⟩ := hok (xs ((nI j) + (1 : Int32)).toNatClampNeg) (xs ((nI j) + (2 : Int32)).toNatClampNeg) s hI
  refine v_aload_n (pc := 877) hC dL_law_877 rfl ?_
  refine v_aload_n (pc := 878) hC dL_law_878 rfl ?_
  refine v_iload_n (pc := 879) hC dL_law_879 rfl ?_
  refine v_iconst (pc := 880) (1 : Int32) rfl hC dL_law_880 ?_
  refine v_iadd (pc := 881) hC dL_law_881 ?_
  refine v_sld (pc := 882) hC hX h1 dL_law_882 ?_
  refine v_aload_n (pc := 883) hC dL_law_883 rfl ?_
  refine v_iload_n (pc := 884) hC dL_law_884 rfl ?_
  refine v_iconst (pc := 885) (2 : Int32) rfl hC dL_law_885 ?_
  refine v_iadd (pc := 886) hC dL_law_886 ?_
  refine v_sld (pc := 887) hC hX h2 dL_law_887 ?_
  refine v_cVr (pc := 888) [] [.int r] gm_X10_tenths hC s_0 rfl rfl (ct_X10_tenths e1) ml_L_111 rfl rfl rfl rfl rfl rfl dL_law_888 ?_
  refine v_aload_n (pc := 891) hC dL_law_891 rfl ?_
  refine v_aload_n (pc := 892) hC dL_law_892 rfl ?_
  refine v_iload_n (pc := 893) hC dL_law_893 rfl ?_
  refine v_iconst (pc := 894) (1 : Int32) rfl hC dL_law_894 ?_
  refine v_iadd (pc := 895) hC dL_law_895 ?_
  refine v_sld (pc := 896) hC hX h1 dL_law_896 ?_
  refine v_aload_n (pc := 897) hC dL_law_897 rfl ?_
  refine v_iload_n (pc := 898) hC dL_law_898 rfl ?_
  refine v_iconst (pc := 899) (2 : Int32) rfl hC dL_law_899 ?_
  refine v_iadd (pc := 900) hC dL_law_900 ?_
  refine v_sld (pc := 901) hC hX h2 dL_law_901 ?_
  refine v_cVr (pc := 902) [.int r] [.int r, .int r] gm_X11_tenths hC s_49 rfl rfl (ct_X11_tenths e2) ml_L_114 rfl rfl rfl rfl rfl rfl dL_law_902 ?_
  refine v_ic_eq (pc := 905) (tgt := 1291) hC dL_law_905 rfl (fun _ => ?_) (fun c => absurd rfl c)
  exact kk s2 e3
theorem law_world {g : Gl} {M : Mc} {rm : Room} {Q : State → Prop} {b L j : Nat} {xs : Nat → Int32} {Inv : Sg → Prop} {s : Sg} (hfr : rm.frames = 10) (hlo : rm.locals = 404) (hok : ok_world Inv) (hI : Inv s) (hC : Cx SS g M iL rm) (hX : HX M b L xs) (h1 : vp_in (nI j + (1 : Int32)) L) (h2 : vp_in (nI j + (2 : Int32)) L) (h3 : vp_in (nI j + (3 : Int32)) L) (h4 : vp_in (nI j + (4 : Int32)) L) (h5 : vp_in (nI j + (5 : Int32)) L) (kk : ∀ s2, Inv s2 → V SS g M iL Q 1291 [some (.ref b), some (.ref (gad g 0)), some (.ref (gad g 49)), some (.int (nI j))] [] s2) : V SS g M iL Q 910 [some (.ref b), some (.ref (gad g 0)), some (.ref (gad g 49)), some (.int (nI j))] [] s := by
  obtain ⟨fr0, ce0, sl0, lo0⟩ := rm
  simp only at hfr hlo
  subst hfr; subst hlo
  obtain ⟨r, s1, s2, e1, e2, e3⟩ := hok (xs ((nI j) + (1 : Int32)).toNatClampNeg) s hI
  refine v_aload_n (pc := 910) hC dL_law_910 rfl ?_
  refine v_aload_n (pc := 911) hC dL_law_911 rfl ?_
  refine v_iload_n (pc := 912) hC dL_law_912 rfl ?_
  refine v_iconst (pc := 913) (1 : Int32) rfl hC dL_law_913 ?_
  refine v_iadd (pc := 914) hC dL_law_914 ?_
  refine v_sld (pc := 915) hC hX h1 dL_law_915 ?_
  refine v_cVr (pc := 916) [] [.int r] gm_X10_world hC s_0 rfl rfl (ct_X10_world e1) ml_L_115 rfl rfl rfl rfl rfl rfl dL_law_916 ?_
  refine v_aload_n (pc := 919) hC dL_law_919 rfl ?_
  refine v_aload_n (pc := 920) hC dL_law_920 rfl ?_
  refine v_iload_n (pc := 921) hC dL_law_921 rfl ?_
  refine v_iconst (pc := 922) (1 : Int32) rfl hC dL_law_922 ?_
  refine v_iadd (pc := 923) hC dL_law_923 ?_
  refine v_sld (pc := 924) hC hX h1 dL_law_924 ?_
  refine v_cVr (pc := 925) [.int r] [.int r, .int r] gm_X11_world hC s_49 rfl rfl (ct_X11_world e2) ml_L_118 rfl rfl rfl rfl rfl rfl dL_law_925 ?_
  refine v_ic_eq (pc := 928) (tgt := 1291) hC dL_law_928 rfl (fun _ => ?_) (fun c => absurd rfl c)
  exact kk s2 e3
theorem law_made {g : Gl} {M : Mc} {rm : Room} {Q : State → Prop} {b L j : Nat} {xs : Nat → Int32} {Inv : Sg → Prop} {s : Sg} (hfr : rm.frames = 10) (hlo : rm.locals = 404) (hok : ok_made Inv) (hI : Inv s) (hC : Cx SS g M iL rm) (hX : HX M b L xs) (h1 : vp_in (nI j + (1 : Int32)) L) (h2 : vp_in (nI j + (2 : Int32)) L) (h3 : vp_in (nI j + (3 : Int32)) L) (h4 : vp_in (nI j + (4 : Int32)) L) (h5 : vp_in (nI j + (5 : Int32)) L) (kk : ∀ s2, Inv s2 → V SS g M iL Q 1291 [some (.ref b), some (.ref (gad g 0)), some (.ref (gad g 49)), some (.int (nI j))] [] s2) : V SS g M iL Q 933 [some (.ref b), some (.ref (gad g 0)), some (.ref (gad g 49)), some (.int (nI j))] [] s := by
  obtain ⟨fr0, ce0, sl0, lo0⟩ := rm
  simp only at hfr hlo
  subst hfr; subst hlo
  obtain ⟨r, s1, s2, e1, e2, e3⟩ := hok (xs ((nI j) + (1 : Int32)).toNatClampNeg) (xs ((nI j) + (2 : Int32)).toNatClampNeg) (xs ((nI j) + (3 : Int32)).toNatClampNeg) (xs ((nI j) + (4 : Int32)).toNatClampNeg) (xs ((nI j) + (5 : Int32)).toNatClampNeg) s hI
  refine v_aload_n (pc := 933) hC dL_law_933 rfl ?_
  refine v_aload_n (pc := 934) hC dL_law_934 rfl ?_
  refine v_iload_n (pc := 935) hC dL_law_935 rfl ?_
  refine v_iconst (pc := 936) (1 : Int32) rfl hC dL_law_936 ?_
  refine v_iadd (pc := 937) hC dL_law_937 ?_
  refine v_sld (pc := 938) hC hX h1 dL_law_938 ?_
  refine v_aload_n (pc := 939) hC dL_law_939 rfl ?_
  refine v_iload_n (pc := 940) hC dL_law_940 rfl ?_
  refine v_iconst (pc := 941) (2 : Int32) rfl hC dL_law_941 ?_
  refine v_iadd (pc := 942) hC dL_law_942 ?_
  refine v_sld (pc := 943) hC hX h2 dL_law_943 ?_
  refine v_aload_n (pc := 944) hC dL_law_944 rfl ?_
  refine v_iload_n (pc := 945) hC dL_law_945 rfl ?_
  refine v_iconst (pc := 946) (3 : Int32) rfl hC dL_law_946 ?_
  refine v_iadd (pc := 947) hC dL_law_947 ?_
  refine v_sld (pc := 948) hC hX h3 dL_law_948 ?_
  refine v_aload_n (pc := 949) hC dL_law_949 rfl ?_
  refine v_iload_n (pc := 950) hC dL_law_950 rfl ?_
  refine v_iconst (pc := 951) (4 : Int32) rfl hC dL_law_951 ?_
  refine v_iadd (pc := 952) hC dL_law_952 ?_
  refine v_sld (pc := 953) hC hX h4 dL_law_953 ?_
  refine v_aload_n (pc := 954) hC dL_law_954 rfl ?_
  refine v_iload_n (pc := 955) hC dL_law_955 rfl ?_
  refine v_iconst (pc := 956) (5 : Int32) rfl hC dL_law_956 ?_
  refine v_iadd (pc := 957) hC dL_law_957 ?_
  refine v_sld (pc := 958) hC hX h5 dL_law_958 ?_
  refine v_cVr (pc := 959) [] [.int r] gm_X10_made hC s_0 rfl rfl (ct_X10_made e1) ml_L_119 rfl rfl rfl rfl rfl rfl dL_law_959 ?_
  refine v_aload_n (pc := 962) hC dL_law_962 rfl ?_
  refine v_aload_n (pc := 963) hC dL_law_963 rfl ?_
  refine v_iload_n (pc := 964) hC dL_law_964 rfl ?_
  refine v_iconst (pc := 965) (1 : Int32) rfl hC dL_law_965 ?_
  refine v_iadd (pc := 966) hC dL_law_966 ?_
  refine v_sld (pc := 967) hC hX h1 dL_law_967 ?_
  refine v_aload_n (pc := 968) hC dL_law_968 rfl ?_
  refine v_iload_n (pc := 969) hC dL_law_969 rfl ?_
  refine v_iconst (pc := 970) (2 : Int32) rfl hC dL_law_970 ?_
  refine v_iadd (pc := 971) hC dL_law_971 ?_
  refine v_sld (pc := 972) hC hX h2 dL_law_972 ?_
  refine v_aload_n (pc := 973) hC dL_law_973 rfl ?_
  refine v_iload_n (pc := 974) hC dL_law_974 rfl ?_
  refine v_iconst (pc := 975) (3 : Int32) rfl hC dL_law_975 ?_
  refine v_iadd (pc := 976) hC dL_law_976 ?_
  refine v_sld (pc := 977) hC hX h3 dL_law_977 ?_
  refine v_aload_n (pc := 978) hC dL_law_978 rfl ?_
  refine v_iload_n (pc := 979) hC dL_law_979 rfl ?_
  refine v_iconst (pc := 980) (4 : Int32) rfl hC dL_law_980 ?_
  refine v_iadd (pc := 981) hC dL_law_981 ?_
  refine v_sld (pc := 982) hC hX h4 dL_law_982 ?_
  refine v_aload_n (pc := 983) hC dL_law_983 rfl ?_
  refine v_iload_n (pc := 984) hC dL_law_984 rfl ?_
  refine v_iconst (pc := 985) (5 : Int32) rfl hC dL_law_985 ?_
  refine v_iadd (pc := 986) hC dL_law_986 ?_
  refine v_sld (pc := 987) hC hX h5 dL_law_987 ?_
  refine v_cVr (pc := 988) [.int r] [.int r, .int r] gm_X11_made hC s_49 rfl rfl (ct_X11_made e2) ml_L_123 rfl rfl rfl rfl rfl rfl dL_law_988 ?_
  refine v_ic_eq (pc := 991) (tgt := 1291) hC dL_law_991 rfl (fun _ => ?_) (fun c => absurd rfl c)
  exact kk s2 e3
theorem law_sheet {g : Gl} {M : Mc} {rm : Room} {Q : State → Prop} {b L j : Nat} {xs : Nat → Int32} {Inv : Sg → Prop} {s : Sg} (hfr : rm.frames = 10) (hlo : rm.locals = 404) (hok : ok_sheet Inv) (hI : Inv s) (hC : Cx SS g M iL rm) (hX : HX M b L xs) (h1 : vp_in (nI j + (1 : Int32)) L) (h2 : vp_in (nI j + (2 : Int32)) L) (h3 : vp_in (nI j + (3 : Int32)) L) (h4 : vp_in (nI j + (4 : Int32)) L) (h5 : vp_in (nI j + (5 : Int32)) L) (kk : ∀ s2, Inv s2 → V SS g M iL Q 1291 [some (.ref b), some (.ref (gad g 0)), some (.ref (gad g 49)), some (.int (nI j))] [] s2) : V SS g M iL Q 996 [some (.ref b), some (.ref (gad g 0)), some (.ref (gad g 49)), some (.int (nI j))] [] s := by
  obtain ⟨fr0, ce0, sl0, lo0⟩ := rm
  simp only at hfr hlo
  subst hfr; subst hlo
  obtain ⟨r, s1, s2, e1, e2, e3⟩ := hok (xs ((nI j) + (1 : Int32)).toNatClampNeg) (xs ((nI j) + (2 : Int32)).toNatClampNeg) (xs ((nI j) + (3 : Int32)).toNatClampNeg) s hI
  refine v_aload_n (pc := 996) hC dL_law_996 rfl ?_
  refine v_aload_n (pc := 997) hC dL_law_997 rfl ?_
  refine v_iload_n (pc := 998) hC dL_law_998 rfl ?_
  refine v_iconst (pc := 999) (1 : Int32) rfl hC dL_law_999 ?_
  refine v_iadd (pc := 1000) hC dL_law_1000 ?_
  refine v_sld (pc := 1001) hC hX h1 dL_law_1001 ?_
  refine v_aload_n (pc := 1002) hC dL_law_1002 rfl ?_
  refine v_iload_n (pc := 1003) hC dL_law_1003 rfl ?_
  refine v_iconst (pc := 1004) (2 : Int32) rfl hC dL_law_1004 ?_
  refine v_iadd (pc := 1005) hC dL_law_1005 ?_
  refine v_sld (pc := 1006) hC hX h2 dL_law_1006 ?_
  refine v_aload_n (pc := 1007) hC dL_law_1007 rfl ?_
  refine v_iload_n (pc := 1008) hC dL_law_1008 rfl ?_
  refine v_iconst (pc := 1009) (3 : Int32) rfl hC dL_law_1009 ?_
  refine v_iadd (pc := 1010) hC dL_law_1010 ?_
  refine v_sld (pc := 1011) hC hX h3 dL_law_1011 ?_
  refine v_cVr (pc := 1012) [] [.int r] gm_X10_sheet hC s_0 rfl rfl (ct_X10_sheet e1) ml_L_124 rfl rfl rfl rfl rfl rfl dL_law_1012 ?_
  refine v_aload_n (pc := 1015) hC dL_law_1015 rfl ?_
  refine v_aload_n (pc := 1016) hC dL_law_1016 rfl ?_
  refine v_iload_n (pc := 1017) hC dL_law_1017 rfl ?_
  refine v_iconst (pc := 1018) (1 : Int32) rfl hC dL_law_1018 ?_
  refine v_iadd (pc := 1019) hC dL_law_1019 ?_
  refine v_sld (pc := 1020) hC hX h1 dL_law_1020 ?_
  refine v_aload_n (pc := 1021) hC dL_law_1021 rfl ?_
  refine v_iload_n (pc := 1022) hC dL_law_1022 rfl ?_
  refine v_iconst (pc := 1023) (2 : Int32) rfl hC dL_law_1023 ?_
  refine v_iadd (pc := 1024) hC dL_law_1024 ?_
  refine v_sld (pc := 1025) hC hX h2 dL_law_1025 ?_
  refine v_aload_n (pc := 1026) hC dL_law_1026 rfl ?_
  refine v_iload_n (pc := 1027) hC dL_law_1027 rfl ?_
  refine v_iconst (pc := 1028) (3 : Int32) rfl hC dL_law_1028 ?_
  refine v_iadd (pc := 1029) hC dL_law_1029 ?_
  refine v_sld (pc := 1030) hC hX h3 dL_law_1030 ?_
  refine v_cVr (pc := 1031) [.int r] [.int r, .int r] gm_X11_sheet hC s_49 rfl rfl (ct_X11_sheet e2) ml_L_127 rfl rfl rfl rfl rfl rfl dL_law_1031 ?_
  refine v_ic_eq (pc := 1034) (tgt := 1291) hC dL_law_1034 rfl (fun _ => ?_) (fun c => absurd rfl c)
  exact kk s2 e3
theorem law_lose {g : Gl} {M : Mc} {rm : Room} {Q : State → Prop} {b L j : Nat} {xs : Nat → Int32} {Inv : Sg → Prop} {s : Sg} (hfr : rm.frames = 10) (hlo : rm.locals = 404) (hok : ok_lose Inv) (hI : Inv s) (hC : Cx SS g M iL rm) (hX : HX M b L xs) (h1 : vp_in (nI j + (1 : Int32)) L) (h2 : vp_in (nI j + (2 : Int32)) L) (h3 : vp_in (nI j + (3 : Int32)) L) (h4 : vp_in (nI j + (4 : Int32)) L) (h5 : vp_in (nI j + (5 : Int32)) L) (kk : ∀ s2, Inv s2 → V SS g M iL Q 1291 [some (.ref b), some (.ref (gad g 0)), some (.ref (gad g 49)), some (.int (nI j))] [] s2) : V SS g M iL Q 1039 [some (.ref b), some (.ref (gad g 0)), some (.ref (gad g 49)), some (.int (nI j))] [] s := by
  obtain ⟨fr0, ce0, sl0, lo0⟩ := rm
  simp only at hfr hlo
  subst hfr; subst hlo
  obtain ⟨r, s1, s2, e1, e2, e3⟩ := hok (xs ((nI j) + (1 : Int32)).toNatClampNeg) s hI
  refine v_aload_n (pc := 1039) hC dL_law_1039 rfl ?_
  refine v_aload_n (pc := 1040) hC dL_law_1040 rfl ?_
  refine v_iload_n (pc := 1041) hC dL_law_1041 rfl ?_
  refine v_iconst (pc := 1042) (1 : Int32) rfl hC dL_law_1042 ?_
  refine v_iadd (pc := 1043) hC dL_law_1043 ?_
  refine v_sld (pc := 1044) hC hX h1 dL_law_1044 ?_
  refine v_cVr (pc := 1045) [] [.int r] gm_X10_lose hC s_0 rfl rfl (ct_X10_lose e1) ml_L_128 rfl rfl rfl rfl rfl rfl dL_law_1045 ?_
  refine v_aload_n (pc := 1048) hC dL_law_1048 rfl ?_
  refine v_aload_n (pc := 1049) hC dL_law_1049 rfl ?_
  refine v_iload_n (pc := 1050) hC dL_law_1050 rfl ?_
  refine v_iconst (pc := 1051) (1 : Int32) rfl hC dL_law_1051 ?_
  refine v_iadd (pc := 1052) hC dL_law_1052 ?_
  refine v_sld (pc := 1053) hC hX h1 dL_law_1053 ?_
  refine v_cVr (pc := 1054) [.int r] [.int r, .int r] gm_X11_lose hC s_49 rfl rfl (ct_X11_lose e2) ml_L_131 rfl rfl rfl rfl rfl rfl dL_law_1054 ?_
  refine v_ic_eq (pc := 1057) (tgt := 1291) hC dL_law_1057 rfl (fun _ => ?_) (fun c => absurd rfl c)
  exact kk s2 e3
theorem law_put {g : Gl} {M : Mc} {rm : Room} {Q : State → Prop} {b L j : Nat} {xs : Nat → Int32} {Inv : Sg → Prop} {s : Sg} (hfr : rm.frames = 10) (hlo : rm.locals = 404) (hok : ok_put Inv) (hI : Inv s) (hC : Cx SS g M iL rm) (hX : HX M b L xs) (h1 : vp_in (nI j + (1 : Int32)) L) (h2 : vp_in (nI j + (2 : Int32)) L) (h3 : vp_in (nI j + (3 : Int32)) L) (h4 : vp_in (nI j + (4 : Int32)) L) (h5 : vp_in (nI j + (5 : Int32)) L) (kk : ∀ s2, Inv s2 → V SS g M iL Q 1291 [some (.ref b), some (.ref (gad g 0)), some (.ref (gad g 49)), some (.int (nI j))] [] s2) : V SS g M iL Q 1062 [some (.ref b), some (.ref (gad g 0)), some (.ref (gad g 49)), some (.int (nI j))] [] s := by
  obtain ⟨fr0, ce0, sl0, lo0⟩ := rm
  simp only at hfr hlo
  subst hfr; subst hlo
  obtain ⟨r, s1, s2, e1, e2, e3⟩ := hok (xs ((nI j) + (1 : Int32)).toNatClampNeg) (xs ((nI j) + (2 : Int32)).toNatClampNeg) (xs ((nI j) + (3 : Int32)).toNatClampNeg) (xs ((nI j) + (4 : Int32)).toNatClampNeg) s hI
  refine v_aload_n (pc := 1062) hC dL_law_1062 rfl ?_
  refine v_aload_n (pc := 1063) hC dL_law_1063 rfl ?_
  refine v_iload_n (pc := 1064) hC dL_law_1064 rfl ?_
  refine v_iconst (pc := 1065) (1 : Int32) rfl hC dL_law_1065 ?_
  refine v_iadd (pc := 1066) hC dL_law_1066 ?_
  refine v_sld (pc := 1067) hC hX h1 dL_law_1067 ?_
  refine v_aload_n (pc := 1068) hC dL_law_1068 rfl ?_
  refine v_iload_n (pc := 1069) hC dL_law_1069 rfl ?_
  refine v_iconst (pc := 1070) (2 : Int32) rfl hC dL_law_1070 ?_
  refine v_iadd (pc := 1071) hC dL_law_1071 ?_
  refine v_sld (pc := 1072) hC hX h2 dL_law_1072 ?_
  refine v_aload_n (pc := 1073) hC dL_law_1073 rfl ?_
  refine v_iload_n (pc := 1074) hC dL_law_1074 rfl ?_
  refine v_iconst (pc := 1075) (3 : Int32) rfl hC dL_law_1075 ?_
  refine v_iadd (pc := 1076) hC dL_law_1076 ?_
  refine v_sld (pc := 1077) hC hX h3 dL_law_1077 ?_
  refine v_aload_n (pc := 1078) hC dL_law_1078 rfl ?_
  refine v_iload_n (pc := 1079) hC dL_law_1079 rfl ?_
  refine v_iconst (pc := 1080) (4 : Int32) rfl hC dL_law_1080 ?_
  refine v_iadd (pc := 1081) hC dL_law_1081 ?_
  refine v_sld (pc := 1082) hC hX h4 dL_law_1082 ?_
  refine v_cVr (pc := 1083) [] [.int r] gm_X10_put hC s_0 rfl rfl (ct_X10_put e1) ml_L_132 rfl rfl rfl rfl rfl rfl dL_law_1083 ?_
  refine v_aload_n (pc := 1086) hC dL_law_1086 rfl ?_
  refine v_aload_n (pc := 1087) hC dL_law_1087 rfl ?_
  refine v_iload_n (pc := 1088) hC dL_law_1088 rfl ?_
  refine v_iconst (pc := 1089) (1 : Int32) rfl hC dL_law_1089 ?_
  refine v_iadd (pc := 1090) hC dL_law_1090 ?_
  refine v_sld (pc := 1091) hC hX h1 dL_law_1091 ?_
  refine v_aload_n (pc := 1092) hC dL_law_1092 rfl ?_
  refine v_iload_n (pc := 1093) hC dL_law_1093 rfl ?_
  refine v_iconst (pc := 1094) (2 : Int32) rfl hC dL_law_1094 ?_
  refine v_iadd (pc := 1095) hC dL_law_1095 ?_
  refine v_sld (pc := 1096) hC hX h2 dL_law_1096 ?_
  refine v_aload_n (pc := 1097) hC dL_law_1097 rfl ?_
  refine v_iload_n (pc := 1098) hC dL_law_1098 rfl ?_
  refine v_iconst (pc := 1099) (3 : Int32) rfl hC dL_law_1099 ?_
  refine v_iadd (pc := 1100) hC dL_law_1100 ?_
  refine v_sld (pc := 1101) hC hX h3 dL_law_1101 ?_
  refine v_aload_n (pc := 1102) hC dL_law_1102 rfl ?_
  refine v_iload_n (pc := 1103) hC dL_law_1103 rfl ?_
  refine v_iconst (pc := 1104) (4 : Int32) rfl hC dL_law_1104 ?_
  refine v_iadd (pc := 1105) hC dL_law_1105 ?_
  refine v_sld (pc := 1106) hC hX h4 dL_law_1106 ?_
  refine v_cVr (pc := 1107) [.int r] [.int r, .int r] gm_X11_put hC s_49 rfl rfl (ct_X11_put e2) ml_L_136 rfl rfl rfl rfl rfl rfl dL_law_1107 ?_
  refine v_ic_eq (pc := 1110) (tgt := 1291) hC dL_law_1110 rfl (fun _ => ?_) (fun c => absurd rfl c)
  exact kk s2 e3
theorem law_get {g : Gl} {M : Mc} {rm : Room} {Q : State → Prop} {b L j : Nat} {xs : Nat → Int32} {Inv : Sg → Prop} {s : Sg} (hfr : rm.frames = 10) (hlo : rm.locals = 404) (hok : ok_get Inv) (hI : Inv s) (hC : Cx SS g M iL rm) (hX : HX M b L xs) (h1 : vp_in (nI j + (1 : Int32)) L) (h2 : vp_in (nI j + (2 : Int32)) L) (h3 : vp_in (nI j + (3 : Int32)) L) (h4 : vp_in (nI j + (4 : Int32)) L) (h5 : vp_in (nI j + (5 : Int32)) L) (kk : ∀ s2, Inv s2 → V SS g M iL Q 1291 [some (.ref b), some (.ref (gad g 0)), some (.ref (gad g 49)), some (.int (nI j))] [] s2) : V SS g M iL Q 1115 [some (.ref b), some (.ref (gad g 0)), some (.ref (gad g 49)), some (.int (nI j))] [] s := by
  obtain ⟨fr0, ce0, sl0, lo0⟩ := rm
  simp only at hfr hlo
  subst hfr; subst hlo
  obtain ⟨r, s1, s2, e1, e2, e3⟩ := hok (xs ((nI j) + (1 : Int32)).toNatClampNeg) (xs ((nI j) + (2 : Int32)).toNatClampNeg) (xs ((nI j) + (3 : Int32)).toNatClampNeg) s hI
  refine v_aload_n (pc := 1115) hC dL_law_1115 rfl ?_
  refine v_aload_n (pc := 1116) hC dL_law_1116 rfl ?_
  refine v_iload_n (pc := 1117) hC dL_law_1117 rfl ?_
  refine v_iconst (pc := 1118) (1 : Int32) rfl hC dL_law_1118 ?_
  refine v_iadd (pc := 1119) hC dL_law_1119 ?_
  refine v_sld (pc := 1120) hC hX h1 dL_law_1120 ?_
  refine v_aload_n (pc := 1121) hC dL_law_1121 rfl ?_
  refine v_iload_n (pc := 1122) hC dL_law_1122 rfl ?_
  refine v_iconst (pc := 1123) (2 : Int32) rfl hC dL_law_1123 ?_
  refine v_iadd (pc := 1124) hC dL_law_1124 ?_
  refine v_sld (pc := 1125) hC hX h2 dL_law_1125 ?_
  refine v_aload_n (pc := 1126) hC dL_law_1126 rfl ?_
  refine v_iload_n (pc := 1127) hC dL_law_1127 rfl ?_
  refine v_iconst (pc := 1128) (3 : Int32) rfl hC dL_law_1128 ?_
  refine v_iadd (pc := 1129) hC dL_law_1129 ?_
  refine v_sld (pc := 1130) hC hX h3 dL_law_1130 ?_
  refine v_cVr (pc := 1131) [] [.int r] gm_X10_get hC s_0 rfl rfl (ct_X10_get e1) ml_L_137 rfl rfl rfl rfl rfl rfl dL_law_1131 ?_
  refine v_aload_n (pc := 1134) hC dL_law_1134 rfl ?_
  refine v_aload_n (pc := 1135) hC dL_law_1135 rfl ?_
  refine v_iload_n (pc := 1136) hC dL_law_1136 rfl ?_
  refine v_iconst (pc := 1137) (1 : Int32) rfl hC dL_law_1137 ?_
  refine v_iadd (pc := 1138) hC dL_law_1138 ?_
  refine v_sld (pc := 1139) hC hX h1 dL_law_1139 ?_
  refine v_aload_n (pc := 1140) hC dL_law_1140 rfl ?_
  refine v_iload_n (pc := 1141) hC dL_law_1141 rfl ?_
  refine v_iconst (pc := 1142) (2 : Int32) rfl hC dL_law_1142 ?_
  refine v_iadd (pc := 1143) hC dL_law_1143 ?_
  refine v_sld (pc := 1144) hC hX h2 dL_law_1144 ?_
  refine v_aload_n (pc := 1145) hC dL_law_1145 rfl ?_
  refine v_iload_n (pc := 1146) hC dL_law_1146 rfl ?_
  refine v_iconst (pc := 1147) (3 : Int32) rfl hC dL_law_1147 ?_
  refine v_iadd (pc := 1148) hC dL_law_1148 ?_
  refine v_sld (pc := 1149) hC hX h3 dL_law_1149 ?_
  refine v_cVr (pc := 1150) [.int r] [.int r, .int r] gm_X11_get hC s_49 rfl rfl (ct_X11_get e2) ml_L_140 rfl rfl rfl rfl rfl rfl dL_law_1150 ?_
  refine v_ic_eq (pc := 1153) (tgt := 1291) hC dL_law_1153 rfl (fun _ => ?_) (fun c => absurd rfl c)
  exact kk s2 e3
theorem law_copy {g : Gl} {M : Mc} {rm : Room} {Q : State → Prop} {b L j : Nat} {xs : Nat → Int32} {Inv : Sg → Prop} {s : Sg} (hfr : rm.frames = 10) (hlo : rm.locals = 404) (hok : ok_copy Inv) (hI : Inv s) (hC : Cx SS g M iL rm) (hX : HX M b L xs) (h1 : vp_in (nI j + (1 : Int32)) L) (h2 : vp_in (nI j + (2 : Int32)) L) (h3 : vp_in (nI j + (3 : Int32)) L) (h4 : vp_in (nI j + (4 : Int32)) L) (h5 : vp_in (nI j + (5 : Int32)) L) (kk : ∀ s2, Inv s2 → V SS g M iL Q 1291 [some (.ref b), some (.ref (gad g 0)), some (.ref (gad g 49)), some (.int (nI j))] [] s2) : V SS g M iL Q 1158 [some (.ref b), some (.ref (gad g 0)), some (.ref (gad g 49)), some (.int (nI j))] [] s := by
  obtain ⟨fr0, ce0, sl0, lo0⟩ := rm
  simp only at hfr hlo
  subst hfr; subst hlo
  obtain ⟨r, s1, s2, e1, e2, e3⟩ := hok (xs ((nI j) + (1 : Int32)).toNatClampNeg) (xs ((nI j) + (2 : Int32)).toNatClampNeg) (xs ((nI j) + (3 : Int32)).toNatClampNeg) (xs ((nI j) + (4 : Int32)).toNatClampNeg) (xs ((nI j) + (5 : Int32)).toNatClampNeg) s hI
  refine v_aload_n (pc := 1158) hC dL_law_1158 rfl ?_
  refine v_aload_n (pc := 1159) hC dL_law_1159 rfl ?_
  refine v_iload_n (pc := 1160) hC dL_law_1160 rfl ?_
  refine v_iconst (pc := 1161) (1 : Int32) rfl hC dL_law_1161 ?_
  refine v_iadd (pc := 1162) hC dL_law_1162 ?_
  refine v_sld (pc := 1163) hC hX h1 dL_law_1163 ?_
  refine v_aload_n (pc := 1164) hC dL_law_1164 rfl ?_
  refine v_iload_n (pc := 1165) hC dL_law_1165 rfl ?_
  refine v_iconst (pc := 1166) (2 : Int32) rfl hC dL_law_1166 ?_
  refine v_iadd (pc := 1167) hC dL_law_1167 ?_
  refine v_sld (pc := 1168) hC hX h2 dL_law_1168 ?_
  refine v_aload_n (pc := 1169) hC dL_law_1169 rfl ?_
  refine v_iload_n (pc := 1170) hC dL_law_1170 rfl ?_
  refine v_iconst (pc := 1171) (3 : Int32) rfl hC dL_law_1171 ?_
  refine v_iadd (pc := 1172) hC dL_law_1172 ?_
  refine v_sld (pc := 1173) hC hX h3 dL_law_1173 ?_
  refine v_aload_n (pc := 1174) hC dL_law_1174 rfl ?_
  refine v_iload_n (pc := 1175) hC dL_law_1175 rfl ?_
  refine v_iconst (pc := 1176) (4 : Int32) rfl hC dL_law_1176 ?_
  refine v_iadd (pc := 1177) hC dL_law_1177 ?_
  refine v_sld (pc := 1178) hC hX h4 dL_law_1178 ?_
  refine v_aload_n (pc := 1179) hC dL_law_1179 rfl ?_
  refine v_iload_n (pc := 1180) hC dL_law_1180 rfl ?_
  refine v_iconst (pc := 1181) (5 : Int32) rfl hC dL_law_1181 ?_
  refine v_iadd (pc := 1182) hC dL_law_1182 ?_
  refine v_sld (pc := 1183) hC hX h5 dL_law_1183 ?_
  refine v_cVr (pc := 1184) [] [.int r] gm_X10_copy hC s_0 rfl rfl (ct_X10_copy e1) ml_L_141 rfl rfl rfl rfl rfl rfl dL_law_1184 ?_
  refine v_aload_n (pc := 1187) hC dL_law_1187 rfl ?_
  refine v_aload_n (pc := 1188) hC dL_law_1188 rfl ?_
  refine v_iload_n (pc := 1189) hC dL_law_1189 rfl ?_
  refine v_iconst (pc := 1190) (1 : Int32) rfl hC dL_law_1190 ?_
  refine v_iadd (pc := 1191) hC dL_law_1191 ?_
  refine v_sld (pc := 1192) hC hX h1 dL_law_1192 ?_
  refine v_aload_n (pc := 1193) hC dL_law_1193 rfl ?_
  refine v_iload_n (pc := 1194) hC dL_law_1194 rfl ?_
  refine v_iconst (pc := 1195) (2 : Int32) rfl hC dL_law_1195 ?_
  refine v_iadd (pc := 1196) hC dL_law_1196 ?_
  refine v_sld (pc := 1197) hC hX h2 dL_law_1197 ?_
  refine v_aload_n (pc := 1198) hC dL_law_1198 rfl ?_
  refine v_iload_n (pc := 1199) hC dL_law_1199 rfl ?_
  refine v_iconst (pc := 1200) (3 : Int32) rfl hC dL_law_1200 ?_
  refine v_iadd (pc := 1201) hC dL_law_1201 ?_
  refine v_sld (pc := 1202) hC hX h3 dL_law_1202 ?_
  refine v_aload_n (pc := 1203) hC dL_law_1203 rfl ?_
  refine v_iload_n (pc := 1204) hC dL_law_1204 rfl ?_
  refine v_iconst (pc := 1205) (4 : Int32) rfl hC dL_law_1205 ?_
  refine v_iadd (pc := 1206) hC dL_law_1206 ?_
  refine v_sld (pc := 1207) hC hX h4 dL_law_1207 ?_
  refine v_aload_n (pc := 1208) hC dL_law_1208 rfl ?_
  refine v_iload_n (pc := 1209) hC dL_law_1209 rfl ?_
  refine v_iconst (pc := 1210) (5 : Int32) rfl hC dL_law_1210 ?_
  refine v_iadd (pc := 1211) hC dL_law_1211 ?_
  refine v_sld (pc := 1212) hC hX h5 dL_law_1212 ?_
  refine v_cVr (pc := 1213) [.int r] [.int r, .int r] gm_X11_copy hC s_49 rfl rfl (ct_X11_copy e2) ml_L_144 rfl rfl rfl rfl rfl rfl dL_law_1213 ?_
  refine v_ic_eq (pc := 1216) (tgt := 1291) hC dL_law_1216 rfl (fun _ => ?_) (fun c => absurd rfl c)
  exact kk s2 e3
theorem law_write {g : Gl} {M : Mc} {rm : Room} {Q : State → Prop} {b L j : Nat} {xs : Nat → Int32} {Inv : Sg → Prop} {s : Sg} (hfr : rm.frames = 10) (hlo : rm.locals = 404) (hok : ok_write Inv) (hI : Inv s) (hC : Cx SS g M iL rm) (hX : HX M b L xs) (h1 : vp_in (nI j + (1 : Int32)) L) (h2 : vp_in (nI j + (2 : Int32)) L) (h3 : vp_in (nI j + (3 : Int32)) L) (h4 : vp_in (nI j + (4 : Int32)) L) (h5 : vp_in (nI j + (5 : Int32)) L) (kk : ∀ s2, Inv s2 → V SS g M iL Q 1291 [some (.ref b), some (.ref (gad g 0)), some (.ref (gad g 49)), some (.int (nI j))] [] s2) : V SS g M iL Q 1221 [some (.ref b), some (.ref (gad g 0)), some (.ref (gad g 49)), some (.int (nI j))] [] s := by
  obtain ⟨fr0, ce0, sl0, lo0⟩ := rm
  simp only at hfr hlo
  subst hfr; subst hlo
  obtain ⟨r, s1, s2, e1, e2, e3⟩ := hok (xs ((nI j) + (1 : Int32)).toNatClampNeg) (xs ((nI j) + (2 : Int32)).toNatClampNeg) s hI
  refine v_aload_n (pc := 1221) hC dL_law_1221 rfl ?_
  refine v_aload_n (pc := 1222) hC dL_law_1222 rfl ?_
  refine v_iload_n (pc := 1223) hC dL_law_1223 rfl ?_
  refine v_iconst (pc := 1224) (1 : Int32) rfl hC dL_law_1224 ?_
  refine v_iadd (pc := 1225) hC dL_law_1225 ?_
  refine v_sld (pc := 1226) hC hX h1 dL_law_1226 ?_
  refine v_aload_n (pc := 1227) hC dL_law_1227 rfl ?_
  refine v_iload_n (pc := 1228) hC dL_law_1228 rfl ?_
  refine v_iconst (pc := 1229) (2 : Int32) rfl hC dL_law_1229 ?_
  refine v_iadd (pc := 1230) hC dL_law_1230 ?_
  refine v_sld (pc := 1231) hC hX h2 dL_law_1231 ?_
  refine v_cVr (pc := 1232) [] [.int r] gm_X10_write hC s_0 rfl rfl (ct_X10_write e1) ml_L_145 rfl rfl rfl rfl rfl rfl dL_law_1232 ?_
  refine v_aload_n (pc := 1235) hC dL_law_1235 rfl ?_
  refine v_aload_n (pc := 1236) hC dL_law_1236 rfl ?_
  refine v_iload_n (pc := 1237) hC dL_law_1237 rfl ?_
  refine v_iconst (pc := 1238) (1 : Int32) rfl hC dL_law_1238 ?_
  refine v_iadd (pc := 1239) hC dL_law_1239 ?_
  refine v_sld (pc := 1240) hC hX h1 dL_law_1240 ?_
  refine v_aload_n (pc := 1241) hC dL_law_1241 rfl ?_
  refine v_iload_n (pc := 1242) hC dL_law_1242 rfl ?_
  refine v_iconst (pc := 1243) (2 : Int32) rfl hC dL_law_1243 ?_
  refine v_iadd (pc := 1244) hC dL_law_1244 ?_
  refine v_sld (pc := 1245) hC hX h2 dL_law_1245 ?_
  refine v_cVr (pc := 1246) [.int r] [.int r, .int r] gm_X11_write hC s_49 rfl rfl (ct_X11_write e2) ml_L_148 rfl rfl rfl rfl rfl rfl dL_law_1246 ?_
  refine v_ic_eq (pc := 1249) (tgt := 1291) hC dL_law_1249 rfl (fun _ => ?_) (fun c => absurd rfl c)
  exact kk s2 e3
theorem law_count {g : Gl} {M : Mc} {rm : Room} {Q : State → Prop} {b L j : Nat} {xs : Nat → Int32} {Inv : Sg → Prop} {s : Sg} (hfr : rm.frames = 10) (hlo : rm.locals = 404) (hok : ok_count Inv) (hI : Inv s) (hC : Cx SS g M iL rm) (hX : HX M b L xs) (h1 : vp_in (nI j + (1 : Int32)) L) (h2 : vp_in (nI j + (2 : Int32)) L) (h3 : vp_in (nI j + (3 : Int32)) L) (h4 : vp_in (nI j + (4 : Int32)) L) (h5 : vp_in (nI j + (5 : Int32)) L) (kk : ∀ s2, Inv s2 → V SS g M iL Q 1291 [some (.ref b), some (.ref (gad g 0)), some (.ref (gad g 49)), some (.int (nI j))] [] s2) : V SS g M iL Q 1254 [some (.ref b), some (.ref (gad g 0)), some (.ref (gad g 49)), some (.int (nI j))] [] s := by
  obtain ⟨fr0, ce0, sl0, lo0⟩ := rm
  simp only at hfr hlo
  subst hfr; subst hlo
  obtain ⟨r, s1, s2, e1, e2, e3⟩ := hok (xs ((nI j) + (1 : Int32)).toNatClampNeg) s hI
  refine v_aload_n (pc := 1254) hC dL_law_1254 rfl ?_
  refine v_aload_n (pc := 1255) hC dL_law_1255 rfl ?_
  refine v_iload_n (pc := 1256) hC dL_law_1256 rfl ?_
  refine v_iconst (pc := 1257) (1 : Int32) rfl hC dL_law_1257 ?_
  refine v_iadd (pc := 1258) hC dL_law_1258 ?_
  refine v_sld (pc := 1259) hC hX h1 dL_law_1259 ?_
  refine v_cVr (pc := 1260) [] [.int r] gm_X10_count hC s_0 rfl rfl (ct_X10_count e1) ml_L_149 rfl rfl rfl rfl rfl rfl dL_law_1260 ?_
  refine v_aload_n (pc := 1263) hC dL_law_1263 rfl ?_
  refine v_aload_n (pc := 1264) hC dL_law_1264 rfl ?_
  refine v_iload_n (pc := 1265) hC dL_law_1265 rfl ?_
  refine v_iconst (pc := 1266) (1 : Int32) rfl hC dL_law_1266 ?_
  refine v_iadd (pc := 1267) hC dL_law_1267 ?_
  refine v_sld (pc := 1268) hC hX h1 dL_law_1268 ?_
  refine v_cVr (pc := 1269) [.int r] [.int r, .int r] gm_X11_count hC s_49 rfl rfl (ct_X11_count e2) ml_L_152 rfl rfl rfl rfl rfl rfl dL_law_1269 ?_
  refine v_ic_eq (pc := 1272) (tgt := 1291) hC dL_law_1272 rfl (fun _ => ?_) (fun c => absurd rfl c)
  exact kk s2 e3
theorem law_digest {g : Gl} {M : Mc} {rm : Room} {Q : State → Prop} {b L j : Nat} {xs : Nat → Int32} {Inv : Sg → Prop} {s : Sg} (hfr : rm.frames = 10) (hlo : rm.locals = 404) (hok : ok_digest Inv) (hI : Inv s) (hC : Cx SS g M iL rm) (hX : HX M b L xs) (h1 : vp_in (nI j + (1 : Int32)) L) (h2 : vp_in (nI j + (2 : Int32)) L) (h3 : vp_in (nI j + (3 : Int32)) L) (h4 : vp_in (nI j + (4 : Int32)) L) (h5 : vp_in (nI j + (5 : Int32)) L) (kk : ∀ s2, Inv s2 → V SS g M iL Q 1291 [some (.ref b), some (.ref (gad g 0)), some (.ref (gad g 49)), some (.int (nI j))] [] s2) : V SS g M iL Q 1277 [some (.ref b), some (.ref (gad g 0)), some (.ref (gad g 49)), some (.int (nI j))] [] s := by
  obtain ⟨fr0, ce0, sl0, lo0⟩ := rm
  simp only at hfr hlo
  subst hfr; subst hlo
  obtain ⟨r, s1, s2, e1, e2, e3⟩ := hok s hI
  refine v_aload_n (pc := 1277) hC dL_law_1277 rfl ?_
  refine v_cVr (pc := 1278) [] [.long r] gm_X10_digest hC s_0 rfl rfl (ct_X10_digest e1) ml_L_153 rfl rfl rfl rfl rfl rfl dL_law_1278 ?_
  refine v_aload_n (pc := 1281) hC dL_law_1281 rfl ?_
  refine v_cVr (pc := 1282) [.long r] [.long r, .long r] gm_X11_digest hC s_49 rfl rfl (ct_X11_digest e2) ml_L_157 rfl rfl rfl rfl rfl rfl dL_law_1282 ?_
  refine v_lcmp (pc := 1285) hC dL_law_1285 ?_
  refine v_if_eq (pc := 1286) (tgt := 1291) hC dL_law_1286 rfl (fun _ => ?_) (fun c => absurd ((lg_cmp_eq r r).mpr rfl) c)
  exact kk s2 e3
theorem law_loop {g : Gl} {M : Mc} {rm : Room} {Q : State → Prop} {b L : Nat} {xs : Nat → Int32} {Inv : Sg → Prop} (hfr : rm.frames = 10) (hlo : rm.locals = 404) (hok : AllOk Inv) (hC : Cx SS g M iL rm) (hX : HX M b L xs) (hL : L ≤ 3072) (hend : ∀ (lv : List (Option Value)) (s : Sg), V SS g M iL Q 1297 lv [] s) : ∀ (n j : Nat) (s : Sg), L < j + n → j ≤ 4000 → Inv s → V SS g M iL Q 18 [some (.ref b), some (.ref (gad g 0)), some (.ref (gad g 49)), some (.int (nI j))] [] s := by
  intro n
  induction n with
  | zero =>
    intro j s hj hj2 hI
    refine v_iload_n (pc := 18) hC dL_law_18 rfl ?_
    refine v_aload_n (pc := 19) hC dL_law_19 rfl ?_
    refine v_slen (pc := 20) hC hX dL_law_20 ?_
    refine v_bipush (pc := 21) (6 : Int32) rfl hC dL_law_21 ?_
    refine v_isub (pc := 23) hC dL_law_23 ?_
    refine v_ic_gt (pc := 24) (tgt := 1297) hC dL_law_24 rfl (fun _ => hend _ s) (fun c => absurd ?_ c)
    rw [Int32.lt_iff_toInt_lt, show (6 : Int32) = nI 6 from rfl, pk_sub_toInt (by omega) (by omega), nI_toInt (by omega)]
    omega
  | succ n ih =>
    intro j s hj hj2 hI
    refine v_iload_n (pc := 18) hC dL_law_18 rfl ?_
    refine v_aload_n (pc := 19) hC dL_law_19 rfl ?_
    refine v_slen (pc := 20) hC hX dL_law_20 ?_
    refine v_bipush (pc := 21) (6 : Int32) rfl hC dL_law_21 ?_
    refine v_isub (pc := 23) hC dL_law_23 ?_
    refine v_ic_gt (pc := 24) (tgt := 1297) hC dL_law_24 rfl (fun _ => hend _ s) (fun c => ?_)
    have hjL : j + 6 ≤ L := by
      rw [Int32.lt_iff_toInt_lt, show (6 : Int32) = nI 6 from rfl, pk_sub_toInt (by omega) (by omega), nI_toInt (by omega)] at c
      omega
    have hin : ∀ k : Nat, k < 6 → vp_in (nI j + nI k) L := fun k hk => by rw [nI_add]; exact vp_in_nI (by omega) (by omega)
    have h1 : vp_in (nI j + (1 : Int32)) L := hin 1 (by decide)
    have h2 : vp_in (nI j + (2 : Int32)) L := hin 2 (by decide)
    have h3 : vp_in (nI j + (3 : Int32)) L := hin 3 (by decide)
    have h4 : vp_in (nI j + (4 : Int32)) L := hin 4 (by decide)
    have h5 : vp_in (nI j + (5 : Int32)) L := hin 5 (by decide)
    have kk : ∀ s2, Inv s2 → V SS g M iL Q 1291 [some (.ref b), some (.ref (gad g 0)), some (.ref (gad g 49)), some (.int (nI j))] [] s2 := by
      intro s2 hI2
      refine v_iinc (pc := 1291) (lv' := [some (.ref b), some (.ref (gad g 0)), some (.ref (gad g 49)), some (.int (nI (j + 6)))]) (6 : Int32) rfl (nI_add j 6) hC dL_law_1291 rfl rfl rfl rfl ?_
      refine v_goto (pc := 1294) (tgt := 18) hC dL_law_1294 rfl ?_
      exact ih (j + 6) s2 (by omega) (by omega) hI2
    refine v_aload_n (pc := 27) hC dL_law_27 rfl ?_
    refine v_iload_n (pc := 28) hC dL_law_28 rfl ?_
    refine v_sld (pc := 29) hC hX (vp_in_nI (by omega) (by omega)) dL_law_29 ?_
    refine v_bipush (pc := 30) (63 : Int32) rfl hC dL_law_30 ?_
    refine v_iand (pc := 32) hC dL_law_32 ?_
    generalize xs (nI j).toNatClampNeg &&& 63 = v
    obtain ⟨o0, o1, o2, o3, o4, o5, o6, o7, o8, o9, o10, o11, o12, o13, o14, o15, o16, o17, o18, o19, o20, o21, o22, o23, o24, o25, o26, o27, o28, o29, o30, o31, o32, o33⟩ := hok
    by_cases c0 : v = (0 : Int32)
    · refine v_tsIn (pc := 33) (tgt := 184) hC dL_law_33 (by rw [c0]; decide) (by rw [c0]; decide) (by rw [c0]; rfl) rfl ?_
      exact law_race hfr hlo o0 hI hC hX h1 h2 h3 h4 h5 kk
    by_cases c1 : v = (1 : Int32)
    · refine v_tsIn (pc := 33) (tgt := 217) hC dL_law_33 (by rw [c1]; decide) (by rw [c1]; decide) (by rw [c1]; rfl) rfl ?_
      exact law_swim hfr hlo o1 hI hC hX h1 h2 h3 h4 h5 kk
    by_cases c2 : v = (2 : Int32)
    · refine v_tsIn (pc := 33) (tgt := 260) hC dL_law_33 (by rw [c2]; decide) (by rw [c2]; decide) (by rw [c2]; rfl) rfl ?_
      exact law_time hfr hlo o2 hI hC hX h1 h2 h3 h4 h5 kk
    by_cases c3 : v = (3 : Int32)
    · refine v_tsIn (pc := 33) (tgt := 303) hC dL_law_33 (by rw [c3]; decide) (by rw [c3]; decide) (by rw [c3]; rfl) rfl ?_
      exact law_read hfr hlo o3 hI hC hX h1 h2 h3 h4 h5 kk
    by_cases c4 : v = (4 : Int32)
    · refine v_tsIn (pc := 33) (tgt := 336) hC dL_law_33 (by rw [c4]; decide) (by rw [c4]; decide) (by rw [c4]; rfl) rfl ?_
      exact law_seeds hfr hlo o4 hI hC hX h1 h2 h3 h4 h5 kk
    by_cases c5 : v = (5 : Int32)
    · refine v_tsIn (pc := 33) (tgt := 369) hC dL_law_33 (by rw [c5]; decide) (by rw [c5]; decide) (by rw [c5]; rfl) rfl ?_
      exact law_about hfr hlo o5 hI hC hX h1 h2 h3 h4 h5 kk
    by_cases c6 : v = (6 : Int32)
    · refine v_tsIn (pc := 33) (tgt := 402) hC dL_law_33 (by rw [c6]; decide) (by rw [c6]; decide) (by rw [c6]; rfl) rfl ?_
      exact law_diff hfr hlo o6 hI hC hX h1 h2 h3 h4 h5 kk
    by_cases c7 : v = (7 : Int32)
    · refine v_tsIn (pc := 33) (tgt := 436) hC dL_law_33 (by rw [c7]; decide) (by rw [c7]; decide) (by rw [c7]; rfl) rfl ?_
      exact law_lane hfr hlo o7 hI hC hX h1 h2 h3 h4 h5 kk
    by_cases c8 : v = (8 : Int32)
    · refine v_tsIn (pc := 33) (tgt := 480) hC dL_law_33 (by rw [c8]; decide) (by rw [c8]; decide) (by rw [c8]; rfl) rfl ?_
      exact law_counts hfr hlo o8 hI hC hX h1 h2 h3 h4 h5 kk
    by_cases c9 : v = (9 : Int32)
    · refine v_tsIn (pc := 33) (tgt := 503) hC dL_law_33 (by rw [c9]; decide) (by rw [c9]; decide) (by rw [c9]; rfl) rfl ?_
      exact law_lean hfr hlo o9 hI hC hX h1 h2 h3 h4 h5 kk
    by_cases c10 : v = (10 : Int32)
    · refine v_tsIn (pc := 33) (tgt := 536) hC dL_law_33 (by rw [c10]; decide) (by rw [c10]; decide) (by rw [c10]; rfl) rfl ?_
      exact law_chance hfr hlo o10 hI hC hX h1 h2 h3 h4 h5 kk
    by_cases c11 : v = (11 : Int32)
    · refine v_tsIn (pc := 33) (tgt := 549) hC dL_law_33 (by rw [c11]; decide) (by rw [c11]; decide) (by rw [c11]; rfl) rfl ?_
      exact law_ran hfr hlo o11 hI hC hX h1 h2 h3 h4 h5 kk
    by_cases c12 : v = (12 : Int32)
    · refine v_tsIn (pc := 33) (tgt := 572) hC dL_law_33 (by rw [c12]; decide) (by rw [c12]; decide) (by rw [c12]; rfl) rfl ?_
      exact law_own hfr hlo o12 hI hC hX h1 h2 h3 h4 h5 kk
    by_cases c13 : v = (13 : Int32)
    · refine v_tsIn (pc := 33) (tgt := 606) hC dL_law_33 (by rw [c13]; decide) (by rw [c13]; decide) (by rw [c13]; rfl) rfl ?_
      exact law_fast hfr hlo o13 hI hC hX h1 h2 h3 h4 h5 kk
    by_cases c14 : v = (14 : Int32)
    · refine v_tsIn (pc := 33) (tgt := 629) hC dL_law_33 (by rw [c14]; decide) (by rw [c14]; decide) (by rw [c14]; rfl) rfl ?_
      exact law_twice hfr hlo o14 hI hC hX h1 h2 h3 h4 h5 kk
    by_cases c15 : v = (15 : Int32)
    · refine v_tsIn (pc := 33) (tgt := 662) hC dL_law_33 (by rw [c15]; decide) (by rw [c15]; decide) (by rw [c15]; rfl) rfl ?_
      exact law_order hfr hlo o15 hI hC hX h1 h2 h3 h4 h5 kk
    by_cases c16 : v = (16 : Int32)
    · refine v_tsIn (pc := 33) (tgt := 685) hC dL_law_33 (by rw [c16]; decide) (by rw [c16]; decide) (by rw [c16]; rfl) rfl ?_
      exact law_right hfr hlo o16 hI hC hX h1 h2 h3 h4 h5 kk
    by_cases c17 : v = (17 : Int32)
    · refine v_tsIn (pc := 33) (tgt := 719) hC dL_law_33 (by rw [c17]; decide) (by rw [c17]; decide) (by rw [c17]; rfl) rfl ?_
      exact law_place hfr hlo o17 hI hC hX h1 h2 h3 h4 h5 kk
    by_cases c18 : v = (18 : Int32)
    · refine v_tsIn (pc := 33) (tgt := 752) hC dL_law_33 (by rw [c18]; decide) (by rw [c18]; decide) (by rw [c18]; rfl) rfl ?_
      exact law_medals hfr hlo o18 hI hC hX h1 h2 h3 h4 h5 kk
    by_cases c19 : v = (19 : Int32)
    · refine v_tsIn (pc := 33) (tgt := 775) hC dL_law_33 (by rw [c19]; decide) (by rw [c19]; decide) (by rw [c19]; rfl) rfl ?_
      exact law_type hfr hlo o19 hI hC hX h1 h2 h3 h4 h5 kk
    by_cases c20 : v = (20 : Int32)
    · refine v_tsIn (pc := 33) (tgt := 808) hC dL_law_33 (by rw [c20]; decide) (by rw [c20]; decide) (by rw [c20]; rfl) rfl ?_
      exact law_wipe hfr hlo o20 hI hC hX h1 h2 h3 h4 h5 kk
    by_cases c21 : v = (21 : Int32)
    · refine v_tsIn (pc := 33) (tgt := 831) hC dL_law_33 (by rw [c21]; decide) (by rw [c21]; decide) (by rw [c21]; rfl) rfl ?_
      exact law_fault hfr hlo o21 hI hC hX h1 h2 h3 h4 h5 kk
    by_cases c22 : v = (22 : Int32)
    · refine v_tsIn (pc := 33) (tgt := 854) hC dL_law_33 (by rw [c22]; decide) (by rw [c22]; decide) (by rw [c22]; rfl) rfl ?_
      exact law_given hfr hlo o22 hI hC hX h1 h2 h3 h4 h5 kk
    by_cases c23 : v = (23 : Int32)
    · refine v_tsIn (pc := 33) (tgt := 877) hC dL_law_33 (by rw [c23]; decide) (by rw [c23]; decide) (by rw [c23]; rfl) rfl ?_
      exact law_tenths hfr hlo o23 hI hC hX h1 h2 h3 h4 h5 kk
    by_cases c24 : v = (24 : Int32)
    · refine v_tsIn (pc := 33) (tgt := 910) hC dL_law_33 (by rw [c24]; decide) (by rw [c24]; decide) (by rw [c24]; rfl) rfl ?_
      exact law_world hfr hlo o24 hI hC hX h1 h2 h3 h4 h5 kk
    by_cases c25 : v = (25 : Int32)
    · refine v_tsIn (pc := 33) (tgt := 933) hC dL_law_33 (by rw [c25]; decide) (by rw [c25]; decide) (by rw [c25]; rfl) rfl ?_
      exact law_made hfr hlo o25 hI hC hX h1 h2 h3 h4 h5 kk
    by_cases c26 : v = (26 : Int32)
    · refine v_tsIn (pc := 33) (tgt := 996) hC dL_law_33 (by rw [c26]; decide) (by rw [c26]; decide) (by rw [c26]; rfl) rfl ?_
      exact law_sheet hfr hlo o26 hI hC hX h1 h2 h3 h4 h5 kk
    by_cases c27 : v = (27 : Int32)
    · refine v_tsIn (pc := 33) (tgt := 1039) hC dL_law_33 (by rw [c27]; decide) (by rw [c27]; decide) (by rw [c27]; rfl) rfl ?_
      exact law_lose hfr hlo o27 hI hC hX h1 h2 h3 h4 h5 kk
    by_cases c28 : v = (28 : Int32)
    · refine v_tsIn (pc := 33) (tgt := 1062) hC dL_law_33 (by rw [c28]; decide) (by rw [c28]; decide) (by rw [c28]; rfl) rfl ?_
      exact law_put hfr hlo o28 hI hC hX h1 h2 h3 h4 h5 kk
    by_cases c29 : v = (29 : Int32)
    · refine v_tsIn (pc := 33) (tgt := 1115) hC dL_law_33 (by rw [c29]; decide) (by rw [c29]; decide) (by rw [c29]; rfl) rfl ?_
      exact law_get hfr hlo o29 hI hC hX h1 h2 h3 h4 h5 kk
    by_cases c30 : v = (30 : Int32)
    · refine v_tsIn (pc := 33) (tgt := 1158) hC dL_law_33 (by rw [c30]; decide) (by rw [c30]; decide) (by rw [c30]; rfl) rfl ?_
      exact law_copy hfr hlo o30 hI hC hX h1 h2 h3 h4 h5 kk
    by_cases c31 : v = (31 : Int32)
    · refine v_tsIn (pc := 33) (tgt := 1221) hC dL_law_33 (by rw [c31]; decide) (by rw [c31]; decide) (by rw [c31]; rfl) rfl ?_
      exact law_write hfr hlo o31 hI hC hX h1 h2 h3 h4 h5 kk
    by_cases c32 : v = (32 : Int32)
    · refine v_tsIn (pc := 33) (tgt := 1254) hC dL_law_33 (by rw [c32]; decide) (by rw [c32]; decide) (by rw [c32]; rfl) rfl ?_
      exact law_count hfr hlo o32 hI hC hX h1 h2 h3 h4 h5 kk
    by_cases c33 : v = (33 : Int32)
    · refine v_tsIn (pc := 33) (tgt := 1277) hC dL_law_33 (by rw [c33]; decide) (by rw [c33]; decide) (by rw [c33]; rfl) rfl ?_
      exact law_digest hfr hlo o33 hI hC hX h1 h2 h3 h4 h5 kk
    have d0 : v.toInt ≠ 0 := ne_toInt c0
    have d1 : v.toInt ≠ 1 := ne_toInt c1
    have d2 : v.toInt ≠ 2 := ne_toInt c2
    have d3 : v.toInt ≠ 3 := ne_toInt c3
    have d4 : v.toInt ≠ 4 := ne_toInt c4
    have d5 : v.toInt ≠ 5 := ne_toInt c5
    have d6 : v.toInt ≠ 6 := ne_toInt c6
    have d7 : v.toInt ≠ 7 := ne_toInt c7
    have d8 : v.toInt ≠ 8 := ne_toInt c8
    have d9 : v.toInt ≠ 9 := ne_toInt c9
    have d10 : v.toInt ≠ 10 := ne_toInt c10
    have d11 : v.toInt ≠ 11 := ne_toInt c11
    have d12 : v.toInt ≠ 12 := ne_toInt c12
    have d13 : v.toInt ≠ 13 := ne_toInt c13
    have d14 : v.toInt ≠ 14 := ne_toInt c14
    have d15 : v.toInt ≠ 15 := ne_toInt c15
    have d16 : v.toInt ≠ 16 := ne_toInt c16
    have d17 : v.toInt ≠ 17 := ne_toInt c17
    have d18 : v.toInt ≠ 18 := ne_toInt c18
    have d19 : v.toInt ≠ 19 := ne_toInt c19
    have d20 : v.toInt ≠ 20 := ne_toInt c20
    have d21 : v.toInt ≠ 21 := ne_toInt c21
    have d22 : v.toInt ≠ 22 := ne_toInt c22
    have d23 : v.toInt ≠ 23 := ne_toInt c23
    have d24 : v.toInt ≠ 24 := ne_toInt c24
    have d25 : v.toInt ≠ 25 := ne_toInt c25
    have d26 : v.toInt ≠ 26 := ne_toInt c26
    have d27 : v.toInt ≠ 27 := ne_toInt c27
    have d28 : v.toInt ≠ 28 := ne_toInt c28
    have d29 : v.toInt ≠ 29 := ne_toInt c29
    have d30 : v.toInt ≠ 30 := ne_toInt c30
    have d31 : v.toInt ≠ 31 := ne_toInt c31
    have d32 : v.toInt ≠ 32 := ne_toInt c32
    have d33 : v.toInt ≠ 33 := ne_toInt c33
    exact v_tsOut (pc := 33) (tgt := 1291) hC dL_law_33 (by omega) rfl (kk s hI)
