/-! FAULT, WORLD -/
def wF (s : Sg) : Int32 := wldF (t1N s) (gI s 33)
def wV (s : Sg) : Nat → Int32 := wldV (t1N s) (gI s 33)
theorem eq_wF {s t : Sg} (h : Eqv s t) : wF t = wF s := by unfold wF; rw [eq_t1 h, h.row 33 (fun _ => rfl)]
theorem eq_wV {s t : Sg} (h : Eqv s t) : wV t = wV s := by unfold wV; rw [eq_t1 h, h.row 33 (fun _ => rfl)]
theorem kc_E {s σ τ : Sg} {v : Nat → Int32} (hE : Eqv s σ) (h : Kc σ v τ) : Eqv s τ := fun j k hc => by
  rw [h.1 j (fun e => by rw [e] at hc; exact absurd hc Bool.false_ne_true) (fun e => by rw [e] at hc; exact absurd hc Bool.false_ne_true)]
  exact hE j k hc
theorem kb_E {s σ τ : Sg} (hE : Eqv s σ) (h : KB σ τ) : Eqv s τ := fun j k hc => by
  by_cases e : j = 49
  · subst e
    rw [h.2.1 k (fun e => by rw [e] at hc; exact absurd hc Bool.false_ne_true) (fun e => by rw [e] at hc; exact absurd hc Bool.false_ne_true) (fun e => by rw [e] at hc; exact absurd hc Bool.false_ne_true) (fun e => by rw [e] at hc; exact absurd hc Bool.false_ne_true)]
    exact hE 49 k hc
  · rw [h.1 j e (fun e => by rw [e] at hc; exact absurd hc Bool.false_ne_true)]
    exact hE j k hc
theorem wt_s {s σ : Sg} (hI : Inv s) (hE : Eqv s σ) : WT (t1N s) (gI s 33) σ := by
  obtain ⟨x1, x2, x3, x4, x5, x6, x7, x8⟩ := hI.2.2.2.2.2.2.1
  exact ⟨x6, by rw [hE 32 1 rfl]; exact x4, fun i hi => by rw [hE 33 i rfl]⟩
theorem wr_s {s σ : Sg} (hI : Inv s) (hE : Eqv s σ) : WR (t1N s) (gI s 33) σ := by
  obtain ⟨x1, x2, x3, x4, x5, x6, x7, x8⟩ := hI.2.2.2.2.2.2.1
  refine ⟨x6, by rw [hE 66 1 rfl]; exact x5, fun i hi => ?_⟩
  rw [hE 65 _ rfl]
  exact x8 i hi
theorem e_wld {s σ : Sg} (hI : Inv s) (hE : Eqv s σ) : ∃ τ, fX9_parse σ = some (wF s, τ) ∧ Kc σ (wV s) τ := e_parse (wt_s hI hE)
theorem r_wld {s σ : Sg} (hI : Inv s) (hE : Eqv s σ) : ∃ τ, fX11_worldFault σ = some (wF s, τ) ∧ KB σ τ ∧ KV (wV s) τ := r_worldFault (wr_s hI hE)
theorem all_fault : ok_fault Inv := by
  intro x s hI
  cases h1 : wi x 0 1
  · have c0 : ¬ x = 0 := fun e => by rw [e] at h1; exact absurd h1 (by decide)
    have c1 : ¬ x = 1 := fun e => by rw [e] at h1; exact absurd h1 (by decide)
    exact ⟨-2, s, s, by simp only [fX10_fault, e_isText, ob, h1, b2f, if_true], by simp only [fX11_fault, if_neg c0, if_neg c1], hI⟩
  · obtain ⟨t, ht, rfl⟩ := wi_nat (n := 1) rfl (by decide) h1
    rcases (show t = 0 ∨ t = 1 by omega) with rfl | rfl
    · obtain ⟨K, hK⟩ := stopR_ex s
      refine ⟨fltV K, s, frow s 67 0 (fun k => nI (rlN s k)) K, ?_, ?_, inv_cg (eqv_frow (Eqv.rf s) _ core67 _) hI⟩
      · have c : nI 0 = (0 : Int32) := rfl
        simp only [fX10_fault, e_isText, ob, h1, b2t, if_false, if_pos c, e_faultAt hI hK]
      · have c : nI 0 = (0 : Int32) := rfl
        simp only [fX11_fault, if_pos c, r_ruleFault hI hK, ob]
    · have c0 : ¬ nI 1 = (0 : Int32) := by decide
      have c1 : nI 1 = (1 : Int32) := rfl
      obtain ⟨τ, t1, t2⟩ := e_wld hI (Eqv.rf s)
      have hE := kc_E (Eqv.rf s) t2
      obtain ⟨υ, u1, u2, u3⟩ := r_wld hI hE
      refine ⟨wF s, τ, υ, ?_, ?_, inv_cg (kb_E hE u2) hI⟩
      · simp only [fX10_fault, e_isText, ob, h1, b2t, if_false, if_neg c0, t1]
      · simp only [fX11_fault, if_neg c0, if_pos c1, u1, ob]
/-- world's answer -/
theorem r_worldNow {s σ : Sg} (hI : Inv s) (hE : Eqv s σ) {k : Nat} (hk : k ≤ 9) : ∃ τ, fX11_worldNow (nI k) σ = some (wV s k, τ) ∧ Eqv s τ := by
  obtain ⟨υ, u1, u2, u3⟩ := r_wld hI hE
  refine ⟨υ, ?_, kb_E hE u2⟩
  unfold fX11_worldNow
  rw [u1, ob]
  by_cases q : k < 8
  · have c : ¬ (8 : Int32) ≤ nI k := nI_ge (b := 8) q (by decide)
    simp only [if_neg c, aI_n q (by decide), ob, u3.1 k q]
  · have c : (8 : Int32) ≤ nI k := nI_le (a := 8) (by omega) (by omega)
    rcases (show k = 8 ∨ k = 9 by omega) with rfl | rfl
    · have c8 : nI 8 = (8 : Int32) := rfl
      simp only [if_pos c, if_pos c8, u3.2.1]
    · have c8 : ¬ nI 9 = (8 : Int32) := by decide
      simp only [if_pos c, if_neg c8, u3.2.2]
theorem all_world : ok_world Inv := by
  intro x s hI
  cases h1 : wi x 0 9
  · exact ⟨-5000, s, s, by simp only [fX10_world, e_within, ob, h1, b2f, if_true], by simp only [fX11_world, e_in, ob, h1, b2f, if_true], hI⟩
  · obtain ⟨k, hk, rfl⟩ := wi_nat (n := 9) rfl (by decide) h1
    obtain ⟨τ, t1, t2⟩ := e_wld hI (Eqv.rf s)
    have hE := kc_E (Eqv.rf s) t2
    obtain ⟨υ, u1, u2⟩ := r_worldNow hI hE hk
    refine ⟨wV s k, τ, υ, ?_, ?_, inv_cg u2 hI⟩
    · simp only [fX10_world, e_within, ob, h1, b2t, if_false, t1, aI_n (show k < 10 by omega) (by decide), t2.2.2 k (by omega)]
    · simp only [fX11_world, e_in, ob, h1, b2t, if_false, u1]
