/-! OWN and FAST -/
theorem eq_inW {s t : Sg} (h : Eqv s t) : inW t = inW s := by funext w i; unfold inW; rw [eq_tm h, eq_sw h]
theorem svq_cg {s τ τ' : Sg} {A B : Nat → Nat} (h : SvQ s A B τ) (hE : Eqv s τ') (h1 : ∀ j, 9 ≤ j → j ≤ 21 → j ≠ 19 → gI τ' j = gI τ j) (h2 : ∀ j, 9 ≤ j → j ≤ 17 → gL τ' j = gL τ j) : SvQ s A B τ' := by
  obtain ⟨-, hv, ⟨s1, s2, s3, s4, s5⟩, hS, hN, ⟨t1, t2, t3, t4, t5⟩⟩ := h
  refine ⟨hE, fun i hi => ⟨?_, ?_⟩, ⟨?_, ?_, ?_, fun l hl => ?_, fun l hl => ?_⟩, hS, hN, ⟨?_, ?_, ?_, fun l hl => ?_, fun l hl => ?_⟩⟩
  · exact (congrFun (h1 20 (by decide) (by decide) (by decide)) i).trans (hv i hi).1
  · exact (congrFun (h1 21 (by decide) (by decide) (by decide)) i).trans (hv i hi).2
  · exact (congrFun (h1 9 (by decide) (by decide) (by decide)) 4).trans s1
  · exact (congrFun (h2 9 (by decide) (by decide)) 5).trans s2
  · exact (congrFun (h2 9 (by decide) (by decide)) 6).trans s3
  · exact (congrFun (h2 (9 + 3) (by decide) (by decide)) l).trans (s4 l hl)
  · exact (congrFun (h1 (9 + 1) (by decide) (by decide) (by decide)) l).trans (s5 l hl)
  · exact (congrFun (h1 14 (by decide) (by decide) (by decide)) 4).trans t1
  · exact (congrFun (h2 14 (by decide) (by decide)) 5).trans t2
  · exact (congrFun (h2 14 (by decide) (by decide)) 6).trans t3
  · exact (congrFun (h2 (14 + 3) (by decide) (by decide)) l).trans (t4 l hl)
  · exact (congrFun (h1 (14 + 1) (by decide) (by decide) (by decide)) l).trans (t5 l hl)
theorem svq_48 {s τ : Sg} {A B : Nat → Nat} (h : SvQ s A B τ) (u v : Int64) : SvQ s A B (sL (sL τ 48 0 u) 48 1 v) := by
  refine svq_cg h ((h.1.L _ _ _).L _ _ _) (fun j _ _ _ => ?_) (fun j _ h2 => ?_)
  · funext k; rw [gI_sL, gI_sL]
  · rw [gL_row _ _ (by omega), gL_row _ _ (by omega)]
theorem rlp_eq {s t υ : Sg} (hE : Eqv s t) (u : RlP t (nS t) υ) : RlP s (nS s) υ := by
  refine ⟨hE.tr u.1, fun l hl => ?_⟩
  have := u.2 l hl
  rw [eq_ct hE, eq_sm hE, eq_nS hE] at this
  exact this
theorem r_laysOwn {s t : Sg} (hI : Inv s) (hE : Eqv s t) {w : Nat} (hw : w < 24) : ∃ τ, Eqv s τ ∧ fX11_laysOwn (nI w) t = some (if 0 < owN s w (nS s) then 1 else 0, τ) ∧ (0 < owN s w (nS s) → Fr τ (owZ s w (nS s)) (2 * lcN (lc s) 8 * owN s w (nS s))) := by
  have hIt := inv_cg hE hI
  obtain ⟨υ, u1, u2'⟩ := r_laysLanes hIt
  have u2 := rlp_eq hE u2'
  have a6 := hI.1.2.2.2.2.2
  have hD := lc_lcm8 hI
  have hp := lcN_pos (lc s) 8
  obtain ⟨b1, b2⟩ := ow_b hI w (nS s) (Nat.le_refl _)
  have f1 : fX11_lays (lI 0) (lI ((1 : Nat) : Int)) υ = some (frT υ 0 1) := r_lays (by constructor <;> decide) (by decide) (by decide) υ
  have e0 : frT υ 0 1 = frT υ 0 (2 * lcN (lc s) 8) := fr_cg (by decide) (by omega) (by simp)
  have hR : RlP s (nS s) (frT υ 0 (2 * lcN (lc s) 8)) := ⟨frT_E u2.1 _ _, fun l hl => by rw [frT_L _ _ _ (by decide), frT_L _ _ _ (by decide)]; exact u2.2 l hl⟩
  obtain ⟨σ, t1, t2, t3, t4⟩ := r_ownLoop hI hR (fr_T _ _ _) hw
  have hEσ : Eqv s σ := fun j k hc => by rw [t3]; exact frT_E u2.1 _ _ j k hc
  have z0 : (0 : Int64) = lI 0 := rfl
  have z1 : (1 : Int64) = lI ((1 : Nat) : Int) := rfl
  generalize hN : owN s w (nS s) = N at *
  generalize hZ : owZ s w (nS s) = Z at *
  generalize hDD : 2 * lcN (lc s) 8 = D2 at *
  have hD2 : 0 < D2 := by omega
  have hD3 : D2 ≤ 200000000 := by omega
  by_cases q : 0 < N
  · have cq : ¬ nI N ≤ 0 := by
      have := nI_ge (a := 0) (b := N) q (by omega)
      exact this
    have hbp := lowB_pos (z := Z) hD2
    have hb := lowB_le Z D2
    have ha := lowA_abs Z D2
    have hB1 : lowB Z D2 * N ≤ 200000000 * 64 := Nat.mul_le_mul (by omega) (by omega)
    have f2 : fX11_lays (gL σ 49 13) (gL σ 49 14 * (nI N).toInt64) σ = some (frT σ Z (D2 * N)) := by
      rw [t2.1, t2.2, nI_lI (by omega), lI_mul, ← Int.natCast_mul, r_lays (by constructor <;> omega) (Nat.mul_pos hbp q) (by omega)]
      congr 1
      refine fr_cg (Nat.mul_pos hbp q) (Nat.mul_pos hD2 q) ?_
      have := low_cross (z := Z) (b := D2)
      simp only [Int.natCast_mul]
      grind
    refine ⟨frT σ Z (D2 * N), frT_E hEσ _ _, ?_, fun _ => fr_T _ _ _⟩
    unfold fX11_laysOwn
    rw [u1, ob, z0, z1, f1, ob, e0, t1, ob]
    simp only [if_neg cq, f2, ob, if_pos q]
  · have q0 : N = 0 := by omega
    have cq : nI N ≤ 0 := by rw [q0]; decide
    refine ⟨σ, hEσ, ?_, fun h => absurd h q⟩
    unfold fX11_laysOwn
    rw [u1, ob, z0, z1, f1, ob, e0, t1, ob]
    simp only [if_pos cq, ob, if_neg q]
theorem all_own : ok_own Inv := by
  intro x p s hI
  cases h1 : wi x 0 23
  · exact ⟨-9223372036854775808 - (-2 : Int32).toInt64, s, s, by simp only [fX10_own, e_isSwimmer, ob, h1, b2f, if_true, e_refusal], by simp only [fX11_own, r_isSwimmer, ob, h1, b2f, if_true, r_no], hI⟩
  · cases h3 : wi p 0 1
    · exact ⟨-9223372036854775808 - (-2 : Int32).toInt64, s, s, by simp only [fX10_own, e_isSwimmer, e_isPart, ob, h1, h3, b2f, b2t, if_true, if_false, e_refusal], by simp only [fX11_own, r_isSwimmer, e_in, ob, h1, h3, b2f, b2t, if_true, if_false, r_no], hI⟩
    · obtain ⟨w, hw, rfl⟩ := wi_nat (n := 23) rfl (by decide) h1
      have hw' : w < 24 := by omega
      obtain ⟨τ, A, B, t1, t2⟩ := e_survey hI
      have hE := t2.1
      have c1 : ¬ (1 : Int32) = 0 := by decide
      rcases e_findOwn hI t2 hw' with ⟨q, e⟩ | ⟨q, e⟩
      · obtain ⟨υ, u1, u2, u3⟩ := r_laysOwn hI hE hw'
        have q' : ¬ 0 < owN s w (nS s) := by omega
        rw [if_neg q'] at u2
        refine ⟨-9223372036854775808 - (-3 : Int32).toInt64, τ, υ, ?_, ?_, inv_cg u1 hI⟩
        · simp only [fX10_own, e_isSwimmer, e_isPart, ob, h1, h3, b2t, if_false, t1, e, if_true, e_refusal]
        · simp only [fX11_own, r_isSwimmer, e_in, ob, h1, h3, b2t, if_false, u2, if_true, r_no]
      · have hE2 := (svq_48 t2 (lI (lowA (owZ s w (nS s)) (2 * lcN (lc s) 8 * owN s w (nS s)))) (lI (lowB (owZ s w (nS s)) (2 * lcN (lc s) 8 * owN s w (nS s))))).1
        obtain ⟨υ, u1, u2, u3⟩ := r_laysOwn hI hE2 hw'
        rw [if_pos q] at u2
        refine ⟨if p = 0 then lI (lowA (owZ s w (nS s)) (2 * lcN (lc s) 8 * owN s w (nS s))) else lI (lowB (owZ s w (nS s)) (2 * lcN (lc s) 8 * owN s w (nS s))), sL (sL τ 48 0 (lI (lowA (owZ s w (nS s)) (2 * lcN (lc s) 8 * owN s w (nS s))))) 48 1 (lI (lowB (owZ s w (nS s)) (2 * lcN (lc s) 8 * owN s w (nS s)))), υ, ?_, ?_, inv_cg u1 hI⟩
        · simp only [fX10_own, e_isSwimmer, e_isPart, ob, h1, h3, b2t, if_false, t1, e, if_neg c1, e_part]
        · simp only [fX11_own, r_isSwimmer, e_in, ob, h1, h3, b2t, if_false, u2, if_neg c1, (u3 q).1, (u3 q).2]
          split <;> rfl
def fbt (s : Sg) (x : Int32) (w : Nat) : Bool := decide (0 < owN s w (nS s)) && !(decide (0 < lg_cmp (lI (lowA (owZ s w (nS s)) (2 * lcN (lc s) 8 * owN s w (nS s)))) ((-x).toInt64 * lI (lowB (owZ s w (nS s)) (2 * lcN (lc s) 8 * owN s w (nS s))))))
def bts (s : Sg) (x : Int32) : Nat → Int32
  | 0 => 0
  | z + 1 => if fbt s x z = true then bts s x z ||| ((1 : Int32) <<< (nI z &&& 31)) else bts s x z
theorem e_fastLoop {s σ : Sg} {A B : Nat → Nat} (hI : Inv s) (h : SvQ s A B σ) (x : Int32) : ∃ τ, lpG (fX10_fast_L25 x) FU ((0 : Int32), (0 : Int32)) σ = some (bts s x 24, τ) ∧ SvQ s A B τ := by
  refine lp_ex (body := fX10_fast_L25 x) (b := bts s x 24) 24 (fun z => (bts s x z, nI z)) (fun z τ => SvQ s A B τ) (fun z hz τ hS => ?_) (fun τ hS => ?_) FU (by decide) σ h
  · have c : ¬ (24 : Int32) ≤ nI z := nI_ge (b := 24) hz (by decide)
    have c1 : ¬ (1 : Int32) = 0 := by decide
    have eb : bts s x (z + 1) = if fbt s x z = true then bts s x z ||| ((1 : Int32) <<< (nI z &&& 31)) else bts s x z := rfl
    rcases e_findOwn hI hS hz with ⟨q, e⟩ | ⟨q, e⟩
    · refine ⟨τ, ?_, hS⟩
      have f0 : ¬ fbt s x z = true := by unfold fbt; simp [q]
      simp only [fX10_fast_L25, if_neg c, e, ob, bd, if_true, nI_1, eb, if_neg f0]
    · refine ⟨_, ?_, svq_48 hS (lI (lowA (owZ s z (nS s)) (2 * lcN (lc s) 8 * owN s z (nS s)))) (lI (lowB (owZ s z (nS s)) (2 * lcN (lc s) 8 * owN s z (nS s))))⟩
      have g0 : ∀ a b : Int64, gL (sL (sL τ 48 0 a) 48 1 b) 48 0 = a := fun a b => by rw [gL_ne _ _ (Or.inr (by decide)), gL_same]
      have g1 : ∀ a b : Int64, gL (sL (sL τ 48 0 a) 48 1 b) 48 1 = b := fun a b => by rw [gL_same]
      simp only [fX10_fast_L25, if_neg c, e, ob, bd, if_neg c1, g0, g1, nI_1, eb]
      by_cases f : 0 < lg_cmp (lI (lowA (owZ s z (nS s)) (2 * lcN (lc s) 8 * owN s z (nS s)))) ((-x).toInt64 * lI (lowB (owZ s z (nS s)) (2 * lcN (lc s) 8 * owN s z (nS s))))
      · have f0 : ¬ fbt s x z = true := by unfold fbt; simp [f]
        simp only [if_pos f, if_neg f0, ob]
      · have f0 : fbt s x z = true := by unfold fbt; simp [f, q]
        simp only [if_neg f, if_pos f0, ob]
  · have c : (24 : Int32) ≤ nI 24 := by decide
    simp only [fX10_fast_L25, if_pos c]
theorem r_fastLoop {s σ : Sg} (hI : Inv s) (h : Eqv s σ) (x : Int32) : ∃ τ, lpG (fX11_fast_L18 x) FU ((0 : Int32), (0 : Int32)) σ = some (bts s x 24, τ) ∧ Eqv s τ := by
  refine lp_ex (body := fX11_fast_L18 x) (b := bts s x 24) 24 (fun z => (bts s x z, nI z)) (fun z τ => Eqv s τ) (fun z hz τ hS => ?_) (fun τ hS => ?_) FU (by decide) σ h
  · have c : ¬ (24 : Int32) ≤ nI z := nI_ge (b := 24) hz (by decide)
    have c1 : ¬ (1 : Int32) = 0 := by decide
    have eb : bts s x (z + 1) = if fbt s x z = true then bts s x z ||| ((1 : Int32) <<< (nI z &&& 31)) else bts s x z := rfl
    obtain ⟨υ, u1, u2, u3⟩ := r_laysOwn hI hS hz
    refine ⟨υ, ?_, u1⟩
    by_cases q : 0 < owN s z (nS s)
    · rw [if_pos q] at u2
      simp only [fX11_fast_L18, if_neg c, u2, ob, bd, if_neg c1, (u3 q).1, (u3 q).2, nI_1, eb]
      by_cases f : 0 < lg_cmp (lI (lowA (owZ s z (nS s)) (2 * lcN (lc s) 8 * owN s z (nS s)))) ((-x).toInt64 * lI (lowB (owZ s z (nS s)) (2 * lcN (lc s) 8 * owN s z (nS s))))
      · have f0 : ¬ fbt s x z = true := by unfold fbt; simp [f]
        simp only [if_pos f, if_neg f0, ob, Int32.or_zero]
      · have f0 : fbt s x z = true := by unfold fbt; simp [f, q]
        simp only [if_neg f, if_pos f0, ob]
    · rw [if_neg q] at u2
      have f0 : ¬ fbt s x z = true := by unfold fbt; simp [q]
      simp only [fX11_fast_L18, if_neg c, u2, ob, bd, if_true, nI_1, eb, if_neg f0, Int32.or_zero]
  · have c : (24 : Int32) ≤ nI 24 := by decide
    simp only [fX11_fast_L18, if_pos c]
theorem all_fast : ok_fast Inv := by
  intro x s hI
  cases h1 : wi x 0 9999
  · exact ⟨-2, s, s, by simp only [fX10_fast, e_within, ob, h1, b2f, if_true], by simp only [fX11_fast, e_in, ob, h1, b2f, if_true], hI⟩
  · obtain ⟨τ, A, B, t1, t2⟩ := e_survey hI
    obtain ⟨υ, u1, u2⟩ := e_fastLoop hI t2 x
    obtain ⟨ω, w1, w2⟩ := r_fastLoop hI u2.1 x
    refine ⟨bts s x 24, υ, ω, ?_, ?_, inv_cg w2 hI⟩
    · simp only [fX10_fast, e_within, ob, h1, b2t, if_false, t1, u1]
    · simp only [fX11_fast, e_in, ob, h1, b2t, if_false, w1]
