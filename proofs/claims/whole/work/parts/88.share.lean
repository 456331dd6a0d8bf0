/-! CHANCE: the class's way through the orders -/
def HpOk (n : Nat) (V : Nat → Int) (S : Nat) (σ : Sg) : Prop := (∀ k, k < n → gL σ 23 k = lI (V (dig S (9 + k)))) ∧ (∀ k, k < n → gI σ 24 k = nI (dig S (1 + k)))
theorem nI_sub {i j : Nat} (h : i ≤ j) : nI j - nI i = nI (j - i) := by
  rw [show nI j = nI (j - i) + nI i by rw [nI_add]; congr 1; omega, Int32.add_sub_cancel]
theorem hin_lt {S : Nat} (h : dig S (1 + dig S 0) < dig S 0) : hin S < dig S 0 := by
  unfold hin
  cases Nat.beq (dig S 0 % 2) 0
  · exact h
  · show 0 < _
    omega
theorem dig_hup {S : Nat} (h7 : dig S 0 < 7) (h : dig S (1 + dig S 0) < dig S 0) (k : Nat) : dig (hup S) k = if k = 0 then 1 else if k = 1 + dig S 0 then dig S (1 + dig S 0) + 1 else if k = 9 + hin S then dig S (9 + dig S 0) else if k = 9 + dig S 0 then dig S (9 + hin S) else dig S k := by
  unfold hup
  rw [dig_sdg (by decide), dig_sdg (by omega), dig_swp2]
theorem dig_hno {S : Nat} (h7 : dig S 0 < 7) (k : Nat) : dig (hno S) k = if k = 0 then dig S 0 + 1 else if k = 1 + dig S 0 then 0 else dig S k := by
  unfold hno
  rw [dig_sdg (by omega), dig_sdg (by decide)]
theorem hup_i {S : Nat} (h7 : dig S 0 < 7) (h : dig S (1 + dig S 0) < dig S 0) : dig (hup S) (9 + hin S) = dig S (9 + dig S 0) := by
  have hi := hin_lt h
  rw [dig_hup h7 h, if_neg (by omega), if_neg (by omega), if_pos rfl]
theorem hup_j {S : Nat} (h7 : dig S 0 < 7) (h : dig S (1 + dig S 0) < dig S 0) : dig (hup S) (9 + dig S 0) = dig S (9 + hin S) := by
  have hi := hin_lt h
  rw [dig_hup h7 h, if_neg (by omega), if_neg (by omega), if_neg (by omega), if_pos rfl]
theorem hup_o {S k : Nat} (h7 : dig S 0 < 7) (h : dig S (1 + dig S 0) < dig S 0) (k1 : k ≠ hin S) (k2 : k ≠ dig S 0) : dig (hup S) (9 + k) = dig S (9 + k) := by
  rw [dig_hup h7 h, if_neg (by omega), if_neg (by omega), if_neg (by omega), if_neg (by omega)]
theorem hup_t {S : Nat} (h7 : dig S 0 < 7) (h : dig S (1 + dig S 0) < dig S 0) : dig (hup S) (1 + dig S 0) = dig S (1 + dig S 0) + 1 := by
  rw [dig_hup h7 h, if_neg (by omega), if_pos rfl]
theorem hup_u {S k : Nat} (h7 : dig S 0 < 7) (h : dig S (1 + dig S 0) < dig S 0) (hk : k < 7) (k2 : k ≠ dig S 0) : dig (hup S) (1 + k) = dig S (1 + k) := by
  rw [dig_hup h7 h, if_neg (by omega), if_neg (by omega), if_neg (by omega), if_neg (by omega)]
theorem hno_o {S k : Nat} (h7 : dig S 0 < 7) : dig (hno S) (9 + k) = dig S (9 + k) := by
  rw [dig_hno h7, if_neg (by omega), if_neg (by omega)]
theorem hno_t {S : Nat} (h7 : dig S 0 < 7) : dig (hno S) (1 + dig S 0) = 0 := by
  rw [dig_hno h7, if_neg (by omega), if_pos rfl]
theorem hno_u {S k : Nat} (h7 : dig S 0 < 7) (k2 : k ≠ dig S 0) : dig (hno S) (1 + k) = dig S (1 + k) := by
  rw [dig_hno h7, if_neg (by omega), if_neg (by omega)]
theorem e_swap {σ : Sg} {i j : Nat} (hij : i < j) (hj : j < 7) {a b : Int} (h1 : gL σ 23 i = lI a) (h2 : gL σ 23 j = lI b) : fX8_swap (nI i) (nI j) σ = some (lI (((j : Int) - i) * (a - b)), sL (sL σ 23 i (lI b)) 23 j (lI a)) := by
  have hi : i < 7 := by omega
  have e1 : gL (sL (sL σ 23 i (lI b)) 23 j (lI a)) 23 i = lI b := by rw [gL_ne _ _ (Or.inr (by omega)), gL_same]
  simp only [fX8_swap, aL_n hi (by decide), aL_n hj (by decide), wL_n hi (by decide), wL_n hj (by decide), ob, h1, h2, gL_same, e1, nI_sub (Nat.le_of_lt hij), nI_lI (show j - i < 2 ^ 31 by omega), lI_sub, lI_mul]
  rw [show ((j - i : Nat) : Int) = (j : Int) - i by omega]
theorem hup_w {V : Nat → Int} {n S : Nat} (hn : n ≤ 7) (ha : dig S 0 < n) (h : dig S (1 + dig S 0) < dig S 0) : wgt V n (hup S >>> 27) = wgt V n (S >>> 27) + ((dig S 0 : Int) - hin S) * (V (dig S (9 + hin S)) - V (dig S (9 + dig S 0))) := by
  have hi := hin_lt h
  have h7 : dig S 0 < 7 := by omega
  unfold wgt
  rw [sZ_2 (f := fun k => (k : Int) * V (dig (hup S >>> 27) k)) (g := fun k => (k : Int) * V (dig (S >>> 27) k)) (i := hin S) (j := dig S 0) (by omega) n (by omega) ha (fun k hk k1 k2 => by
    show (k : Int) * V (dig (hup S >>> 27) k) = (k : Int) * V (dig (S >>> 27) k)
    rw [dig_sh, dig_sh, hup_o h7 h k1 k2])]
  simp only [dig_sh, hup_i h7 h, hup_j h7 h]
  generalize V (dig S (9 + hin S)) = x
  generalize V (dig S (9 + dig S 0)) = y
  generalize (dig S 0 : Int) = j
  generalize (hin S : Int) = i
  grind
def Fm (σ τ : Sg) : Prop := (∀ j, j ≠ 24 → gI τ j = gI σ j) ∧ (∀ j, j ≠ 23 → gL τ j = gL σ j)
theorem Fm.tr {σ τ υ : Sg} (h : Fm σ τ) (h2 : Fm τ υ) : Fm σ υ := ⟨fun j hj => (h2.1 j hj).trans (h.1 j hj), fun j hj => (h2.2 j hj).trans (h.2 j hj)⟩
theorem Fm.eq {σ τ : Sg} (h : Fm σ τ) : Eqv σ τ := fun j k hc => by
  have n24 : j ≠ 24 := fun e => by subst e; rw [core_lv (by decide) (by decide)] at hc; cases hc
  rw [h.1 j n24]
theorem e_shareL {n : Nat} (hn : n ≤ 7) {V : Nat → Int} (hV : Vb V) : ∀ F S acc L, hrun n F S acc = some L → ∀ (q m : Nat) (σ : Sg), q + F = 20000 → F < m → HpOk n V S σ → ∃ τ, lpG (fX8_shareOfOrders_L13 (nI n)) m (nI (1 + acc.length), nI (1 + acc.countP (grt V n)), lI (wgt V n (S >>> 27) - wgt V n idc), nI (dig S 0), nI q) σ = some ((nI (1 + L.length), nI (1 + L.countP (grt V n))), τ) ∧ Fm σ τ := by
  intro F
  induction F with
  | zero => intro S acc L h; cases h
  | succ F ih =>
    intro S acc L h q m σ hq hm ⟨p1, p2⟩
    obtain ⟨m, rfl⟩ : ∃ m', m = m' + 1 := ⟨m - 1, by omega⟩
    have cq : ¬ (20000 : Int32) ≤ nI q := nI_ge (b := 20000) (by omega) (by decide)
    have d8 := dig_lt S 0
    rw [hrun_s] at h
    by_cases ha : n ≤ dig S 0
    · rw [Nat.ble_eq_true_of_le ha] at h
      cases h
      have ca : nI n ≤ nI (dig S 0) := nI_le ha (by omega)
      refine ⟨σ, ?_, fun _ _ => rfl, fun _ _ => rfl⟩
      rw [lpG]
      simp only [fX8_shareOfOrders_L13, if_neg cq, if_pos ca]
    · have hb : Nat.ble n (dig S 0) = false := by
        cases e : Nat.ble n (dig S 0)
        · rfl
        · exact absurd (Nat.le_of_ble_eq_true e) ha
      rw [hb] at h
      have ha2 : dig S 0 < n := by omega
      have ha7 : dig S 0 < 7 := by omega
      have ca : ¬ nI n ≤ nI (dig S 0) := nI_ge ha2 (by omega)
      by_cases ht : dig S (1 + dig S 0) < dig S 0
      · have hbt : Nat.blt (dig S (1 + dig S 0)) (dig S 0) = true := Nat.ble_eq_true_of_le ht
        rw [hbt] at h
        have ct : ¬ nI (dig S 0) ≤ nI (dig S (1 + dig S 0)) := nI_ge ht (by omega)
        have hi := hin_lt ht
        have hw := hup_w (V := V) hn ha2 ht
        generalize hυ : sI (sL (sL σ 23 (hin S) (lI (V (dig S (9 + dig S 0))))) 23 (dig S 0) (lI (V (dig S (9 + hin S))))) 24 (dig S 0) (nI (dig S (1 + dig S 0) + 1)) = υ
        have hE : Fm σ υ := by rw [← hυ]; exact ⟨fun j hj => by rw [gI_row _ _ hj, gI_sL, gI_sL], fun j hj => by rw [gL_sI, gL_row _ _ hj, gL_row _ _ hj]⟩
        have hH : HpOk n V (hup S) υ := by
          constructor
          · intro k hk
            rw [← hυ, gL_sI]
            by_cases k1 : k = hin S
            · rw [k1, hup_i ha7 ht, gL_ne _ _ (Or.inr (by omega)), gL_same]
            · by_cases k2 : k = dig S 0
              · rw [k2, hup_j ha7 ht, gL_same]
              · rw [hup_o ha7 ht k1 k2, gL_ne _ _ (Or.inr k2), gL_ne _ _ (Or.inr k1)]
                exact p1 k hk
          · intro k hk
            rw [← hυ]
            by_cases k2 : k = dig S 0
            · rw [k2, hup_t ha7 ht, gI_same]
            · rw [hup_u ha7 ht (by omega) k2, gI_ne _ _ (Or.inr k2), gI_sL, gI_sL]
              exact p2 k hk
        obtain ⟨τ, t1, t2⟩ := ih (hup S) (hup S >>> 27 :: acc) L h (q + 1) m υ (by omega) (by omega) hH
        refine ⟨τ, ?_, hE.tr t2⟩
        rw [← t1, lpG]
        have es := e_swap (σ := σ) hi ha7 (p1 (hin S) (by omega)) (p1 (dig S 0) ha2)
        have eh : (if nI (dig S 0 % 2) = 0 then some (0 : Int32) else some (nI (dig S (1 + dig S 0)))) = some (nI (hin S)) := by
          unfold hin
          by_cases e : dig S 0 % 2 = 0
          · rw [e, if_pos nI_0]; rfl
          · have e1 : dig S 0 % 2 = 1 := by omega
            rw [e1, if_neg (by decide)]; rfl
        have em : lI (wgt V n (S >>> 27) - wgt V n idc) + lI (((dig S 0 : Int) - hin S) * (V (dig S (9 + hin S)) - V (dig S (9 + dig S 0)))) = lI (wgt V n (hup S >>> 27) - wgt V n idc) := by
          rw [lI_add, hw]; congr 1; omega
        have e24 : ∀ x y, gI (sL (sL σ 23 (hin S) x) 23 (dig S 0) y) 24 (dig S 0) = nI (dig S (1 + dig S 0)) := fun x y => by rw [gI_sL, gI_sL, p2 _ ha2]
        have b1 := wgt_b hV hn (hup S >>> 27)
        have b2 := wgt_b hV hn idc
        have d0 : dig (hup S) 0 = 1 := by rw [dig_hup ha7 ht, if_pos rfl]
        have ec : (if lg_cmp (lI (wgt V n (hup S >>> 27) - wgt V n idc)) (0 : Int64) < 0 then some (nI (1 + acc.countP (grt V n))) else some (nI (1 + acc.countP (grt V n) + 1))) = some (nI (1 + (hup S >>> 27 :: acc).countP (grt V n))) := by
          by_cases g : wgt V n idc ≤ wgt V n (hup S >>> 27)
          · have c : ¬ lg_cmp (lI (wgt V n (hup S >>> 27) - wgt V n idc)) (0 : Int64) < 0 := by
              rw [lg_cmp_lt, show (0 : Int64) = lI 0 from rfl, lI_lt (by constructor <;> omega) (by constructor <;> decide)]
              omega
            rw [if_neg c, List.countP_cons_of_pos (by unfold grt; simp [g])]
            rfl
          · have c : lg_cmp (lI (wgt V n (hup S >>> 27) - wgt V n idc)) (0 : Int64) < 0 := by
              rw [lg_cmp_lt, show (0 : Int64) = lI 0 from rfl, lI_lt (by constructor <;> omega) (by constructor <;> decide)]
              omega
            rw [if_pos c, List.countP_cons_of_neg (by unfold grt; simp; omega)]
        simp only [fX8_shareOfOrders_L13, if_neg cq, if_neg ca, aI_n ha7 (by decide), ob, bd, p2 _ ha2, if_neg ct, m2 (show dig S 0 < 2 ^ 31 by omega), eh, es, em, nI_1, ec, e24, wI_n ha7 (by decide), hυ, d0, List.length_cons]
        rfl
      · have hbt : Nat.blt (dig S (1 + dig S 0)) (dig S 0) = false := by
          cases e : Nat.blt (dig S (1 + dig S 0)) (dig S 0)
          · rfl
          · exact absurd (Nat.le_of_ble_eq_true e) ht
        rw [hbt] at h
        have d8' := dig_lt S (1 + dig S 0)
        have ct : nI (dig S 0) ≤ nI (dig S (1 + dig S 0)) := nI_le (by omega) (by omega)
        have hE : Fm σ (sI σ 24 (dig S 0) 0) := ⟨fun j hj => by rw [gI_row _ _ hj], fun j hj => by rw [gL_sI]⟩
        have hH : HpOk n V (hno S) (sI σ 24 (dig S 0) 0) := by
          constructor
          · intro k hk
            rw [gL_sI, hno_o ha7]
            exact p1 k hk
          · intro k hk
            by_cases k2 : k = dig S 0
            · rw [k2, hno_t ha7, gI_same]; rfl
            · rw [hno_u ha7 k2, gI_ne _ _ (Or.inr k2)]
              exact p2 k hk
        obtain ⟨τ, t1, t2⟩ := ih (hno S) acc L h (q + 1) m _ (by omega) (by omega) hH
        refine ⟨τ, ?_, hE.tr t2⟩
        have hs : wgt V n (hno S >>> 27) = wgt V n (S >>> 27) := by
          unfold wgt
          refine sZ_cg n (fun k hk => ?_)
          rw [dig_sh, dig_sh, hno_o ha7]
        have d0 : dig (hno S) 0 = dig S 0 + 1 := by rw [dig_hno ha7, if_pos rfl]
        rw [hs, d0] at t1
        rw [← t1, lpG]
        simp only [fX8_shareOfOrders_L13, if_neg cq, if_neg ca, aI_n ha7 (by decide), ob, bd, p2 _ ha2, if_pos ct, wI_n ha7 (by decide), nI_1]
