/-! told -/
section TOLD
variable {E : ZE} {k : Nat} {M M' : ZM} {Φ : Option Value → ZS → ZM → Prop} {B : AB}
def aTold (a : AS) (x : Int32) : Int32 := if x.toInt = 0 then nI a.1.length else if x.toInt = 1 then nI a.2.1.1.1.length else if x.toInt = 2 then nI a.2.1.1.2.length else if 10 ≤ x.toInt ∧ x.toInt < 16 then nI (a.2.1.2.1 (x.toInt.toNat - 10)) else if 20 ≤ x.toInt ∧ x.toInt < 29 then nI (dg (t3 a.2.1.2.2.1 ((x.toInt.toNat - 20) / 3)) ((x.toInt.toNat - 20) % 3)) else if 30 ≤ x.toInt ∧ x.toInt < 33 then nI (l3 a.2.1.2.2.2 (x.toInt.toNat - 30)).length else if 100 ≤ x.toInt ∧ x.toInt < 400 then (if x.toInt.toNat % 100 < (l3 a.2.1.2.2.2 (x.toInt.toNat / 100 - 1)).length then nI ((l3 a.2.1.2.2.2 (x.toInt.toNat / 100 - 1)).getD (x.toInt.toNat % 100) 0) else -2) else -2
theorem H_told_ok {a : AS} {x : Int32} (h : zCI k M a) (hk : Φ (some (.int (aTold a x))) (zSt k) M) : zW E m_H_told 1 (zSt k) M 0 [some (.ref 0), some (.int x), none] [] Φ := by
  have hb := h.2.2.1
  have hB := h.1.2.1
  have l10 : x < 10 ↔ x.toInt < 10 := by rw [Int32.lt_iff_toInt_lt]; rfl
  have l20 : x < 20 ↔ x.toInt < 20 := by rw [Int32.lt_iff_toInt_lt]; rfl
  have l30 : x < 30 ↔ x.toInt < 30 := by rw [Int32.lt_iff_toInt_lt]; rfl
  have l100 : x < 100 ↔ x.toInt < 100 := by rw [Int32.lt_iff_toInt_lt]; rfl
  have g16 : 16 ≤ x ↔ 16 ≤ x.toInt := by rw [Int32.le_iff_toInt_le]; rfl
  have g29 : 29 ≤ x ↔ 29 ≤ x.toInt := by rw [Int32.le_iff_toInt_le]; rfl
  have g33 : 33 ≤ x ↔ 33 ≤ x.toInt := by rw [Int32.le_iff_toInt_le]; rfl
  have g400 : 400 ≤ x ↔ 400 ≤ x.toInt := by rw [Int32.le_iff_toInt_le]; rfl
  have e0 : x = 0 ↔ x.toInt = 0 := by rw [← Int32.toInt_inj]; rfl
  have e1 : x = 1 ↔ x.toInt = 1 := by rw [← Int32.toInt_inj]; rfl
  have e2 : x = 2 ↔ x.toInt = 2 := by rw [← Int32.toInt_inj]; rfl
  refine vc_H_told_0 E k M x Φ ?_
  rw [l10, l20, l30, l100, g16, g29, g33, g400, e0, e1, e2]
  unfold aTold at hk
  by_cases c0 : x.toInt = 0
  · rw [if_pos c0] at hk
    exact ⟨fun c => absurd c0 c, fun _ => Row_size_ok (ts_1 k) h.2.1 ⟨_, rfl, rfl, hk⟩⟩
  · rw [if_neg c0] at hk
    refine ⟨fun _ => ?_, fun c => absurd c c0⟩
    by_cases c1 : x.toInt = 1
    · rw [if_pos c1] at hk
      exact ⟨fun c => absurd c1 c, fun _ => Row_size_ok (ts_4 k) hb.1 ⟨_, rfl, rfl, hk⟩⟩
    · rw [if_neg c1] at hk
      refine ⟨fun _ => ?_, fun c => absurd c c1⟩
      by_cases c2 : x.toInt = 2
      · rw [if_pos c2] at hk
        exact ⟨fun c => absurd c2 c, fun _ => Row_size_ok (ts_6 k) hb.2.1 ⟨_, rfl, rfl, hk⟩⟩
      · rw [if_neg c2] at hk
        refine ⟨fun _ => ?_, fun c => absurd c c2⟩
        have hv : 0 ≤ x.toInt → ∃ j : Nat, x = nI j ∧ x.toInt = j ∧ x.toInt.toNat = j := fun hx => by
          obtain ⟨j, h1, h2⟩ := nI_of_rng hx
          have e : x.toInt = j := by rw [h2, nI_toInt (by omega)]
          exact ⟨j, h2, e, by rw [e]; rfl⟩
        by_cases cA : 10 ≤ x.toInt ∧ x.toInt < 16
        · rw [if_pos cA] at hk
          have f_l10 : (x.toInt < 10) = False := eq_false (by omega)
          have f_g16 : (16 ≤ x.toInt) = False := eq_false (by omega)
          simp only [f_l10, f_g16, false_implies, not_false_eq_true, true_implies, and_true, true_and, not_true_eq_false]
          obtain ⟨j, ej, ei, en⟩ := hv (by omega)
          rw [en] at hk
          have s1 : nI j - 10 = nI (j - 10) := pk_sub (b := 10) (by omega)
          rw [ej, s1, show nI (j - 10) / 3 = nI ((j - 10) / 3) from pk_div (d := 3) (by omega) (by decide) (by decide)]
          rw [show nI (j - 10) - nI ((j - 10) / 3) * 3 = nI ((j - 10) % 3) by rw [show nI ((j - 10) / 3) * 3 = nI ((j - 10) / 3 * 3) from pk_mul _ 3, pk_sub (by omega)]; congr 1; omega]
          refine Machine_after_ok (ts_8 k) hb.2.2.1 (Nat.mod_lt _ (by decide)) (by omega) ⟨_, rfl, rfl, ?_⟩
          rw [show 3 * ((j - 10) / 3) + (j - 10) % 3 = j - 10 by omega]
          exact hk
        · rw [if_neg cA] at hk
          by_cases cB : 20 ≤ x.toInt ∧ x.toInt < 29
          · rw [if_pos cB] at hk
            have f_l10 : (x.toInt < 10) = False := eq_false (by omega)
            have f_l20 : (x.toInt < 20) = False := eq_false (by omega)
            have f_g16 : (16 ≤ x.toInt) = True := eq_true (by omega)
            have f_g29 : (29 ≤ x.toInt) = False := eq_false (by omega)
            simp only [f_l10, f_l20, f_g16, f_g29, false_implies, not_false_eq_true, true_implies, and_true, true_and, not_true_eq_false]
            obtain ⟨j, ej, ei, en⟩ := hv (by omega)
            rw [en] at hk
            have hn : okn a.2.1.2.2.1 := hB.2.2.2.1
            have s1 : nI j - 20 = nI (j - 20) := pk_sub (b := 20) (by omega)
            rw [ej, s1, show nI (j - 20) / 3 = nI ((j - 20) / 3) from pk_div (d := 3) (by omega) (by decide) (by decide)]
            rw [show nI (j - 20) - nI ((j - 20) / 3) * 3 = nI ((j - 20) % 3) by rw [show nI ((j - 20) / 3) * 3 = nI ((j - 20) / 3 * 3) from pk_mul _ 3, pk_sub (by omega)]; congr 1; omega]
            rw [hb.2.2.2.2]
            exact Need_ofVariable_ok hn (by omega) ⟨_, rfl, rfl, Need_ofState_ok (okn_t3 hn _) (Nat.mod_lt _ (by decide)) ⟨_, rfl, rfl, hk⟩⟩
          · rw [if_neg cB] at hk
            by_cases cC : 30 ≤ x.toInt ∧ x.toInt < 33
            · rw [if_pos cC] at hk
              have f_l10 : (x.toInt < 10) = False := eq_false (by omega)
              have f_l20 : (x.toInt < 20) = False := eq_false (by omega)
              have f_l30 : (x.toInt < 30) = False := eq_false (by omega)
              have f_g16 : (16 ≤ x.toInt) = True := eq_true (by omega)
              have f_g29 : (29 ≤ x.toInt) = True := eq_true (by omega)
              have f_g33 : (33 ≤ x.toInt) = False := eq_false (by omega)
              simp only [f_l10, f_l20, f_l30, f_g16, f_g29, f_g33, false_implies, not_false_eq_true, true_implies, and_true, true_and, not_true_eq_false]
              obtain ⟨j, ej, ei, en⟩ := hv (by omega)
              rw [en] at hk
              rw [ej, show nI j - 30 = nI (j - 30) from pk_sub (b := 30) (by omega)]
              have h3 : j - 30 < 3 := by omega
              exact Words_of_ok (ts_10 k) h3 ⟨_, 12, rfl, rfl, zWords_row (ts_10 k) h3, Row_size_ok (zWords_row (ts_10 k) h3) (hb.2.2.2.1 _ h3) ⟨_, rfl, rfl, hk⟩⟩
            · rw [if_neg cC] at hk
              by_cases cD : 100 ≤ x.toInt ∧ x.toInt < 400
              · rw [if_pos cD] at hk
                have f_l10 : (x.toInt < 10) = False := eq_false (by omega)
                have f_l20 : (x.toInt < 20) = False := eq_false (by omega)
                have f_l30 : (x.toInt < 30) = False := eq_false (by omega)
                have f_l100 : (x.toInt < 100) = False := eq_false (by omega)
                have f_g16 : (16 ≤ x.toInt) = True := eq_true (by omega)
                have f_g29 : (29 ≤ x.toInt) = True := eq_true (by omega)
                have f_g33 : (33 ≤ x.toInt) = True := eq_true (by omega)
                have f_g400 : (400 ≤ x.toInt) = False := eq_false (by omega)
                simp only [f_l10, f_l20, f_l30, f_l100, f_g16, f_g29, f_g33, f_g400, false_implies, not_false_eq_true, true_implies, and_true, true_and, not_true_eq_false]
                obtain ⟨j, ej, ei, en⟩ := hv (by omega)
                rw [en] at hk
                rw [ej, show nI j / 100 = nI (j / 100) from pk_div (d := 100) (by omega) (by decide) (by decide), show nI (j / 100) - 1 = nI (j / 100 - 1) from pk_sub (b := 1) (by omega)]
                rw [show nI j - nI (j / 100) * 100 = nI (j % 100) by rw [show nI (j / 100) * 100 = nI (j / 100 * 100) from pk_mul _ 100, pk_sub (by omega)]; congr 1; omega]
                have h3 : j / 100 - 1 < 3 := by omega
                obtain ⟨o1, o2⟩ := hB.2.2.2.2 _ h3
                refine Words_of_ok (ts_10 k) h3 ⟨_, 12, rfl, rfl, zWords_row (ts_10 k) h3, Row_at_ok (zWords_row (ts_10 k) h3) (hb.2.2.2.1 _ h3) o1 ⟨_, rfl, rfl, ?_⟩⟩
                by_cases c : j % 100 < (l3 a.2.1.2.2.2 (j / 100 - 1)).length
                · rw [if_pos c] at hk
                  rw [zat_nI c (by omega)]
                  have := o2 _ (getD_mem c)
                  exact ⟨fun _ => hk, fun q => absurd q (nI_ne6 (by omega))⟩
                · rw [if_neg c] at hk
                  rw [zat_out (by omega) (by omega)]
                  exact ⟨fun q => absurd rfl q, fun _ => hk⟩
              · rw [if_neg cD] at hk
                by_cases d1 : x.toInt < 10
                · have f_l10 : (x.toInt < 10) = True := eq_true (by omega)
                  have f_l20 : (x.toInt < 20) = True := eq_true (by omega)
                  have f_l30 : (x.toInt < 30) = True := eq_true (by omega)
                  have f_l100 : (x.toInt < 100) = True := eq_true (by omega)
                  simp only [f_l10, f_l20, f_l30, f_l100, false_implies, not_false_eq_true, true_implies, and_true, true_and, not_true_eq_false]
                  exact hk
                · by_cases d2 : x.toInt < 20
                  · have f_l10 : (x.toInt < 10) = False := eq_false (by omega)
                    have f_l20 : (x.toInt < 20) = True := eq_true (by omega)
                    have f_l30 : (x.toInt < 30) = True := eq_true (by omega)
                    have f_l100 : (x.toInt < 100) = True := eq_true (by omega)
                    have f_g16 : (16 ≤ x.toInt) = True := eq_true (by omega)
                    simp only [f_l10, f_l20, f_l30, f_l100, f_g16, false_implies, not_false_eq_true, true_implies, and_true, true_and, not_true_eq_false]
                    exact hk
                  · by_cases d3 : x.toInt < 30
                    · have f_l10 : (x.toInt < 10) = False := eq_false (by omega)
                      have f_l20 : (x.toInt < 20) = False := eq_false (by omega)
                      have f_l30 : (x.toInt < 30) = True := eq_true (by omega)
                      have f_l100 : (x.toInt < 100) = True := eq_true (by omega)
                      have f_g16 : (16 ≤ x.toInt) = True := eq_true (by omega)
                      have f_g29 : (29 ≤ x.toInt) = True := eq_true (by omega)
                      simp only [f_l10, f_l20, f_l30, f_l100, f_g16, f_g29, false_implies, not_false_eq_true, true_implies, and_true, true_and, not_true_eq_false]
                      exact hk
                    · by_cases d4 : x.toInt < 100
                      · have f_l10 : (x.toInt < 10) = False := eq_false (by omega)
                        have f_l20 : (x.toInt < 20) = False := eq_false (by omega)
                        have f_l30 : (x.toInt < 30) = False := eq_false (by omega)
                        have f_l100 : (x.toInt < 100) = True := eq_true (by omega)
                        have f_g16 : (16 ≤ x.toInt) = True := eq_true (by omega)
                        have f_g29 : (29 ≤ x.toInt) = True := eq_true (by omega)
                        have f_g33 : (33 ≤ x.toInt) = True := eq_true (by omega)
                        simp only [f_l10, f_l20, f_l30, f_l100, f_g16, f_g29, f_g33, false_implies, not_false_eq_true, true_implies, and_true, true_and, not_true_eq_false]
                        exact hk
                      · have f_l10 : (x.toInt < 10) = False := eq_false (by omega)
                        have f_l20 : (x.toInt < 20) = False := eq_false (by omega)
                        have f_l30 : (x.toInt < 30) = False := eq_false (by omega)
                        have f_l100 : (x.toInt < 100) = False := eq_false (by omega)
                        have f_g16 : (16 ≤ x.toInt) = True := eq_true (by omega)
                        have f_g29 : (29 ≤ x.toInt) = True := eq_true (by omega)
                        have f_g33 : (33 ≤ x.toInt) = True := eq_true (by omega)
                        have f_g400 : (400 ≤ x.toInt) = True := eq_true (by omega)
                        simp only [f_l10, f_l20, f_l30, f_l100, f_g16, f_g29, f_g33, f_g400, false_implies, not_false_eq_true, true_implies, and_true, true_and, not_true_eq_false]
                        exact hk
end TOLD
