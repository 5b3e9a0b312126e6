/-! lengths -/
def lkg (B : AB) (w : Nat) : Int := if w = 0 then -(tSur B 0) - tSur B 1 else if w = 1 then (if tSur B 1 = 0 then -(tSur B 0) else 1000) else (if tSur B 0 = 0 then -(tSur B 1) else 1000)
def lgv (B : AB) (c : Nat) : Int := ((c / 100 : Nat) : Int) * tSur B 2 + ((c / 10 % 10 : Nat) : Int) * tSur B 3 + ((c % 10 : Nat) : Int) * tSur B 4
def lst (B : AB) (w n : Nat) : List Nat := (List.range n).filter (fun c => decide (lgv B c = lkg B w))
theorem lst_s (B : AB) (w n : Nat) : lst B w (n + 1) = if lgv B n = lkg B w then lst B w n ++ [n] else lst B w n := by
  unfold lst
  rw [List.range_succ, List.filter_append]
  by_cases h : lgv B n = lkg B w
  · rw [if_pos h]; simp [h]
  · rw [if_neg h]; simp [h]
theorem lst_len (B : AB) (w : Nat) : ∀ n, (lst B w n).length ≤ n
  | 0 => by simp [lst]
  | n + 1 => by
    have := lst_len B w n
    rw [lst_s]
    split
    · simp; omega
    · omega
section LEN
variable {E : ZE} {k : Nat} {M M' : ZM} {Φ : Option Value → ZS → ZM → Prop} {B : AB}
theorem m9 {a : Nat} {b : Int} (ha : a < 10) (hb : -12 ≤ b ∧ b ≤ 12) : -108 ≤ (a : Int) * b ∧ (a : Int) * b ≤ 108 := by
  rcases (show a = 0 ∨ a = 1 ∨ a = 2 ∨ a = 3 ∨ a = 4 ∨ a = 5 ∨ a = 6 ∨ a = 7 ∨ a = 8 ∨ a = 9 by omega) with rfl | rfl | rfl | rfl | rfl | rfl | rfl | rfl | rfl | rfl <;> constructor <;> omega
theorem lst_pre (B : AB) (w n : Nat) : ∀ m, ∃ ys, lst B w (n + m) = lst B w n ++ ys
  | 0 => ⟨[], by simp⟩
  | m + 1 => by
    obtain ⟨ys, h⟩ := lst_pre B w n m
    rw [show n + (m + 1) = n + m + 1 from rfl, lst_s, h]
    by_cases c : lgv B (n + m) = lkg B w
    · rw [if_pos c]; exact ⟨ys ++ [n + m], by simp⟩
    · rw [if_neg c]; exact ⟨ys, rfl⟩
theorem zat_mid {l ys : List Nat} {j : Nat} (hl : (l ++ [j] ++ ys).length < 2 ^ 31) : zat (l ++ [j] ++ ys) (nI l.length) = nI j := by
  rw [zat_nI (by simp) hl]
  congr 1
  simp [List.getD_eq_getElem?_getD]
theorem len_loop {w : Nat} {x2 : Int32} (hB : okB B) (hw : w < 3) (hT : zTl M (tTim B) (tSur B)) (hx : -1 ≤ x2.toInt) (hk : Φ (some (.int (if x2 = -1 then nI (lst B w 1000).length else zat (lst B w 1000) x2))) (zSt k) M) : ∀ (n j : Nat), j + n = 1000 → ¬ (0 ≤ x2.toInt ∧ x2.toInt < (lst B w j).length) → zW E m_H_lengths 3 (zSt k) M 46 [some (.ref 0), none, some (.int x2), some (.int (iI (lkg B w))), some (.int (nI (lst B w j).length)), some (.int (nI j))] [] Φ
  | 0, j, hj, hno => by
    have : j = 1000 := by omega
    subst this
    refine vc_H_lengths_46 E k M _ _ _ _ Φ ⟨fun _ => ⟨fun c => ?_, fun c => ?_⟩, fun c => absurd (by decide) c⟩
    · rw [if_neg c] at hk
      unfold zat at hk
      rw [if_neg hno] at hk
      exact hk
    · rw [if_pos c] at hk; exact hk
  | n + 1, j, hj, hno => by
    have rg := tSur_rng hB
    have r0 := rg 0
    have r1 := rg 1
    have r2 := rg 2
    have r3 := rg 3
    have r4 := rg 4
    have hl := lst_len B w j
    refine vc_H_lengths_46 E k M _ _ _ _ Φ ⟨fun c => absurd ((nI_leI (a := 1000) (by decide) (by omega)).mp c) (by omega), fun _ => ?_⟩
    rw [show nI j / 100 = nI (j / 100) from pk_div (d := 100) (by omega) (by decide) (by decide), show nI j / 10 = nI (j / 10) from pk_div (d := 10) (by omega) (by decide) (by decide), show nI (j / 10) - nI (j / 10) / 10 * 10 = nI (j / 10 % 10) from pk_rem (d := 10) (by omega) (by decide) (by decide)]
    rw [show nI j - nI (j / 10) * 10 = nI (j % 10) by rw [show nI (j / 10) * 10 = nI (j / 10 * 10) from pk_mul _ 10, pk_sub (by omega)]; congr 1; omega]
    refine vc_Tally_wordsGive_0 E k M _ _ _ _ ⟨_, rfl, rfl, ?_⟩
    rw [(hT 2 (by decide)).2, (hT 3 (by decide)).2, (hT 4 (by decide)).2, iI_nat (j / 100), iI_nat (j / 10 % 10), iI_nat (j % 10), iI_mul, iI_mul, iI_mul, iI_add, iI_add]
    have a1 := m9 (a := j / 100) (by omega) r2
    have a2 := m9 (a := j / 10 % 10) (by omega) r3
    have a3 := m9 (a := j % 10) (by omega) r4
    have hlk : -1000 ≤ lkg B w ∧ lkg B w ≤ 1000 := by
      unfold lkg
      split
      · omega
      · split
        · split <;> omega
        · split <;> omega
    rw [iI_eq (by omega) (by omega)]
    have es := lst_s B w j
    have el : (lgv B j = lkg B w) ↔ ((j / 100 : Nat) : Int) * tSur B 2 + ((j / 10 % 10 : Nat) : Int) * tSur B 3 + ((j % 10 : Nat) : Int) * tSur B 4 = lkg B w := Iff.rfl
    rw [← el]
    refine ⟨fun c => ?_, fun c => ⟨fun c2 => ?_, fun c2 => ?_⟩⟩
    · rintro _ rfl
      rw [if_neg c] at es
      rw [nI_1, ← es]
      exact len_loop hB hw hT hx hk n (j + 1) (by omega) (by rw [es]; exact hno)
    · rintro _ rfl _ rfl
      rw [if_pos c] at es
      rw [nI_1, nI_1, show (lst B w j).length + 1 = (lst B w (j + 1)).length by rw [es]; simp]
      refine len_loop hB hw hT hx hk n (j + 1) (by omega) ?_
      rw [es]
      rintro ⟨q1, q2⟩
      simp at q2
      apply c2
      rw [iI_nat, show (((lst B w j).length : Nat) : Int) = x2.toInt by omega]
      exact (iI_of x2).symm
    · rw [if_pos c] at es
      rw [← c2, if_neg (nI_ne1 (by omega))] at hk
      obtain ⟨ys, hy⟩ := lst_pre B w (j + 1) n
      have hy2 : lst B w 1000 = lst B w j ++ [j] ++ ys := by rw [← es, ← hy]; congr 1; omega
      have h1000 := lst_len B w 1000
      rw [hy2] at hk h1000
      rw [zat_mid (by omega)] at hk
      exact hk
def aLengths (a : AS) (x y : Int32) : Int32 := match inN 3 x with
  | none => -2
  | some w => if y.toInt < -1 then -6 else if y = -1 then nI (lst a.2.1 w 1000).length else zat (lst a.2.1 w 1000) y
theorem in3' {y : Int32} : (y < 0 ∧ inN 3 y = none) ∨ (¬ y < 0 ∧ ¬ y ≤ 2 ∧ inN 3 y = none) ∨ (¬ y < 0 ∧ y ≤ 2 ∧ ∃ t, t < 3 ∧ y = nI t ∧ inN 3 y = some t) := by
  rw [Int32.lt_iff_toInt_lt, Int32.toInt_zero, Int32.le_iff_toInt_le, (by decide : (2 : Int32).toInt = 2)]
  by_cases c : y.toInt < 0
  · exact Or.inl ⟨c, by unfold inN; rw [if_neg (by omega)]⟩
  · by_cases c2 : y.toInt ≤ 2
    · obtain ⟨j, h1, h2⟩ := nI_of_rng (x := y) (by omega)
      have hj : j < 3 := by rw [h2, nI_toInt (by omega)] at c2; omega
      exact Or.inr (Or.inr ⟨c, c2, j, hj, h2, inN_s hj (by decide) h2⟩)
    · exact Or.inr (Or.inl ⟨c, c2, by unfold inN; rw [if_neg (by omega)]⟩)
theorem H_lengths_ok {a : AS} {x y : Int32} (h : zCI k M a) (hk : ∀ k' M', zCI k' M' a → zMo M M' → k ≤ k' → Φ (some (.int (aLengths a x y))) (zSt k') M') : zW E m_H_lengths 3 (zSt k) M 0 [some (.ref 0), some (.int x), some (.int y), none, none, none] [] Φ := by
  unfold aLengths at hk
  refine vc_H_lengths_0 E k M x y Φ ?_
  rcases in3' (y := x) with ⟨q1, q2⟩ | ⟨q1, q2, q3⟩ | ⟨q1, q2, w, hw, ew, q4⟩
  · rw [q2] at hk
    exact ⟨fun _ => hk k M h (zMo_rfl _) (Nat.le_refl _), fun c => absurd q1 c⟩
  · rw [q3] at hk
    exact ⟨fun c => absurd c q1, fun _ => ⟨fun c => absurd c q2, fun _ => hk k M h (zMo_rfl _) (Nat.le_refl _)⟩⟩
  · rw [q4] at hk
    simp only at hk
    refine ⟨fun c => absurd c q1, fun _ => ⟨fun _ => ⟨fun c => ?_, fun c => ?_⟩, fun c => absurd q2 c⟩⟩
    · have c : -1 ≤ y.toInt := by
        rw [Int32.le_iff_toInt_le, (by decide : (-1 : Int32).toInt = -1)] at c
        exact c
      rw [if_neg (by omega)] at hk
      refine Tally_count_ok h.1.2.1 h.2.2.1 (fun M4 t4 f4 => ⟨rfl, rfl, ?_⟩)
      have rg := tSur_rng h.1.2.1
      have hk := hk k M4 (zCI_scr h f4 (by decide)) (zMo_fr f4 (by decide)) (Nat.le_refl _)
      rw [ew]
      refine lacking_ok hw t4 ⟨_, rfl, rfl, ?_⟩ (fun s => by have := rg s; omega)
      have e : (if w = 0 then iI (-(tSur a.2.1 0) - tSur a.2.1 1) else if w = 1 then (if tSur a.2.1 1 = 0 then iI (-(tSur a.2.1 0)) else 1000) else (if tSur a.2.1 0 = 0 then iI (-(tSur a.2.1 1)) else 1000)) = iI (lkg a.2.1 w) := by
        unfold lkg
        split
        · rfl
        · split
          · split <;> rfl
          · split <;> rfl
      rw [e]
      exact len_loop h.1.2.1 hw t4 c hk 1000 0 rfl (by simp [lst])
    · have c : y.toInt < -1 := by
        rw [Int32.le_iff_toInt_le, (by decide : (-1 : Int32).toInt = -1)] at c
        omega
      rw [if_pos c] at hk
      exact hk k M h (zMo_rfl _) (Nat.le_refl _)
end LEN
