/-! the reference: lengths -/
theorem k_c3 : ∀ c, c < 1000 → nI c / 100 = nI (c / 100) ∧ (nI c / 10) - (nI c / 10) / 10 * 10 = nI (c / 10 % 10) ∧ nI c - nI c / 10 * 10 = nI (c % 10) := by decide +kernel
section REF15
variable {E : ZE} {k : Nat} {M M' M1 M2 : ZM} {Φ : Option Value → ZS → ZM → Prop} {B : AB}
theorem times_loop {xs : List Nat} {r s : Nat} (hr : r < 2) (hs : s < 5) (hl : xs.length ≤ 12) (h5 : ∀ s ∈ xs, s < 5) (hc : M 85 r = nI xs.length) (hx : zSl (M 84) (12 * r) xs) (h : Φ (some (.int (nI (xs.count s)))) (zSt k) M) : ∀ (c j : Nat), j + c = xs.length → zW E m_Mo_timesIn 0 (zSt k) M 5 [some (.ref 83), some (.int (nI r)), some (.int (nI s)), some (.int (nI ((xs.take j).count s))), some (.int (nI j))] [] Φ
  | 0, j, hj => by
    refine vc_Mo_timesIn_5 E k M _ _ _ _ Φ ⟨r, hr, rfl, ?_⟩
    rw [hc, List.take_of_length_le (by omega)]
    exact ⟨fun _ => h, fun q => absurd (nI_le (by omega) (by omega)) q⟩
  | c + 1, j, hj => by
    have hjl : j < xs.length := by omega
    have y5 := getD_mem_lt h5 hjl
    have ih := times_loop hr hs hl h5 hc hx h c (j + 1) (by omega)
    rw [count_s hjl] at ih
    have e1 : (12 : Int32) * nI r + nI j = nI (12 * r + j) := by
      have : (12 : Int32) * nI r = nI (12 * r) := pk_mul 12 r
      rw [this, nI_add]
    refine vc_Mo_timesIn_5 E k M _ _ _ _ Φ ⟨r, hr, rfl, ?_⟩
    rw [hc, e1]
    refine ⟨fun q => absurd q (nI_ge hjl (by omega)), fun _ => ⟨_, by omega, rfl, ?_⟩⟩
    rw [hx j hjl, nI_eq (by omega) (by omega)]
    refine ⟨fun q => ?_, fun q => ?_⟩
    · rw [if_neg q] at ih
      rintro _ rfl _ rfl
      rw [nI_1, show nI ((xs.take j).count s) + 0 = nI ((xs.take j).count s + 0) from nI_addN _ 0]
      exact ih
    · rw [if_pos q] at ih
      rintro _ rfl _ rfl
      rw [nI_1, nI_1]
      exact ih
theorem times_ok {r s : Nat} (hr : r < 2) (hs : s < 5) (hB : okB B) (hM : zRB (M 84) (M 85) (M 86) (M 87) (M 88) (M 89) B) (h : Φ (some (.int (nI ((if r = 0 then B.1.1 else B.1.2).count s)))) (zSt k) M) : zW E m_Mo_timesIn 0 (zSt k) M 0 [some (.ref 83), some (.int (nI r)), some (.int (nI s)), none, none] [] Φ := by
  rcases (show r = 0 ∨ r = 1 by omega) with rfl | rfl
  · exact vc_Mo_timesIn_0 E k M _ _ Φ (times_loop (by decide) hs hB.1.1 hB.1.2 hM.1.1.1 hM.1.1.2 h _ 0 (Nat.zero_add _))
  · exact vc_Mo_timesIn_0 E k M _ _ Φ (times_loop (by decide) hs hB.2.1.1 hB.2.1.2 hM.1.2.1 hM.1.2.2 h _ 0 (Nat.zero_add _))
theorem sur_sub (s : Nat) : nI (B.1.1.count s) - nI (B.1.2.count s) = iI (tSur B s) := by
  rw [iI_nat, iI_nat, iI_sub]
  rfl
theorem sur_two {s : Nat} {Ψ : Int32 → Prop} (hs : s < 5) (hB : okB B) (hM : zRB (M 84) (M 85) (M 86) (M 87) (M 88) (M 89) B) (h : Ψ (iI (tSur B s))) : zW E m_Mo_timesIn 0 (zSt k) M 0 [some (.ref 83), some (.int 0), some (.int (nI s)), none, none] [] (fun q2 T2 M2 => ∃ y2 : Int32, q2 = some (.int y2) ∧ (zSt k) = T2 ∧ zW E m_Mo_timesIn 0 (zSt k) M2 0 [some (.ref 83), some (.int 1), some (.int (nI s)), none, none] [] (fun q3 T3 M3 => ∃ y3 : Int32, q3 = some (.int y3) ∧ (zSt k) = T3 ∧ M3 = M ∧ Ψ (y2 - y3))) := by
  refine times_ok (r := 0) (by decide) hs hB hM ⟨_, rfl, rfl, times_ok (r := 1) (by decide) hs hB hM ⟨_, rfl, rfl, rfl, ?_⟩⟩
  simp only [Nat.one_ne_zero, ↓reduceIte]
  rw [sur_sub]
  exact h
theorem lgv_rng (hB : okB B) {c : Nat} (hc : c < 1000) : -324 ≤ lgv B c ∧ lgv B c ≤ 324 := by
  have a := m9 (a := c / 100) (by omega) (tSur_rng hB 2)
  have b := m9 (a := c / 10 % 10) (by omega) (tSur_rng hB 3)
  have d := m9 (a := c % 10) (by omega) (tSur_rng hB 4)
  unfold lgv
  omega
theorem isLengths_ok {w c : Nat} (hw : w < 3) (hc : c < 1000) (hB : okB B) (hM : zRB (M 84) (M 85) (M 86) (M 87) (M 88) (M 89) B) (h : Φ (some (.int (if lgv B c = lkg B w then 1 else 0))) (zSt k) M) : zW E m_Mo_isLengths 1 (zSt k) M 0 [some (.ref 83), some (.int (nI w)), some (.int (nI c)), none, none, none] [] Φ := by
  obtain ⟨k1, k2, k3⟩ := k_c3 c hc
  have two : ∀ s, nI s + 2 = nI (s + 2) := fun s => nI_addN s 2
  have mulE : ∀ (p : Int) (d s : Nat), iI p + nI d * (nI (B.1.1.count s) - nI (B.1.2.count s)) = iI (p + (d : Int) * tSur B s) := fun p d s => by
    rw [sur_sub, iI_nat, iI_mul, iI_add]
  refine vc_Mo_isLengths_0 E k M _ _ Φ ?_
  refine vc_Mo_isLengths_5 E k M _ _ (iI 0) (nI 0) Φ ⟨fun q => absurd q (by decide), fun _ => ⟨fun q => absurd rfl q, fun _ => ?_⟩⟩
  rw [k1, two]
  rintro _ rfl
  refine times_ok (r := 0) (by decide) (by decide) hB hM ⟨_, rfl, rfl, times_ok (r := 1) (by decide) (by decide) hB hM ⟨_, rfl, rfl, ?_⟩⟩
  simp only [Nat.one_ne_zero, ↓reduceIte]
  rw [mulE, nI_1]
  rintro _ rfl _ rfl
  refine vc_Mo_isLengths_5 E k M _ _ _ (nI (0 + 1)) Φ ⟨fun q => absurd q (by decide), fun _ => ⟨fun _ => ⟨fun q => absurd (by decide) q, fun _ => ?_⟩, fun q => absurd q (by decide)⟩⟩
  rw [k2, two]
  rintro _ rfl
  refine times_ok (r := 0) (by decide) (by decide) hB hM ⟨_, rfl, rfl, times_ok (r := 1) (by decide) (by decide) hB hM ⟨_, rfl, rfl, ?_⟩⟩
  simp only [Nat.one_ne_zero, ↓reduceIte]
  rw [mulE, nI_1]
  rintro _ rfl _ rfl
  refine vc_Mo_isLengths_5 E k M _ _ _ (nI (0 + 1 + 1)) Φ ⟨fun q => absurd q (by decide), fun _ => ⟨fun _ => ⟨fun _ => ?_, fun q => absurd q (by decide)⟩, fun q => absurd q (by decide)⟩⟩
  rw [k3, two]
  rintro _ rfl
  refine times_ok (r := 0) (by decide) (by decide) hB hM ⟨_, rfl, rfl, times_ok (r := 1) (by decide) (by decide) hB hM ⟨_, rfl, rfl, ?_⟩⟩
  simp only [Nat.one_ne_zero, ↓reduceIte]
  rw [mulE, nI_1]
  rintro _ rfl _ rfl
  have eL : (0 : Int) + ((c / 100 : Nat) : Int) * tSur B (0 + 2) + ((c / 10 % 10 : Nat) : Int) * tSur B (0 + 1 + 2) + ((c % 10 : Nat) : Int) * tSur B (0 + 1 + 1 + 2) = lgv B c := by
    unfold lgv
    simp
  rw [eL]
  have rg := lgv_rng hB hc
  have r0 := tSur_rng hB 0
  have r1 := tSur_rng hB 1
  refine vc_Mo_isLengths_5 E k M _ _ _ (nI (0 + 1 + 1 + 1)) Φ ⟨fun _ => ?_, fun q => absurd (by decide) q⟩
  refine times_ok (r := 0) (s := 0) (by decide) (by decide) hB hM ⟨_, rfl, rfl, times_ok (r := 1) (s := 0) (by decide) (by decide) hB hM ⟨_, rfl, rfl, ?_⟩⟩
  simp only [Nat.one_ne_zero, ↓reduceIte]
  rw [sur_sub]
  rintro _ rfl
  refine times_ok (r := 0) (s := 1) (by decide) (by decide) hB hM ⟨_, rfl, rfl, times_ok (r := 1) (s := 1) (by decide) (by decide) hB hM ⟨_, rfl, rfl, ?_⟩⟩
  simp only [Nat.one_ne_zero, ↓reduceIte]
  rw [sur_sub]
  rintro _ rfl
  have z0 : (0 : Int32) = iI 0 := by decide
  have w0 : nI w = 0 ↔ w = 0 := nI_eq (b := 0) (by omega) (by decide)
  have w1 : nI w = 1 ↔ w = 1 := nI_eq (b := 1) (by omega) (by decide)
  have q4 : iI (tSur B 0) = 0 ↔ tSur B 0 = 0 := by rw [z0]; exact iI_eq (by omega) (by omega)
  have q7 : iI (tSur B 1) = 0 ↔ tSur B 1 = 0 := by rw [z0]; exact iI_eq (by omega) (by omega)
  have q43 : iI (tSur B 0) + iI (lgv B c) = 0 ↔ tSur B 0 + lgv B c = 0 := by rw [iI_add, z0]; exact iI_eq (by omega) (by omega)
  have q73 : iI (tSur B 1) + iI (lgv B c) = 0 ↔ tSur B 1 + lgv B c = 0 := by rw [iI_add, z0]; exact iI_eq (by omega) (by omega)
  have q473 : iI (tSur B 0) + iI (tSur B 1) + iI (lgv B c) = 0 ↔ tSur B 0 + tSur B 1 + lgv B c = 0 := by rw [iI_add, iI_add, z0]; exact iI_eq (by omega) (by omega)
  rw [w0, w1, q4, q7, q43, q73, q473]
  unfold lkg at h
  refine ⟨fun a0 => ⟨fun a1 => ⟨fun b => ?_, fun b => ⟨fun b2 => ?_, fun b2 => ?_⟩⟩, fun a1 => ⟨fun b => ?_, fun b => ⟨fun b2 => ?_, fun b2 => ?_⟩⟩⟩, fun a0 => ⟨fun b => ?_, fun b => ?_⟩⟩
  · rw [if_neg a0, if_neg a1, if_neg b, if_neg (by omega)] at h; exact h
  · rw [if_neg a0, if_neg a1, if_pos b, if_neg (by omega)] at h; exact h
  · rw [if_neg a0, if_neg a1, if_pos b, if_pos (by omega)] at h; exact h
  · rw [if_neg a0, if_pos a1] at h
    by_cases b2 : tSur B 1 = 0
    · rw [if_pos b2, if_neg (by omega)] at h; exact h
    · rw [if_neg b2, if_neg (by omega)] at h; exact h
  · rw [if_neg a0, if_pos a1, if_neg b2, if_neg (by omega)] at h; exact h
  · rw [if_neg a0, if_pos a1, if_pos b2, if_pos (by omega)] at h; exact h
  · rw [if_pos a0, if_neg (by omega)] at h; exact h
  · rw [if_pos a0, if_pos (by omega)] at h; exact h
theorem rlen_loop {w : Nat} {y : Int32} (hw : w < 3) (hB : okB B) (hM : zRB (M 84) (M 85) (M 86) (M 87) (M 88) (M 89) B) (h : Φ (some (.int (if y.toInt < -1 then -6 else if y = -1 then nI (lst B w 1000).length else zat (lst B w 1000) y))) (zSt k) M) : ∀ (n c : Nat), c + n = 1000 → (∀ j, j < (lst B w c).length → y ≠ nI j) → zW E m_Mo_lengths 2 (zSt k) M 20 [some (.ref 83), some (.int (nI w)), some (.int y), some (.int (nI (lst B w c).length)), some (.int (nI c))] [] Φ
  | 0, c, hc, hi => by
    have : c = 1000 := by omega
    subst this
    refine vc_Mo_lengths_20 E k M _ _ _ _ Φ ⟨fun _ => ⟨fun q => ?_, fun q => ?_⟩, fun q => absurd (by decide) q⟩
    · have hz : zat (lst B w 1000) y = -6 := by
        refine zat_none ?_
        rcases inN_both (lst B w 1000).length y with ⟨v, a1, a2, a3, a4⟩ | ⟨a1, a2⟩
        · exact absurd a2 (hi v a1)
        · exact a1
      rw [if_neg q, hz] at h
      simp only [ite_self] at h
      exact h
    · rw [if_neg (by rw [q, (by decide : ((-1 : Int32)).toInt = -1)]; omega), if_pos q] at h
      exact h
  | n + 1, c, hc, hi => by
    have hlen := lst_len B w c
    refine vc_Mo_lengths_20 E k M _ _ _ _ Φ ⟨fun q => absurd q (nI_ge (b := 1000) (by omega) (by decide)), fun _ => ?_⟩
    have ih := rlen_loop hw hB hM h n (c + 1) (by omega)
    rw [lst_s] at ih
    refine isLengths_ok hw (by omega) hB hM ⟨_, rfl, rfl, fun q => ?_, fun q => ?_⟩
    · have ne : ¬ lgv B c = lkg B w := fun z => by rw [if_pos z] at q; exact absurd q (by decide)
      rw [if_neg ne] at ih
      rintro _ rfl
      rw [nI_1]
      exact ih hi
    · have e : lgv B c = lkg B w := by
        by_cases z : lgv B c = lkg B w
        · exact z
        · rw [if_neg z] at q; exact absurd rfl q
      rw [if_pos e, List.length_append, List.length_singleton] at ih
      refine ⟨fun q2 => ?_, fun q2 => ?_⟩
      · rintro _ rfl _ rfl
        rw [nI_1, nI_1]
        refine ih (fun j hj => ?_)
        by_cases ej : j = (lst B w c).length
        · rw [ej]; exact fun z => q2 z.symm
        · exact hi j (by omega)
      · obtain ⟨ys, hy⟩ := lst_pre B w (c + 1) n
        rw [show c + 1 + n = 1000 by omega, lst_s B w c, if_pos e] at hy
        have ht : y.toInt = (lst B w c).length := by rw [← q2, nI_toInt (by omega)]
        have hz : zat (lst B w 1000) y = nI c := by
          unfold zat
          rw [hy, if_pos (by simp; omega), ht, Int.toNat_natCast, List.append_assoc]
          have := getD_app_r (xs := lst B w c) (ys := [c] ++ ys) (i := 0)
          rw [Nat.add_zero] at this
          rw [this]
          rfl
        rw [if_neg (by omega), if_neg (fun z => by rw [z, (by decide : ((-1 : Int32)).toInt = -1)] at ht; omega), hz] at h
        exact h
theorem Mo_lengths_ok {a : AS} {x y : Int32} (h : zRI M a) (hk : ∀ M', zRI M' a → zMh M M' → Φ (some (.int (aLengths a x y))) (zSt k) M') : zW E m_Mo_lengths 2 (zSt k) M 0 [some (.ref 83), some (.int x), some (.int y), none, none] [] Φ := by
  unfold aLengths at hk
  have hk := hk M h (zMh_rfl _)
  refine vc_Mo_lengths_0 E k M x y Φ (Mo_inN_ok (n := 3) (by decide) (fun w hw ex qx => ⟨1, rfl, rfl, fun _ => ?_, fun q => absurd q (by decide)⟩) (fun qx => ⟨0, rfl, rfl, fun q => absurd rfl q, fun _ => ?_⟩))
  · rw [qx] at hk
    rw [ex]
    exact rlen_loop hw h.1.2.1 h.2.1.2.1 hk 1000 0 rfl (fun j hj => absurd hj (by simp [lst]))
  · rw [qx] at hk
    exact hk
end REF15
