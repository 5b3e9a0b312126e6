/-! the reference: shortest words -/
theorem k_tw : ∀ w, w < 15 → ∀ j, j < 3 → j < szw w → (((nI (w + 1 - 2 ^ szw w) : Int32) >>> (((nI (szw w) - 1) - nI j) &&& 31)) &&& 1) = nI ((wLw w).getD j 0) := by decide +kernel
theorem k_t3 : ∀ w, w < 15 → 7 ≤ w → ((nI w - ((1 : Int32) <<< (3 &&& 31))) + 1) = nI (w + 1 - 2 ^ szw w) ∧ szw w = 3 := by decide +kernel
theorem k_t2 : ∀ w, w < 7 → 3 ≤ w → ((nI w - ((1 : Int32) <<< (2 &&& 31))) + 1) = nI (w + 1 - 2 ^ szw w) ∧ szw w = 2 := by decide +kernel
theorem k_t1 : ∀ w, w < 3 → 0 < w → ((nI w - ((1 : Int32) <<< (1 &&& 31))) + 1) = nI (w + 1 - 2 ^ szw w) ∧ szw w = 1 := by decide +kernel
theorem k_xyz (n : Nat) (hn : n < 3375) : nI n / 225 = nI (n / 225) ∧ (nI n / 15) - (nI n / 15) / 15 * 15 = nI (n / 15 % 15) ∧ nI n - nI n / 15 * 15 = nI (n % 15) := by
  have e15 : nI n / 15 = nI (n / 15) := pk_div (d := 15) (by omega) (by decide) (by decide)
  refine ⟨pk_div (d := 225) (by omega) (by decide) (by decide), ?_, pk_rem (d := 15) (by omega) (by decide) (by decide)⟩
  rw [e15]
  exact pk_rem (a := n / 15) (d := 15) (by omega) (by decide) (by decide)
def w3 (x y z : Nat) : W3 := (wLw x, wLw y, wLw z)
theorem okw_w3 {x y z : Nat} (hx : x < 15) (hy : y < 15) (hz : z < 15) : okw (w3 x y z) 12 := by
  have h : ∀ w, w < 15 → (wLw w).length ≤ 12 ∧ ∀ y ∈ wLw w, y < 2 := fun w hw => ⟨by rw [wLw_len w hw]; have := (szw_le w hw).1; omega, wLw_lt w hw⟩
  intro v hv
  rcases (show v = 0 ∨ v = 1 ∨ v = 2 by omega) with rfl | rfl | rfl
  · exact h x hx
  · exact h y hy
  · exact h z hz
theorem out_w3 {x y z : Nat} : ∀ {xs : List Nat}, (∀ s ∈ xs, s < 5) → out (w3 x y z) xs = outf (fz x y z) xs
  | [], _ => rfl
  | s :: xs, h => by
    have hs := h s List.mem_cons_self
    have ih := out_w3 (x := x) (y := y) (z := z) (xs := xs) (fun u hu => h u (List.mem_cons_of_mem _ hu))
    unfold out outf at ih ⊢
    rw [List.flatMap_cons, List.flatMap_cons, ih]
    congr 1
    rcases (show s = 0 ∨ s = 1 ∨ s = 2 ∨ s = 3 ∨ s = 4 by omega) with rfl | rfl | rfl | rfl | rfl <;> rfl
def noBn (B : AB) (n : Nat) : Prop := ∀ x y z, x < 15 → y < 15 → z < 15 → 225 * x + 15 * y + z < n → gd B x y z = false
def isBn (B : AB) (n p q s : Nat) : Prop := (p < 15 ∧ q < 15 ∧ s < 15) ∧ gd B p q s = true ∧ 225 * p + 15 * q + s < n ∧ ∀ x y z, x < 15 → y < 15 → z < 15 → 225 * x + 15 * y + z < n → gd B x y z = true → szt p q s < szt x y z ∨ (szt p q s = szt x y z ∧ 225 * p + 15 * q + s ≤ 225 * x + 15 * y + z)
def zBs (B : AB) (n : Nat) (M : ZM) (x1 : Int32) : Prop := (x1 = -6 ∧ noBn B n) ∨ ∃ p q s, isBn B n p q s ∧ x1 = nI (szt p q s) ∧ M 113 0 = nI p ∧ M 113 1 = nI q ∧ M 113 2 = nI s
theorem idx_n {n x y z : Nat} (hx : x < 15) (hy : y < 15) (hz : z < 15) (h : 225 * x + 15 * y + z = n) : x = n / 225 ∧ y = n / 15 % 15 ∧ z = n % 15 := by omega
theorem noBn_s {B : AB} {n : Nat} (h : noBn B n) (hg : gd B (n / 225) (n / 15 % 15) (n % 15) = false) : noBn B (n + 1) := by
  intro x y z hx hy hz hi
  by_cases e : 225 * x + 15 * y + z = n
  · obtain ⟨e1, e2, e3⟩ := idx_n hx hy hz e
    rw [e1, e2, e3]; exact hg
  · exact h x y z hx hy hz (by omega)
theorem isBn_s {B : AB} {n p q s : Nat} (h : isBn B n p q s) (hg : gd B (n / 225) (n / 15 % 15) (n % 15) = true → szt p q s ≤ szt (n / 225) (n / 15 % 15) (n % 15)) : isBn B (n + 1) p q s := by
  refine ⟨h.1, h.2.1, by have := h.2.2.1; omega, fun x y z hx hy hz hi hgd => ?_⟩
  by_cases e : 225 * x + 15 * y + z = n
  · obtain ⟨e1, e2, e3⟩ := idx_n hx hy hz e
    have := h.2.2.1
    rw [← e1, ← e2, ← e3] at hg
    have := hg hgd
    omega
  · exact h.2.2.2 x y z hx hy hz (by omega) hgd
theorem isBn_new {B : AB} {n : Nat} (hn : n < 3375) (hg : gd B (n / 225) (n / 15 % 15) (n % 15) = true) (h : noBn B n ∨ ∃ p q s, isBn B n p q s ∧ szt (n / 225) (n / 15 % 15) (n % 15) < szt p q s) : isBn B (n + 1) (n / 225) (n / 15 % 15) (n % 15) := by
  refine ⟨by omega, hg, by omega, fun x y z hx hy hz hi hgd => ?_⟩
  by_cases e : 225 * x + 15 * y + z = n
  · obtain ⟨e1, e2, e3⟩ := idx_n hx hy hz e
    rw [← e1, ← e2, ← e3]
    exact Or.inr ⟨rfl, Nat.le_refl _⟩
  · rcases h with h | ⟨p, q, s, h1, h2⟩
    · have := h x y z hx hy hz (by omega)
      rw [hgd] at this; cases this
    · have := h1.2.2.2 x y z hx hy hz (by omega) hgd
      exact Or.inl (by omega)
section REF16
variable {E : ZE} {k : Nat} {M M' M1 M2 : ZM} {Φ : Option Value → ZS → ZM → Prop} {B : AB}
theorem try_loop {v w : Nat} (hv : v < 3) (hw : w < 15) {M0 : ZM} (hk : ∀ M', zSl (M' 109) (12 * v) (wLw w) → (∀ i, i < 12 * v ∨ 12 * v + 12 ≤ i → M' 109 i = M0 109 i) → zfq M0 M' [109] [] → Φ none (zSt k) M') : ∀ (c j : Nat) (M : ZM), j + c = szw w → (∀ i, i < j → M 109 (12 * v + i) = nI ((wLw w).getD i 0)) → (∀ i, i < 12 * v ∨ 12 * v + 12 ≤ i → M 109 i = M0 109 i) → zfq M0 M [109] [] → zW E m_Mo_tryWord 0 (zSt k) M 48 [some (.ref 83), some (.int (nI v)), none, some (.int (nI (szw w))), some (.int (nI (w + 1 - 2 ^ szw w))), some (.int (nI j))] [] Φ
  | 0, j, M, hj, h1, h2, hf => by
    have h3 := (szw_le w hw).1
    refine vc_Mo_tryWord_48 E k M _ _ _ _ Φ ⟨fun _ => hk M (fun i hi => ?_) h2 hf, fun q => absurd (nI_le (by omega) (by omega)) q⟩
    rw [wLw_len w hw] at hi
    exact h1 i (by omega)
  | c + 1, j, M, hj, h1, h2, hf => by
    have h3 := (szw_le w hw).1
    have e1 : (12 : Int32) * nI v + nI j = nI (12 * v + j) := by
      have a : (12 : Int32) * nI v = nI (12 * v) := pk_mul 12 v
      rw [a, nI_add]
    refine vc_Mo_tryWord_48 E k M _ _ _ _ Φ ⟨fun q => absurd q (nI_ge (by omega) (by omega)), fun _ => ⟨12 * v + j, by omega, e1, ?_⟩⟩
    rw [k_tw w hw j (by omega) (by omega)]
    rintro _ rfl _ rfl
    rw [nI_1]
    refine try_loop hv hw hk c (j + 1) _ (by omega) (fun i hi => ?_) (fun i hi => ?_) (zfq_tr hf (zfq_ms _ _ _ (by simp) (by decide)))
    · by_cases e : i = j
      · rw [e, zms_s]
      · rw [zms_k _ _ (by omega)]; exact h1 i (by omega)
    · rw [zms_k _ _ (by omega)]; exact h2 i hi
theorem tryWord_ok {v w : Nat} (hv : v < 3) (hw : w < 15) (hk : ∀ M', zT1 M' v (wLw w) → (∀ u ys, u < 3 → u ≠ v → ys.length ≤ 12 → zT1 M u ys → zT1 M' u ys) → zfq M M' [109, 110] [] → Φ none (zSt k) M') : zW E m_Mo_tryWord 0 (zSt k) M 0 [some (.ref 83), some (.int (nI v)), some (.int (nI w)), none, none, none] [] Φ := by
  have w0 : nI w = 0 ↔ w = 0 := nI_eq (b := 0) (by omega) (by decide)
  have w3 : 3 ≤ nI w ↔ 3 ≤ w := nI_leI (a := 3) (by decide) (by omega)
  have w7 : 7 ≤ nI w ↔ 7 ≤ w := nI_leI (a := 7) (by decide) (by omega)
  have go : ∀ M1, M1 = zms M 110 v (nI (szw w)) → zW E m_Mo_tryWord 0 (zSt k) M1 48 [some (.ref 83), some (.int (nI v)), none, some (.int (nI (szw w))), some (.int (nI (w + 1 - 2 ^ szw w))), some (.int 0)] [] Φ := fun M1 g1 => by
    have f1 : zfq M M1 [109, 110] [] := by rw [g1]; exact zfq_ms _ _ _ (by simp) (by decide)
    refine try_loop hv hw (M0 := M1) (fun M2 c1 c2 f2 => ?_) (szw w) 0 M1 (Nat.zero_add _) (fun i hi => absurd hi (Nat.not_lt_zero _)) (fun i _ => rfl) (zfq_rfl _ _ _)
    refine hk M2 ⟨?_, c1⟩ (fun u ys hu hne hl hz => ⟨?_, fun i hi => ?_⟩) (zfq_tr f1 (zfq_mono f2 (by simp) (by simp)))
    · rw [f2.1 110 (by decide) (by decide), g1, zms_s, wLw_len w hw]
    · rw [f2.1 110 (by decide) (by decide), g1, zms_k _ _ hne]; exact hz.1
    · rw [c2 _ (by omega), g1, zms_ne _ _ _ (by decide)]; exact hz.2 i hi
  refine vc_Mo_tryWord_0 E k M _ _ Φ ?_
  rw [w0, w3, w7]
  refine ⟨fun q0 => ⟨fun q3 => ⟨fun q7 => ?_, fun q7 => ?_⟩, fun q3 => ?_⟩, fun q0 => ?_⟩
  · obtain ⟨e1, e2⟩ := k_t3 w hw q7
    rw [e1]
    rintro _ rfl
    refine ⟨v, hv, rfl, fun M1 g1 => ?_⟩
    have := go M1 (by rw [e2]; exact g1)
    rw [e2] at this ⊢
    exact this
  · obtain ⟨e1, e2⟩ := k_t2 w (by omega) q3
    rw [e1]
    rintro _ rfl
    refine ⟨v, hv, rfl, fun M1 g1 => ?_⟩
    have := go M1 (by rw [e2]; exact g1)
    rw [e2] at this ⊢
    exact this
  · obtain ⟨e1, e2⟩ := k_t1 w (by omega) (by omega)
    rw [e1]
    rintro _ rfl
    refine ⟨v, hv, rfl, fun M1 g1 => ?_⟩
    have := go M1 (by rw [e2]; exact g1)
    rw [e2] at this ⊢
    exact this
  · subst q0
    rintro _ rfl
    exact ⟨v, hv, rfl, fun M1 g1 => go M1 g1⟩
theorem try_chk {n x y z : Nat} {x1 y5 : Int32} (hx : x < 15) (hy : y < 15) (hz : z < 15) (hB : okB B) (hM : zRB (M 84) (M 85) (M 86) (M 87) (M 88) (M 89) B) (ht : zTy M (w3 x y z)) (hno : gd B x y z = false → ∀ M', zfq M M' [111, 112, 113] [] → M' 113 = M 113 → zW E m_Mo_findShortest 3 (zSt k) M' 5 [some (.ref 83), some (.int x1), some (.int (nI n + 1)), none] [] Φ) (hyes : gd B x y z = true → ∀ M', zfq M M' [111, 112, 113] [] → M' 113 0 = nI x → M' 113 1 = nI y → M' 113 2 = nI z → zW E m_Mo_findShortest 3 (zSt k) M' 5 [some (.ref 83), some (.int y5), some (.int (nI n + 1)), none] [] Φ) :
    zW E m_Mo_isOne 2 (zSt k) M 0 [some (.ref 83), none, none] [] (fun q7 T7 M7 => ∃ y7 : Int32, q7 = some (.int y7) ∧ (zSt k) = T7 ∧ (y7 = 0 → ∀ y9 : Int32, y9 = nI n + 1 → zW E m_Mo_findShortest 3 (zSt k) M7 5 [some (.ref 83), some (.int x1), some (.int y9), none] [] Φ) ∧ (¬ y7 = 0 → zW E m_Mo_isNeeded 1 (zSt k) M7 0 [some (.ref 83), some (.int 0), none, none, none, none] [] (fun q10 T10 M10 => ∃ y10 : Int32, q10 = some (.int y10) ∧ (zSt k) = T10 ∧ (y10 = 0 → ∀ y9 : Int32, y9 = nI n + 1 → zW E m_Mo_findShortest 3 (zSt k) M10 5 [some (.ref 83), some (.int x1), some (.int y9), none] [] Φ) ∧ (¬ y10 = 0 → zW E m_Mo_isNeeded 1 (zSt k) M10 0 [some (.ref 83), some (.int 1), none, none, none, none] [] (fun q13 T13 M13 => ∃ y13 : Int32, q13 = some (.int y13) ∧ (zSt k) = T13 ∧ (y13 = 0 → ∀ y9 : Int32, y9 = nI n + 1 → zW E m_Mo_findShortest 3 (zSt k) M13 5 [some (.ref 83), some (.int x1), some (.int y9), none] [] Φ) ∧ (¬ y13 = 0 → zW E m_Mo_isNeeded 1 (zSt k) M13 0 [some (.ref 83), some (.int 2), none, none, none, none] [] (fun q16 T16 M16 => ∃ y16 : Int32, q16 = some (.int y16) ∧ (zSt k) = T16 ∧ (y16 = 0 → ∀ y9 : Int32, y9 = nI n + 1 → zW E m_Mo_findShortest 3 (zSt k) M16 5 [some (.ref 83), some (.int x1), some (.int y9), none] [] Φ) ∧ (¬ y16 = 0 → ∀ M19 : ZM, M19 = zms M16 113 0 (nI x) → ∀ M20 : ZM, M20 = zms M19 113 1 (nI y) → ∀ M21 : ZM, M21 = zms M20 113 2 (nI z) → ∀ y22 : Int32, y22 = nI n + 1 → zW E m_Mo_findShortest 3 (zSt k) M21 5 [some (.ref 83), some (.int y5), some (.int y22), none] [] Φ)))))))) := by
  have ho := okw_w3 hx hy hz
  have I1 : ∀ {c : Prop} [Decidable c], (if c then (1 : Int32) else 0) = 0 → ¬ c := fun {c} _ q w => by rw [if_pos w] at q; exact absurd q (by decide)
  have I2 : ∀ {c : Prop} [Decidable c], ¬ (if c then (1 : Int32) else 0) = 0 → c := fun {c} _ q => by
    by_cases w : c
    · exact w
    · rw [if_neg w] at q; exact absurd rfl q
  have gdE : gd B x y z = (allow (t3 B.2.2.1 0) (wmp B.2.1 (wLw x)) && allow (t3 B.2.2.1 1) (wmp B.2.1 (wLw y)) && (allow (t3 B.2.2.1 2) (wmp B.2.1 (wLw z)) && decide (out (w3 x y z) B.1.1 = out (w3 x y z) B.1.2))) := by
    rw [out_w3 hB.1.2, out_w3 hB.2.1.2]
    rfl
  refine isOne_ok hB hM ho ht (fun M7 f7 => ⟨_, rfl, rfl, fun q => ?_, fun c1 => ?_⟩)
  · rintro _ rfl
    refine hno ?_ M7 (zfq_mono f7 (by simp) (by simp)) (f7.1 113 (by decide) (by decide))
    rw [gdE, decide_eq_false (I1 q)]
    simp
  · have hM7 : zRB (M7 84) (M7 85) (M7 86) (M7 87) (M7 88) (M7 89) B := by
      rw [f7.1 84 (by decide) (by decide), f7.1 85 (by decide) (by decide), f7.1 86 (by decide) (by decide), f7.1 87 (by decide) (by decide), f7.1 88 (by decide) (by decide), f7.1 89 (by decide) (by decide)]
      exact hM
    have ht7 := zTy_keep ht f7 (by decide) (by decide)
    have f7' : zfq M M7 [111, 112, 113] [] := zfq_mono f7 (by simp) (by simp)
    have e113 := f7.1 113 (by decide) (by decide)
    refine isNeeded_ok (v := 0) (by decide) hB hM7 ho ht7 ⟨_, rfl, rfl, fun q => ?_, fun c2 => ?_⟩
    · rintro _ rfl
      refine hno ?_ M7 f7' e113
      have := I1 q
      have : allow (t3 B.2.2.1 0) (wmp B.2.1 (wLw x)) = false := Bool.eq_false_iff.mpr this
      rw [gdE, this]; rfl
    · refine isNeeded_ok (v := 1) (by decide) hB hM7 ho ht7 ⟨_, rfl, rfl, fun q => ?_, fun c3 => ?_⟩
      · rintro _ rfl
        refine hno ?_ M7 f7' e113
        have := I1 q
        have : allow (t3 B.2.2.1 1) (wmp B.2.1 (wLw y)) = false := Bool.eq_false_iff.mpr this
        rw [gdE, this]; simp
      · refine isNeeded_ok (v := 2) (by decide) hB hM7 ho ht7 ⟨_, rfl, rfl, fun q => ?_, fun c4 => ?_⟩
        · rintro _ rfl
          refine hno ?_ M7 f7' e113
          have := I1 q
          have : allow (t3 B.2.2.1 2) (wmp B.2.1 (wLw z)) = false := Bool.eq_false_iff.mpr this
          rw [gdE, this]; simp
        · intro M19 g19 M20 g20 M21 g21
          rintro _ rfl
          have a2 : allow (t3 B.2.2.1 0) (wmp B.2.1 (wLw x)) = true := I2 c2
          have a3 : allow (t3 B.2.2.1 1) (wmp B.2.1 (wLw y)) = true := I2 c3
          have a4 : allow (t3 B.2.2.1 2) (wmp B.2.1 (wLw z)) = true := I2 c4
          refine hyes ?_ M21 ?_ ?_ ?_ ?_
          · rw [gdE, decide_eq_true (I2 c1), a2, a3, a4]; rfl
          · rw [g21, g20, g19]
            exact zfq_tr f7' (zfq_tr (zfq_tr (zfq_ms _ _ _ (by simp) (by decide)) (zfq_ms _ _ _ (by simp) (by decide))) (zfq_ms _ _ _ (by simp) (by decide)))
          · rw [g21, zms_n _ _ (by omega), g20, zms_n _ _ (by omega), g19, zms_s]
          · rw [g21, zms_n _ _ (by omega), g20, zms_s]
          · rw [g21, zms_s]
abbrev AS_ : List Nat := [109, 110, 111, 112, 113]
theorem short_loop (hB : okB B) {M0 : ZM} (hM : zRB (M0 84) (M0 85) (M0 86) (M0 87) (M0 88) (M0 89) B) (hk : ∀ M' x1, zBs B 3375 M' x1 → zfq M0 M' AS_ [] → Φ (some (.int x1)) (zSt k) M') : ∀ (c n : Nat) (M : ZM) (x1 : Int32), n + c = 3375 → zBs B n M x1 → zfq M0 M AS_ [] → zW E m_Mo_findShortest 3 (zSt k) M 5 [some (.ref 83), some (.int x1), some (.int (nI n)), none] [] Φ
  | 0, n, M, x1, hn, hz, hf => by
    have : n = 3375 := by omega
    subst this
    exact vc_Mo_findShortest_5 E k M _ _ Φ ⟨fun _ => hk M x1 hz hf, fun q => absurd (by decide) q⟩
  | c + 1, n, M, x1, hn, hz, hf => by
    obtain ⟨k1, k2, k3⟩ := k_xyz n (by omega)
    have hn : n < 3375 := by omega
    have bx : n / 225 < 15 := by omega
    have bY : n / 15 % 15 < 15 := by omega
    have bz : n % 15 < 15 := by omega
    refine vc_Mo_findShortest_5 E k M _ _ Φ ⟨fun q => absurd q (nI_ge (b := 3375) hn (by decide)), fun _ => ?_⟩
    rw [k1, k2, k3]
    refine tryWord_ok (v := 0) (by decide) bx (fun Ma ta _ fa => ⟨rfl, rfl, ?_⟩)
    refine tryWord_ok (v := 1) (by decide) bY (fun Mb tb kb fb => ⟨rfl, rfl, ?_⟩)
    refine tryWord_ok (v := 2) (by decide) bz (fun Mc tc kc fc => ⟨rfl, rfl, ?_⟩)
    have l3' : ∀ w, w < 15 → (wLw w).length ≤ 12 := fun w hw => by rw [wLw_len w hw]; have := (szw_le w hw).1; omega
    have t0 : zT1 Mc 0 (wLw (n / 225)) := kc 0 _ (by decide) (by decide) (l3' _ bx) (kb 0 _ (by decide) (by decide) (l3' _ bx) ta)
    have t1 : zT1 Mc 1 (wLw (n / 15 % 15)) := kc 1 _ (by decide) (by decide) (l3' _ bY) tb
    have ht : zTy Mc (w3 (n / 225) (n / 15 % 15) (n % 15)) := fun v hv => by
      rcases (show v = 0 ∨ v = 1 ∨ v = 2 by omega) with rfl | rfl | rfl
      · exact t0
      · exact t1
      · exact tc
    have fabc : zfq M Mc [109, 110] [] := zfq_tr fa (zfq_tr fb fc)
    have fM : zfq M0 Mc AS_ [] := zfq_tr hf (zfq_mono fabc (by simp) (by simp))
    have hMc : zRB (Mc 84) (Mc 85) (Mc 86) (Mc 87) (Mc 88) (Mc 89) B := by
      rw [fM.1 84 (by decide) (by decide), fM.1 85 (by decide) (by decide), fM.1 86 (by decide) (by decide), fM.1 87 (by decide) (by decide), fM.1 88 (by decide) (by decide), fM.1 89 (by decide) (by decide)]
      exact hM
    have e113 : Mc 113 = M 113 := fabc.1 113 (by decide) (by decide)
    have esz : Mc 110 0 + Mc 110 1 + Mc 110 2 = nI (szt (n / 225) (n / 15 % 15) (n % 15)) := by
      rw [t0.1, t1.1, tc.1, wLw_len _ bx, wLw_len _ bY, wLw_len _ bz, nI_add, nI_add]
      rfl
    have h9 := szt_9 bx bY bz
    have ih := short_loop hB hM hk c (n + 1)
    rw [← nI_1] at ih
    rw [esz]
    rintro _ rfl
    have keep : ∀ M', zfq Mc M' [111, 112, 113] [] → M' 113 = Mc 113 → (gd B (n / 225) (n / 15 % 15) (n % 15) = true → ∀ p q s, isBn B n p q s → szt p q s ≤ szt (n / 225) (n / 15 % 15) (n % 15)) → (x1 = -6 → gd B (n / 225) (n / 15 % 15) (n % 15) = false) → zW E m_Mo_findShortest 3 (zSt k) M' 5 [some (.ref 83), some (.int x1), some (.int (nI n + 1)), none] [] Φ := fun M' f' e' hle hng => by
      refine ih M' x1 (by omega) ?_ (zfq_tr fM (zfq_mono f' (by simp) (by simp)))
      rcases hz with ⟨z1, z2⟩ | ⟨p, q, s, z1, z2, z3, z4, z5⟩
      · exact Or.inl ⟨z1, noBn_s z2 (hng z1)⟩
      · exact Or.inr ⟨p, q, s, isBn_s z1 (fun hg => hle hg p q s z1), z2, by rw [e', e113]; exact z3, by rw [e', e113]; exact z4, by rw [e', e113]; exact z5⟩
    have new : gd B (n / 225) (n / 15 % 15) (n % 15) = true → (noBn B n ∨ ∃ p q s, isBn B n p q s ∧ szt (n / 225) (n / 15 % 15) (n % 15) < szt p q s) → ∀ M', zfq Mc M' [111, 112, 113] [] → M' 113 0 = nI (n / 225) → M' 113 1 = nI (n / 15 % 15) → M' 113 2 = nI (n % 15) → zW E m_Mo_findShortest 3 (zSt k) M' 5 [some (.ref 83), some (.int (nI (szt (n / 225) (n / 15 % 15) (n % 15)))), some (.int (nI n + 1)), none] [] Φ := fun hg hor M' f' e0 e1 e2 =>
      ih M' _ (by omega) (Or.inr ⟨_, _, _, isBn_new hn hg hor, rfl, e0, e1, e2⟩) (zfq_tr fM (zfq_mono f' (by simp) (by simp)))
    rcases hz with ⟨z1, z2⟩ | ⟨p, q, s, z1, z2, z3, z4, z5⟩
    · refine ⟨fun _ => ?_, fun w => absurd (by rw [z1]; decide) w⟩
      exact try_chk bx bY bz hB hMc ht (fun hg M' f' e' => keep M' f' e' (fun h => by rw [hg] at h; cases h) (fun _ => hg)) (fun hg M' f' e0 e1 e2 => new hg (Or.inl z2) M' f' e0 e1 e2)
    · have b9 := szt_9 z1.1.1 z1.1.2.1 z1.1.2.2
      have x6 : x1 ≠ -6 := by rw [z2]; exact nI_ne6 (by omega)
      refine ⟨fun w => absurd w (by rw [z2]; exact nI_pos (by omega)), fun _ => ?_⟩
      have hle : x1 ≤ nI (szt (n / 225) (n / 15 % 15) (n % 15)) ↔ szt p q s ≤ szt (n / 225) (n / 15 % 15) (n % 15) := by rw [z2]; exact nI_leI (by omega) (by omega)
      rw [hle]
      refine ⟨fun w => ?_, fun w => ?_⟩
      · rintro _ rfl
        refine keep Mc (zfq_rfl _ _ _) rfl (fun _ p' q' s' h' => ?_) (fun z => absurd z x6)
        have a := h'.2.2.2 p q s z1.1.1 z1.1.2.1 z1.1.2.2 z1.2.2.1 z1.2.1
        omega
      · exact try_chk bx bY bz hB hMc ht (fun hg M' f' e' => keep M' f' e' (fun h => by rw [hg] at h; cases h) (fun z => absurd z x6)) (fun hg M' f' e0 e1 e2 => new hg (Or.inr ⟨p, q, s, z1, by omega⟩) M' f' e0 e1 e2)
theorem bits_loop {v : Nat} {w : List Nat} (hv : v < 3) (hl : w.length ≤ 12) (hw2 : ∀ y ∈ w, y < 2) (ht : zT1 M v w) (h : Φ (some (.int (nI (100 * w.length + wbt w)))) (zSt k) M) : ∀ (c j : Nat), j + c = w.length → zW E m_Mo_shortest 4 (zSt k) M 48 [some (.ref 83), some (.int (nI v)), none, some (.int (nI (wbt (w.take j)))), some (.int (nI j))] [] Φ
  | 0, j, hj => by
    refine vc_Mo_shortest_48 E k M _ _ _ Φ ⟨v, hv, rfl, ?_⟩
    rw [ht.1, List.take_of_length_le (by omega)]
    refine ⟨fun _ => ⟨v, hv, rfl, ?_⟩, fun q => absurd (nI_le (by omega) (by omega)) q⟩
    have a : (100 : Int32) * nI w.length = nI (100 * w.length) := pk_mul 100 _
    rw [ht.1, a, nI_add]
    exact h
  | c + 1, j, hj => by
    have hjl : j < w.length := by omega
    have ih := bits_loop hv hl hw2 ht h c (j + 1) (by omega)
    rw [take_succ' hjl] at ih
    have e1 : (12 : Int32) * nI v + nI j = nI (12 * v + j) := by
      have a : (12 : Int32) * nI v = nI (12 * v) := pk_mul 12 v
      rw [a, nI_add]
    have tl : (w.take j).length = j := by simp; omega
    have kw := k_wbt (w := w.take j) (l := w.getD j 0) (fun y hy => hw2 y (List.mem_of_mem_take hy)) (by omega)
    rw [tl] at kw
    refine vc_Mo_shortest_48 E k M _ _ _ Φ ⟨v, hv, rfl, ?_⟩
    rw [ht.1]
    refine ⟨fun q => absurd q (nI_ge hjl (by omega)), fun _ => ⟨12 * v + j, by omega, e1, ?_⟩⟩
    rw [ht.2 j hjl, kw]
    rintro _ rfl _ rfl
    rw [nI_1]
    exact ih
theorem Mo_shortest_ok {a : AS} {x : Int32} (h : zRI M a) (hk : ∀ r M', isSh a.2.1 x r → zRI M' a → zMh M M' → Φ (some (.int r)) (zSt k) M') : zW E m_Mo_shortest 4 (zSt k) M 0 [some (.ref 83), some (.int x), none, none, none] [] Φ := by
  have hB := h.1.2.1
  have em1 : x = -1 ↔ x.toInt = -1 := by rw [← Int32.toInt_inj]; exact Iff.rfl
  refine vc_Mo_shortest_0 E k M x Φ (Mo_in_ok (l := -1) (h := 2) (by decide) (by decide) (fun c => ⟨1, rfl, rfl, fun _ => ?_, fun q => absurd q (by decide)⟩) (fun c => ⟨0, rfl, rfl, fun q => absurd rfl q, fun _ => ?_⟩))
  · have hx' : x = -1 ∨ ∃ v, v < 3 ∧ x = nI v ∧ inN 3 x ≠ none := by
      by_cases e : x = -1
      · exact Or.inl e
      · rw [em1] at e
        rcases inN_both 3 x with ⟨v, a1, a2, a3, a4⟩ | ⟨a1, a2⟩
        · exact Or.inr ⟨v, a1, a2, by rw [a3]; simp⟩
        · exact absurd (by omega) a2
    have hx2 : x = -1 ∨ inN 3 x ≠ none := by
      rcases hx' with e | ⟨v, _, _, e⟩
      · exact Or.inl e
      · exact Or.inr e
    refine vc_Mo_findShortest_0 E k M _ (short_loop hB (M0 := M) h.2.1.2.1 (fun M1 x1 z f1 => ?_) 3375 0 M (-6) rfl (Or.inl ⟨rfl, fun x y z _ _ _ hi => absurd hi (Nat.not_lt_zero _)⟩) (zfq_rfl _ _ _))
    have h1 := zRI_keep h f1 (by decide) (by simp)
    have m1 : zMh M M1 := zfq_Mh f1 (by decide)
    rcases z with ⟨z1, z2⟩ | ⟨p, q, s, z1, z2, z3, z4, z5⟩
    · refine ⟨x1, rfl, rfl, fun _ => ?_, fun w => absurd (by rw [z1]; decide) w⟩
      exact hk x1 M1 (Or.inr ⟨hx2, Or.inl ⟨fun x y z hx hy hz => z2 x y z hx hy hz (by omega), z1⟩⟩) h1 m1
    · have hb : isB a.2.1 p q s := ⟨z1.1, z1.2.1, fun x y z hx hy hz hg => z1.2.2.2 x y z hx hy hz (by omega) hg⟩
      have b9 := szt_9 z1.1.1 z1.1.2.1 z1.1.2.2
      refine ⟨x1, rfl, rfl, fun w => absurd w (by rw [z2]; exact nI_pos (by omega)), fun _ => ⟨fun ne => ?_, fun e => ?_⟩⟩
      · rcases hx' with e | ⟨v, hv, ev, hin⟩
        · exact absurd e ne
        · have e113 : M1 113 v = nI (fz p q s (v + 2)) := by
            rcases (show v = 0 ∨ v = 1 ∨ v = 2 by omega) with rfl | rfl | rfl
            · exact z3
            · exact z4
            · exact z5
          have hw := fz_lt z1.1.1 z1.1.2.1 z1.1.2.2 (v + 2)
          refine ⟨v, hv, ev, ?_⟩
          rw [e113, ev]
          refine tryWord_ok hv hw (fun M2 t2 _ f2 => ⟨rfl, rfl, ?_⟩)
          have l3' := wLw_len _ hw
          have sz := (szw_le _ hw).1
          refine bits_loop hv (by omega) (wLw_lt _ hw) t2 ?_ (wLw (fz p q s (v + 2))).length 0 (Nat.zero_add _)
          have ec := cdw_w _ hw
          have : 100 * (wLw (fz p q s (v + 2))).length + wbt (wLw (fz p q s (v + 2))) = cdw (fz p q s (v + 2)) := ec.symm
          rw [this]
          exact hk _ M2 (Or.inr ⟨hx2, Or.inr ⟨p, q, s, hb, Or.inr ⟨v, hv, ev, rfl⟩⟩⟩) (zRI_keep h1 f2 (by simp) (by simp)) (zMh_tr m1 (zfq_Mh f2 (by simp)))
      · exact hk x1 M1 (Or.inr ⟨hx2, Or.inr ⟨p, q, s, hb, Or.inl ⟨e, z2⟩⟩⟩) h1 m1
  · refine hk (-1) M (Or.inl ⟨fun e => ?_, ?_, rfl⟩) h (zMh_rfl _)
    · rw [em1] at e; omega
    · rcases inN_both 3 x with ⟨v, a1, a2, a3, a4⟩ | ⟨a1, a2⟩
      · omega
      · exact a1
end REF16
