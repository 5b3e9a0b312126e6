/-! the reference: told, images -/
theorem zms_id (M : ZM) (a i : Nat) : zms M a i (M a i) = M := by
  funext p q
  by_cases e : p = a ∧ q = i
  · rw [e.1, e.2, zms_s]
  · rw [zms_n _ _ e]
theorem k_told : ∀ n, n < 400 → 100 ≤ n → (nI n / 100) - 1 = nI (n / 100 - 1) ∧ nI n - nI n / 100 * 100 = nI (n % 100) := by decide +kernel
section REF13
variable {E : ZE} {k : Nat} {M M' M1 M2 : ZM} {Φ : Option Value → ZS → ZM → Prop} {A A' Q Q' : List Nat} {D : BD} {N : List NR} {g : Nat → Nat}
theorem x_of {x : Int32} {lo hi : Int} (h : lo ≤ x.toInt ∧ x.toInt ≤ hi) (h0 : 0 ≤ lo) : ∃ n : Nat, x.toInt.toNat = n ∧ x = nI n ∧ lo ≤ n ∧ (n : Int) ≤ hi ∧ x.toInt = n := by
  obtain ⟨n, hn⟩ : ∃ n : Nat, x.toInt.toNat = n := ⟨_, rfl⟩
  refine ⟨n, hn, ?_, by omega, by omega, by omega⟩
  rw [iI_nat, ← hn, Int.toNat_of_nonneg (by omega)]
  exact iI_of x
theorem Mo_told_ok {a : AS} {x : Int32} (h : zRI M a) (hk : ∀ M', zRI M' a → zMh M M' → Φ (some (.int (aTold a x))) (zSt k) M') : zW E m_Mo_told 1 (zSt k) M 0 [some (.ref 83), some (.int x), none] [] Φ := by
  have hk := hk M h (zMh_rfl _)
  unfold aTold at hk
  obtain ⟨c1, ⟨⟨c2, c3⟩, ⟨⟨⟨b1, -⟩, ⟨b2, -⟩⟩, b3, b4, b5⟩, c4⟩, c5⟩ := h
  have ow := c1.2.1.2.2.2.2
  refine vc_Mo_told_0 E k M x Φ (Mo_in_ok (l := 100) (h := 399) (by decide) (by decide) (fun c => ⟨1, rfl, rfl, fun q => absurd q (by decide), fun _ => ?_⟩) (fun n1 => ⟨0, rfl, rfl, fun _ => ?_, fun q => absurd rfl q⟩))
  · obtain ⟨n, hn, ex, hlo, hhi, et⟩ := x_of c (by decide)
    rw [if_neg (by omega), if_neg (by omega), if_neg (by omega), if_neg (by omega), if_neg (by omega), if_neg (by omega), if_pos (by omega), hn] at hk
    obtain ⟨k1, k2⟩ := k_told n (by omega) (by omega)
    rw [ex, k1, k2]
    rintro _ rfl
    refine ⟨n / 100 - 1, by omega, rfl, ?_⟩
    obtain ⟨d1, d2⟩ := b5 (n / 100 - 1) (by omega)
    have hl := (ow (n / 100 - 1) (by omega)).1
    rw [d1, nI_leI (by omega) (by omega)]
    refine ⟨fun q => ?_, fun q => ⟨12 * (n / 100 - 1) + n % 100, by omega, ?_, ?_⟩⟩
    · rw [if_neg (by omega)] at hk; exact hk
    · have b : (12 : Int32) * nI (n / 100 - 1) = nI (12 * (n / 100 - 1)) := pk_mul 12 _
      rw [b, nI_add]
    · rw [if_pos (by omega)] at hk
      rw [d2 _ (by omega)]; exact hk
  · refine Mo_in_ok (l := 10) (h := 15) (by decide) (by decide) (fun c => ⟨1, rfl, rfl, fun q => absurd q (by decide), fun _ => ?_⟩) (fun n2 => ⟨0, rfl, rfl, fun _ => ?_, fun q => absurd rfl q⟩)
    · obtain ⟨n, hn, ex, hlo, hhi, et⟩ := x_of c (by decide)
      rw [if_neg (by omega), if_neg (by omega), if_neg (by omega), if_pos (by omega), hn] at hk
      refine ⟨n - 10, by omega, by rw [ex]; exact pk_sub (b := 10) (by omega), ?_⟩
      rw [b3 _ (by omega)]; exact hk
    · refine Mo_in_ok (l := 20) (h := 28) (by decide) (by decide) (fun c => ⟨1, rfl, rfl, fun q => absurd q (by decide), fun _ => ?_⟩) (fun n3 => ⟨0, rfl, rfl, fun _ => ?_, fun q => absurd rfl q⟩)
      · obtain ⟨n, hn, ex, hlo, hhi, et⟩ := x_of c (by decide)
        rw [if_neg (by omega), if_neg (by omega), if_neg (by omega), if_neg (by omega), if_pos (by omega), hn] at hk
        refine ⟨n - 20, by omega, by rw [ex]; exact pk_sub (b := 20) (by omega), ?_⟩
        have := b4 ((n - 20) / 3) ((n - 20) % 3) (by omega) (by omega)
        rw [show 3 * ((n - 20) / 3) + (n - 20) % 3 = n - 20 by omega] at this
        rw [this]; exact hk
      · refine Mo_in_ok (l := 30) (h := 32) (by decide) (by decide) (fun c => ⟨1, rfl, rfl, fun q => absurd q (by decide), fun _ => ?_⟩) (fun n4 => ⟨0, rfl, rfl, fun _ => ?_, fun q => absurd rfl q⟩)
        · obtain ⟨n, hn, ex, hlo, hhi, et⟩ := x_of c (by decide)
          rw [if_neg (by omega), if_neg (by omega), if_neg (by omega), if_neg (by omega), if_neg (by omega), if_pos (by omega), hn] at hk
          refine ⟨n - 30, by omega, by rw [ex]; exact pk_sub (b := 30) (by omega), ?_⟩
          rw [(b5 _ (by omega)).1]; exact hk
        · have e0 : x = 0 ↔ x.toInt = 0 := by rw [← Int32.toInt_inj]; exact Iff.rfl
          have e1 : x = 1 ↔ x.toInt = 1 := by rw [← Int32.toInt_inj]; exact Iff.rfl
          have e2 : x = 2 ↔ x.toInt = 2 := by rw [← Int32.toInt_inj]; exact Iff.rfl
          refine ⟨fun q0 => ⟨fun q1 => ?_, fun q1 => ⟨fun q2 => ?_, fun q2 => ?_⟩⟩, fun q0 => ?_⟩
          · rw [q1]
            rw [e1] at q1
            rw [if_neg (by omega), if_pos (by omega)] at hk
            exact ⟨0, by decide, by decide, by rw [b1]; exact hk⟩
          · rw [e0] at q0
            rw [e1] at q1
            rw [e2] at q2
            rw [if_neg (by omega), if_neg (by omega), if_neg (by omega), if_neg (by omega), if_neg (by omega), if_neg (by omega), if_neg (by omega)] at hk
            exact hk
          · rw [q2]
            rw [e2] at q2
            rw [if_neg (by omega), if_neg (by omega), if_pos (by omega)] at hk
            exact ⟨1, by decide, by decide, by rw [b2]; exact hk⟩
          · rw [e0] at q0
            rw [if_pos (by omega)] at hk
            rw [c2]; exact hk
theorem passW_loop {r L n c : Nat} (hr : zArr (zSt k) r L) (hn : n ≤ L) (h83 : r ≠ 83) (h114 : r ≠ 114) (hc : c + n ≤ 180) {M0 : ZM} (hk : ∀ M', (∀ i, i < n → M' 114 (c + i) = M0 r i) → (∀ i, i < c ∨ c + n ≤ i → M' 114 i = M0 114 i) → M' 83 41 = nI (c + n) → zfq M0 M' [114] [41] → Φ none (zSt k) M') : ∀ (m j : Nat) (M : ZM), j + m = n → M 83 41 = nI (c + j) → M 83 42 = 1 → (∀ i, i < j → M 114 (c + i) = M0 r i) → (∀ i, i < c ∨ c + j ≤ i → M 114 i = M0 114 i) → zfq M0 M [114] [41] → zW E m_Mo_passRow 0 (zSt k) M 2 [some (.ref 83), some (.ref r), some (.int (nI n)), some (.int (nI j))] [] Φ
  | 0, j, M, hj, h41, h42, h1, h2, hf => by
    have : j = n := by omega
    subst this
    have hL : L < 2 ^ 31 := hr.2.2
    exact vc_Mo_passRow_2 E k M r L _ _ Φ hr ⟨fun _ => hk M h1 h2 h41 hf, fun q => absurd (nI_le (Nat.le_refl _) (by omega)) q⟩
  | m + 1, j, M, hj, h41, h42, h1, h2, hf => by
    have hL : L < 2 ^ 31 := hr.2.2
    refine vc_Mo_passRow_2 E k M r L _ _ Φ hr ⟨fun q => absurd q (nI_ge (by omega) (by omega)), fun _ => ⟨fun q => by rw [h42] at q; exact absurd q (by decide), fun _ => ⟨j, by omega, rfl, j, by omega, rfl, ?_⟩⟩⟩
    rw [zms_id]
    intro Mx gx
    rw [gx]
    refine ⟨j, by omega, rfl, c + j, by omega, h41, ?_⟩
    intro M1 g1 M2 g2
    rintro _ rfl
    have q41 : M1 83 41 = nI (c + j) := by rw [g1, zms_n _ _ (by omega)]; exact h41
    rw [q41, nI_1] at g2
    rw [nI_1]
    have hM : M r = M0 r := hf.1 r h83 (by simpa using h114)
    refine passW_loop hr hn h83 h114 hc hk m (j + 1) M2 (by omega) (by rw [g2, zms_s]; rfl) (by rw [g2, zms_n _ _ (by omega), g1, zms_n _ _ (by omega)]; exact h42) (fun i hi => ?_) (fun i hi => ?_) (by rw [g2, g1]; exact zfq_tr hf (zfq_tr (zfq_ms _ _ _ (by simp) (by decide)) (zfq_mq _ _ _ (by simp))))
    · rw [g2, zms_n _ _ (by omega), g1]
      by_cases e : i = j
      · rw [e, zms_s, hM]
      · rw [zms_k _ _ (by omega)]; exact h1 i (by omega)
    · rw [g2, zms_n _ _ (by omega), g1, zms_k _ _ (by omega)]; exact h2 i (by omega)
theorem passW_ok {r L n c : Nat} (hr : zArr (zSt k) r L) (hn : n ≤ L) (h83 : r ≠ 83) (h114 : r ≠ 114) (hc : c + n ≤ 180) (h41 : M 83 41 = nI c) (h42 : M 83 42 = 1) (hk : ∀ M', (∀ i, i < n → M' 114 (c + i) = M r i) → (∀ i, i < c ∨ c + n ≤ i → M' 114 i = M 114 i) → M' 83 41 = nI (c + n) → zfq M M' [114] [41] → Φ none (zSt k) M') : zW E m_Mo_passRow 0 (zSt k) M 0 [some (.ref 83), some (.ref r), some (.int (nI n)), none] [] Φ :=
  vc_Mo_passRow_0 E k M r L _ Φ hr (passW_loop hr hn h83 h114 hc hk n 0 M (Nat.zero_add _) h41 h42 (fun i hi => absurd hi (Nat.not_lt_zero _)) (fun i _ => rfl) (zfq_rfl _ _ _))
theorem passR_loop {r L n c : Nat} (hr : zArr (zSt k) r L) (hn : n ≤ L) (h83 : r ≠ 83) (h114 : r ≠ 114) (hc : c + n ≤ 180) {M0 : ZM} (hk : ∀ M', (∀ i, i < n → M' r i = M0 114 (c + i)) → M' 83 41 = nI (c + n) → zfq M0 M' [r] [41] → Φ none (zSt k) M') : ∀ (m j : Nat) (M : ZM), j + m = n → M 83 41 = nI (c + j) → M 83 42 = 0 → (∀ i, i < j → M r i = M0 114 (c + i)) → zfq M0 M [r] [41] → zW E m_Mo_passRow 0 (zSt k) M 2 [some (.ref 83), some (.ref r), some (.int (nI n)), some (.int (nI j))] [] Φ
  | 0, j, M, hj, h41, h42, h1, hf => by
    have : j = n := by omega
    subst this
    have hL : L < 2 ^ 31 := hr.2.2
    exact vc_Mo_passRow_2 E k M r L _ _ Φ hr ⟨fun _ => hk M h1 h41 hf, fun q => absurd (nI_le (Nat.le_refl _) (by omega)) q⟩
  | m + 1, j, M, hj, h41, h42, h1, hf => by
    have hL : L < 2 ^ 31 := hr.2.2
    have h114' : M 114 = M0 114 := hf.1 114 (by decide) (by simpa using fun e => h114 (Eq.symm e))
    refine vc_Mo_passRow_2 E k M r L _ _ Φ hr ⟨fun q => absurd q (nI_ge (by omega) (by omega)), fun _ => ⟨fun _ => ⟨c + j, by omega, h41, j, by omega, rfl, ?_⟩, fun q => absurd h42 q⟩⟩
    intro M1 g1
    refine ⟨j, by omega, rfl, c + j, by omega, by rw [g1, zms_n _ _ (by omega)]; exact h41, ?_⟩
    intro M2 g2
    have e2 : M2 = M1 := by
      have : M1 r j = M1 114 (c + j) := by rw [g1, zms_s, zms_n _ _ (by omega)]
      rw [g2, this, zms_id]
    subst e2
    intro M3 g3
    rintro _ rfl
    have q41 : M2 83 41 = nI (c + j) := by rw [g1, zms_n _ _ (by omega)]; exact h41
    rw [q41, nI_1] at g3
    rw [nI_1]
    refine passR_loop hr hn h83 h114 hc hk m (j + 1) M3 (by omega) (by rw [g3, zms_s]; rfl) (by rw [g3, zms_n _ _ (by omega), g1, zms_n _ _ (by omega)]; exact h42) (fun i hi => ?_) (by rw [g3, g1]; exact zfq_tr hf (zfq_tr (zfq_ms _ _ _ (by simp) h83) (zfq_mq _ _ _ (by simp))))
    rw [g3, zms_n _ _ (by omega), g1]
    by_cases e : i = j
    · rw [e, zms_s, h114']
    · rw [zms_k _ _ e]; exact h1 i (by omega)
theorem passR_ok {r L n c : Nat} (hr : zArr (zSt k) r L) (hn : n ≤ L) (h83 : r ≠ 83) (h114 : r ≠ 114) (hc : c + n ≤ 180) (h41 : M 83 41 = nI c) (h42 : M 83 42 = 0) (hk : ∀ M', (∀ i, i < n → M' r i = M 114 (c + i)) → M' 83 41 = nI (c + n) → zfq M M' [r] [41] → Φ none (zSt k) M') : zW E m_Mo_passRow 0 (zSt k) M 0 [some (.ref 83), some (.ref r), some (.int (nI n)), none] [] Φ :=
  vc_Mo_passRow_0 E k M r L _ Φ hr (passR_loop hr hn h83 h114 hc hk n 0 M (Nat.zero_add _) h41 h42 (fun i hi => absurd hi (Nat.not_lt_zero _)) (zfq_rfl _ _ _))
theorem passAllW_ok {b : Nat} (hb : b + 80 ≤ 180) (h41 : M 83 41 = nI b) (h42 : M 83 42 = 1) (hk : ∀ M', (∀ i, i < 24 → M' 114 (b + 0 + i) = M 84 i) → (∀ i, i < 2 → M' 114 (b + 24 + i) = M 85 i) → (∀ i, i < 6 → M' 114 (b + 26 + i) = M 86 i) → (∀ i, i < 9 → M' 114 (b + 32 + i) = M 87 i) → (∀ i, i < 36 → M' 114 (b + 41 + i) = M 88 i) → (∀ i, i < 3 → M' 114 (b + 77 + i) = M 89 i) → (∀ i, i < b ∨ b + 80 ≤ i → M' 114 i = M 114 i) → zfq M M' [114] [41] → Φ none (zSt k) M') : zW E m_Mo_passAll 1 (zSt k) M 0 [some (.ref 83)] [] Φ := by
  refine vc_Mo_passAll_0 E k M Φ ?_
  refine passW_ok (n := 24) (c := b + 0) (ta_84 k) (by decide) (by decide) (by decide) (by omega) h41 h42 (fun M1 a1 b1 u1 f1 => ⟨rfl, rfl, ?_⟩)
  refine passW_ok (n := 2) (c := b + 24) (ta_85 k) (by decide) (by decide) (by decide) (by omega) u1 (by rw [f1.2 42 (by decide)]; exact h42) (fun M2 a2 b2 u2 f2 => ⟨rfl, rfl, ?_⟩)
  refine passW_ok (n := 6) (c := b + 26) (ta_86 k) (by decide) (by decide) (by decide) (by omega) u2 (by rw [f2.2 42 (by decide), f1.2 42 (by decide)]; exact h42) (fun M3 a3 b3 u3 f3 => ⟨rfl, rfl, ?_⟩)
  refine passW_ok (n := 9) (c := b + 32) (ta_87 k) (by decide) (by decide) (by decide) (by omega) u3 (by rw [f3.2 42 (by decide), f2.2 42 (by decide), f1.2 42 (by decide)]; exact h42) (fun M4 a4 b4 u4 f4 => ⟨rfl, rfl, ?_⟩)
  refine passW_ok (n := 36) (c := b + 41) (ta_88 k) (by decide) (by decide) (by decide) (by omega) u4 (by rw [f4.2 42 (by decide), f3.2 42 (by decide), f2.2 42 (by decide), f1.2 42 (by decide)]; exact h42) (fun M5 a5 b5 u5 f5 => ⟨rfl, rfl, ?_⟩)
  refine passW_ok (n := 3) (c := b + 77) (ta_89 k) (by decide) (by decide) (by decide) (by omega) u5 (by rw [f5.2 42 (by decide), f4.2 42 (by decide), f3.2 42 (by decide), f2.2 42 (by decide), f1.2 42 (by decide)]; exact h42) (fun M6 a6 b6 u6 f6 => ⟨rfl, rfl, ?_⟩)
  refine hk M6 (fun i hi => ?_) (fun i hi => ?_) (fun i hi => ?_) (fun i hi => ?_) (fun i hi => ?_) (fun i hi => ?_) (fun i hi => ?_) (zfq_tr f1 (zfq_tr f2 (zfq_tr f3 (zfq_tr f4 (zfq_tr f5 f6)))))
  · rw [b6 _ (by omega), b5 _ (by omega), b4 _ (by omega), b3 _ (by omega), b2 _ (by omega), a1 i hi]
  · rw [b6 _ (by omega), b5 _ (by omega), b4 _ (by omega), b3 _ (by omega), a2 i hi, f1.1 85 (by decide) (by decide)]
  · rw [b6 _ (by omega), b5 _ (by omega), b4 _ (by omega), a3 i hi, f2.1 86 (by decide) (by decide), f1.1 86 (by decide) (by decide)]
  · rw [b6 _ (by omega), b5 _ (by omega), a4 i hi, f3.1 87 (by decide) (by decide), f2.1 87 (by decide) (by decide), f1.1 87 (by decide) (by decide)]
  · rw [b6 _ (by omega), a5 i hi, f4.1 88 (by decide) (by decide), f3.1 88 (by decide) (by decide), f2.1 88 (by decide) (by decide), f1.1 88 (by decide) (by decide)]
  · rw [a6 i hi, f5.1 89 (by decide) (by decide), f4.1 89 (by decide) (by decide), f3.1 89 (by decide) (by decide), f2.1 89 (by decide) (by decide), f1.1 89 (by decide) (by decide)]
  · rw [b6 _ (by omega), b5 _ (by omega), b4 _ (by omega), b3 _ (by omega), b2 _ (by omega), b1 _ (by omega)]
theorem passAllR_ok {b : Nat} (hb : b + 80 ≤ 180) (h41 : M 83 41 = nI b) (h42 : M 83 42 = 0) (hk : ∀ M', (∀ i, i < 24 → M' 84 i = M 114 (b + 0 + i)) → (∀ i, i < 2 → M' 85 i = M 114 (b + 24 + i)) → (∀ i, i < 6 → M' 86 i = M 114 (b + 26 + i)) → (∀ i, i < 9 → M' 87 i = M 114 (b + 32 + i)) → (∀ i, i < 36 → M' 88 i = M 114 (b + 41 + i)) → (∀ i, i < 3 → M' 89 i = M 114 (b + 77 + i)) → zfq M M' [84, 85, 86, 87, 88, 89] [41] → Φ none (zSt k) M') : zW E m_Mo_passAll 1 (zSt k) M 0 [some (.ref 83)] [] Φ := by
  refine vc_Mo_passAll_0 E k M Φ ?_
  refine passR_ok (n := 24) (c := b + 0) (ta_84 k) (by decide) (by decide) (by decide) (by omega) h41 h42 (fun M1 a1 u1 f1 => ⟨rfl, rfl, ?_⟩)
  refine passR_ok (n := 2) (c := b + 24) (ta_85 k) (by decide) (by decide) (by decide) (by omega) u1 (by rw [f1.2 42 (by decide)]; exact h42) (fun M2 a2 u2 f2 => ⟨rfl, rfl, ?_⟩)
  refine passR_ok (n := 6) (c := b + 26) (ta_86 k) (by decide) (by decide) (by decide) (by omega) u2 (by rw [f2.2 42 (by decide), f1.2 42 (by decide)]; exact h42) (fun M3 a3 u3 f3 => ⟨rfl, rfl, ?_⟩)
  refine passR_ok (n := 9) (c := b + 32) (ta_87 k) (by decide) (by decide) (by decide) (by omega) u3 (by rw [f3.2 42 (by decide), f2.2 42 (by decide), f1.2 42 (by decide)]; exact h42) (fun M4 a4 u4 f4 => ⟨rfl, rfl, ?_⟩)
  refine passR_ok (n := 36) (c := b + 41) (ta_88 k) (by decide) (by decide) (by decide) (by omega) u4 (by rw [f4.2 42 (by decide), f3.2 42 (by decide), f2.2 42 (by decide), f1.2 42 (by decide)]; exact h42) (fun M5 a5 u5 f5 => ⟨rfl, rfl, ?_⟩)
  refine passR_ok (n := 3) (c := b + 77) (ta_89 k) (by decide) (by decide) (by decide) (by omega) u5 (by rw [f5.2 42 (by decide), f4.2 42 (by decide), f3.2 42 (by decide), f2.2 42 (by decide), f1.2 42 (by decide)]; exact h42) (fun M6 a6 u6 f6 => ⟨rfl, rfl, ?_⟩)
  refine hk M6 (fun i hi => ?_) (fun i hi => ?_) (fun i hi => ?_) (fun i hi => ?_) (fun i hi => ?_) (fun i hi => ?_) (zfq_tr (zfq_mono f1 (by simp) (by simp)) (zfq_tr (zfq_mono f2 (by simp) (by simp)) (zfq_tr (zfq_mono f3 (by simp) (by simp)) (zfq_tr (zfq_mono f4 (by simp) (by simp)) (zfq_tr (zfq_mono f5 (by simp) (by simp)) (zfq_mono f6 (by simp) (by simp)))))))
  · rw [f6.1 84 (by decide) (by decide), f5.1 84 (by decide) (by decide), f4.1 84 (by decide) (by decide), f3.1 84 (by decide) (by decide), f2.1 84 (by decide) (by decide), a1 i hi]
  · rw [f6.1 85 (by decide) (by decide), f5.1 85 (by decide) (by decide), f4.1 85 (by decide) (by decide), f3.1 85 (by decide) (by decide), a2 i hi, f1.1 114 (by decide) (by decide)]
  · rw [f6.1 86 (by decide) (by decide), f5.1 86 (by decide) (by decide), f4.1 86 (by decide) (by decide), a3 i hi, f2.1 114 (by decide) (by decide), f1.1 114 (by decide) (by decide)]
  · rw [f6.1 87 (by decide) (by decide), f5.1 87 (by decide) (by decide), a4 i hi, f3.1 114 (by decide) (by decide), f2.1 114 (by decide) (by decide), f1.1 114 (by decide) (by decide)]
  · rw [f6.1 88 (by decide) (by decide), a5 i hi, f4.1 114 (by decide) (by decide), f3.1 114 (by decide) (by decide), f2.1 114 (by decide) (by decide), f1.1 114 (by decide) (by decide)]
  · rw [a6 i hi, f5.1 114 (by decide) (by decide), f4.1 114 (by decide) (by decide), f3.1 114 (by decide) (by decide), f2.1 114 (by decide) (by decide), f1.1 114 (by decide) (by decide)]
theorem zRIm_set {j : Nat} {B : AB} (hB : okB B) (h : zRB (M 84) (M 85) (M 86) (M 87) (M 88) (M 89) B) (h1 : M' 115 j = 1) (p84 : ∀ i, i < 24 → M' 114 (90 * j + 0 + i) = M 84 i) (p85 : ∀ i, i < 2 → M' 114 (90 * j + 24 + i) = M 85 i) (p86 : ∀ i, i < 6 → M' 114 (90 * j + 26 + i) = M 86 i) (p87 : ∀ i, i < 9 → M' 114 (90 * j + 32 + i) = M 87 i) (p88 : ∀ i, i < 36 → M' 114 (90 * j + 41 + i) = M 88 i) (p89 : ∀ i, i < 3 → M' 114 (90 * j + 77 + i) = M 89 i) : zRIm M' j (some B) := by
  refine ⟨fun e => (by cases e), fun B' e => ⟨h1, ?_⟩⟩
  cases e
  exact zRB_congr hB h p84 p85 p86 p87 p88 p89
theorem zRIm_other {j : Nat} {o : Option AB} (ho : ∀ B, o = some B → okB B) (h : zRIm M j o) (h1 : M' 115 j = M 115 j) (h2 : ∀ i, 90 * j ≤ i → i < 90 * j + 80 → M' 114 i = M 114 i) : zRIm M' j o := by
  refine ⟨fun e => by rw [h1]; exact h.1 e, fun B e => ⟨by rw [h1]; exact (h.2 B e).1, ?_⟩⟩
  exact zRB_congr (ho B e) (h.2 B e).2 (fun i hi => h2 _ (by omega) (by omega)) (fun i hi => h2 _ (by omega) (by omega)) (fun i hi => h2 _ (by omega) (by omega)) (fun i hi => h2 _ (by omega) (by omega)) (fun i hi => h2 _ (by omega) (by omega)) (fun i hi => h2 _ (by omega) (by omega))
theorem Mo_image_ok {a : AS} {x : Int32} (h : zRI M a) (ho : okS (aImage a x).2) (hk : ∀ M', zRI M' (aImage a x).2 → zMh M M' → Φ (some (.int (aImage a x).1)) (zSt k) M') : zW E m_Mo_image 2 (zSt k) M 0 [some (.ref 83), some (.int x)] [] Φ := by
  unfold aImage at hk ho
  refine vc_Mo_image_0 E k M x Φ (Mo_inN_ok (n := 2) (by decide) (fun j hj ex qx => ⟨1, rfl, rfl, fun _ => ?_, fun q => absurd q (by decide)⟩) (fun qx => ⟨0, rfl, rfl, fun q => absurd rfl q, fun _ => ?_⟩))
  · rw [qx] at hk ho
    simp only at hk ho
    intro M1 g1 M2 g2
    have e90 : (90 : Int32) * x = nI (90 * j) := by rw [ex]; exact pk_mul 90 j
    rw [e90] at g1
    have f2 : zfq M M2 [] [41, 42] := by rw [g2, g1]; exact zfq_tr (zfq_mq _ _ _ (by simp)) (zfq_mq _ _ _ (by simp))
    refine passAllW_ok (b := 90 * j) (by omega) (by rw [g2, zms_n _ _ (by omega), g1, zms_s]) (by rw [g2, zms_s]) (fun M3 p84 p85 p86 p87 p88 p89 po f3 => ⟨rfl, rfl, j, hj, ex, ?_⟩)
    intro M4 g4
    have f4 : zfq M M4 [114, 115] [41, 42] := by rw [g4]; exact zfq_tr (zfq_mono f2 (by simp) (by simp)) (zfq_tr (zfq_mono f3 (by simp) (by simp)) (zfq_ms _ _ _ (by simp) (by decide)))
    have m114 : M4 114 = M3 114 := by rw [g4, zms_ne _ _ _ (by decide)]
    obtain ⟨c1, ⟨c2, c3, c4⟩, c5⟩ := h
    have im : ∀ u, u < 2 → zRIm M u (if u = 0 then a.2.2.1 else a.2.2.2) := fun u hu => by
      rcases (show u = 0 ∨ u = 1 by omega) with rfl | rfl
      · exact c4.1
      · exact c4.2
    have oi : ∀ u, u < 2 → ∀ B, (if u = 0 then a.2.2.1 else a.2.2.2) = some B → okB B := fun u hu => by
      rcases (show u = 0 ∨ u = 1 by omega) with rfl | rfl
      · exact c1.2.2.1
      · exact c1.2.2.2
    have new : zRIm M4 j (some a.2.1) := zRIm_set c1.2.1 c3 (by rw [g4, zms_s]) (fun i hi => by rw [m114, p84 i hi, f2.1 84 (by decide) (by decide)]) (fun i hi => by rw [m114, p85 i hi, f2.1 85 (by decide) (by decide)]) (fun i hi => by rw [m114, p86 i hi, f2.1 86 (by decide) (by decide)]) (fun i hi => by rw [m114, p87 i hi, f2.1 87 (by decide) (by decide)]) (fun i hi => by rw [m114, p88 i hi, f2.1 88 (by decide) (by decide)]) (fun i hi => by rw [m114, p89 i hi, f2.1 89 (by decide) (by decide)])
    have old : ∀ u, u < 2 → u ≠ j → zRIm M4 u (if u = 0 then a.2.2.1 else a.2.2.2) := fun u hu hne => zRIm_other (oi u hu) (im u hu) (by rw [g4, zms_k _ _ hne, f3.1 115 (by decide) (by decide), f2.1 115 (by decide) (by decide)]) (fun i h1 h2 => by rw [m114, po i (by omega), f2.1 114 (by decide) (by decide)])
    refine hk M4 ⟨ho, ⟨?_, ?_, ?_⟩, zRS_keep c5 f4 (by simp) (by simp)⟩ (zfq_Mh f4 (by simp))
    · rw [f4.2 7 (by decide), f4.1 90 (by decide) (by decide)]; exact c2
    · rw [f4.1 84 (by decide) (by decide), f4.1 85 (by decide) (by decide), f4.1 86 (by decide) (by decide), f4.1 87 (by decide) (by decide), f4.1 88 (by decide) (by decide), f4.1 89 (by decide) (by decide)]; exact c3
    · rcases (show j = 0 ∨ j = 1 by omega) with rfl | rfl
      · exact ⟨new, old 1 (by decide) (by decide)⟩
      · exact ⟨old 0 (by decide) (by decide), new⟩
  · rw [qx] at hk
    exact hk M h (zMh_rfl _)
theorem Mo_restore_ok {a : AS} {x : Int32} (h : zRI M a) (ho : okS (aRestore a x).2) (hk : ∀ M', zRI M' (aRestore a x).2 → zMh M M' → Φ (some (.int (aRestore a x).1)) (zSt k) M') : zW E m_Mo_restore 2 (zSt k) M 0 [some (.ref 83), some (.int x)] [] Φ := by
  unfold aRestore at hk ho
  refine vc_Mo_restore_0 E k M x Φ (Mo_inN_ok (n := 2) (by decide) (fun j hj ex qx => ⟨1, rfl, rfl, fun _ => ⟨j, hj, ex, ?_⟩, fun q => absurd q (by decide)⟩) (fun qx => ⟨0, rfl, rfl, fun q => absurd rfl q, fun _ => ?_⟩))
  · rw [qx] at hk ho
    simp only at hk ho
    obtain ⟨c1, ⟨c2, c3, c4⟩, c5⟩ := h
    have im : zRIm M j (if j = 0 then a.2.2.1 else a.2.2.2) := by
      rcases (show j = 0 ∨ j = 1 by omega) with rfl | rfl
      · exact c4.1
      · exact c4.2
    cases hB : (if j = 0 then a.2.2.1 else a.2.2.2) with
    | none =>
      rw [hB] at hk im
      have e := im.1 rfl
      exact ⟨fun q => absurd e q, fun _ => hk M ⟨c1, ⟨c2, c3, c4⟩, c5⟩ (zMh_rfl _)⟩
    | some B =>
      rw [hB] at hk im ho
      obtain ⟨e, hb⟩ := im.2 B rfl
      refine ⟨fun _ => ?_, fun q => by rw [e] at q; exact absurd q (by decide)⟩
      intro M1 g1 M2 g2
      have e90 : (90 : Int32) * x = nI (90 * j) := by rw [ex]; exact pk_mul 90 j
      rw [e90] at g1
      have f2 : zfq M M2 [] [41, 42] := by rw [g2, g1]; exact zfq_tr (zfq_mq _ _ _ (by simp)) (zfq_mq _ _ _ (by simp))
      refine passAllR_ok (b := 90 * j) (by omega) (by rw [g2, zms_n _ _ (by omega), g1, zms_s]) (by rw [g2, zms_s]) (fun M3 p84 p85 p86 p87 p88 p89 f3 => ⟨rfl, rfl, ?_⟩)
      intro M4 g4
      have f4 : zfq M M4 [84, 85, 86, 87, 88, 89] [22, 41, 42] := by rw [g4]; exact zfq_tr (zfq_mono f2 (by simp) (by simp)) (zfq_tr (zfq_mono f3 (by simp) (by simp)) (zfq_mq _ _ _ (by simp)))
      have m2 : M2 114 = M 114 := f2.1 114 (by decide) (by decide)
      have m4 : ∀ p, p ≠ 83 → M4 p = M3 p := fun p hp => by rw [g4, zms_ne _ _ _ hp]
      refine hk M4 ⟨ho, ⟨?_, ?_, zRIm_keep c4.1 (f4.1 _ (by decide) (by decide)) (f4.1 _ (by decide) (by decide)), zRIm_keep c4.2 (f4.1 _ (by decide) (by decide)) (f4.1 _ (by decide) (by decide))⟩, Or.inl (by rw [g4, zms_s])⟩ (zfq_Mh f4 (by simp))
      · rw [f4.2 7 (by decide), f4.1 90 (by decide) (by decide)]; exact c2
      · have hBo : okB B := ho.2.1
        exact zRB_congr hBo hb (fun i hi => by rw [m4 84 (by decide), p84 i hi, m2, Nat.add_zero]) (fun i hi => by rw [m4 85 (by decide), p85 i hi, m2]) (fun i hi => by rw [m4 86 (by decide), p86 i hi, m2]) (fun i hi => by rw [m4 87 (by decide), p87 i hi, m2]) (fun i hi => by rw [m4 88 (by decide), p88 i hi, m2]) (fun i hi => by rw [m4 89 (by decide), p89 i hi, m2])
  · rw [qx] at hk
    exact hk M h (zMh_rfl _)
end REF13
