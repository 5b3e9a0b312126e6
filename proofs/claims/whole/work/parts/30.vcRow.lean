set_option maxRecDepth 20000 in
theorem vc_Row_size_0 (E : ZE) (S : ZS) (M : ZM) (r0 L0 : Nat) (Φ : Option Value → ZS → ZM → Prop) (h0 : zRow S r0 L0) (h : Φ (some (.int (M r0 1))) S M) : zW E m_Row_size 0 S M 0 [some (.ref r0)] [] Φ := by
  refine z_aload_n d_Row_size_0 rfl ?_
  refine z_geti f_Row_21 rfl d_Row_size_1 h0.1 ?_
  exact z_iret rfl d_Row_size_4 h

set_option maxRecDepth 20000 in
theorem vc_Row_at_0 (E : ZE) (S : ZS) (M : ZM) (r0 L0 : Nat) (x1 : Int32) (Φ : Option Value → ZS → ZM → Prop) (h0 : zRow S r0 L0) (h : (x1 < 0 → Φ (some (.int (-6))) S M) ∧ (¬ x1 < 0 → ((M r0 1) ≤ x1 → Φ (some (.int (-6))) S M) ∧ (¬ (M r0 1) ≤ x1 → ((nI L0) ≤ x1 → Φ (some (.int (-6))) S M) ∧ (¬ (nI L0) ≤ x1 → ∃ j4 : Nat, j4 < L0 ∧ x1 = nI j4 ∧ (Φ (some (.int (M (r0 + 1) j4))) S M))))) : zW E m_Row_at 0 S M 0 [some (.ref r0), some (.int x1)] [] Φ := by
  refine z_iload_n d_Row_at_0 rfl ?_
  refine z_if_lt 30 d_Row_at_1 rfl ⟨fun c1 => ?_, fun c1 => ?_⟩
  · replace h := h.1 c1
    refine z_bipush (-6) d_Row_at_30 (by decide) ?_
    exact z_iret rfl d_Row_at_32 h
  · replace h := h.2 c1
    refine z_iload_n d_Row_at_4 rfl ?_
    refine z_aload_n d_Row_at_5 rfl ?_
    refine z_geti f_Row_21 rfl d_Row_at_6 h0.1 ?_
    refine z_icmp_ge 30 d_Row_at_9 rfl ⟨fun c2 => ?_, fun c2 => ?_⟩
    · replace h := h.1 c2
      refine z_bipush (-6) d_Row_at_30 (by decide) ?_
      exact z_iret rfl d_Row_at_32 h
    · replace h := h.2 c2
      refine z_iload_n d_Row_at_12 rfl ?_
      refine z_aload_n d_Row_at_13 rfl ?_
      refine z_getr f_Row_15 rfl d_Row_at_14 h0.1 h0.2.1 ?_
      refine y_alen (nI L0) d_Row_at_17 h0.2.2 rfl ?_
      refine z_icmp_ge 30 d_Row_at_18 rfl ⟨fun c3 => ?_, fun c3 => ?_⟩
      · replace h := h.1 c3
        refine z_bipush (-6) d_Row_at_30 (by decide) ?_
        exact z_iret rfl d_Row_at_32 h
      · replace h := h.2 c3
        refine z_aload_n d_Row_at_21 rfl ?_
        refine z_getr f_Row_15 rfl d_Row_at_22 h0.1 h0.2.1 ?_
        refine z_iload_n d_Row_at_25 rfl ?_
        obtain ⟨j4, hj4, ej4, h⟩ := h
        refine y_iaload j4 d_Row_at_26 h0.2.2 hj4 ej4 ?_
        refine z_goto 32 d_Row_at_27 rfl ?_
        exact z_iret rfl d_Row_at_32 h

set_option maxRecDepth 20000 in
theorem vc_Row_makeEmpty_0 (E : ZE) (S : ZS) (M : ZM) (r0 L0 : Nat) (Φ : Option Value → ZS → ZM → Prop) (h0 : zRow S r0 L0) (h : ∀ M1 : ZM, M1 = zms M r0 1 0 → Φ none S M1) : zW E m_Row_makeEmpty 0 S M 0 [some (.ref r0)] [] Φ := by
  refine z_aload_n d_Row_makeEmpty_0 rfl ?_
  refine z_iconst 0 d_Row_makeEmpty_1 (by decide) ?_
  refine z_puti (p_Row_21 rfl) rfl d_Row_makeEmpty_2 h0.1 rfl rfl ?_
  refine z_mem (fun M1 eM1 => ?_)
  replace h := h M1 eM1
  exact z_vret rfl d_Row_makeEmpty_5 h

set_option maxRecDepth 20000 in
theorem vc_Row_push_0 (E : ZE) (S : ZS) (M : ZM) (r0 L0 : Nat) (x1 : Int32) (Φ : Option Value → ZS → ZM → Prop) (h0 : zRow S r0 L0) (h : ((M r0 1) < 0 → Φ (some (.int 0)) S M) ∧ (¬ (M r0 1) < 0 → ((M r0 1) < (nI L0) → ∃ j3 : Nat, j3 < L0 ∧ (M r0 1) = nI j3 ∧ (∀ M4 : ZM, M4 = zms M (r0 + 1) j3 x1 → ∀ M5 : ZM, M5 = zms M4 r0 1 ((M4 r0 1) + 1) → Φ (some (.int 1)) S M5)) ∧ (¬ (M r0 1) < (nI L0) → Φ (some (.int 0)) S M))) : zW E m_Row_push 0 S M 0 [some (.ref r0), some (.int x1)] [] Φ := by
  refine z_aload_n d_Row_push_0 rfl ?_
  refine z_geti f_Row_21 rfl d_Row_push_1 h0.1 ?_
  refine z_if_lt 19 d_Row_push_4 rfl ⟨fun c1 => ?_, fun c1 => ?_⟩
  · replace h := h.1 c1
    refine z_iconst 0 d_Row_push_19 (by decide) ?_
    exact z_zret rfl d_Row_push_20 rfl h
  · replace h := h.2 c1
    refine z_aload_n d_Row_push_7 rfl ?_
    refine z_geti f_Row_21 rfl d_Row_push_8 h0.1 ?_
    refine z_aload_n d_Row_push_11 rfl ?_
    refine z_getr f_Row_15 rfl d_Row_push_12 h0.1 h0.2.1 ?_
    refine y_alen (nI L0) d_Row_push_15 h0.2.2 rfl ?_
    refine z_icmp_lt 21 d_Row_push_16 rfl ⟨fun c2 => ?_, fun c2 => ?_⟩
    · replace h := h.1 c2
      refine z_aload_n d_Row_push_21 rfl ?_
      refine z_getr f_Row_15 rfl d_Row_push_22 h0.1 h0.2.1 ?_
      refine z_aload_n d_Row_push_25 rfl ?_
      refine z_geti f_Row_21 rfl d_Row_push_26 h0.1 ?_
      refine z_iload_n d_Row_push_29 rfl ?_
      obtain ⟨j3, hj3, ej3, h⟩ := h
      refine y_iastore j3 d_Row_push_30 h0.2.2 hj3 ej3 ?_
      refine z_mem (fun M4 eM4 => ?_)
      replace h := h M4 eM4
      refine z_aload_n d_Row_push_31 rfl ?_
      refine z_dup d_Row_push_32 rfl ?_
      refine z_geti f_Row_21 rfl d_Row_push_33 h0.1 ?_
      refine z_iconst 1 d_Row_push_36 (by decide) ?_
      refine z_iadd d_Row_push_37 ?_
      refine z_puti (p_Row_21 rfl) rfl d_Row_push_38 h0.1 rfl rfl ?_
      refine z_mem (fun M5 eM5 => ?_)
      replace h := h M5 eM5
      refine z_iconst 1 d_Row_push_41 (by decide) ?_
      exact z_zret rfl d_Row_push_42 rfl h
    · replace h := h.2 c2
      refine z_iconst 0 d_Row_push_19 (by decide) ?_
      exact z_zret rfl d_Row_push_20 rfl h

set_option maxRecDepth 20000 in
theorem vc_Row_pushAhead_0 (E : ZE) (S : ZS) (M : ZM) (r0 L0 : Nat) (x1 : Int32) (Φ : Option Value → ZS → ZM → Prop) (h0 : zRow S r0 L0) (h : zW E m_Row_makeRoom 0 S M 0 [some (.ref r0), some (.int 1), none] [] (fun q1 T1 M1 => ∃ y1 : Int32, q1 = some (.int y1) ∧ S = T1 ∧ (y1 = 0 → Φ (some (.int 0)) S M1) ∧ (¬ y1 = 0 → (¬ (nI L0) = 0 → 0 < L0 ∧ (∀ M5 : ZM, M5 = zms M1 (r0 + 1) 0 x1 → Φ (some (.int 1)) S M5)) ∧ ((nI L0) = 0 → Φ (some (.int 0)) S M1)))) : zW E m_Row_pushAhead 1 S M 0 [some (.ref r0), some (.int x1)] [] Φ := by
  refine z_aload_n d_Row_pushAhead_0 rfl ?_
  refine z_iconst 1 d_Row_pushAhead_1 (by decide) ?_
  refine z_callV (as := [.int 1]) (st := []) i_Row_makeRoom ⟨rfl, rfl⟩ v_Row_makeRoom w_Row_makeRoom l_Row_25 d_Row_pushAhead_2 (by decide) h0.1 rfl (Nat.le_of_ble_eq_true rfl) (Nat.le_of_ble_eq_true rfl) h (fun q1 T1 M1 h => ?_)
  obtain ⟨y1, rfl, rfl, h⟩ := h
  refine z_if_eq 16 d_Row_pushAhead_5 rfl ⟨fun c2 => ?_, fun c2 => ?_⟩
  · replace h := h.1 c2
    refine z_iconst 0 d_Row_pushAhead_16 (by decide) ?_
    exact z_zret rfl d_Row_pushAhead_17 rfl h
  · replace h := h.2 c2
    refine z_aload_n d_Row_pushAhead_8 rfl ?_
    refine z_getr f_Row_15 rfl d_Row_pushAhead_9 h0.1 h0.2.1 ?_
    refine y_alen (nI L0) d_Row_pushAhead_12 h0.2.2 rfl ?_
    refine z_if_ne 18 d_Row_pushAhead_13 rfl ⟨fun c3 => ?_, fun c3 => ?_⟩
    · replace h := h.1 c3
      refine z_aload_n d_Row_pushAhead_18 rfl ?_
      refine z_getr f_Row_15 rfl d_Row_pushAhead_19 h0.1 h0.2.1 ?_
      refine z_iconst 0 d_Row_pushAhead_22 (by decide) ?_
      refine z_iload_n d_Row_pushAhead_23 rfl ?_
      obtain ⟨hj4, h⟩ := h
      refine y_iastore 0 d_Row_pushAhead_24 h0.2.2 hj4 (by decide) ?_
      refine z_mem (fun M5 eM5 => ?_)
      replace h := h M5 eM5
      refine z_iconst 1 d_Row_pushAhead_25 (by decide) ?_
      exact z_zret rfl d_Row_pushAhead_26 rfl h
    · replace h := h.2 c3
      refine z_iconst 0 d_Row_pushAhead_16 (by decide) ?_
      exact z_zret rfl d_Row_pushAhead_17 rfl h

set_option maxRecDepth 20000 in
theorem vc_Row_putAhead_0 (E : ZE) (S : ZS) (M : ZM) (r0 L0 : Nat) (r1 L1 : Nat) (Φ : Option Value → ZS → ZM → Prop) (h0 : zRow S r0 L0) (h1 : zRow S r1 L1) (h : ∀ y1 : Int32, y1 = (M r1 1) → zW E m_Row_makeRoom 0 S M 0 [some (.ref r0), some (.int y1), none] [] (fun q2 T2 M2 => ∃ y2 : Int32, q2 = some (.int y2) ∧ S = T2 ∧ (¬ y2 = 0 → zW E m_Row_putAhead 1 S M2 17 [some (.ref r0), some (.ref r1), some (.int y1), some (.int 0)] [] Φ) ∧ (y2 = 0 → Φ (some (.int 0)) S M2))) : zW E m_Row_putAhead 1 S M 0 [some (.ref r0), some (.ref r1), none, none] [] Φ := by
  refine z_aload_n d_Row_putAhead_0 rfl ?_
  refine z_geti f_Row_21 rfl d_Row_putAhead_1 h1.1 ?_
  refine z_name (fun y1 ey1 => ?_)
  replace h := h y1 ey1
  refine z_istore_n (ls' := [some (.ref r0), some (.ref r1), some (.int y1), none]) d_Row_putAhead_4 (Nat.le_of_ble_eq_true rfl) rfl rfl ?_
  refine z_aload_n d_Row_putAhead_5 rfl ?_
  refine z_iload_n d_Row_putAhead_6 rfl ?_
  refine z_callV (as := [.int y1]) (st := []) i_Row_makeRoom ⟨rfl, rfl⟩ v_Row_makeRoom w_Row_makeRoom l_Row_25 d_Row_putAhead_7 (by decide) h0.1 rfl (Nat.le_of_ble_eq_true rfl) (Nat.le_of_ble_eq_true rfl) h (fun q2 T2 M2 h => ?_)
  obtain ⟨y2, rfl, rfl, h⟩ := h
  refine z_if_ne 15 d_Row_putAhead_10 rfl ⟨fun c3 => ?_, fun c3 => ?_⟩
  · replace h := h.1 c3
    refine z_iconst 0 d_Row_putAhead_15 (by decide) ?_
    refine z_istore_n (ls' := [some (.ref r0), some (.ref r1), some (.int y1), some (.int 0)]) d_Row_putAhead_16 (Nat.le_of_ble_eq_true rfl) rfl rfl ?_
    exact z_forget [some (.ref r0), some (.ref r1), some (.int y1), some (.int 0)] (And.intro rfl (And.intro rfl (And.intro rfl (And.intro rfl (trivial))))) h
  · replace h := h.2 c3
    refine z_iconst 0 d_Row_putAhead_13 (by decide) ?_
    exact z_zret rfl d_Row_putAhead_14 rfl h

set_option maxRecDepth 20000 in
theorem vc_Row_putAhead_17 (E : ZE) (S : ZS) (M : ZM) (r0 L0 : Nat) (r1 L1 : Nat) (x2 : Int32) (x3 : Int32) (Φ : Option Value → ZS → ZM → Prop) (h0 : zRow S r0 L0) (h1 : zRow S r1 L1) (h : (x2 ≤ x3 → Φ (some (.int 1)) S M) ∧ (¬ x2 ≤ x3 → ((nI L0) ≤ x3 → Φ (some (.int 1)) S M) ∧ (¬ (nI L0) ≤ x3 → ((nI L1) ≤ x3 → Φ (some (.int 1)) S M) ∧ (¬ (nI L1) ≤ x3 → ∃ j4 : Nat, j4 < L1 ∧ x3 = nI j4 ∧ (∃ j5 : Nat, j5 < L0 ∧ x3 = nI j5 ∧ (∀ M6 : ZM, M6 = zms M (r0 + 1) j5 (M (r1 + 1) j4) → ∀ y7 : Int32, y7 = x3 + 1 → zW E m_Row_putAhead 1 S M6 17 [some (.ref r0), some (.ref r1), some (.int x2), some (.int y7)] [] Φ)))))) : zW E m_Row_putAhead 1 S M 17 [some (.ref r0), some (.ref r1), some (.int x2), some (.int x3)] [] Φ := by
  refine z_iload_n d_Row_putAhead_17 rfl ?_
  refine z_iload_n d_Row_putAhead_18 rfl ?_
  refine z_icmp_ge 58 d_Row_putAhead_19 rfl ⟨fun c1 => ?_, fun c1 => ?_⟩
  · replace h := h.1 c1
    refine z_iconst 1 d_Row_putAhead_58 (by decide) ?_
    exact z_zret rfl d_Row_putAhead_59 rfl h
  · replace h := h.2 c1
    refine z_iload_n d_Row_putAhead_22 rfl ?_
    refine z_aload_n d_Row_putAhead_23 rfl ?_
    refine z_getr f_Row_15 rfl d_Row_putAhead_24 h0.1 h0.2.1 ?_
    refine y_alen (nI L0) d_Row_putAhead_27 h0.2.2 rfl ?_
    refine z_icmp_ge 58 d_Row_putAhead_28 rfl ⟨fun c2 => ?_, fun c2 => ?_⟩
    · replace h := h.1 c2
      refine z_iconst 1 d_Row_putAhead_58 (by decide) ?_
      exact z_zret rfl d_Row_putAhead_59 rfl h
    · replace h := h.2 c2
      refine z_iload_n d_Row_putAhead_31 rfl ?_
      refine z_aload_n d_Row_putAhead_32 rfl ?_
      refine z_getr f_Row_15 rfl d_Row_putAhead_33 h1.1 h1.2.1 ?_
      refine y_alen (nI L1) d_Row_putAhead_36 h1.2.2 rfl ?_
      refine z_icmp_ge 58 d_Row_putAhead_37 rfl ⟨fun c3 => ?_, fun c3 => ?_⟩
      · replace h := h.1 c3
        refine z_iconst 1 d_Row_putAhead_58 (by decide) ?_
        exact z_zret rfl d_Row_putAhead_59 rfl h
      · replace h := h.2 c3
        refine z_aload_n d_Row_putAhead_40 rfl ?_
        refine z_getr f_Row_15 rfl d_Row_putAhead_41 h0.1 h0.2.1 ?_
        refine z_iload_n d_Row_putAhead_44 rfl ?_
        refine z_aload_n d_Row_putAhead_45 rfl ?_
        refine z_getr f_Row_15 rfl d_Row_putAhead_46 h1.1 h1.2.1 ?_
        refine z_iload_n d_Row_putAhead_49 rfl ?_
        obtain ⟨j4, hj4, ej4, h⟩ := h
        refine y_iaload j4 d_Row_putAhead_50 h1.2.2 hj4 ej4 ?_
        obtain ⟨j5, hj5, ej5, h⟩ := h
        refine y_iastore j5 d_Row_putAhead_51 h0.2.2 hj5 ej5 ?_
        refine z_mem (fun M6 eM6 => ?_)
        replace h := h M6 eM6
        obtain ⟨y7, ey7⟩ : ∃ q : Int32, q = x3 + 1 := ⟨_, rfl⟩
        replace h := h y7 ey7
        refine z_iinc (ls' := [some (.ref r0), some (.ref r1), some (.int x2), some (.int y7)]) y7 d_Row_putAhead_52 rfl (ey7 ▸ rfl) (Nat.le_of_ble_eq_true rfl) rfl rfl ?_
        refine z_goto 17 d_Row_putAhead_55 rfl ?_
        exact z_forget [some (.ref r0), some (.ref r1), some (.int x2), some (.int y7)] (And.intro rfl (And.intro rfl (And.intro rfl (And.intro rfl (trivial))))) h

set_option maxRecDepth 20000 in
theorem vc_Row_makeRoom_0 (E : ZE) (S : ZS) (M : ZM) (r0 L0 : Nat) (x1 : Int32) (Φ : Option Value → ZS → ZM → Prop) (h0 : zRow S r0 L0) (h : (x1 < 0 → Φ (some (.int 0)) S M) ∧ (¬ x1 < 0 → (x1 ≤ ((nI L0) - (M r0 1)) → ∀ y3 : Int32, y3 = ((M r0 1) - 1) → zW E m_Row_makeRoom 0 S M 27 [some (.ref r0), some (.int x1), some (.int y3)] [] Φ) ∧ (¬ x1 ≤ ((nI L0) - (M r0 1)) → Φ (some (.int 0)) S M))) : zW E m_Row_makeRoom 0 S M 0 [some (.ref r0), some (.int x1), none] [] Φ := by
  refine z_iload_n d_Row_makeRoom_0 rfl ?_
  refine z_if_lt 18 d_Row_makeRoom_1 rfl ⟨fun c1 => ?_, fun c1 => ?_⟩
  · replace h := h.1 c1
    refine z_iconst 0 d_Row_makeRoom_18 (by decide) ?_
    exact z_zret rfl d_Row_makeRoom_19 rfl h
  · replace h := h.2 c1
    refine z_iload_n d_Row_makeRoom_4 rfl ?_
    refine z_aload_n d_Row_makeRoom_5 rfl ?_
    refine z_getr f_Row_15 rfl d_Row_makeRoom_6 h0.1 h0.2.1 ?_
    refine y_alen (nI L0) d_Row_makeRoom_9 h0.2.2 rfl ?_
    refine z_aload_n d_Row_makeRoom_10 rfl ?_
    refine z_geti f_Row_21 rfl d_Row_makeRoom_11 h0.1 ?_
    refine z_isub d_Row_makeRoom_14 ?_
    refine z_icmp_le 20 d_Row_makeRoom_15 rfl ⟨fun c2 => ?_, fun c2 => ?_⟩
    · replace h := h.1 c2
      refine z_aload_n d_Row_makeRoom_20 rfl ?_
      refine z_geti f_Row_21 rfl d_Row_makeRoom_21 h0.1 ?_
      refine z_iconst 1 d_Row_makeRoom_24 (by decide) ?_
      refine z_isub d_Row_makeRoom_25 ?_
      refine z_name (fun y3 ey3 => ?_)
      replace h := h y3 ey3
      refine z_istore_n (ls' := [some (.ref r0), some (.int x1), some (.int y3)]) d_Row_makeRoom_26 (Nat.le_of_ble_eq_true rfl) rfl rfl ?_
      exact z_forget [some (.ref r0), some (.int x1), some (.int y3)] (And.intro rfl (And.intro rfl (And.intro rfl (trivial)))) h
    · replace h := h.2 c2
      refine z_iconst 0 d_Row_makeRoom_18 (by decide) ?_
      exact z_zret rfl d_Row_makeRoom_19 rfl h

set_option maxRecDepth 20000 in
theorem vc_Row_makeRoom_27 (E : ZE) (S : ZS) (M : ZM) (r0 L0 : Nat) (x1 : Int32) (x2 : Int32) (Φ : Option Value → ZS → ZM → Prop) (h0 : zRow S r0 L0) (h : (x2 < 0 → ∀ M2 : ZM, M2 = zms M r0 1 ((M r0 1) + x1) → Φ (some (.int 1)) S M2) ∧ (¬ x2 < 0 → ∃ j3 : Nat, j3 < L0 ∧ x2 = nI j3 ∧ (∃ j4 : Nat, j4 < L0 ∧ (x2 + x1) = nI j4 ∧ (∀ M5 : ZM, M5 = zms M (r0 + 1) j4 (M (r0 + 1) j3) → ∀ y6 : Int32, y6 = x2 + (-1) → zW E m_Row_makeRoom 0 S M5 27 [some (.ref r0), some (.int x1), some (.int y6)] [] Φ)))) : zW E m_Row_makeRoom 0 S M 27 [some (.ref r0), some (.int x1), some (.int x2)] [] Φ := by
  refine z_iload_n d_Row_makeRoom_27 rfl ?_
  refine z_if_lt 51 d_Row_makeRoom_28 rfl ⟨fun c1 => ?_, fun c1 => ?_⟩
  · replace h := h.1 c1
    refine z_aload_n d_Row_makeRoom_51 rfl ?_
    refine z_dup d_Row_makeRoom_52 rfl ?_
    refine z_geti f_Row_21 rfl d_Row_makeRoom_53 h0.1 ?_
    refine z_iload_n d_Row_makeRoom_56 rfl ?_
    refine z_iadd d_Row_makeRoom_57 ?_
    refine z_puti (p_Row_21 rfl) rfl d_Row_makeRoom_58 h0.1 rfl rfl ?_
    refine z_mem (fun M2 eM2 => ?_)
    replace h := h M2 eM2
    refine z_iconst 1 d_Row_makeRoom_61 (by decide) ?_
    exact z_zret rfl d_Row_makeRoom_62 rfl h
  · replace h := h.2 c1
    refine z_aload_n d_Row_makeRoom_31 rfl ?_
    refine z_getr f_Row_15 rfl d_Row_makeRoom_32 h0.1 h0.2.1 ?_
    refine z_iload_n d_Row_makeRoom_35 rfl ?_
    refine z_iload_n d_Row_makeRoom_36 rfl ?_
    refine z_iadd d_Row_makeRoom_37 ?_
    refine z_aload_n d_Row_makeRoom_38 rfl ?_
    refine z_getr f_Row_15 rfl d_Row_makeRoom_39 h0.1 h0.2.1 ?_
    refine z_iload_n d_Row_makeRoom_42 rfl ?_
    obtain ⟨j3, hj3, ej3, h⟩ := h
    refine y_iaload j3 d_Row_makeRoom_43 h0.2.2 hj3 ej3 ?_
    obtain ⟨j4, hj4, ej4, h⟩ := h
    refine y_iastore j4 d_Row_makeRoom_44 h0.2.2 hj4 ej4 ?_
    refine z_mem (fun M5 eM5 => ?_)
    replace h := h M5 eM5
    obtain ⟨y6, ey6⟩ : ∃ q : Int32, q = x2 + (-1) := ⟨_, rfl⟩
    replace h := h y6 ey6
    refine z_iinc (ls' := [some (.ref r0), some (.int x1), some (.int y6)]) y6 d_Row_makeRoom_45 rfl (ey6 ▸ rfl) (Nat.le_of_ble_eq_true rfl) rfl rfl ?_
    refine z_goto 27 d_Row_makeRoom_48 rfl ?_
    exact z_forget [some (.ref r0), some (.int x1), some (.int y6)] (And.intro rfl (And.intro rfl (And.intro rfl (trivial)))) h

set_option maxRecDepth 20000 in
theorem vc_Row_dropFirst_0 (E : ZE) (S : ZS) (M : ZM) (r0 L0 : Nat) (x1 : Int32) (Φ : Option Value → ZS → ZM → Prop) (h0 : zRow S r0 L0) (h : (x1 ≤ 0 → Φ none S M) ∧ (¬ x1 ≤ 0 → (x1 ≤ (M r0 1) → ∀ M3 : ZM, M3 = zms M r0 1 ((M r0 1) - x1) → zW E m_Row_dropFirst 0 S M3 25 [some (.ref r0), some (.int x1), some (.int 0)] [] Φ) ∧ (¬ x1 ≤ (M r0 1) → Φ none S M))) : zW E m_Row_dropFirst 0 S M 0 [some (.ref r0), some (.int x1), none] [] Φ := by
  refine z_iload_n d_Row_dropFirst_0 rfl ?_
  refine z_if_le 12 d_Row_dropFirst_1 rfl ⟨fun c1 => ?_, fun c1 => ?_⟩
  · replace h := h.1 c1
    exact z_vret rfl d_Row_dropFirst_12 h
  · replace h := h.2 c1
    refine z_iload_n d_Row_dropFirst_4 rfl ?_
    refine z_aload_n d_Row_dropFirst_5 rfl ?_
    refine z_geti f_Row_21 rfl d_Row_dropFirst_6 h0.1 ?_
    refine z_icmp_le 13 d_Row_dropFirst_9 rfl ⟨fun c2 => ?_, fun c2 => ?_⟩
    · replace h := h.1 c2
      refine z_aload_n d_Row_dropFirst_13 rfl ?_
      refine z_dup d_Row_dropFirst_14 rfl ?_
      refine z_geti f_Row_21 rfl d_Row_dropFirst_15 h0.1 ?_
      refine z_iload_n d_Row_dropFirst_18 rfl ?_
      refine z_isub d_Row_dropFirst_19 ?_
      refine z_puti (p_Row_21 rfl) rfl d_Row_dropFirst_20 h0.1 rfl rfl ?_
      refine z_mem (fun M3 eM3 => ?_)
      replace h := h M3 eM3
      refine z_iconst 0 d_Row_dropFirst_23 (by decide) ?_
      refine z_istore_n (ls' := [some (.ref r0), some (.int x1), some (.int 0)]) d_Row_dropFirst_24 (Nat.le_of_ble_eq_true rfl) rfl rfl ?_
      exact z_forget [some (.ref r0), some (.int x1), some (.int 0)] (And.intro rfl (And.intro rfl (And.intro rfl (trivial)))) h
    · replace h := h.2 c2
      exact z_vret rfl d_Row_dropFirst_12 h

set_option maxRecDepth 20000 in
theorem vc_Row_dropFirst_25 (E : ZE) (S : ZS) (M : ZM) (r0 L0 : Nat) (x1 : Int32) (x2 : Int32) (Φ : Option Value → ZS → ZM → Prop) (h0 : zRow S r0 L0) (h : ((M r0 1) ≤ x2 → Φ none S M) ∧ (¬ (M r0 1) ≤ x2 → ∃ j2 : Nat, j2 < L0 ∧ (x2 + x1) = nI j2 ∧ (∃ j3 : Nat, j3 < L0 ∧ x2 = nI j3 ∧ (∀ M4 : ZM, M4 = zms M (r0 + 1) j3 (M (r0 + 1) j2) → ∀ y5 : Int32, y5 = x2 + 1 → zW E m_Row_dropFirst 0 S M4 25 [some (.ref r0), some (.int x1), some (.int y5)] [] Φ)))) : zW E m_Row_dropFirst 0 S M 25 [some (.ref r0), some (.int x1), some (.int x2)] [] Φ := by
  refine z_iload_n d_Row_dropFirst_25 rfl ?_
  refine z_aload_n d_Row_dropFirst_26 rfl ?_
  refine z_geti f_Row_21 rfl d_Row_dropFirst_27 h0.1 ?_
  refine z_icmp_ge 53 d_Row_dropFirst_30 rfl ⟨fun c1 => ?_, fun c1 => ?_⟩
  · replace h := h.1 c1
    exact z_vret rfl d_Row_dropFirst_53 h
  · replace h := h.2 c1
    refine z_aload_n d_Row_dropFirst_33 rfl ?_
    refine z_getr f_Row_15 rfl d_Row_dropFirst_34 h0.1 h0.2.1 ?_
    refine z_iload_n d_Row_dropFirst_37 rfl ?_
    refine z_aload_n d_Row_dropFirst_38 rfl ?_
    refine z_getr f_Row_15 rfl d_Row_dropFirst_39 h0.1 h0.2.1 ?_
    refine z_iload_n d_Row_dropFirst_42 rfl ?_
    refine z_iload_n d_Row_dropFirst_43 rfl ?_
    refine z_iadd d_Row_dropFirst_44 ?_
    obtain ⟨j2, hj2, ej2, h⟩ := h
    refine y_iaload j2 d_Row_dropFirst_45 h0.2.2 hj2 ej2 ?_
    obtain ⟨j3, hj3, ej3, h⟩ := h
    refine y_iastore j3 d_Row_dropFirst_46 h0.2.2 hj3 ej3 ?_
    refine z_mem (fun M4 eM4 => ?_)
    replace h := h M4 eM4
    obtain ⟨y5, ey5⟩ : ∃ q : Int32, q = x2 + 1 := ⟨_, rfl⟩
    replace h := h y5 ey5
    refine z_iinc (ls' := [some (.ref r0), some (.int x1), some (.int y5)]) y5 d_Row_dropFirst_47 rfl (ey5 ▸ rfl) (Nat.le_of_ble_eq_true rfl) rfl rfl ?_
    refine z_goto 25 d_Row_dropFirst_50 rfl ?_
    exact z_forget [some (.ref r0), some (.int x1), some (.int y5)] (And.intro rfl (And.intro rfl (And.intro rfl (trivial)))) h

set_option maxRecDepth 20000 in
theorem vc_Row_copy_0 (E : ZE) (S : ZS) (M : ZM) (r0 L0 : Nat) (r1 L1 : Nat) (Φ : Option Value → ZS → ZM → Prop) (h0 : zRow S r0 L0) (h1 : zRow S r1 L1) (h : ∀ M1 : ZM, M1 = zms M r0 1 0 → zW E m_Row_copy 0 S M1 7 [some (.ref r0), some (.ref r1), some (.int 0)] [] Φ) : zW E m_Row_copy 0 S M 0 [some (.ref r0), some (.ref r1), none] [] Φ := by
  refine z_aload_n d_Row_copy_0 rfl ?_
  refine z_iconst 0 d_Row_copy_1 (by decide) ?_
  refine z_puti (p_Row_21 rfl) rfl d_Row_copy_2 h0.1 rfl rfl ?_
  refine z_mem (fun M1 eM1 => ?_)
  replace h := h M1 eM1
  refine z_iconst 0 d_Row_copy_5 (by decide) ?_
  refine z_istore_n (ls' := [some (.ref r0), some (.ref r1), some (.int 0)]) d_Row_copy_6 (Nat.le_of_ble_eq_true rfl) rfl rfl ?_
  exact z_forget [some (.ref r0), some (.ref r1), some (.int 0)] (And.intro rfl (And.intro rfl (And.intro rfl (trivial)))) h

set_option maxRecDepth 20000 in
theorem vc_Row_copy_7 (E : ZE) (S : ZS) (M : ZM) (r0 L0 : Nat) (r1 L1 : Nat) (x2 : Int32) (Φ : Option Value → ZS → ZM → Prop) (h0 : zRow S r0 L0) (h1 : zRow S r1 L1) (h : ((M r1 1) ≤ x2 → Φ none S M) ∧ (¬ (M r1 1) ≤ x2 → ((nI L1) ≤ x2 → Φ none S M) ∧ (¬ (nI L1) ≤ x2 → ((nI L0) ≤ x2 → Φ none S M) ∧ (¬ (nI L0) ≤ x2 → ∃ j4 : Nat, j4 < L1 ∧ x2 = nI j4 ∧ (∃ j5 : Nat, j5 < L0 ∧ x2 = nI j5 ∧ (∀ M6 : ZM, M6 = zms M (r0 + 1) j5 (M (r1 + 1) j4) → ∀ M7 : ZM, M7 = zms M6 r0 1 ((M6 r0 1) + 1) → ∀ y8 : Int32, y8 = x2 + 1 → zW E m_Row_copy 0 S M7 7 [some (.ref r0), some (.ref r1), some (.int y8)] [] Φ)))))) : zW E m_Row_copy 0 S M 7 [some (.ref r0), some (.ref r1), some (.int x2)] [] Φ := by
  refine z_iload_n d_Row_copy_7 rfl ?_
  refine z_aload_n d_Row_copy_8 rfl ?_
  refine z_geti f_Row_21 rfl d_Row_copy_9 h1.1 ?_
  refine z_icmp_ge 61 d_Row_copy_12 rfl ⟨fun c1 => ?_, fun c1 => ?_⟩
  · replace h := h.1 c1
    exact z_vret rfl d_Row_copy_61 h
  · replace h := h.2 c1
    refine z_iload_n d_Row_copy_15 rfl ?_
    refine z_aload_n d_Row_copy_16 rfl ?_
    refine z_getr f_Row_15 rfl d_Row_copy_17 h1.1 h1.2.1 ?_
    refine y_alen (nI L1) d_Row_copy_20 h1.2.2 rfl ?_
    refine z_icmp_ge 61 d_Row_copy_21 rfl ⟨fun c2 => ?_, fun c2 => ?_⟩
    · replace h := h.1 c2
      exact z_vret rfl d_Row_copy_61 h
    · replace h := h.2 c2
      refine z_iload_n d_Row_copy_24 rfl ?_
      refine z_aload_n d_Row_copy_25 rfl ?_
      refine z_getr f_Row_15 rfl d_Row_copy_26 h0.1 h0.2.1 ?_
      refine y_alen (nI L0) d_Row_copy_29 h0.2.2 rfl ?_
      refine z_icmp_ge 61 d_Row_copy_30 rfl ⟨fun c3 => ?_, fun c3 => ?_⟩
      · replace h := h.1 c3
        exact z_vret rfl d_Row_copy_61 h
      · replace h := h.2 c3
        refine z_aload_n d_Row_copy_33 rfl ?_
        refine z_getr f_Row_15 rfl d_Row_copy_34 h0.1 h0.2.1 ?_
        refine z_iload_n d_Row_copy_37 rfl ?_
        refine z_aload_n d_Row_copy_38 rfl ?_
        refine z_getr f_Row_15 rfl d_Row_copy_39 h1.1 h1.2.1 ?_
        refine z_iload_n d_Row_copy_42 rfl ?_
        obtain ⟨j4, hj4, ej4, h⟩ := h
        refine y_iaload j4 d_Row_copy_43 h1.2.2 hj4 ej4 ?_
        obtain ⟨j5, hj5, ej5, h⟩ := h
        refine y_iastore j5 d_Row_copy_44 h0.2.2 hj5 ej5 ?_
        refine z_mem (fun M6 eM6 => ?_)
        replace h := h M6 eM6
        refine z_aload_n d_Row_copy_45 rfl ?_
        refine z_dup d_Row_copy_46 rfl ?_
        refine z_geti f_Row_21 rfl d_Row_copy_47 h0.1 ?_
        refine z_iconst 1 d_Row_copy_50 (by decide) ?_
        refine z_iadd d_Row_copy_51 ?_
        refine z_puti (p_Row_21 rfl) rfl d_Row_copy_52 h0.1 rfl rfl ?_
        refine z_mem (fun M7 eM7 => ?_)
        replace h := h M7 eM7
        obtain ⟨y8, ey8⟩ : ∃ q : Int32, q = x2 + 1 := ⟨_, rfl⟩
        replace h := h y8 ey8
        refine z_iinc (ls' := [some (.ref r0), some (.ref r1), some (.int y8)]) y8 d_Row_copy_55 rfl (ey8 ▸ rfl) (Nat.le_of_ble_eq_true rfl) rfl rfl ?_
        refine z_goto 7 d_Row_copy_58 rfl ?_
        exact z_forget [some (.ref r0), some (.ref r1), some (.int y8)] (And.intro rfl (And.intro rfl (And.intro rfl (trivial)))) h

set_option maxRecDepth 20000 in
theorem vc_Row_add_0 (E : ZE) (S : ZS) (M : ZM) (r0 L0 : Nat) (r1 L1 : Nat) (Φ : Option Value → ZS → ZM → Prop) (h0 : zRow S r0 L0) (h1 : zRow S r1 L1) (h : zW E m_Row_add 0 S M 2 [some (.ref r0), some (.ref r1), some (.int 0)] [] Φ) : zW E m_Row_add 0 S M 0 [some (.ref r0), some (.ref r1), none] [] Φ := by
  refine z_iconst 0 d_Row_add_0 (by decide) ?_
  refine z_istore_n (ls' := [some (.ref r0), some (.ref r1), some (.int 0)]) d_Row_add_1 (Nat.le_of_ble_eq_true rfl) rfl rfl ?_
  exact z_forget [some (.ref r0), some (.ref r1), some (.int 0)] (And.intro rfl (And.intro rfl (And.intro rfl (trivial)))) h

set_option maxRecDepth 20000 in
theorem vc_Row_add_2 (E : ZE) (S : ZS) (M : ZM) (r0 L0 : Nat) (r1 L1 : Nat) (x2 : Int32) (Φ : Option Value → ZS → ZM → Prop) (h0 : zRow S r0 L0) (h1 : zRow S r1 L1) (h : ((M r1 1) ≤ x2 → Φ none S M) ∧ (¬ (M r1 1) ≤ x2 → ((nI L1) ≤ x2 → Φ none S M) ∧ (¬ (nI L1) ≤ x2 → ((nI L0) ≤ (M r0 1) → Φ none S M) ∧ (¬ (nI L0) ≤ (M r0 1) → ∃ j4 : Nat, j4 < L1 ∧ x2 = nI j4 ∧ (∃ j5 : Nat, j5 < L0 ∧ (M r0 1) = nI j5 ∧ (∀ M6 : ZM, M6 = zms M (r0 + 1) j5 (M (r1 + 1) j4) → ∀ M7 : ZM, M7 = zms M6 r0 1 ((M6 r0 1) + 1) → ∀ y8 : Int32, y8 = x2 + 1 → zW E m_Row_add 0 S M7 2 [some (.ref r0), some (.ref r1), some (.int y8)] [] Φ)))))) : zW E m_Row_add 0 S M 2 [some (.ref r0), some (.ref r1), some (.int x2)] [] Φ := by
  refine z_iload_n d_Row_add_2 rfl ?_
  refine z_aload_n d_Row_add_3 rfl ?_
  refine z_geti f_Row_21 rfl d_Row_add_4 h1.1 ?_
  refine z_icmp_ge 62 d_Row_add_7 rfl ⟨fun c1 => ?_, fun c1 => ?_⟩
  · replace h := h.1 c1
    exact z_vret rfl d_Row_add_62 h
  · replace h := h.2 c1
    refine z_iload_n d_Row_add_10 rfl ?_
    refine z_aload_n d_Row_add_11 rfl ?_
    refine z_getr f_Row_15 rfl d_Row_add_12 h1.1 h1.2.1 ?_
    refine y_alen (nI L1) d_Row_add_15 h1.2.2 rfl ?_
    refine z_icmp_ge 62 d_Row_add_16 rfl ⟨fun c2 => ?_, fun c2 => ?_⟩
    · replace h := h.1 c2
      exact z_vret rfl d_Row_add_62 h
    · replace h := h.2 c2
      refine z_aload_n d_Row_add_19 rfl ?_
      refine z_geti f_Row_21 rfl d_Row_add_20 h0.1 ?_
      refine z_aload_n d_Row_add_23 rfl ?_
      refine z_getr f_Row_15 rfl d_Row_add_24 h0.1 h0.2.1 ?_
      refine y_alen (nI L0) d_Row_add_27 h0.2.2 rfl ?_
      refine z_icmp_ge 62 d_Row_add_28 rfl ⟨fun c3 => ?_, fun c3 => ?_⟩
      · replace h := h.1 c3
        exact z_vret rfl d_Row_add_62 h
      · replace h := h.2 c3
        refine z_aload_n d_Row_add_31 rfl ?_
        refine z_getr f_Row_15 rfl d_Row_add_32 h0.1 h0.2.1 ?_
        refine z_aload_n d_Row_add_35 rfl ?_
        refine z_geti f_Row_21 rfl d_Row_add_36 h0.1 ?_
        refine z_aload_n d_Row_add_39 rfl ?_
        refine z_getr f_Row_15 rfl d_Row_add_40 h1.1 h1.2.1 ?_
        refine z_iload_n d_Row_add_43 rfl ?_
        obtain ⟨j4, hj4, ej4, h⟩ := h
        refine y_iaload j4 d_Row_add_44 h1.2.2 hj4 ej4 ?_
        obtain ⟨j5, hj5, ej5, h⟩ := h
        refine y_iastore j5 d_Row_add_45 h0.2.2 hj5 ej5 ?_
        refine z_mem (fun M6 eM6 => ?_)
        replace h := h M6 eM6
        refine z_aload_n d_Row_add_46 rfl ?_
        refine z_dup d_Row_add_47 rfl ?_
        refine z_geti f_Row_21 rfl d_Row_add_48 h0.1 ?_
        refine z_iconst 1 d_Row_add_51 (by decide) ?_
        refine z_iadd d_Row_add_52 ?_
        refine z_puti (p_Row_21 rfl) rfl d_Row_add_53 h0.1 rfl rfl ?_
        refine z_mem (fun M7 eM7 => ?_)
        replace h := h M7 eM7
        obtain ⟨y8, ey8⟩ : ∃ q : Int32, q = x2 + 1 := ⟨_, rfl⟩
        replace h := h y8 ey8
        refine z_iinc (ls' := [some (.ref r0), some (.ref r1), some (.int y8)]) y8 d_Row_add_56 rfl (ey8 ▸ rfl) (Nat.le_of_ble_eq_true rfl) rfl rfl ?_
        refine z_goto 2 d_Row_add_59 rfl ?_
        exact z_forget [some (.ref r0), some (.ref r1), some (.int y8)] (And.intro rfl (And.intro rfl (And.intro rfl (trivial)))) h

set_option maxRecDepth 20000 in
theorem vc_Row_copyWithout_0 (E : ZE) (S : ZS) (M : ZM) (r0 L0 : Nat) (r1 L1 : Nat) (x2 : Int32) (Φ : Option Value → ZS → ZM → Prop) (h0 : zRow S r0 L0) (h1 : zRow S r1 L1) (h : ∀ M1 : ZM, M1 = zms M r0 1 0 → zW E m_Row_copyWithout 1 S M1 7 [some (.ref r0), some (.ref r1), some (.int x2), some (.int 0)] [] Φ) : zW E m_Row_copyWithout 1 S M 0 [some (.ref r0), some (.ref r1), some (.int x2), none] [] Φ := by
  refine z_aload_n d_Row_copyWithout_0 rfl ?_
  refine z_iconst 0 d_Row_copyWithout_1 (by decide) ?_
  refine z_puti (p_Row_21 rfl) rfl d_Row_copyWithout_2 h0.1 rfl rfl ?_
  refine z_mem (fun M1 eM1 => ?_)
  replace h := h M1 eM1
  refine z_iconst 0 d_Row_copyWithout_5 (by decide) ?_
  refine z_istore_n (ls' := [some (.ref r0), some (.ref r1), some (.int x2), some (.int 0)]) d_Row_copyWithout_6 (Nat.le_of_ble_eq_true rfl) rfl rfl ?_
  exact z_forget [some (.ref r0), some (.ref r1), some (.int x2), some (.int 0)] (And.intro rfl (And.intro rfl (And.intro rfl (And.intro rfl (trivial))))) h

set_option maxRecDepth 20000 in
theorem vc_Row_copyWithout_7 (E : ZE) (S : ZS) (M : ZM) (r0 L0 : Nat) (r1 L1 : Nat) (x2 : Int32) (x3 : Int32) (Φ : Option Value → ZS → ZM → Prop) (h0 : zRow S r0 L0) (h1 : zRow S r1 L1) (h : ((M r1 1) ≤ x3 → Φ none S M) ∧ (¬ (M r1 1) ≤ x3 → ((nI L1) ≤ x3 → Φ none S M) ∧ (¬ (nI L1) ≤ x3 → ∃ j3 : Nat, j3 < L1 ∧ x3 = nI j3 ∧ (((M (r1 + 1) j3) = x2 → ∀ y5 : Int32, y5 = x3 + 1 → zW E m_Row_copyWithout 1 S M 7 [some (.ref r0), some (.ref r1), some (.int x2), some (.int y5)] [] Φ) ∧ (¬ (M (r1 + 1) j3) = x2 → ∃ j6 : Nat, j6 < L1 ∧ x3 = nI j6 ∧ (zW E m_Row_push 0 S M 0 [some (.ref r0), some (.int (M (r1 + 1) j6))] [] (fun q7 T7 M7 => ∃ y7 : Int32, q7 = some (.int y7) ∧ S = T7 ∧ ∀ y8 : Int32, y8 = x3 + 1 → zW E m_Row_copyWithout 1 S M7 7 [some (.ref r0), some (.ref r1), some (.int x2), some (.int y8)] [] Φ))))))) : zW E m_Row_copyWithout 1 S M 7 [some (.ref r0), some (.ref r1), some (.int x2), some (.int x3)] [] Φ := by
  refine z_iload_n d_Row_copyWithout_7 rfl ?_
  refine z_aload_n d_Row_copyWithout_8 rfl ?_
  refine z_geti f_Row_21 rfl d_Row_copyWithout_9 h1.1 ?_
  refine z_icmp_ge 51 d_Row_copyWithout_12 rfl ⟨fun c1 => ?_, fun c1 => ?_⟩
  · replace h := h.1 c1
    exact z_vret rfl d_Row_copyWithout_51 h
  · replace h := h.2 c1
    refine z_iload_n d_Row_copyWithout_15 rfl ?_
    refine z_aload_n d_Row_copyWithout_16 rfl ?_
    refine z_getr f_Row_15 rfl d_Row_copyWithout_17 h1.1 h1.2.1 ?_
    refine y_alen (nI L1) d_Row_copyWithout_20 h1.2.2 rfl ?_
    refine z_icmp_ge 51 d_Row_copyWithout_21 rfl ⟨fun c2 => ?_, fun c2 => ?_⟩
    · replace h := h.1 c2
      exact z_vret rfl d_Row_copyWithout_51 h
    · replace h := h.2 c2
      refine z_aload_n d_Row_copyWithout_24 rfl ?_
      refine z_getr f_Row_15 rfl d_Row_copyWithout_25 h1.1 h1.2.1 ?_
      refine z_iload_n d_Row_copyWithout_28 rfl ?_
      obtain ⟨j3, hj3, ej3, h⟩ := h
      refine y_iaload j3 d_Row_copyWithout_29 h1.2.2 hj3 ej3 ?_
      refine z_iload_n d_Row_copyWithout_30 rfl ?_
      refine z_icmp_eq 45 d_Row_copyWithout_31 rfl ⟨fun c4 => ?_, fun c4 => ?_⟩
      · replace h := h.1 c4
        obtain ⟨y5, ey5⟩ : ∃ q : Int32, q = x3 + 1 := ⟨_, rfl⟩
        replace h := h y5 ey5
        refine z_iinc (ls' := [some (.ref r0), some (.ref r1), some (.int x2), some (.int y5)]) y5 d_Row_copyWithout_45 rfl (ey5 ▸ rfl) (Nat.le_of_ble_eq_true rfl) rfl rfl ?_
        refine z_goto 7 d_Row_copyWithout_48 rfl ?_
        exact z_forget [some (.ref r0), some (.ref r1), some (.int x2), some (.int y5)] (And.intro rfl (And.intro rfl (And.intro rfl (And.intro rfl (trivial))))) h
      · replace h := h.2 c4
        refine z_aload_n d_Row_copyWithout_34 rfl ?_
        refine z_aload_n d_Row_copyWithout_35 rfl ?_
        refine z_getr f_Row_15 rfl d_Row_copyWithout_36 h1.1 h1.2.1 ?_
        refine z_iload_n d_Row_copyWithout_39 rfl ?_
        obtain ⟨j6, hj6, ej6, h⟩ := h
        refine y_iaload j6 d_Row_copyWithout_40 h1.2.2 hj6 ej6 ?_
        refine z_callV (as := [.int (M (r1 + 1) j6)]) (st := []) i_Row_push ⟨rfl, rfl⟩ v_Row_push w_Row_push l_Row_29 d_Row_copyWithout_41 (by decide) h0.1 rfl (Nat.le_of_ble_eq_true rfl) (Nat.le_of_ble_eq_true rfl) h (fun q7 T7 M7 h => ?_)
        obtain ⟨y7, rfl, rfl, h⟩ := h
        refine z_pop d_Row_copyWithout_44 rfl ?_
        obtain ⟨y8, ey8⟩ : ∃ q : Int32, q = x3 + 1 := ⟨_, rfl⟩
        replace h := h y8 ey8
        refine z_iinc (ls' := [some (.ref r0), some (.ref r1), some (.int x2), some (.int y8)]) y8 d_Row_copyWithout_45 rfl (ey8 ▸ rfl) (Nat.le_of_ble_eq_true rfl) rfl rfl ?_
        refine z_goto 7 d_Row_copyWithout_48 rfl ?_
        exact z_forget [some (.ref r0), some (.ref r1), some (.int x2), some (.int y8)] (And.intro rfl (And.intro rfl (And.intro rfl (And.intro rfl (trivial))))) h

set_option maxRecDepth 20000 in
theorem vc_Row_copyWithAhead_0 (E : ZE) (S : ZS) (M : ZM) (r0 L0 : Nat) (r1 L1 : Nat) (x2 : Int32) (x3 : Int32) (Φ : Option Value → ZS → ZM → Prop) (h0 : zRow S r0 L0) (h1 : zRow S r1 L1) (h : ∀ M1 : ZM, M1 = zms M r0 1 0 → zW E m_Row_copyWithAhead 1 S M1 8 [some (.ref r0), some (.ref r1), some (.int x2), some (.int x3), some (.int 0)] [] Φ) : zW E m_Row_copyWithAhead 1 S M 0 [some (.ref r0), some (.ref r1), some (.int x2), some (.int x3), none] [] Φ := by
  refine z_aload_n d_Row_copyWithAhead_0 rfl ?_
  refine z_iconst 0 d_Row_copyWithAhead_1 (by decide) ?_
  refine z_puti (p_Row_21 rfl) rfl d_Row_copyWithAhead_2 h0.1 rfl rfl ?_
  refine z_mem (fun M1 eM1 => ?_)
  replace h := h M1 eM1
  refine z_iconst 0 d_Row_copyWithAhead_5 (by decide) ?_
  refine z_istore (ls' := [some (.ref r0), some (.ref r1), some (.int x2), some (.int x3), some (.int 0)]) d_Row_copyWithAhead_6 (Nat.le_of_ble_eq_true rfl) rfl rfl ?_
  exact z_forget [some (.ref r0), some (.ref r1), some (.int x2), some (.int x3), some (.int 0)] (And.intro rfl (And.intro rfl (And.intro rfl (And.intro rfl (And.intro rfl (trivial)))))) h

set_option maxRecDepth 20000 in
theorem vc_Row_copyWithAhead_8 (E : ZE) (S : ZS) (M : ZM) (r0 L0 : Nat) (r1 L1 : Nat) (x2 : Int32) (x3 : Int32) (x4 : Int32) (Φ : Option Value → ZS → ZM → Prop) (h0 : zRow S r0 L0) (h1 : zRow S r1 L1) (h : ((M r1 1) ≤ x4 → Φ none S M) ∧ (¬ (M r1 1) ≤ x4 → ((nI L1) ≤ x4 → Φ none S M) ∧ (¬ (nI L1) ≤ x4 → ∃ j3 : Nat, j3 < L1 ∧ x4 = nI j3 ∧ ((¬ (M (r1 + 1) j3) = x2 → ∃ j5 : Nat, j5 < L1 ∧ x4 = nI j5 ∧ (zW E m_Row_push 0 S M 0 [some (.ref r0), some (.int (M (r1 + 1) j5))] [] (fun q6 T6 M6 => ∃ y6 : Int32, q6 = some (.int y6) ∧ S = T6 ∧ ∀ y7 : Int32, y7 = x4 + 1 → zW E m_Row_copyWithAhead 1 S M6 8 [some (.ref r0), some (.ref r1), some (.int x2), some (.int x3), some (.int y7)] [] Φ))) ∧ ((M (r1 + 1) j3) = x2 → zW E m_Row_push 0 S M 0 [some (.ref r0), some (.int x3)] [] (fun q8 T8 M8 => ∃ y8 : Int32, q8 = some (.int y8) ∧ S = T8 ∧ ∃ j9 : Nat, j9 < L1 ∧ x4 = nI j9 ∧ (zW E m_Row_push 0 S M8 0 [some (.ref r0), some (.int (M8 (r1 + 1) j9))] [] (fun q10 T10 M10 => ∃ y10 : Int32, q10 = some (.int y10) ∧ S = T10 ∧ ∀ y11 : Int32, y11 = x4 + 1 → zW E m_Row_copyWithAhead 1 S M10 8 [some (.ref r0), some (.ref r1), some (.int x2), some (.int x3), some (.int y11)] [] Φ)))))))) : zW E m_Row_copyWithAhead 1 S M 8 [some (.ref r0), some (.ref r1), some (.int x2), some (.int x3), some (.int x4)] [] Φ := by
  refine z_iload d_Row_copyWithAhead_8 rfl ?_
  refine z_aload_n d_Row_copyWithAhead_10 rfl ?_
  refine z_geti f_Row_21 rfl d_Row_copyWithAhead_11 h1.1 ?_
  refine z_icmp_ge 62 d_Row_copyWithAhead_14 rfl ⟨fun c1 => ?_, fun c1 => ?_⟩
  · replace h := h.1 c1
    exact z_vret rfl d_Row_copyWithAhead_62 h
  · replace h := h.2 c1
    refine z_iload d_Row_copyWithAhead_17 rfl ?_
    refine z_aload_n d_Row_copyWithAhead_19 rfl ?_
    refine z_getr f_Row_15 rfl d_Row_copyWithAhead_20 h1.1 h1.2.1 ?_
    refine y_alen (nI L1) d_Row_copyWithAhead_23 h1.2.2 rfl ?_
    refine z_icmp_ge 62 d_Row_copyWithAhead_24 rfl ⟨fun c2 => ?_, fun c2 => ?_⟩
    · replace h := h.1 c2
      exact z_vret rfl d_Row_copyWithAhead_62 h
    · replace h := h.2 c2
      refine z_aload_n d_Row_copyWithAhead_27 rfl ?_
      refine z_getr f_Row_15 rfl d_Row_copyWithAhead_28 h1.1 h1.2.1 ?_
      refine z_iload d_Row_copyWithAhead_31 rfl ?_
      obtain ⟨j3, hj3, ej3, h⟩ := h
      refine y_iaload j3 d_Row_copyWithAhead_33 h1.2.2 hj3 ej3 ?_
      refine z_iload_n d_Row_copyWithAhead_34 rfl ?_
      refine z_icmp_ne 44 d_Row_copyWithAhead_35 rfl ⟨fun c4 => ?_, fun c4 => ?_⟩
      · replace h := h.1 c4
        refine z_aload_n d_Row_copyWithAhead_44 rfl ?_
        refine z_aload_n d_Row_copyWithAhead_45 rfl ?_
        refine z_getr f_Row_15 rfl d_Row_copyWithAhead_46 h1.1 h1.2.1 ?_
        refine z_iload d_Row_copyWithAhead_49 rfl ?_
        obtain ⟨j5, hj5, ej5, h⟩ := h
        refine y_iaload j5 d_Row_copyWithAhead_51 h1.2.2 hj5 ej5 ?_
        refine z_callV (as := [.int (M (r1 + 1) j5)]) (st := []) i_Row_push ⟨rfl, rfl⟩ v_Row_push w_Row_push l_Row_29 d_Row_copyWithAhead_52 (by decide) h0.1 rfl (Nat.le_of_ble_eq_true rfl) (Nat.le_of_ble_eq_true rfl) h (fun q6 T6 M6 h => ?_)
        obtain ⟨y6, rfl, rfl, h⟩ := h
        refine z_pop d_Row_copyWithAhead_55 rfl ?_
        obtain ⟨y7, ey7⟩ : ∃ q : Int32, q = x4 + 1 := ⟨_, rfl⟩
        replace h := h y7 ey7
        refine z_iinc (ls' := [some (.ref r0), some (.ref r1), some (.int x2), some (.int x3), some (.int y7)]) y7 d_Row_copyWithAhead_56 rfl (ey7 ▸ rfl) (Nat.le_of_ble_eq_true rfl) rfl rfl ?_
        refine z_goto 8 d_Row_copyWithAhead_59 rfl ?_
        exact z_forget [some (.ref r0), some (.ref r1), some (.int x2), some (.int x3), some (.int y7)] (And.intro rfl (And.intro rfl (And.intro rfl (And.intro rfl (And.intro rfl (trivial)))))) h
      · replace h := h.2 c4
        refine z_aload_n d_Row_copyWithAhead_38 rfl ?_
        refine z_iload_n d_Row_copyWithAhead_39 rfl ?_
        refine z_callV (as := [.int x3]) (st := []) i_Row_push ⟨rfl, rfl⟩ v_Row_push w_Row_push l_Row_29 d_Row_copyWithAhead_40 (by decide) h0.1 rfl (Nat.le_of_ble_eq_true rfl) (Nat.le_of_ble_eq_true rfl) h (fun q8 T8 M8 h => ?_)
        obtain ⟨y8, rfl, rfl, h⟩ := h
        refine z_pop d_Row_copyWithAhead_43 rfl ?_
        refine z_aload_n d_Row_copyWithAhead_44 rfl ?_
        refine z_aload_n d_Row_copyWithAhead_45 rfl ?_
        refine z_getr f_Row_15 rfl d_Row_copyWithAhead_46 h1.1 h1.2.1 ?_
        refine z_iload d_Row_copyWithAhead_49 rfl ?_
        obtain ⟨j9, hj9, ej9, h⟩ := h
        refine y_iaload j9 d_Row_copyWithAhead_51 h1.2.2 hj9 ej9 ?_
        refine z_callV (as := [.int (M8 (r1 + 1) j9)]) (st := []) i_Row_push ⟨rfl, rfl⟩ v_Row_push w_Row_push l_Row_29 d_Row_copyWithAhead_52 (by decide) h0.1 rfl (Nat.le_of_ble_eq_true rfl) (Nat.le_of_ble_eq_true rfl) h (fun q10 T10 M10 h => ?_)
        obtain ⟨y10, rfl, rfl, h⟩ := h
        refine z_pop d_Row_copyWithAhead_55 rfl ?_
        obtain ⟨y11, ey11⟩ : ∃ q : Int32, q = x4 + 1 := ⟨_, rfl⟩
        replace h := h y11 ey11
        refine z_iinc (ls' := [some (.ref r0), some (.ref r1), some (.int x2), some (.int x3), some (.int y11)]) y11 d_Row_copyWithAhead_56 rfl (ey11 ▸ rfl) (Nat.le_of_ble_eq_true rfl) rfl rfl ?_
        refine z_goto 8 d_Row_copyWithAhead_59 rfl ?_
        exact z_forget [some (.ref r0), some (.ref r1), some (.int x2), some (.int x3), some (.int y11)] (And.intro rfl (And.intro rfl (And.intro rfl (And.intro rfl (And.intro rfl (trivial)))))) h

set_option maxRecDepth 20000 in
theorem vc_Row_sameAs_0 (E : ZE) (S : ZS) (M : ZM) (r0 L0 : Nat) (r1 L1 : Nat) (Φ : Option Value → ZS → ZM → Prop) (h0 : zRow S r0 L0) (h1 : zRow S r1 L1) (h : ((M r0 1) = (M r1 1) → zW E m_Row_sameAs 0 S M 15 [some (.ref r0), some (.ref r1), some (.int 0)] [] Φ) ∧ (¬ (M r0 1) = (M r1 1) → Φ (some (.int 0)) S M)) : zW E m_Row_sameAs 0 S M 0 [some (.ref r0), some (.ref r1), none] [] Φ := by
  refine z_aload_n d_Row_sameAs_0 rfl ?_
  refine z_geti f_Row_21 rfl d_Row_sameAs_1 h0.1 ?_
  refine z_aload_n d_Row_sameAs_4 rfl ?_
  refine z_geti f_Row_21 rfl d_Row_sameAs_5 h1.1 ?_
  refine z_icmp_eq 13 d_Row_sameAs_8 rfl ⟨fun c1 => ?_, fun c1 => ?_⟩
  · replace h := h.1 c1
    refine z_iconst 0 d_Row_sameAs_13 (by decide) ?_
    refine z_istore_n (ls' := [some (.ref r0), some (.ref r1), some (.int 0)]) d_Row_sameAs_14 (Nat.le_of_ble_eq_true rfl) rfl rfl ?_
    exact z_forget [some (.ref r0), some (.ref r1), some (.int 0)] (And.intro rfl (And.intro rfl (And.intro rfl (trivial)))) h
  · replace h := h.2 c1
    refine z_iconst 0 d_Row_sameAs_11 (by decide) ?_
    exact z_zret rfl d_Row_sameAs_12 rfl h

set_option maxRecDepth 20000 in
theorem vc_Row_sameAs_15 (E : ZE) (S : ZS) (M : ZM) (r0 L0 : Nat) (r1 L1 : Nat) (x2 : Int32) (Φ : Option Value → ZS → ZM → Prop) (h0 : zRow S r0 L0) (h1 : zRow S r1 L1) (h : ((M r0 1) ≤ x2 → Φ (some (.int 1)) S M) ∧ (¬ (M r0 1) ≤ x2 → ((nI L0) ≤ x2 → Φ (some (.int 1)) S M) ∧ (¬ (nI L0) ≤ x2 → ((nI L1) ≤ x2 → Φ (some (.int 1)) S M) ∧ (¬ (nI L1) ≤ x2 → ∃ j4 : Nat, j4 < L0 ∧ x2 = nI j4 ∧ (∃ j5 : Nat, j5 < L1 ∧ x2 = nI j5 ∧ (((M (r0 + 1) j4) = (M (r1 + 1) j5) → ∀ y7 : Int32, y7 = x2 + 1 → zW E m_Row_sameAs 0 S M 15 [some (.ref r0), some (.ref r1), some (.int y7)] [] Φ) ∧ (¬ (M (r0 + 1) j4) = (M (r1 + 1) j5) → Φ (some (.int 0)) S M))))))) : zW E m_Row_sameAs 0 S M 15 [some (.ref r0), some (.ref r1), some (.int x2)] [] Φ := by
  refine z_iload_n d_Row_sameAs_15 rfl ?_
  refine z_aload_n d_Row_sameAs_16 rfl ?_
  refine z_geti f_Row_21 rfl d_Row_sameAs_17 h0.1 ?_
  refine z_icmp_ge 64 d_Row_sameAs_20 rfl ⟨fun c1 => ?_, fun c1 => ?_⟩
  · replace h := h.1 c1
    refine z_iconst 1 d_Row_sameAs_64 (by decide) ?_
    exact z_zret rfl d_Row_sameAs_65 rfl h
  · replace h := h.2 c1
    refine z_iload_n d_Row_sameAs_23 rfl ?_
    refine z_aload_n d_Row_sameAs_24 rfl ?_
    refine z_getr f_Row_15 rfl d_Row_sameAs_25 h0.1 h0.2.1 ?_
    refine y_alen (nI L0) d_Row_sameAs_28 h0.2.2 rfl ?_
    refine z_icmp_ge 64 d_Row_sameAs_29 rfl ⟨fun c2 => ?_, fun c2 => ?_⟩
    · replace h := h.1 c2
      refine z_iconst 1 d_Row_sameAs_64 (by decide) ?_
      exact z_zret rfl d_Row_sameAs_65 rfl h
    · replace h := h.2 c2
      refine z_iload_n d_Row_sameAs_32 rfl ?_
      refine z_aload_n d_Row_sameAs_33 rfl ?_
      refine z_getr f_Row_15 rfl d_Row_sameAs_34 h1.1 h1.2.1 ?_
      refine y_alen (nI L1) d_Row_sameAs_37 h1.2.2 rfl ?_
      refine z_icmp_ge 64 d_Row_sameAs_38 rfl ⟨fun c3 => ?_, fun c3 => ?_⟩
      · replace h := h.1 c3
        refine z_iconst 1 d_Row_sameAs_64 (by decide) ?_
        exact z_zret rfl d_Row_sameAs_65 rfl h
      · replace h := h.2 c3
        refine z_aload_n d_Row_sameAs_41 rfl ?_
        refine z_getr f_Row_15 rfl d_Row_sameAs_42 h0.1 h0.2.1 ?_
        refine z_iload_n d_Row_sameAs_45 rfl ?_
        obtain ⟨j4, hj4, ej4, h⟩ := h
        refine y_iaload j4 d_Row_sameAs_46 h0.2.2 hj4 ej4 ?_
        refine z_aload_n d_Row_sameAs_47 rfl ?_
        refine z_getr f_Row_15 rfl d_Row_sameAs_48 h1.1 h1.2.1 ?_
        refine z_iload_n d_Row_sameAs_51 rfl ?_
        obtain ⟨j5, hj5, ej5, h⟩ := h
        refine y_iaload j5 d_Row_sameAs_52 h1.2.2 hj5 ej5 ?_
        refine z_icmp_eq 58 d_Row_sameAs_53 rfl ⟨fun c6 => ?_, fun c6 => ?_⟩
        · replace h := h.1 c6
          obtain ⟨y7, ey7⟩ : ∃ q : Int32, q = x2 + 1 := ⟨_, rfl⟩
          replace h := h y7 ey7
          refine z_iinc (ls' := [some (.ref r0), some (.ref r1), some (.int y7)]) y7 d_Row_sameAs_58 rfl (ey7 ▸ rfl) (Nat.le_of_ble_eq_true rfl) rfl rfl ?_
          refine z_goto 15 d_Row_sameAs_61 rfl ?_
          exact z_forget [some (.ref r0), some (.ref r1), some (.int y7)] (And.intro rfl (And.intro rfl (And.intro rfl (trivial)))) h
        · replace h := h.2 c6
          refine z_iconst 0 d_Row_sameAs_56 (by decide) ?_
          exact z_zret rfl d_Row_sameAs_57 rfl h

set_option maxRecDepth 20000 in
theorem vc_Row_sameAtFront_0 (E : ZE) (S : ZS) (M : ZM) (r0 L0 : Nat) (r1 L1 : Nat) (Φ : Option Value → ZS → ZM → Prop) (h0 : zRow S r0 L0) (h1 : zRow S r1 L1) (h : zW E m_Row_sameAtFront 1 S M 2 [some (.ref r0), some (.ref r1), some (.int 0)] [] Φ) : zW E m_Row_sameAtFront 1 S M 0 [some (.ref r0), some (.ref r1), none] [] Φ := by
  refine z_iconst 0 d_Row_sameAtFront_0 (by decide) ?_
  refine z_istore_n (ls' := [some (.ref r0), some (.ref r1), some (.int 0)]) d_Row_sameAtFront_1 (Nat.le_of_ble_eq_true rfl) rfl rfl ?_
  exact z_forget [some (.ref r0), some (.ref r1), some (.int 0)] (And.intro rfl (And.intro rfl (And.intro rfl (trivial)))) h

set_option maxRecDepth 20000 in
theorem vc_Row_sameAtFront_2 (E : ZE) (S : ZS) (M : ZM) (r0 L0 : Nat) (r1 L1 : Nat) (x2 : Int32) (Φ : Option Value → ZS → ZM → Prop) (h0 : zRow S r0 L0) (h1 : zRow S r1 L1) (h : ((M r0 1) ≤ x2 → Φ (some (.int x2)) S M) ∧ (¬ (M r0 1) ≤ x2 → ((M r1 1) ≤ x2 → Φ (some (.int x2)) S M) ∧ (¬ (M r1 1) ≤ x2 → zW E m_Row_at 0 S M 0 [some (.ref r0), some (.int x2)] [] (fun q3 T3 M3 => ∃ y3 : Int32, q3 = some (.int y3) ∧ S = T3 ∧ zW E m_Row_at 0 S M3 0 [some (.ref r1), some (.int x2)] [] (fun q4 T4 M4 => ∃ y4 : Int32, q4 = some (.int y4) ∧ S = T4 ∧ (¬ y3 = y4 → Φ (some (.int x2)) S M4) ∧ (y3 = y4 → ∀ y6 : Int32, y6 = x2 + 1 → zW E m_Row_sameAtFront 1 S M4 2 [some (.ref r0), some (.ref r1), some (.int y6)] [] Φ)))))) : zW E m_Row_sameAtFront 1 S M 2 [some (.ref r0), some (.ref r1), some (.int x2)] [] Φ := by
  refine z_iload_n d_Row_sameAtFront_2 rfl ?_
  refine z_aload_n d_Row_sameAtFront_3 rfl ?_
  refine z_geti f_Row_21 rfl d_Row_sameAtFront_4 h0.1 ?_
  refine z_icmp_ge 37 d_Row_sameAtFront_7 rfl ⟨fun c1 => ?_, fun c1 => ?_⟩
  · replace h := h.1 c1
    refine z_iload_n d_Row_sameAtFront_37 rfl ?_
    exact z_iret rfl d_Row_sameAtFront_38 h
  · replace h := h.2 c1
    refine z_iload_n d_Row_sameAtFront_10 rfl ?_
    refine z_aload_n d_Row_sameAtFront_11 rfl ?_
    refine z_geti f_Row_21 rfl d_Row_sameAtFront_12 h1.1 ?_
    refine z_icmp_ge 37 d_Row_sameAtFront_15 rfl ⟨fun c2 => ?_, fun c2 => ?_⟩
    · replace h := h.1 c2
      refine z_iload_n d_Row_sameAtFront_37 rfl ?_
      exact z_iret rfl d_Row_sameAtFront_38 h
    · replace h := h.2 c2
      refine z_aload_n d_Row_sameAtFront_18 rfl ?_
      refine z_iload_n d_Row_sameAtFront_19 rfl ?_
      refine z_callV (as := [.int x2]) (st := []) i_Row_at ⟨rfl, rfl⟩ v_Row_at w_Row_at l_Row_32 d_Row_sameAtFront_20 (by decide) h0.1 rfl (Nat.le_of_ble_eq_true rfl) (Nat.le_of_ble_eq_true rfl) h (fun q3 T3 M3 h => ?_)
      obtain ⟨y3, rfl, rfl, h⟩ := h
      refine z_aload_n d_Row_sameAtFront_23 rfl ?_
      refine z_iload_n d_Row_sameAtFront_24 rfl ?_
      refine z_callV (as := [.int x2]) (st := [.int y3]) i_Row_at ⟨rfl, rfl⟩ v_Row_at w_Row_at l_Row_32 d_Row_sameAtFront_25 (by decide) h1.1 rfl (Nat.le_of_ble_eq_true rfl) (Nat.le_of_ble_eq_true rfl) h (fun q4 T4 M4 h => ?_)
      obtain ⟨y4, rfl, rfl, h⟩ := h
      refine z_icmp_ne 37 d_Row_sameAtFront_28 rfl ⟨fun c5 => ?_, fun c5 => ?_⟩
      · replace h := h.1 c5
        refine z_iload_n d_Row_sameAtFront_37 rfl ?_
        exact z_iret rfl d_Row_sameAtFront_38 h
      · replace h := h.2 c5
        obtain ⟨y6, ey6⟩ : ∃ q : Int32, q = x2 + 1 := ⟨_, rfl⟩
        replace h := h y6 ey6
        refine z_iinc (ls' := [some (.ref r0), some (.ref r1), some (.int y6)]) y6 d_Row_sameAtFront_31 rfl (ey6 ▸ rfl) (Nat.le_of_ble_eq_true rfl) rfl rfl ?_
        refine z_goto 2 d_Row_sameAtFront_34 rfl ?_
        exact z_forget [some (.ref r0), some (.ref r1), some (.int y6)] (And.intro rfl (And.intro rfl (And.intro rfl (trivial)))) h

set_option maxRecDepth 20000 in
theorem vc_Row_mark_0 (E : ZE) (S : ZS) (M : ZM) (r0 L0 : Nat) (Φ : Option Value → ZS → ZM → Prop) (h0 : zRow S r0 L0) (h : ∀ y1 : Int32, y1 = (M r0 1) → zW E m_Row_mark 0 S M 7 [some (.ref r0), some (.int y1), some (.int 0)] [] Φ) : zW E m_Row_mark 0 S M 0 [some (.ref r0), none, none] [] Φ := by
  refine z_aload_n d_Row_mark_0 rfl ?_
  refine z_geti f_Row_21 rfl d_Row_mark_1 h0.1 ?_
  refine z_name (fun y1 ey1 => ?_)
  replace h := h y1 ey1
  refine z_istore_n (ls' := [some (.ref r0), some (.int y1), none]) d_Row_mark_4 (Nat.le_of_ble_eq_true rfl) rfl rfl ?_
  refine z_iconst 0 d_Row_mark_5 (by decide) ?_
  refine z_istore_n (ls' := [some (.ref r0), some (.int y1), some (.int 0)]) d_Row_mark_6 (Nat.le_of_ble_eq_true rfl) rfl rfl ?_
  exact z_forget [some (.ref r0), some (.int y1), some (.int 0)] (And.intro rfl (And.intro rfl (And.intro rfl (trivial)))) h

set_option maxRecDepth 20000 in
theorem vc_Row_mark_7 (E : ZE) (S : ZS) (M : ZM) (r0 L0 : Nat) (x1 : Int32) (x2 : Int32) (Φ : Option Value → ZS → ZM → Prop) (h0 : zRow S r0 L0) (h : ((M r0 1) ≤ x2 → Φ (some (.int x1)) S M) ∧ (¬ (M r0 1) ≤ x2 → ((nI L0) ≤ x2 → Φ (some (.int x1)) S M) ∧ (¬ (nI L0) ≤ x2 → ∃ j3 : Nat, j3 < L0 ∧ x2 = nI j3 ∧ (∀ y4 : Int32, y4 = (((x1 * 31) + (M (r0 + 1) j3)) + 1) → ∀ y5 : Int32, y5 = x2 + 1 → zW E m_Row_mark 0 S M 7 [some (.ref r0), some (.int y4), some (.int y5)] [] Φ)))) : zW E m_Row_mark 0 S M 7 [some (.ref r0), some (.int x1), some (.int x2)] [] Φ := by
  refine z_iload_n d_Row_mark_7 rfl ?_
  refine z_aload_n d_Row_mark_8 rfl ?_
  refine z_geti f_Row_21 rfl d_Row_mark_9 h0.1 ?_
  refine z_icmp_ge 44 d_Row_mark_12 rfl ⟨fun c1 => ?_, fun c1 => ?_⟩
  · replace h := h.1 c1
    refine z_iload_n d_Row_mark_44 rfl ?_
    exact z_iret rfl d_Row_mark_45 h
  · replace h := h.2 c1
    refine z_iload_n d_Row_mark_15 rfl ?_
    refine z_aload_n d_Row_mark_16 rfl ?_
    refine z_getr f_Row_15 rfl d_Row_mark_17 h0.1 h0.2.1 ?_
    refine y_alen (nI L0) d_Row_mark_20 h0.2.2 rfl ?_
    refine z_icmp_ge 44 d_Row_mark_21 rfl ⟨fun c2 => ?_, fun c2 => ?_⟩
    · replace h := h.1 c2
      refine z_iload_n d_Row_mark_44 rfl ?_
      exact z_iret rfl d_Row_mark_45 h
    · replace h := h.2 c2
      refine z_iload_n d_Row_mark_24 rfl ?_
      refine z_bipush 31 d_Row_mark_25 (by decide) ?_
      refine z_imul d_Row_mark_27 ?_
      refine z_aload_n d_Row_mark_28 rfl ?_
      refine z_getr f_Row_15 rfl d_Row_mark_29 h0.1 h0.2.1 ?_
      refine z_iload_n d_Row_mark_32 rfl ?_
      obtain ⟨j3, hj3, ej3, h⟩ := h
      refine y_iaload j3 d_Row_mark_33 h0.2.2 hj3 ej3 ?_
      refine z_iadd d_Row_mark_34 ?_
      refine z_iconst 1 d_Row_mark_35 (by decide) ?_
      refine z_iadd d_Row_mark_36 ?_
      refine z_name (fun y4 ey4 => ?_)
      replace h := h y4 ey4
      refine z_istore_n (ls' := [some (.ref r0), some (.int y4), some (.int x2)]) d_Row_mark_37 (Nat.le_of_ble_eq_true rfl) rfl rfl ?_
      obtain ⟨y5, ey5⟩ : ∃ q : Int32, q = x2 + 1 := ⟨_, rfl⟩
      replace h := h y5 ey5
      refine z_iinc (ls' := [some (.ref r0), some (.int y4), some (.int y5)]) y5 d_Row_mark_38 rfl (ey5 ▸ rfl) (Nat.le_of_ble_eq_true rfl) rfl rfl ?_
      refine z_goto 7 d_Row_mark_41 rfl ?_
      exact z_forget [some (.ref r0), some (.int y4), some (.int y5)] (And.intro rfl (And.intro rfl (And.intro rfl (trivial)))) h
