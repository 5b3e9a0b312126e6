set_option maxRecDepth 20000 in
theorem vc_Mo_in_0 (E : ZE) (k : Nat) (M : ZM) (w0 : Int64) (w2 : Int64) (w4 : Int64) (Φ : Option Value → ZS → ZM → Prop)  (h : ((lg_cmp w0 w2) < 0 → Φ (some (.int 0)) (zSt k) M) ∧ (¬ (lg_cmp w0 w2) < 0 → (0 < (lg_cmp w0 w4) → Φ (some (.int 0)) (zSt k) M) ∧ (¬ 0 < (lg_cmp w0 w4) → Φ (some (.int 1)) (zSt k) M))) : zW E m_Mo_in 0 (zSt k) M 0 [some (.long w0), none, some (.long w2), none, some (.long w4), none] [] Φ := by
  refine z_lload_n d_Mo_in_0 rfl ?_
  refine z_lload_n d_Mo_in_1 rfl ?_
  refine z_lcmp d_Mo_in_2 ?_
  refine z_if_lt 17 d_Mo_in_3 rfl ⟨fun c1 => ?_, fun c1 => ?_⟩
  · replace h := h.1 c1
    refine z_iconst 0 d_Mo_in_17 (by decide) ?_
    exact z_zret rfl d_Mo_in_18 rfl h
  · replace h := h.2 c1
    refine z_lload_n d_Mo_in_6 rfl ?_
    refine z_lload d_Mo_in_7 rfl ?_
    refine z_lcmp d_Mo_in_9 ?_
    refine z_if_gt 17 d_Mo_in_10 rfl ⟨fun c2 => ?_, fun c2 => ?_⟩
    · replace h := h.1 c2
      refine z_iconst 0 d_Mo_in_17 (by decide) ?_
      exact z_zret rfl d_Mo_in_18 rfl h
    · replace h := h.2 c2
      refine z_iconst 1 d_Mo_in_13 (by decide) ?_
      refine z_goto 18 d_Mo_in_14 rfl ?_
      exact z_zret rfl d_Mo_in_18 rfl h

set_option maxRecDepth 20000 in
theorem vc_Mo_isThird_0 (E : ZE) (k : Nat) (M : ZM) (x0 : Int32) (Φ : Option Value → ZS → ZM → Prop)  (h : zW E m_Mo_in 0 (zSt k) M 0 [some (.long (Int32.toInt64 x0)), none, some (.long 0), none, some (.long 2), none] [] (fun q1 T1 M1 => ∃ y1 : Int32, q1 = some (.int y1) ∧ (zSt k) = T1 ∧ (y1 = 0 ∨ y1 = 1) ∧ Φ (some (.int y1)) (zSt k) M1)) : zW E m_Mo_isThird 1 (zSt k) M 0 [some (.int x0)] [] Φ := by
  refine z_iload_n d_Mo_isThird_0 rfl ?_
  refine z_i2l d_Mo_isThird_1 ?_
  refine z_lconst 0 d_Mo_isThird_2 (by decide) ?_
  refine z_ldc2 2 d_Mo_isThird_3 k_Mo_107 ?_
  refine z_callS (as := [.long (Int32.toInt64 x0), .long 0, .long 2]) (st := []) i_Mo_in s_Mo_in l_Mo_109 d_Mo_isThird_6 (by decide) rfl (Nat.le_of_ble_eq_true rfl) (Nat.le_of_ble_eq_true rfl) h (fun q1 T1 M1 h => ?_)
  obtain ⟨y1, rfl, rfl, h⟩ := h
  exact z_zret rfl d_Mo_isThird_9 (zbool h.1).1 h.2

set_option maxRecDepth 20000 in
theorem vc_Mo_has_0 (E : ZE) (k : Nat) (M : ZM) (x0 : Int32) (x1 : Int32) (Φ : Option Value → ZS → ZM → Prop)  (h : (¬ (((x0 : Int32) >>> (x1 &&& 31)) &&& 1) = 1 → Φ (some (.int 0)) (zSt k) M) ∧ ((((x0 : Int32) >>> (x1 &&& 31)) &&& 1) = 1 → Φ (some (.int 1)) (zSt k) M)) : zW E m_Mo_has 0 (zSt k) M 0 [some (.int x0), some (.int x1)] [] Φ := by
  refine z_iload_n d_Mo_has_0 rfl ?_
  refine z_iload_n d_Mo_has_1 rfl ?_
  refine z_ishr d_Mo_has_2 ?_
  refine z_iconst 1 d_Mo_has_3 (by decide) ?_
  refine z_iand d_Mo_has_4 ?_
  refine z_iconst 1 d_Mo_has_5 (by decide) ?_
  refine z_icmp_ne 13 d_Mo_has_6 rfl ⟨fun c1 => ?_, fun c1 => ?_⟩
  · replace h := h.1 c1
    refine z_iconst 0 d_Mo_has_13 (by decide) ?_
    exact z_zret rfl d_Mo_has_14 rfl h
  · replace h := h.2 c1
    refine z_iconst 1 d_Mo_has_9 (by decide) ?_
    refine z_goto 14 d_Mo_has_10 rfl ?_
    exact z_zret rfl d_Mo_has_14 rfl h

set_option maxRecDepth 20000 in
theorem vc_Mo_say_0 (E : ZE) (k : Nat) (M : ZM) (x1 : Int32) (Φ : Option Value → ZS → ZM → Prop)  (h : zW E m_Mo_in 0 (zSt k) M 0 [some (.long (Int32.toInt64 x1)), none, some (.long 33), none, some (.long 126), none] [] (fun q1 T1 M1 => ∃ y1 : Int32, q1 = some (.int y1) ∧ (zSt k) = T1 ∧ (¬ y1 = 0 → (¬ (M1 83 7) = 40 → ∃ j4 : Nat, j4 < 40 ∧ (M1 83 7) = nI j4 ∧ (∀ M5 : ZM, M5 = zms M1 90 j4 x1 → ∀ M6 : ZM, M6 = zms M5 83 7 ((M5 83 7) + 1) → Φ (some (.int (M6 83 7))) (zSt k) M6)) ∧ ((M1 83 7) = 40 → Φ (some (.int (-4))) (zSt k) M1)) ∧ (y1 = 0 → Φ (some (.int (-2))) (zSt k) M1))) : zW E m_Mo_say 1 (zSt k) M 0 [some (.ref 83), some (.int x1)] [] Φ := by
  refine z_iload_n d_Mo_say_0 rfl ?_
  refine z_i2l d_Mo_say_1 ?_
  refine z_ldc2 33 d_Mo_say_2 k_Mo_113 ?_
  refine z_ldc2 126 d_Mo_say_5 k_Mo_115 ?_
  refine z_callS (as := [.long (Int32.toInt64 x1), .long 33, .long 126]) (st := []) i_Mo_in s_Mo_in l_Mo_109 d_Mo_say_8 (by decide) rfl (Nat.le_of_ble_eq_true rfl) (Nat.le_of_ble_eq_true rfl) h (fun q1 T1 M1 h => ?_)
  obtain ⟨y1, rfl, rfl, h⟩ := h
  refine z_if_ne 17 d_Mo_say_11 rfl ⟨fun c2 => ?_, fun c2 => ?_⟩
  · replace h := h.1 c2
    refine z_aload_n d_Mo_say_17 rfl ?_
    refine z_geti f_Mo_117 rfl d_Mo_say_18 (tA_83 k) ?_
    refine z_bipush 40 d_Mo_say_21 (by decide) ?_
    refine z_icmp_ne 29 d_Mo_say_23 rfl ⟨fun c3 => ?_, fun c3 => ?_⟩
    · replace h := h.1 c3
      refine z_aload_n d_Mo_say_29 rfl ?_
      refine z_getr f_Mo_28 rfl d_Mo_say_30 (tA_83 k) (tr_83_6 k) ?_
      refine z_aload_n d_Mo_say_33 rfl ?_
      refine z_geti f_Mo_117 rfl d_Mo_say_34 (tA_83 k) ?_
      refine z_iload_n d_Mo_say_37 rfl ?_
      obtain ⟨j4, hj4, ej4, h⟩ := h
      refine y_iastore j4 d_Mo_say_38 (ta_90 k) hj4 ej4 ?_
      refine z_mem (fun M5 eM5 => ?_)
      replace h := h M5 eM5
      refine z_aload_n d_Mo_say_39 rfl ?_
      refine z_dup d_Mo_say_40 rfl ?_
      refine z_geti f_Mo_117 rfl d_Mo_say_41 (tA_83 k) ?_
      refine z_iconst 1 d_Mo_say_44 (by decide) ?_
      refine z_iadd d_Mo_say_45 ?_
      refine z_puti (p_Mo_117 rfl) rfl d_Mo_say_46 (tA_83 k) rfl rfl ?_
      refine z_mem (fun M6 eM6 => ?_)
      replace h := h M6 eM6
      refine z_aload_n d_Mo_say_49 rfl ?_
      refine z_geti f_Mo_117 rfl d_Mo_say_50 (tA_83 k) ?_
      exact z_iret rfl d_Mo_say_53 h
    · replace h := h.2 c3
      refine z_bipush (-4) d_Mo_say_26 (by decide) ?_
      exact z_iret rfl d_Mo_say_28 h
  · replace h := h.2 c2
    refine z_bipush (-2) d_Mo_say_14 (by decide) ?_
    exact z_iret rfl d_Mo_say_16 h

set_option maxRecDepth 20000 in
theorem vc_Mo_wipe_0 (E : ZE) (k : Nat) (M : ZM)  (Φ : Option Value → ZS → ZM → Prop)  (h : ∀ y1 : Int32, y1 = (M 83 7) → ∀ M2 : ZM, M2 = zms M 83 7 0 → Φ (some (.int y1)) (zSt k) M2) : zW E m_Mo_wipe 0 (zSt k) M 0 [some (.ref 83), none] [] Φ := by
  refine z_aload_n d_Mo_wipe_0 rfl ?_
  refine z_geti f_Mo_117 rfl d_Mo_wipe_1 (tA_83 k) ?_
  refine z_name (fun y1 ey1 => ?_)
  replace h := h y1 ey1
  refine z_istore_n (ls' := [some (.ref 83), some (.int y1)]) d_Mo_wipe_4 (Nat.le_of_ble_eq_true rfl) rfl rfl ?_
  refine z_aload_n d_Mo_wipe_5 rfl ?_
  refine z_iconst 0 d_Mo_wipe_6 (by decide) ?_
  refine z_puti (p_Mo_117 rfl) rfl d_Mo_wipe_7 (tA_83 k) rfl rfl ?_
  refine z_mem (fun M2 eM2 => ?_)
  replace h := h M2 eM2
  refine z_iload_n d_Mo_wipe_10 rfl ?_
  exact z_iret rfl d_Mo_wipe_11 h

set_option maxRecDepth 20000 in
theorem vc_Mo_symbolOf_0 (E : ZE) (k : Nat) (M : ZM) (x0 : Int32) (Φ : Option Value → ZS → ZM → Prop)  (h : zW E m_Mo_in 0 (zSt k) M 0 [some (.long (Int32.toInt64 x0)), none, some (.long 97), none, some (.long 98), none] [] (fun q1 T1 M1 => ∃ y1 : Int32, q1 = some (.int y1) ∧ (zSt k) = T1 ∧ (y1 = 0 → zW E m_Mo_in 0 (zSt k) M1 0 [some (.long (Int32.toInt64 x0)), none, some (.long 120), none, some (.long 122), none] [] (fun q3 T3 M3 => ∃ y3 : Int32, q3 = some (.int y3) ∧ (zSt k) = T3 ∧ (y3 = 0 → Φ (some (.int (-6))) (zSt k) M3) ∧ (¬ y3 = 0 → Φ (some (.int ((x0 - 120) + 2))) (zSt k) M3))) ∧ (¬ y1 = 0 → Φ (some (.int (x0 - 97))) (zSt k) M1))) : zW E m_Mo_symbolOf 1 (zSt k) M 0 [some (.int x0)] [] Φ := by
  refine z_iload_n d_Mo_symbolOf_0 rfl ?_
  refine z_i2l d_Mo_symbolOf_1 ?_
  refine z_ldc2 97 d_Mo_symbolOf_2 k_Mo_121 ?_
  refine z_ldc2 98 d_Mo_symbolOf_5 k_Mo_123 ?_
  refine z_callS (as := [.long (Int32.toInt64 x0), .long 97, .long 98]) (st := []) i_Mo_in s_Mo_in l_Mo_109 d_Mo_symbolOf_8 (by decide) rfl (Nat.le_of_ble_eq_true rfl) (Nat.le_of_ble_eq_true rfl) h (fun q1 T1 M1 h => ?_)
  obtain ⟨y1, rfl, rfl, h⟩ := h
  refine z_if_eq 21 d_Mo_symbolOf_11 rfl ⟨fun c2 => ?_, fun c2 => ?_⟩
  · replace h := h.1 c2
    refine z_iload_n d_Mo_symbolOf_21 rfl ?_
    refine z_i2l d_Mo_symbolOf_22 ?_
    refine z_ldc2 120 d_Mo_symbolOf_23 k_Mo_125 ?_
    refine z_ldc2 122 d_Mo_symbolOf_26 k_Mo_127 ?_
    refine z_callS (as := [.long (Int32.toInt64 x0), .long 120, .long 122]) (st := []) i_Mo_in s_Mo_in l_Mo_109 d_Mo_symbolOf_29 (by decide) rfl (Nat.le_of_ble_eq_true rfl) (Nat.le_of_ble_eq_true rfl) h (fun q3 T3 M3 h => ?_)
    obtain ⟨y3, rfl, rfl, h⟩ := h
    refine z_if_eq 44 d_Mo_symbolOf_32 rfl ⟨fun c4 => ?_, fun c4 => ?_⟩
    · replace h := h.1 c4
      refine z_bipush (-6) d_Mo_symbolOf_44 (by decide) ?_
      exact z_iret rfl d_Mo_symbolOf_46 h
    · replace h := h.2 c4
      refine z_iload_n d_Mo_symbolOf_35 rfl ?_
      refine z_bipush 120 d_Mo_symbolOf_36 (by decide) ?_
      refine z_isub d_Mo_symbolOf_38 ?_
      refine z_iconst 2 d_Mo_symbolOf_39 (by decide) ?_
      refine z_iadd d_Mo_symbolOf_40 ?_
      refine z_goto 46 d_Mo_symbolOf_41 rfl ?_
      exact z_iret rfl d_Mo_symbolOf_46 h
  · replace h := h.2 c2
    refine z_iload_n d_Mo_symbolOf_14 rfl ?_
    refine z_bipush 97 d_Mo_symbolOf_15 (by decide) ?_
    refine z_isub d_Mo_symbolOf_17 ?_
    refine z_goto 46 d_Mo_symbolOf_18 rfl ?_
    exact z_iret rfl d_Mo_symbolOf_46 h

set_option maxRecDepth 20000 in
theorem vc_Mo_fault_0 (E : ZE) (k : Nat) (M : ZM)  (Φ : Option Value → ZS → ZM → Prop)  (h : ∀ M1 : ZM, M1 = zms M 92 0 0 → ∀ M2 : ZM, M2 = zms M1 92 1 0 → zW E m_Mo_fault 2 (zSt k) M2 18 [some (.ref 83), some (.int 0), some (.int 0), none, none] [] Φ) : zW E m_Mo_fault 2 (zSt k) M 0 [some (.ref 83), none, none, none, none] [] Φ := by
  refine z_aload_n d_Mo_fault_0 rfl ?_
  refine z_getr f_Mo_34 rfl d_Mo_fault_1 (tA_83 k) (tr_83_9 k) ?_
  refine z_iconst 0 d_Mo_fault_4 (by decide) ?_
  refine z_iconst 0 d_Mo_fault_5 (by decide) ?_
  refine y_iastore 0 d_Mo_fault_6 (ta_92 k) (by decide) (by decide) ?_
  refine z_mem (fun M1 eM1 => ?_)
  replace h := h M1 eM1
  refine z_aload_n d_Mo_fault_7 rfl ?_
  refine z_getr f_Mo_34 rfl d_Mo_fault_8 (tA_83 k) (tr_83_9 k) ?_
  refine z_iconst 1 d_Mo_fault_11 (by decide) ?_
  refine z_iconst 0 d_Mo_fault_12 (by decide) ?_
  refine y_iastore 1 d_Mo_fault_13 (ta_92 k) (by decide) (by decide) ?_
  refine z_mem (fun M2 eM2 => ?_)
  replace h := h M2 eM2
  refine z_iconst 0 d_Mo_fault_14 (by decide) ?_
  refine z_istore_n (ls' := [some (.ref 83), some (.int 0), none, none, none]) d_Mo_fault_15 (Nat.le_of_ble_eq_true rfl) rfl rfl ?_
  refine z_iconst 0 d_Mo_fault_16 (by decide) ?_
  refine z_istore_n (ls' := [some (.ref 83), some (.int 0), some (.int 0), none, none]) d_Mo_fault_17 (Nat.le_of_ble_eq_true rfl) rfl rfl ?_
  exact z_forget [some (.ref 83), some (.int 0), some (.int 0), none, none] (And.intro rfl (And.intro rfl (And.intro rfl (trivial)))) h

set_option maxRecDepth 20000 in
theorem vc_Mo_fault_18 (E : ZE) (k : Nat) (M : ZM) (x1 : Int32) (x2 : Int32) (Φ : Option Value → ZS → ZM → Prop)  (h : ((M 83 7) ≤ x2 → (¬ x1 = 1 → Φ (some (.int (M 83 7))) (zSt k) M) ∧ (x1 = 1 → Φ (some (.int (-6))) (zSt k) M)) ∧ (¬ (M 83 7) ≤ x2 → ∃ j3 : Nat, j3 < 40 ∧ x2 = nI j3 ∧ (zW E m_Mo_symbolOf 1 (zSt k) M 0 [some (.int (M 90 j3))] [] (fun q4 T4 M4 => ∃ y4 : Int32, q4 = some (.int y4) ∧ (zSt k) = T4 ∧ ∃ j5 : Nat, j5 < 40 ∧ x2 = nI j5 ∧ ((¬ (M4 90 j5) = 61 → (y4 < 0 → Φ (some (.int x2)) (zSt k) M4) ∧ (¬ y4 < 0 → ∃ j8 : Nat, j8 < 2 ∧ x1 = nI j8 ∧ ((¬ (M4 92 j8) = 12 → ∃ j10 : Nat, j10 < 2 ∧ x1 = nI j10 ∧ (∃ j11 : Nat, j11 < 24 ∧ ((12 * x1) + (M4 92 j10)) = nI j11 ∧ (∀ M12 : ZM, M12 = zms M4 91 j11 y4 → ∃ j13 : Nat, j13 < 2 ∧ x1 = nI j13 ∧ (∃ j14 : Nat, j14 < 2 ∧ x1 = nI j14 ∧ (∀ M15 : ZM, M15 = zms M12 92 j14 ((M12 92 j13) + 1) → ∀ y16 : Int32, y16 = x2 + 1 → zW E m_Mo_fault 2 (zSt k) M15 18 [some (.ref 83), some (.int x1), some (.int y16), none, none] [] Φ))))) ∧ ((M4 92 j8) = 12 → Φ (some (.int x2)) (zSt k) M4)))) ∧ ((M4 90 j5) = 61 → (¬ x1 = 0 → (y4 < 0 → Φ (some (.int x2)) (zSt k) M4) ∧ (¬ y4 < 0 → ∃ j19 : Nat, j19 < 2 ∧ x1 = nI j19 ∧ ((¬ (M4 92 j19) = 12 → ∃ j21 : Nat, j21 < 2 ∧ x1 = nI j21 ∧ (∃ j22 : Nat, j22 < 24 ∧ ((12 * x1) + (M4 92 j21)) = nI j22 ∧ (∀ M23 : ZM, M23 = zms M4 91 j22 y4 → ∃ j24 : Nat, j24 < 2 ∧ x1 = nI j24 ∧ (∃ j25 : Nat, j25 < 2 ∧ x1 = nI j25 ∧ (∀ M26 : ZM, M26 = zms M23 92 j25 ((M23 92 j24) + 1) → ∀ y27 : Int32, y27 = x2 + 1 → zW E m_Mo_fault 2 (zSt k) M26 18 [some (.ref 83), some (.int x1), some (.int y27), none, none] [] Φ))))) ∧ ((M4 92 j19) = 12 → Φ (some (.int x2)) (zSt k) M4)))) ∧ (x1 = 0 → ∀ y28 : Int32, y28 = x2 + 1 → zW E m_Mo_fault 2 (zSt k) M4 18 [some (.ref 83), some (.int 1), some (.int y28), none, none] [] Φ))))))) : zW E m_Mo_fault 2 (zSt k) M 18 [some (.ref 83), some (.int x1), some (.int x2), none, none] [] Φ := by
  refine z_iload_n d_Mo_fault_18 rfl ?_
  refine z_aload_n d_Mo_fault_19 rfl ?_
  refine z_geti f_Mo_117 rfl d_Mo_fault_20 (tA_83 k) ?_
  refine z_icmp_ge 123 d_Mo_fault_23 rfl ⟨fun c1 => ?_, fun c1 => ?_⟩
  · replace h := h.1 c1
    refine z_iload_n d_Mo_fault_123 rfl ?_
    refine z_iconst 1 d_Mo_fault_124 (by decide) ?_
    refine z_icmp_ne 133 d_Mo_fault_125 rfl ⟨fun c2 => ?_, fun c2 => ?_⟩
    · replace h := h.1 c2
      refine z_aload_n d_Mo_fault_133 rfl ?_
      refine z_geti f_Mo_117 rfl d_Mo_fault_134 (tA_83 k) ?_
      exact z_iret rfl d_Mo_fault_137 h
    · replace h := h.2 c2
      refine z_bipush (-6) d_Mo_fault_128 (by decide) ?_
      refine z_goto 137 d_Mo_fault_130 rfl ?_
      exact z_iret rfl d_Mo_fault_137 h
  · replace h := h.2 c1
    refine z_aload_n d_Mo_fault_26 rfl ?_
    refine z_getr f_Mo_28 rfl d_Mo_fault_27 (tA_83 k) (tr_83_6 k) ?_
    refine z_iload_n d_Mo_fault_30 rfl ?_
    obtain ⟨j3, hj3, ej3, h⟩ := h
    refine y_iaload j3 d_Mo_fault_31 (ta_90 k) hj3 ej3 ?_
    refine z_callS (as := [.int (M 90 j3)]) (st := []) i_Mo_symbolOf s_Mo_symbolOf l_Mo_129 d_Mo_fault_32 (by decide) rfl (Nat.le_of_ble_eq_true rfl) (Nat.le_of_ble_eq_true rfl) h (fun q4 T4 M4 h => ?_)
    obtain ⟨y4, rfl, rfl, h⟩ := h
    refine z_istore_n (ls' := [some (.ref 83), some (.int x1), some (.int x2), some (.int y4), none]) d_Mo_fault_35 (Nat.le_of_ble_eq_true rfl) rfl rfl ?_
    refine z_aload_n d_Mo_fault_36 rfl ?_
    refine z_getr f_Mo_28 rfl d_Mo_fault_37 (tA_83 k) (tr_83_6 k) ?_
    refine z_iload_n d_Mo_fault_40 rfl ?_
    obtain ⟨j5, hj5, ej5, h⟩ := h
    refine y_iaload j5 d_Mo_fault_41 (ta_90 k) hj5 ej5 ?_
    refine z_bipush 61 d_Mo_fault_42 (by decide) ?_
    refine z_icmp_ne 55 d_Mo_fault_44 rfl ⟨fun c6 => ?_, fun c6 => ?_⟩
    · replace h := h.1 c6
      refine z_iconst 0 d_Mo_fault_55 (by decide) ?_
      refine z_istore (ls' := [some (.ref 83), some (.int x1), some (.int x2), some (.int y4), some (.int 0)]) d_Mo_fault_56 (Nat.le_of_ble_eq_true rfl) rfl rfl ?_
      refine z_iload d_Mo_fault_58 rfl ?_
      refine z_if_ne 80 d_Mo_fault_60 rfl ⟨fun q => absurd (by decide) q, fun _ => ?_⟩
      refine z_iload_n d_Mo_fault_63 rfl ?_
      refine z_if_lt 78 d_Mo_fault_64 rfl ⟨fun c7 => ?_, fun c7 => ?_⟩
      · replace h := h.1 c7
        refine z_iload_n d_Mo_fault_78 rfl ?_
        exact z_iret rfl d_Mo_fault_79 h
      · replace h := h.2 c7
        refine z_aload_n d_Mo_fault_67 rfl ?_
        refine z_getr f_Mo_34 rfl d_Mo_fault_68 (tA_83 k) (tr_83_9 k) ?_
        refine z_iload_n d_Mo_fault_71 rfl ?_
        obtain ⟨j8, hj8, ej8, h⟩ := h
        refine y_iaload j8 d_Mo_fault_72 (ta_92 k) hj8 ej8 ?_
        refine z_bipush 12 d_Mo_fault_73 (by decide) ?_
        refine z_icmp_ne 80 d_Mo_fault_75 rfl ⟨fun c9 => ?_, fun c9 => ?_⟩
        · replace h := h.1 c9
          refine z_iload d_Mo_fault_80 rfl ?_
          refine z_if_eq 90 d_Mo_fault_82 rfl ⟨fun _ => ?_, fun q => absurd (by decide) q⟩
          refine z_aload_n d_Mo_fault_90 rfl ?_
          refine z_getr f_Mo_31 rfl d_Mo_fault_91 (tA_83 k) (tr_83_8 k) ?_
          refine z_bipush 12 d_Mo_fault_94 (by decide) ?_
          refine z_iload_n d_Mo_fault_96 rfl ?_
          refine z_imul d_Mo_fault_97 ?_
          refine z_aload_n d_Mo_fault_98 rfl ?_
          refine z_getr f_Mo_34 rfl d_Mo_fault_99 (tA_83 k) (tr_83_9 k) ?_
          refine z_iload_n d_Mo_fault_102 rfl ?_
          obtain ⟨j10, hj10, ej10, h⟩ := h
          refine y_iaload j10 d_Mo_fault_103 (ta_92 k) hj10 ej10 ?_
          refine z_iadd d_Mo_fault_104 ?_
          refine z_iload_n d_Mo_fault_105 rfl ?_
          obtain ⟨j11, hj11, ej11, h⟩ := h
          refine y_iastore j11 d_Mo_fault_106 (ta_91 k) hj11 ej11 ?_
          refine z_mem (fun M12 eM12 => ?_)
          replace h := h M12 eM12
          refine z_aload_n d_Mo_fault_107 rfl ?_
          refine z_getr f_Mo_34 rfl d_Mo_fault_108 (tA_83 k) (tr_83_9 k) ?_
          refine z_iload_n d_Mo_fault_111 rfl ?_
          refine z_dup2 d_Mo_fault_112 rfl rfl ?_
          obtain ⟨j13, hj13, ej13, h⟩ := h
          refine y_iaload j13 d_Mo_fault_113 (ta_92 k) hj13 ej13 ?_
          refine z_iconst 1 d_Mo_fault_114 (by decide) ?_
          refine z_iadd d_Mo_fault_115 ?_
          obtain ⟨j14, hj14, ej14, h⟩ := h
          refine y_iastore j14 d_Mo_fault_116 (ta_92 k) hj14 ej14 ?_
          refine z_mem (fun M15 eM15 => ?_)
          replace h := h M15 eM15
          obtain ⟨y16, ey16⟩ : ∃ q : Int32, q = x2 + 1 := ⟨_, rfl⟩
          replace h := h y16 ey16
          refine z_iinc (ls' := [some (.ref 83), some (.int x1), some (.int y16), some (.int y4), some (.int 0)]) y16 d_Mo_fault_117 rfl (ey16 ▸ rfl) (Nat.le_of_ble_eq_true rfl) rfl rfl ?_
          refine z_goto 18 d_Mo_fault_120 rfl ?_
          exact z_forget [some (.ref 83), some (.int x1), some (.int y16), none, none] (And.intro rfl (And.intro rfl (And.intro rfl (trivial)))) h
        · replace h := h.2 c9
          refine z_iload_n d_Mo_fault_78 rfl ?_
          exact z_iret rfl d_Mo_fault_79 h
    · replace h := h.2 c6
      refine z_iload_n d_Mo_fault_47 rfl ?_
      refine z_if_ne 55 d_Mo_fault_48 rfl ⟨fun c17 => ?_, fun c17 => ?_⟩
      · replace h := h.1 c17
        refine z_iconst 0 d_Mo_fault_55 (by decide) ?_
        refine z_istore (ls' := [some (.ref 83), some (.int x1), some (.int x2), some (.int y4), some (.int 0)]) d_Mo_fault_56 (Nat.le_of_ble_eq_true rfl) rfl rfl ?_
        refine z_iload d_Mo_fault_58 rfl ?_
        refine z_if_ne 80 d_Mo_fault_60 rfl ⟨fun q => absurd (by decide) q, fun _ => ?_⟩
        refine z_iload_n d_Mo_fault_63 rfl ?_
        refine z_if_lt 78 d_Mo_fault_64 rfl ⟨fun c18 => ?_, fun c18 => ?_⟩
        · replace h := h.1 c18
          refine z_iload_n d_Mo_fault_78 rfl ?_
          exact z_iret rfl d_Mo_fault_79 h
        · replace h := h.2 c18
          refine z_aload_n d_Mo_fault_67 rfl ?_
          refine z_getr f_Mo_34 rfl d_Mo_fault_68 (tA_83 k) (tr_83_9 k) ?_
          refine z_iload_n d_Mo_fault_71 rfl ?_
          obtain ⟨j19, hj19, ej19, h⟩ := h
          refine y_iaload j19 d_Mo_fault_72 (ta_92 k) hj19 ej19 ?_
          refine z_bipush 12 d_Mo_fault_73 (by decide) ?_
          refine z_icmp_ne 80 d_Mo_fault_75 rfl ⟨fun c20 => ?_, fun c20 => ?_⟩
          · replace h := h.1 c20
            refine z_iload d_Mo_fault_80 rfl ?_
            refine z_if_eq 90 d_Mo_fault_82 rfl ⟨fun _ => ?_, fun q => absurd (by decide) q⟩
            refine z_aload_n d_Mo_fault_90 rfl ?_
            refine z_getr f_Mo_31 rfl d_Mo_fault_91 (tA_83 k) (tr_83_8 k) ?_
            refine z_bipush 12 d_Mo_fault_94 (by decide) ?_
            refine z_iload_n d_Mo_fault_96 rfl ?_
            refine z_imul d_Mo_fault_97 ?_
            refine z_aload_n d_Mo_fault_98 rfl ?_
            refine z_getr f_Mo_34 rfl d_Mo_fault_99 (tA_83 k) (tr_83_9 k) ?_
            refine z_iload_n d_Mo_fault_102 rfl ?_
            obtain ⟨j21, hj21, ej21, h⟩ := h
            refine y_iaload j21 d_Mo_fault_103 (ta_92 k) hj21 ej21 ?_
            refine z_iadd d_Mo_fault_104 ?_
            refine z_iload_n d_Mo_fault_105 rfl ?_
            obtain ⟨j22, hj22, ej22, h⟩ := h
            refine y_iastore j22 d_Mo_fault_106 (ta_91 k) hj22 ej22 ?_
            refine z_mem (fun M23 eM23 => ?_)
            replace h := h M23 eM23
            refine z_aload_n d_Mo_fault_107 rfl ?_
            refine z_getr f_Mo_34 rfl d_Mo_fault_108 (tA_83 k) (tr_83_9 k) ?_
            refine z_iload_n d_Mo_fault_111 rfl ?_
            refine z_dup2 d_Mo_fault_112 rfl rfl ?_
            obtain ⟨j24, hj24, ej24, h⟩ := h
            refine y_iaload j24 d_Mo_fault_113 (ta_92 k) hj24 ej24 ?_
            refine z_iconst 1 d_Mo_fault_114 (by decide) ?_
            refine z_iadd d_Mo_fault_115 ?_
            obtain ⟨j25, hj25, ej25, h⟩ := h
            refine y_iastore j25 d_Mo_fault_116 (ta_92 k) hj25 ej25 ?_
            refine z_mem (fun M26 eM26 => ?_)
            replace h := h M26 eM26
            obtain ⟨y27, ey27⟩ : ∃ q : Int32, q = x2 + 1 := ⟨_, rfl⟩
            replace h := h y27 ey27
            refine z_iinc (ls' := [some (.ref 83), some (.int x1), some (.int y27), some (.int y4), some (.int 0)]) y27 d_Mo_fault_117 rfl (ey27 ▸ rfl) (Nat.le_of_ble_eq_true rfl) rfl rfl ?_
            refine z_goto 18 d_Mo_fault_120 rfl ?_
            exact z_forget [some (.ref 83), some (.int x1), some (.int y27), none, none] (And.intro rfl (And.intro rfl (And.intro rfl (trivial)))) h
          · replace h := h.2 c20
            refine z_iload_n d_Mo_fault_78 rfl ?_
            exact z_iret rfl d_Mo_fault_79 h
      · replace h := h.2 c17
        refine z_iconst 1 d_Mo_fault_51 (by decide) ?_
        refine z_goto 56 d_Mo_fault_52 rfl ?_
        refine z_istore (ls' := [some (.ref 83), some (.int x1), some (.int x2), some (.int y4), some (.int 1)]) d_Mo_fault_56 (Nat.le_of_ble_eq_true rfl) rfl rfl ?_
        refine z_iload d_Mo_fault_58 rfl ?_
        refine z_if_ne 80 d_Mo_fault_60 rfl ⟨fun _ => ?_, fun q => absurd q (by decide)⟩
        refine z_iload d_Mo_fault_80 rfl ?_
        refine z_if_eq 90 d_Mo_fault_82 rfl ⟨fun q => absurd q (by decide), fun _ => ?_⟩
        refine z_iconst 1 d_Mo_fault_85 (by decide) ?_
        refine z_istore_n (ls' := [some (.ref 83), some (.int 1), some (.int x2), some (.int y4), some (.int 1)]) d_Mo_fault_86 (Nat.le_of_ble_eq_true rfl) rfl rfl ?_
        refine z_goto 117 d_Mo_fault_87 rfl ?_
        obtain ⟨y28, ey28⟩ : ∃ q : Int32, q = x2 + 1 := ⟨_, rfl⟩
        replace h := h y28 ey28
        refine z_iinc (ls' := [some (.ref 83), some (.int 1), some (.int y28), some (.int y4), some (.int 1)]) y28 d_Mo_fault_117 rfl (ey28 ▸ rfl) (Nat.le_of_ble_eq_true rfl) rfl rfl ?_
        refine z_goto 18 d_Mo_fault_120 rfl ?_
        exact z_forget [some (.ref 83), some (.int 1), some (.int y28), none, none] (And.intro rfl (And.intro rfl (And.intro rfl (trivial)))) h

set_option maxRecDepth 20000 in
theorem vc_Mo_load_0 (E : ZE) (k : Nat) (M : ZM)  (Φ : Option Value → ZS → ZM → Prop)  (h : zW E m_Mo_fault 2 (zSt k) M 0 [some (.ref 83), none, none, none, none] [] (fun q1 T1 M1 => ∃ y1 : Int32, q1 = some (.int y1) ∧ (zSt k) = T1 ∧ (y1 < 0 → zW E m_Mo_load 3 (zSt k) M1 12 [some (.ref 83), some (.int 0)] [] Φ) ∧ (¬ y1 < 0 → Φ (some (.int (-5))) (zSt k) M1))) : zW E m_Mo_load 3 (zSt k) M 0 [some (.ref 83), none] [] Φ := by
  refine z_aload_n d_Mo_load_0 rfl ?_
  refine z_callV (as := []) (st := []) i_Mo_fault ⟨rfl, rfl⟩ v_Mo_fault w_Mo_fault l_Mo_133 d_Mo_load_1 (by decide) (tA_83 k) rfl (Nat.le_of_ble_eq_true rfl) (Nat.le_of_ble_eq_true rfl) h (fun q1 T1 M1 h => ?_)
  obtain ⟨y1, rfl, rfl, h⟩ := h
  refine z_if_lt 10 d_Mo_load_4 rfl ⟨fun c2 => ?_, fun c2 => ?_⟩
  · replace h := h.1 c2
    refine z_iconst 0 d_Mo_load_10 (by decide) ?_
    refine z_istore_n (ls' := [some (.ref 83), some (.int 0)]) d_Mo_load_11 (Nat.le_of_ble_eq_true rfl) rfl rfl ?_
    exact z_forget [some (.ref 83), some (.int 0)] (And.intro rfl (And.intro rfl (trivial))) h
  · replace h := h.2 c2
    refine z_bipush (-5) d_Mo_load_7 (by decide) ?_
    exact z_iret rfl d_Mo_load_9 h

set_option maxRecDepth 20000 in
theorem vc_Mo_load_12 (E : ZE) (k : Nat) (M : ZM) (x1 : Int32) (Φ : Option Value → ZS → ZM → Prop)  (h : (24 ≤ x1 → ∀ M2 : ZM, M2 = zms M 85 0 (M 92 0) → ∀ M3 : ZM, M3 = zms M2 85 1 (M2 92 1) → ∀ M4 : ZM, M4 = zms M3 83 7 0 → ∀ M5 : ZM, M5 = zms M4 83 22 0 → Φ (some (.int ((M5 85 0) + (M5 85 1)))) (zSt k) M5) ∧ (¬ 24 ≤ x1 → ∃ j6 : Nat, j6 < 24 ∧ x1 = nI j6 ∧ (∃ j7 : Nat, j7 < 24 ∧ x1 = nI j7 ∧ (∀ M8 : ZM, M8 = zms M 84 j7 (M 91 j6) → ∀ y9 : Int32, y9 = x1 + 1 → zW E m_Mo_load 3 (zSt k) M8 12 [some (.ref 83), some (.int y9)] [] Φ)))) : zW E m_Mo_load 3 (zSt k) M 12 [some (.ref 83), some (.int x1)] [] Φ := by
  refine z_iload_n d_Mo_load_12 rfl ?_
  refine z_bipush 24 d_Mo_load_13 (by decide) ?_
  refine z_icmp_ge 36 d_Mo_load_15 rfl ⟨fun c1 => ?_, fun c1 => ?_⟩
  · replace h := h.1 c1
    refine z_aload_n d_Mo_load_36 rfl ?_
    refine z_getr f_Mo_13 rfl d_Mo_load_37 (tA_83 k) (tr_83_1 k) ?_
    refine z_iconst 0 d_Mo_load_40 (by decide) ?_
    refine z_aload_n d_Mo_load_41 rfl ?_
    refine z_getr f_Mo_34 rfl d_Mo_load_42 (tA_83 k) (tr_83_9 k) ?_
    refine z_iconst 0 d_Mo_load_45 (by decide) ?_
    refine y_iaload 0 d_Mo_load_46 (ta_92 k) (by decide) (by decide) ?_
    refine y_iastore 0 d_Mo_load_47 (ta_85 k) (by decide) (by decide) ?_
    refine z_mem (fun M2 eM2 => ?_)
    replace h := h M2 eM2
    refine z_aload_n d_Mo_load_48 rfl ?_
    refine z_getr f_Mo_13 rfl d_Mo_load_49 (tA_83 k) (tr_83_1 k) ?_
    refine z_iconst 1 d_Mo_load_52 (by decide) ?_
    refine z_aload_n d_Mo_load_53 rfl ?_
    refine z_getr f_Mo_34 rfl d_Mo_load_54 (tA_83 k) (tr_83_9 k) ?_
    refine z_iconst 1 d_Mo_load_57 (by decide) ?_
    refine y_iaload 1 d_Mo_load_58 (ta_92 k) (by decide) (by decide) ?_
    refine y_iastore 1 d_Mo_load_59 (ta_85 k) (by decide) (by decide) ?_
    refine z_mem (fun M3 eM3 => ?_)
    replace h := h M3 eM3
    refine z_aload_n d_Mo_load_60 rfl ?_
    refine z_iconst 0 d_Mo_load_61 (by decide) ?_
    refine z_puti (p_Mo_117 rfl) rfl d_Mo_load_62 (tA_83 k) rfl rfl ?_
    refine z_mem (fun M4 eM4 => ?_)
    replace h := h M4 eM4
    refine z_aload_n d_Mo_load_65 rfl ?_
    refine z_iconst 0 d_Mo_load_66 (by decide) ?_
    refine z_puti (p_Mo_137 rfl) rfl d_Mo_load_67 (tA_83 k) rfl rfl ?_
    refine z_mem (fun M5 eM5 => ?_)
    replace h := h M5 eM5
    refine z_aload_n d_Mo_load_70 rfl ?_
    refine z_getr f_Mo_13 rfl d_Mo_load_71 (tA_83 k) (tr_83_1 k) ?_
    refine z_iconst 0 d_Mo_load_74 (by decide) ?_
    refine y_iaload 0 d_Mo_load_75 (ta_85 k) (by decide) (by decide) ?_
    refine z_aload_n d_Mo_load_76 rfl ?_
    refine z_getr f_Mo_13 rfl d_Mo_load_77 (tA_83 k) (tr_83_1 k) ?_
    refine z_iconst 1 d_Mo_load_80 (by decide) ?_
    refine y_iaload 1 d_Mo_load_81 (ta_85 k) (by decide) (by decide) ?_
    refine z_iadd d_Mo_load_82 ?_
    exact z_iret rfl d_Mo_load_83 h
  · replace h := h.2 c1
    refine z_aload_n d_Mo_load_18 rfl ?_
    refine z_getr f_Mo_7 rfl d_Mo_load_19 (tA_83 k) (tr_83_0 k) ?_
    refine z_iload_n d_Mo_load_22 rfl ?_
    refine z_aload_n d_Mo_load_23 rfl ?_
    refine z_getr f_Mo_31 rfl d_Mo_load_24 (tA_83 k) (tr_83_8 k) ?_
    refine z_iload_n d_Mo_load_27 rfl ?_
    obtain ⟨j6, hj6, ej6, h⟩ := h
    refine y_iaload j6 d_Mo_load_28 (ta_91 k) hj6 ej6 ?_
    obtain ⟨j7, hj7, ej7, h⟩ := h
    refine y_iastore j7 d_Mo_load_29 (ta_84 k) hj7 ej7 ?_
    refine z_mem (fun M8 eM8 => ?_)
    replace h := h M8 eM8
    obtain ⟨y9, ey9⟩ : ∃ q : Int32, q = x1 + 1 := ⟨_, rfl⟩
    replace h := h y9 ey9
    refine z_iinc (ls' := [some (.ref 83), some (.int y9)]) y9 d_Mo_load_30 rfl (ey9 ▸ rfl) (Nat.le_of_ble_eq_true rfl) rfl rfl ?_
    refine z_goto 12 d_Mo_load_33 rfl ?_
    exact z_forget [some (.ref 83), some (.int y9)] (And.intro rfl (And.intro rfl (trivial))) h

set_option maxRecDepth 20000 in
theorem vc_Mo_leads_0 (E : ZE) (k : Nat) (M : ZM) (x1 : Int32) (x2 : Int32) (x3 : Int32) (Φ : Option Value → ZS → ZM → Prop)  (h : zW E m_Mo_isThird 1 (zSt k) M 0 [some (.int x1)] [] (fun q1 T1 M1 => ∃ y1 : Int32, q1 = some (.int y1) ∧ (zSt k) = T1 ∧ (y1 = 0 → Φ (some (.int (-1))) (zSt k) M1) ∧ (¬ y1 = 0 → zW E m_Mo_in 0 (zSt k) M1 0 [some (.long (Int32.toInt64 x2)), none, some (.long 0), none, some (.long 1), none] [] (fun q3 T3 M3 => ∃ y3 : Int32, q3 = some (.int y3) ∧ (zSt k) = T3 ∧ (y3 = 0 → Φ (some (.int (-1))) (zSt k) M3) ∧ (¬ y3 = 0 → zW E m_Mo_isThird 1 (zSt k) M3 0 [some (.int x3)] [] (fun q5 T5 M5 => ∃ y5 : Int32, q5 = some (.int y5) ∧ (zSt k) = T5 ∧ (¬ y5 = 0 → ∃ j7 : Nat, j7 < 6 ∧ ((3 * x2) + x1) = nI j7 ∧ (∀ y8 : Int32, y8 = (M5 86 j7) → ∃ j9 : Nat, j9 < 6 ∧ ((3 * x2) + x1) = nI j9 ∧ (∀ M10 : ZM, M10 = zms M5 86 j9 x3 → ∀ M11 : ZM, M11 = zms M10 83 22 0 → Φ (some (.int y8)) (zSt k) M11))) ∧ (y5 = 0 → Φ (some (.int (-1))) (zSt k) M5))))))) : zW E m_Mo_leads 2 (zSt k) M 0 [some (.ref 83), some (.int x1), some (.int x2), some (.int x3), none] [] Φ := by
  refine z_iload_n d_Mo_leads_0 rfl ?_
  refine z_callS (as := [.int x1]) (st := []) i_Mo_isThird s_Mo_isThird l_Mo_141 d_Mo_leads_1 (by decide) rfl (Nat.le_of_ble_eq_true rfl) (Nat.le_of_ble_eq_true rfl) h (fun q1 T1 M1 h => ?_)
  obtain ⟨y1, rfl, rfl, h⟩ := h
  refine z_if_eq 24 d_Mo_leads_4 rfl ⟨fun c2 => ?_, fun c2 => ?_⟩
  · replace h := h.1 c2
    refine z_iconst (-1) d_Mo_leads_24 (by decide) ?_
    exact z_iret rfl d_Mo_leads_25 h
  · replace h := h.2 c2
    refine z_iload_n d_Mo_leads_7 rfl ?_
    refine z_i2l d_Mo_leads_8 ?_
    refine z_lconst 0 d_Mo_leads_9 (by decide) ?_
    refine z_lconst 1 d_Mo_leads_10 (by decide) ?_
    refine z_callS (as := [.long (Int32.toInt64 x2), .long 0, .long 1]) (st := []) i_Mo_in s_Mo_in l_Mo_109 d_Mo_leads_11 (by decide) rfl (Nat.le_of_ble_eq_true rfl) (Nat.le_of_ble_eq_true rfl) h (fun q3 T3 M3 h => ?_)
    obtain ⟨y3, rfl, rfl, h⟩ := h
    refine z_if_eq 24 d_Mo_leads_14 rfl ⟨fun c4 => ?_, fun c4 => ?_⟩
    · replace h := h.1 c4
      refine z_iconst (-1) d_Mo_leads_24 (by decide) ?_
      exact z_iret rfl d_Mo_leads_25 h
    · replace h := h.2 c4
      refine z_iload_n d_Mo_leads_17 rfl ?_
      refine z_callS (as := [.int x3]) (st := []) i_Mo_isThird s_Mo_isThird l_Mo_141 d_Mo_leads_18 (by decide) rfl (Nat.le_of_ble_eq_true rfl) (Nat.le_of_ble_eq_true rfl) h (fun q5 T5 M5 h => ?_)
      obtain ⟨y5, rfl, rfl, h⟩ := h
      refine z_if_ne 26 d_Mo_leads_21 rfl ⟨fun c6 => ?_, fun c6 => ?_⟩
      · replace h := h.1 c6
        refine z_aload_n d_Mo_leads_26 rfl ?_
        refine z_getr f_Mo_16 rfl d_Mo_leads_27 (tA_83 k) (tr_83_2 k) ?_
        refine z_iconst 3 d_Mo_leads_30 (by decide) ?_
        refine z_iload_n d_Mo_leads_31 rfl ?_
        refine z_imul d_Mo_leads_32 ?_
        refine z_iload_n d_Mo_leads_33 rfl ?_
        refine z_iadd d_Mo_leads_34 ?_
        obtain ⟨j7, hj7, ej7, h⟩ := h
        refine y_iaload j7 d_Mo_leads_35 (ta_86 k) hj7 ej7 ?_
        refine z_name (fun y8 ey8 => ?_)
        replace h := h y8 ey8
        refine z_istore (ls' := [some (.ref 83), some (.int x1), some (.int x2), some (.int x3), some (.int y8)]) d_Mo_leads_36 (Nat.le_of_ble_eq_true rfl) rfl rfl ?_
        refine z_aload_n d_Mo_leads_38 rfl ?_
        refine z_getr f_Mo_16 rfl d_Mo_leads_39 (tA_83 k) (tr_83_2 k) ?_
        refine z_iconst 3 d_Mo_leads_42 (by decide) ?_
        refine z_iload_n d_Mo_leads_43 rfl ?_
        refine z_imul d_Mo_leads_44 ?_
        refine z_iload_n d_Mo_leads_45 rfl ?_
        refine z_iadd d_Mo_leads_46 ?_
        refine z_iload_n d_Mo_leads_47 rfl ?_
        obtain ⟨j9, hj9, ej9, h⟩ := h
        refine y_iastore j9 d_Mo_leads_48 (ta_86 k) hj9 ej9 ?_
        refine z_mem (fun M10 eM10 => ?_)
        replace h := h M10 eM10
        refine z_aload_n d_Mo_leads_49 rfl ?_
        refine z_iconst 0 d_Mo_leads_50 (by decide) ?_
        refine z_puti (p_Mo_137 rfl) rfl d_Mo_leads_51 (tA_83 k) rfl rfl ?_
        refine z_mem (fun M11 eM11 => ?_)
        replace h := h M11 eM11
        refine z_iload d_Mo_leads_54 rfl ?_
        exact z_iret rfl d_Mo_leads_56 h
      · replace h := h.2 c6
        refine z_iconst (-1) d_Mo_leads_24 (by decide) ?_
        exact z_iret rfl d_Mo_leads_25 h

set_option maxRecDepth 20000 in
theorem vc_Mo_need_0 (E : ZE) (k : Nat) (M : ZM) (x1 : Int32) (x2 : Int32) (x3 : Int32) (Φ : Option Value → ZS → ZM → Prop)  (h : zW E m_Mo_isThird 1 (zSt k) M 0 [some (.int x1)] [] (fun q1 T1 M1 => ∃ y1 : Int32, q1 = some (.int y1) ∧ (zSt k) = T1 ∧ (y1 = 0 → Φ (some (.int (-1))) (zSt k) M1) ∧ (¬ y1 = 0 → zW E m_Mo_isThird 1 (zSt k) M1 0 [some (.int x2)] [] (fun q3 T3 M3 => ∃ y3 : Int32, q3 = some (.int y3) ∧ (zSt k) = T3 ∧ (¬ y3 = 0 → zW E m_Mo_in 0 (zSt k) M3 0 [some (.long (Int32.toInt64 x3)), none, some (.long 0), none, some (.long 7), none] [] (fun q5 T5 M5 => ∃ y5 : Int32, q5 = some (.int y5) ∧ (zSt k) = T5 ∧ (¬ y5 = 0 → ∃ j7 : Nat, j7 < 9 ∧ ((3 * x1) + x2) = nI j7 ∧ (∀ y8 : Int32, y8 = (M5 87 j7) → ∃ j9 : Nat, j9 < 9 ∧ ((3 * x1) + x2) = nI j9 ∧ (∀ M10 : ZM, M10 = zms M5 87 j9 x3 → ∀ M11 : ZM, M11 = zms M10 83 22 0 → Φ (some (.int y8)) (zSt k) M11))) ∧ (y5 = 0 → Φ (some (.int (-2))) (zSt k) M5))) ∧ (y3 = 0 → Φ (some (.int (-1))) (zSt k) M3))))) : zW E m_Mo_need 2 (zSt k) M 0 [some (.ref 83), some (.int x1), some (.int x2), some (.int x3), none] [] Φ := by
  refine z_iload_n d_Mo_need_0 rfl ?_
  refine z_callS (as := [.int x1]) (st := []) i_Mo_isThird s_Mo_isThird l_Mo_141 d_Mo_need_1 (by decide) rfl (Nat.le_of_ble_eq_true rfl) (Nat.le_of_ble_eq_true rfl) h (fun q1 T1 M1 h => ?_)
  obtain ⟨y1, rfl, rfl, h⟩ := h
  refine z_if_eq 14 d_Mo_need_4 rfl ⟨fun c2 => ?_, fun c2 => ?_⟩
  · replace h := h.1 c2
    refine z_iconst (-1) d_Mo_need_14 (by decide) ?_
    exact z_iret rfl d_Mo_need_15 h
  · replace h := h.2 c2
    refine z_iload_n d_Mo_need_7 rfl ?_
    refine z_callS (as := [.int x2]) (st := []) i_Mo_isThird s_Mo_isThird l_Mo_141 d_Mo_need_8 (by decide) rfl (Nat.le_of_ble_eq_true rfl) (Nat.le_of_ble_eq_true rfl) h (fun q3 T3 M3 h => ?_)
    obtain ⟨y3, rfl, rfl, h⟩ := h
    refine z_if_ne 16 d_Mo_need_11 rfl ⟨fun c4 => ?_, fun c4 => ?_⟩
    · replace h := h.1 c4
      refine z_iload_n d_Mo_need_16 rfl ?_
      refine z_i2l d_Mo_need_17 ?_
      refine z_lconst 0 d_Mo_need_18 (by decide) ?_
      refine z_ldc2 7 d_Mo_need_19 k_Mo_145 ?_
      refine z_callS (as := [.long (Int32.toInt64 x3), .long 0, .long 7]) (st := []) i_Mo_in s_Mo_in l_Mo_109 d_Mo_need_22 (by decide) rfl (Nat.le_of_ble_eq_true rfl) (Nat.le_of_ble_eq_true rfl) h (fun q5 T5 M5 h => ?_)
      obtain ⟨y5, rfl, rfl, h⟩ := h
      refine z_if_ne 31 d_Mo_need_25 rfl ⟨fun c6 => ?_, fun c6 => ?_⟩
      · replace h := h.1 c6
        refine z_aload_n d_Mo_need_31 rfl ?_
        refine z_getr f_Mo_19 rfl d_Mo_need_32 (tA_83 k) (tr_83_3 k) ?_
        refine z_iconst 3 d_Mo_need_35 (by decide) ?_
        refine z_iload_n d_Mo_need_36 rfl ?_
        refine z_imul d_Mo_need_37 ?_
        refine z_iload_n d_Mo_need_38 rfl ?_
        refine z_iadd d_Mo_need_39 ?_
        obtain ⟨j7, hj7, ej7, h⟩ := h
        refine y_iaload j7 d_Mo_need_40 (ta_87 k) hj7 ej7 ?_
        refine z_name (fun y8 ey8 => ?_)
        replace h := h y8 ey8
        refine z_istore (ls' := [some (.ref 83), some (.int x1), some (.int x2), some (.int x3), some (.int y8)]) d_Mo_need_41 (Nat.le_of_ble_eq_true rfl) rfl rfl ?_
        refine z_aload_n d_Mo_need_43 rfl ?_
        refine z_getr f_Mo_19 rfl d_Mo_need_44 (tA_83 k) (tr_83_3 k) ?_
        refine z_iconst 3 d_Mo_need_47 (by decide) ?_
        refine z_iload_n d_Mo_need_48 rfl ?_
        refine z_imul d_Mo_need_49 ?_
        refine z_iload_n d_Mo_need_50 rfl ?_
        refine z_iadd d_Mo_need_51 ?_
        refine z_iload_n d_Mo_need_52 rfl ?_
        obtain ⟨j9, hj9, ej9, h⟩ := h
        refine y_iastore j9 d_Mo_need_53 (ta_87 k) hj9 ej9 ?_
        refine z_mem (fun M10 eM10 => ?_)
        replace h := h M10 eM10
        refine z_aload_n d_Mo_need_54 rfl ?_
        refine z_iconst 0 d_Mo_need_55 (by decide) ?_
        refine z_puti (p_Mo_137 rfl) rfl d_Mo_need_56 (tA_83 k) rfl rfl ?_
        refine z_mem (fun M11 eM11 => ?_)
        replace h := h M11 eM11
        refine z_iload d_Mo_need_59 rfl ?_
        exact z_iret rfl d_Mo_need_61 h
      · replace h := h.2 c6
        refine z_bipush (-2) d_Mo_need_28 (by decide) ?_
        exact z_iret rfl d_Mo_need_30 h
    · replace h := h.2 c4
      refine z_iconst (-1) d_Mo_need_14 (by decide) ?_
      exact z_iret rfl d_Mo_need_15 h

set_option maxRecDepth 20000 in
theorem vc_Mo_isDone_0 (E : ZE) (k : Nat) (M : ZM) (x1 : Int32) (x2 : Int32) (x3 : Int32) (Φ : Option Value → ZS → ZM → Prop)  (h : zW E m_Mo_isDone 0 (zSt k) M 6 [some (.ref 83), some (.int x1), some (.int x2), some (.int x3), some (.int 0), some (.int 0)] [] Φ) : zW E m_Mo_isDone 0 (zSt k) M 0 [some (.ref 83), some (.int x1), some (.int x2), some (.int x3), none, none] [] Φ := by
  refine z_iconst 0 d_Mo_isDone_0 (by decide) ?_
  refine z_istore (ls' := [some (.ref 83), some (.int x1), some (.int x2), some (.int x3), some (.int 0), none]) d_Mo_isDone_1 (Nat.le_of_ble_eq_true rfl) rfl rfl ?_
  refine z_iconst 0 d_Mo_isDone_3 (by decide) ?_
  refine z_istore (ls' := [some (.ref 83), some (.int x1), some (.int x2), some (.int x3), some (.int 0), some (.int 0)]) d_Mo_isDone_4 (Nat.le_of_ble_eq_true rfl) rfl rfl ?_
  exact z_forget [some (.ref 83), some (.int x1), some (.int x2), some (.int x3), some (.int 0), some (.int 0)] (And.intro rfl (And.intro rfl (And.intro rfl (And.intro rfl (And.intro rfl (And.intro rfl (trivial))))))) h

set_option maxRecDepth 20000 in
theorem vc_Mo_isDone_6 (E : ZE) (k : Nat) (M : ZM) (x1 : Int32) (x2 : Int32) (x3 : Int32) (x4 : Int32) (x5 : Int32) (Φ : Option Value → ZS → ZM → Prop)  (h : ((M 83 13) ≤ x5 → (x4 = 0 ∨ x4 = 1) ∧ Φ (some (.int x4)) (zSt k) M) ∧ (¬ (M 83 13) ≤ x5 → (¬ x4 = 0 → ∀ y3 : Int32, y3 = x5 + 1 → zW E m_Mo_isDone 0 (zSt k) M 6 [some (.ref 83), some (.int x1), some (.int x2), some (.int x3), some (.int 1), some (.int y3)] [] Φ) ∧ (x4 = 0 → ∃ j4 : Nat, j4 < 81 ∧ (3 * x5) = nI j4 ∧ ((¬ (M 93 j4) = x1 → ∀ y6 : Int32, y6 = x5 + 1 → zW E m_Mo_isDone 0 (zSt k) M 6 [some (.ref 83), some (.int x1), some (.int x2), some (.int x3), some (.int 0), some (.int y6)] [] Φ) ∧ ((M 93 j4) = x1 → ∃ j7 : Nat, j7 < 81 ∧ ((3 * x5) + 1) = nI j7 ∧ ((¬ (M 93 j7) = x2 → ∀ y9 : Int32, y9 = x5 + 1 → zW E m_Mo_isDone 0 (zSt k) M 6 [some (.ref 83), some (.int x1), some (.int x2), some (.int x3), some (.int 0), some (.int y9)] [] Φ) ∧ ((M 93 j7) = x2 → ∃ j10 : Nat, j10 < 81 ∧ ((3 * x5) + 2) = nI j10 ∧ ((¬ (M 93 j10) = x3 → ∀ y12 : Int32, y12 = x5 + 1 → zW E m_Mo_isDone 0 (zSt k) M 6 [some (.ref 83), some (.int x1), some (.int x2), some (.int x3), some (.int 0), some (.int y12)] [] Φ) ∧ ((M 93 j10) = x3 → ∀ y13 : Int32, y13 = x5 + 1 → zW E m_Mo_isDone 0 (zSt k) M 6 [some (.ref 83), some (.int x1), some (.int x2), some (.int x3), some (.int 1), some (.int y13)] [] Φ))))))))) : zW E m_Mo_isDone 0 (zSt k) M 6 [some (.ref 83), some (.int x1), some (.int x2), some (.int x3), some (.int x4), some (.int x5)] [] Φ := by
  refine z_iload d_Mo_isDone_6 rfl ?_
  refine z_aload_n d_Mo_isDone_8 rfl ?_
  refine z_geti f_Mo_147 rfl d_Mo_isDone_9 (tA_83 k) ?_
  refine z_icmp_ge 76 d_Mo_isDone_12 rfl ⟨fun c1 => ?_, fun c1 => ?_⟩
  · replace h := h.1 c1
    refine z_iload d_Mo_isDone_76 rfl ?_
    exact z_zret rfl d_Mo_isDone_78 (zbool h.1).1 h.2
  · replace h := h.2 c1
    refine z_iload d_Mo_isDone_15 rfl ?_
    refine z_if_ne 63 d_Mo_isDone_17 rfl ⟨fun c2 => ?_, fun c2 => ?_⟩
    · replace h := h.1 c2
      refine z_iconst 1 d_Mo_isDone_63 (by decide) ?_
      refine z_goto 68 d_Mo_isDone_64 rfl ?_
      refine z_istore (ls' := [some (.ref 83), some (.int x1), some (.int x2), some (.int x3), some (.int 1), some (.int x5)]) d_Mo_isDone_68 (Nat.le_of_ble_eq_true rfl) rfl rfl ?_
      obtain ⟨y3, ey3⟩ : ∃ q : Int32, q = x5 + 1 := ⟨_, rfl⟩
      replace h := h y3 ey3
      refine z_iinc (ls' := [some (.ref 83), some (.int x1), some (.int x2), some (.int x3), some (.int 1), some (.int y3)]) y3 d_Mo_isDone_70 rfl (ey3 ▸ rfl) (Nat.le_of_ble_eq_true rfl) rfl rfl ?_
      refine z_goto 6 d_Mo_isDone_73 rfl ?_
      exact z_forget [some (.ref 83), some (.int x1), some (.int x2), some (.int x3), some (.int 1), some (.int y3)] (And.intro rfl (And.intro rfl (And.intro rfl (And.intro rfl (And.intro rfl (And.intro rfl (trivial))))))) h
    · replace h := h.2 c2
      refine z_aload_n d_Mo_isDone_20 rfl ?_
      refine z_getr f_Mo_37 rfl d_Mo_isDone_21 (tA_83 k) (tr_83_10 k) ?_
      refine z_iconst 3 d_Mo_isDone_24 (by decide) ?_
      refine z_iload d_Mo_isDone_25 rfl ?_
      refine z_imul d_Mo_isDone_27 ?_
      obtain ⟨j4, hj4, ej4, h⟩ := h
      refine y_iaload j4 d_Mo_isDone_28 (ta_93 k) hj4 ej4 ?_
      refine z_iload_n d_Mo_isDone_29 rfl ?_
      refine z_icmp_ne 67 d_Mo_isDone_30 rfl ⟨fun c5 => ?_, fun c5 => ?_⟩
      · replace h := h.1 c5
        refine z_iconst 0 d_Mo_isDone_67 (by decide) ?_
        refine z_istore (ls' := [some (.ref 83), some (.int x1), some (.int x2), some (.int x3), some (.int 0), some (.int x5)]) d_Mo_isDone_68 (Nat.le_of_ble_eq_true rfl) rfl rfl ?_
        obtain ⟨y6, ey6⟩ : ∃ q : Int32, q = x5 + 1 := ⟨_, rfl⟩
        replace h := h y6 ey6
        refine z_iinc (ls' := [some (.ref 83), some (.int x1), some (.int x2), some (.int x3), some (.int 0), some (.int y6)]) y6 d_Mo_isDone_70 rfl (ey6 ▸ rfl) (Nat.le_of_ble_eq_true rfl) rfl rfl ?_
        refine z_goto 6 d_Mo_isDone_73 rfl ?_
        exact z_forget [some (.ref 83), some (.int x1), some (.int x2), some (.int x3), some (.int 0), some (.int y6)] (And.intro rfl (And.intro rfl (And.intro rfl (And.intro rfl (And.intro rfl (And.intro rfl (trivial))))))) h
      · replace h := h.2 c5
        refine z_aload_n d_Mo_isDone_33 rfl ?_
        refine z_getr f_Mo_37 rfl d_Mo_isDone_34 (tA_83 k) (tr_83_10 k) ?_
        refine z_iconst 3 d_Mo_isDone_37 (by decide) ?_
        refine z_iload d_Mo_isDone_38 rfl ?_
        refine z_imul d_Mo_isDone_40 ?_
        refine z_iconst 1 d_Mo_isDone_41 (by decide) ?_
        refine z_iadd d_Mo_isDone_42 ?_
        obtain ⟨j7, hj7, ej7, h⟩ := h
        refine y_iaload j7 d_Mo_isDone_43 (ta_93 k) hj7 ej7 ?_
        refine z_iload_n d_Mo_isDone_44 rfl ?_
        refine z_icmp_ne 67 d_Mo_isDone_45 rfl ⟨fun c8 => ?_, fun c8 => ?_⟩
        · replace h := h.1 c8
          refine z_iconst 0 d_Mo_isDone_67 (by decide) ?_
          refine z_istore (ls' := [some (.ref 83), some (.int x1), some (.int x2), some (.int x3), some (.int 0), some (.int x5)]) d_Mo_isDone_68 (Nat.le_of_ble_eq_true rfl) rfl rfl ?_
          obtain ⟨y9, ey9⟩ : ∃ q : Int32, q = x5 + 1 := ⟨_, rfl⟩
          replace h := h y9 ey9
          refine z_iinc (ls' := [some (.ref 83), some (.int x1), some (.int x2), some (.int x3), some (.int 0), some (.int y9)]) y9 d_Mo_isDone_70 rfl (ey9 ▸ rfl) (Nat.le_of_ble_eq_true rfl) rfl rfl ?_
          refine z_goto 6 d_Mo_isDone_73 rfl ?_
          exact z_forget [some (.ref 83), some (.int x1), some (.int x2), some (.int x3), some (.int 0), some (.int y9)] (And.intro rfl (And.intro rfl (And.intro rfl (And.intro rfl (And.intro rfl (And.intro rfl (trivial))))))) h
        · replace h := h.2 c8
          refine z_aload_n d_Mo_isDone_48 rfl ?_
          refine z_getr f_Mo_37 rfl d_Mo_isDone_49 (tA_83 k) (tr_83_10 k) ?_
          refine z_iconst 3 d_Mo_isDone_52 (by decide) ?_
          refine z_iload d_Mo_isDone_53 rfl ?_
          refine z_imul d_Mo_isDone_55 ?_
          refine z_iconst 2 d_Mo_isDone_56 (by decide) ?_
          refine z_iadd d_Mo_isDone_57 ?_
          obtain ⟨j10, hj10, ej10, h⟩ := h
          refine y_iaload j10 d_Mo_isDone_58 (ta_93 k) hj10 ej10 ?_
          refine z_iload_n d_Mo_isDone_59 rfl ?_
          refine z_icmp_ne 67 d_Mo_isDone_60 rfl ⟨fun c11 => ?_, fun c11 => ?_⟩
          · replace h := h.1 c11
            refine z_iconst 0 d_Mo_isDone_67 (by decide) ?_
            refine z_istore (ls' := [some (.ref 83), some (.int x1), some (.int x2), some (.int x3), some (.int 0), some (.int x5)]) d_Mo_isDone_68 (Nat.le_of_ble_eq_true rfl) rfl rfl ?_
            obtain ⟨y12, ey12⟩ : ∃ q : Int32, q = x5 + 1 := ⟨_, rfl⟩
            replace h := h y12 ey12
            refine z_iinc (ls' := [some (.ref 83), some (.int x1), some (.int x2), some (.int x3), some (.int 0), some (.int y12)]) y12 d_Mo_isDone_70 rfl (ey12 ▸ rfl) (Nat.le_of_ble_eq_true rfl) rfl rfl ?_
            refine z_goto 6 d_Mo_isDone_73 rfl ?_
            exact z_forget [some (.ref 83), some (.int x1), some (.int x2), some (.int x3), some (.int 0), some (.int y12)] (And.intro rfl (And.intro rfl (And.intro rfl (And.intro rfl (And.intro rfl (And.intro rfl (trivial))))))) h
          · replace h := h.2 c11
            refine z_iconst 1 d_Mo_isDone_63 (by decide) ?_
            refine z_goto 68 d_Mo_isDone_64 rfl ?_
            refine z_istore (ls' := [some (.ref 83), some (.int x1), some (.int x2), some (.int x3), some (.int 1), some (.int x5)]) d_Mo_isDone_68 (Nat.le_of_ble_eq_true rfl) rfl rfl ?_
            obtain ⟨y13, ey13⟩ : ∃ q : Int32, q = x5 + 1 := ⟨_, rfl⟩
            replace h := h y13 ey13
            refine z_iinc (ls' := [some (.ref 83), some (.int x1), some (.int x2), some (.int x3), some (.int 1), some (.int y13)]) y13 d_Mo_isDone_70 rfl (ey13 ▸ rfl) (Nat.le_of_ble_eq_true rfl) rfl rfl ?_
            refine z_goto 6 d_Mo_isDone_73 rfl ?_
            exact z_forget [some (.ref 83), some (.int x1), some (.int x2), some (.int x3), some (.int 1), some (.int y13)] (And.intro rfl (And.intro rfl (And.intro rfl (And.intro rfl (And.intro rfl (And.intro rfl (trivial))))))) h

set_option maxRecDepth 20000 in
theorem vc_Mo_addDone_0 (E : ZE) (k : Nat) (M : ZM) (x1 : Int32) (x2 : Int32) (x3 : Int32) (x4 : Int32) (x5 : Int32) (Φ : Option Value → ZS → ZM → Prop)  (h : zW E m_Mo_isDone 0 (zSt k) M 0 [some (.ref 83), some (.int x1), some (.int x2), some (.int x3), none, none] [] (fun q1 T1 M1 => ∃ y1 : Int32, q1 = some (.int y1) ∧ (zSt k) = T1 ∧ (¬ y1 = 0 → Φ none (zSt k) M1) ∧ (y1 = 0 → ∃ j3 : Nat, j3 < 81 ∧ (3 * (M1 83 13)) = nI j3 ∧ (∀ M4 : ZM, M4 = zms M1 93 j3 x1 → ∃ j5 : Nat, j5 < 81 ∧ ((3 * (M4 83 13)) + 1) = nI j5 ∧ (∀ M6 : ZM, M6 = zms M4 93 j5 x2 → ∃ j7 : Nat, j7 < 81 ∧ ((3 * (M6 83 13)) + 2) = nI j7 ∧ (∀ M8 : ZM, M8 = zms M6 93 j7 x3 → ∃ j9 : Nat, j9 < 27 ∧ (M8 83 13) = nI j9 ∧ (∀ M10 : ZM, M10 = zms M8 94 j9 x4 → ∃ j11 : Nat, j11 < 27 ∧ (M10 83 13) = nI j11 ∧ (∀ M12 : ZM, M12 = zms M10 95 j11 x5 → ∀ M13 : ZM, M13 = zms M12 83 13 ((M12 83 13) + 1) → Φ none (zSt k) M13)))))))) : zW E m_Mo_addDone 1 (zSt k) M 0 [some (.ref 83), some (.int x1), some (.int x2), some (.int x3), some (.int x4), some (.int x5)] [] Φ := by
  refine z_aload_n d_Mo_addDone_0 rfl ?_
  refine z_iload_n d_Mo_addDone_1 rfl ?_
  refine z_iload_n d_Mo_addDone_2 rfl ?_
  refine z_iload_n d_Mo_addDone_3 rfl ?_
  refine z_callV (as := [.int x1, .int x2, .int x3]) (st := []) i_Mo_isDone ⟨rfl, rfl⟩ v_Mo_isDone w_Mo_isDone l_Mo_150 d_Mo_addDone_4 (by decide) (tA_83 k) rfl (Nat.le_of_ble_eq_true rfl) (Nat.le_of_ble_eq_true rfl) h (fun q1 T1 M1 h => ?_)
  obtain ⟨y1, rfl, rfl, h⟩ := h
  refine z_if_ne 82 d_Mo_addDone_7 rfl ⟨fun c2 => ?_, fun c2 => ?_⟩
  · replace h := h.1 c2
    exact z_vret rfl d_Mo_addDone_82 h
  · replace h := h.2 c2
    refine z_aload_n d_Mo_addDone_10 rfl ?_
    refine z_getr f_Mo_37 rfl d_Mo_addDone_11 (tA_83 k) (tr_83_10 k) ?_
    refine z_iconst 3 d_Mo_addDone_14 (by decide) ?_
    refine z_aload_n d_Mo_addDone_15 rfl ?_
    refine z_geti f_Mo_147 rfl d_Mo_addDone_16 (tA_83 k) ?_
    refine z_imul d_Mo_addDone_19 ?_
    refine z_iload_n d_Mo_addDone_20 rfl ?_
    obtain ⟨j3, hj3, ej3, h⟩ := h
    refine y_iastore j3 d_Mo_addDone_21 (ta_93 k) hj3 ej3 ?_
    refine z_mem (fun M4 eM4 => ?_)
    replace h := h M4 eM4
    refine z_aload_n d_Mo_addDone_22 rfl ?_
    refine z_getr f_Mo_37 rfl d_Mo_addDone_23 (tA_83 k) (tr_83_10 k) ?_
    refine z_iconst 3 d_Mo_addDone_26 (by decide) ?_
    refine z_aload_n d_Mo_addDone_27 rfl ?_
    refine z_geti f_Mo_147 rfl d_Mo_addDone_28 (tA_83 k) ?_
    refine z_imul d_Mo_addDone_31 ?_
    refine z_iconst 1 d_Mo_addDone_32 (by decide) ?_
    refine z_iadd d_Mo_addDone_33 ?_
    refine z_iload_n d_Mo_addDone_34 rfl ?_
    obtain ⟨j5, hj5, ej5, h⟩ := h
    refine y_iastore j5 d_Mo_addDone_35 (ta_93 k) hj5 ej5 ?_
    refine z_mem (fun M6 eM6 => ?_)
    replace h := h M6 eM6
    refine z_aload_n d_Mo_addDone_36 rfl ?_
    refine z_getr f_Mo_37 rfl d_Mo_addDone_37 (tA_83 k) (tr_83_10 k) ?_
    refine z_iconst 3 d_Mo_addDone_40 (by decide) ?_
    refine z_aload_n d_Mo_addDone_41 rfl ?_
    refine z_geti f_Mo_147 rfl d_Mo_addDone_42 (tA_83 k) ?_
    refine z_imul d_Mo_addDone_45 ?_
    refine z_iconst 2 d_Mo_addDone_46 (by decide) ?_
    refine z_iadd d_Mo_addDone_47 ?_
    refine z_iload_n d_Mo_addDone_48 rfl ?_
    obtain ⟨j7, hj7, ej7, h⟩ := h
    refine y_iastore j7 d_Mo_addDone_49 (ta_93 k) hj7 ej7 ?_
    refine z_mem (fun M8 eM8 => ?_)
    replace h := h M8 eM8
    refine z_aload_n d_Mo_addDone_50 rfl ?_
    refine z_getr f_Mo_40 rfl d_Mo_addDone_51 (tA_83 k) (tr_83_11 k) ?_
    refine z_aload_n d_Mo_addDone_54 rfl ?_
    refine z_geti f_Mo_147 rfl d_Mo_addDone_55 (tA_83 k) ?_
    refine z_iload d_Mo_addDone_58 rfl ?_
    obtain ⟨j9, hj9, ej9, h⟩ := h
    refine y_iastore j9 d_Mo_addDone_60 (ta_94 k) hj9 ej9 ?_
    refine z_mem (fun M10 eM10 => ?_)
    replace h := h M10 eM10
    refine z_aload_n d_Mo_addDone_61 rfl ?_
    refine z_getr f_Mo_43 rfl d_Mo_addDone_62 (tA_83 k) (tr_83_12 k) ?_
    refine z_aload_n d_Mo_addDone_65 rfl ?_
    refine z_geti f_Mo_147 rfl d_Mo_addDone_66 (tA_83 k) ?_
    refine z_iload d_Mo_addDone_69 rfl ?_
    obtain ⟨j11, hj11, ej11, h⟩ := h
    refine y_iastore j11 d_Mo_addDone_71 (ta_95 k) hj11 ej11 ?_
    refine z_mem (fun M12 eM12 => ?_)
    replace h := h M12 eM12
    refine z_aload_n d_Mo_addDone_72 rfl ?_
    refine z_dup d_Mo_addDone_73 rfl ?_
    refine z_geti f_Mo_147 rfl d_Mo_addDone_74 (tA_83 k) ?_
    refine z_iconst 1 d_Mo_addDone_77 (by decide) ?_
    refine z_iadd d_Mo_addDone_78 ?_
    refine z_puti (p_Mo_147 rfl) rfl d_Mo_addDone_79 (tA_83 k) rfl rfl ?_
    refine z_mem (fun M13 eM13 => ?_)
    replace h := h M13 eM13
    exact z_vret rfl d_Mo_addDone_82 h

set_option maxRecDepth 20000 in
theorem vc_Mo_findDone_0 (E : ZE) (k : Nat) (M : ZM)  (Φ : Option Value → ZS → ZM → Prop)  (h : ∀ M1 : ZM, M1 = zms M 83 13 0 → zW E m_Mo_addDone 1 (zSt k) M1 0 [some (.ref 83), some (.int 0), some (.int 1), some (.int 2), some (.int 0), some (.int 0)] [] (fun q2 T2 M2 => q2 = none ∧ (zSt k) = T2 ∧ zW E m_Mo_findDone 2 (zSt k) M2 16 [some (.ref 83), some (.int 0), none, none] [] Φ)) : zW E m_Mo_findDone 2 (zSt k) M 0 [some (.ref 83), none, none, none] [] Φ := by
  refine z_aload_n d_Mo_findDone_0 rfl ?_
  refine z_iconst 0 d_Mo_findDone_1 (by decide) ?_
  refine z_puti (p_Mo_147 rfl) rfl d_Mo_findDone_2 (tA_83 k) rfl rfl ?_
  refine z_mem (fun M1 eM1 => ?_)
  replace h := h M1 eM1
  refine z_aload_n d_Mo_findDone_5 rfl ?_
  refine z_iconst 0 d_Mo_findDone_6 (by decide) ?_
  refine z_iconst 1 d_Mo_findDone_7 (by decide) ?_
  refine z_iconst 2 d_Mo_findDone_8 (by decide) ?_
  refine z_iconst 0 d_Mo_findDone_9 (by decide) ?_
  refine z_iconst 0 d_Mo_findDone_10 (by decide) ?_
  refine z_callV (as := [.int 0, .int 1, .int 2, .int 0, .int 0]) (st := []) i_Mo_addDone ⟨rfl, rfl⟩ v_Mo_addDone w_Mo_addDone l_Mo_154 d_Mo_findDone_11 (by decide) (tA_83 k) rfl (Nat.le_of_ble_eq_true rfl) (Nat.le_of_ble_eq_true rfl) h (fun q2 T2 M2 h => ?_)
  obtain ⟨rfl, rfl, h⟩ := h
  refine z_iconst 0 d_Mo_findDone_14 (by decide) ?_
  refine z_istore_n (ls' := [some (.ref 83), some (.int 0), none, none]) d_Mo_findDone_15 (Nat.le_of_ble_eq_true rfl) rfl rfl ?_
  exact z_forget [some (.ref 83), some (.int 0), none, none] (And.intro rfl (And.intro rfl (trivial))) h

set_option maxRecDepth 20000 in
theorem vc_Mo_findDone_16 (E : ZE) (k : Nat) (M : ZM) (x1 : Int32) (Φ : Option Value → ZS → ZM → Prop)  (h : ((M 83 13) ≤ x1 → Φ none (zSt k) M) ∧ (¬ (M 83 13) ≤ x1 → zW E m_Mo_findDone 2 (zSt k) M 26 [some (.ref 83), some (.int x1), some (.int 0), none] [] Φ)) : zW E m_Mo_findDone 2 (zSt k) M 16 [some (.ref 83), some (.int x1), none, none] [] Φ := by
  refine z_iload_n d_Mo_findDone_16 rfl ?_
  refine z_aload_n d_Mo_findDone_17 rfl ?_
  refine z_geti f_Mo_147 rfl d_Mo_findDone_18 (tA_83 k) ?_
  refine z_icmp_ge 123 d_Mo_findDone_21 rfl ⟨fun c1 => ?_, fun c1 => ?_⟩
  · replace h := h.1 c1
    exact z_vret rfl d_Mo_findDone_123 h
  · replace h := h.2 c1
    refine z_iconst 0 d_Mo_findDone_24 (by decide) ?_
    refine z_istore_n (ls' := [some (.ref 83), some (.int x1), some (.int 0), none]) d_Mo_findDone_25 (Nat.le_of_ble_eq_true rfl) rfl rfl ?_
    exact z_forget [some (.ref 83), some (.int x1), some (.int 0), none] (And.intro rfl (And.intro rfl (And.intro rfl (trivial)))) h

set_option maxRecDepth 20000 in
theorem vc_Mo_findDone_26 (E : ZE) (k : Nat) (M : ZM) (x1 : Int32) (x2 : Int32) (Φ : Option Value → ZS → ZM → Prop)  (h : (2 ≤ x2 → ∀ y2 : Int32, y2 = x1 + 1 → zW E m_Mo_findDone 2 (zSt k) M 16 [some (.ref 83), some (.int y2), none, none] [] Φ) ∧ (¬ 2 ≤ x2 → ∀ y3 : Int32, y3 = (3 * x2) → ∃ j4 : Nat, j4 < 81 ∧ (3 * x1) = nI j4 ∧ (∃ j5 : Nat, j5 < 6 ∧ (y3 + (M 93 j4)) = nI j5 ∧ (∃ j6 : Nat, j6 < 81 ∧ ((3 * x1) + 1) = nI j6 ∧ (∃ j7 : Nat, j7 < 6 ∧ (y3 + (M 93 j6)) = nI j7 ∧ (∃ j8 : Nat, j8 < 81 ∧ ((3 * x1) + 2) = nI j8 ∧ (∃ j9 : Nat, j9 < 6 ∧ (y3 + (M 93 j8)) = nI j9 ∧ (∃ j10 : Nat, j10 < 27 ∧ x1 = nI j10 ∧ (∃ j11 : Nat, j11 < 27 ∧ x1 = nI j11 ∧ (∃ j12 : Nat, j12 < 27 ∧ x1 = nI j12 ∧ (zW E m_Mo_addDone 1 (zSt k) M 0 [some (.ref 83), some (.int (M 86 j5)), some (.int (M 86 j7)), some (.int (M 86 j9)), some (.int ((M 94 j10) ||| ((x2 : Int32) <<< ((M 95 j11) &&& 31)))), some (.int ((M 95 j12) + 1))] [] (fun q13 T13 M13 => q13 = none ∧ (zSt k) = T13 ∧ ∀ y14 : Int32, y14 = x2 + 1 → zW E m_Mo_findDone 2 (zSt k) M13 26 [some (.ref 83), some (.int x1), some (.int y14), none] [] Φ)))))))))))) : zW E m_Mo_findDone 2 (zSt k) M 26 [some (.ref 83), some (.int x1), some (.int x2), none] [] Φ := by
  refine z_iload_n d_Mo_findDone_26 rfl ?_
  refine z_iconst 2 d_Mo_findDone_27 (by decide) ?_
  refine z_icmp_ge 117 d_Mo_findDone_28 rfl ⟨fun c1 => ?_, fun c1 => ?_⟩
  · replace h := h.1 c1
    obtain ⟨y2, ey2⟩ : ∃ q : Int32, q = x1 + 1 := ⟨_, rfl⟩
    replace h := h y2 ey2
    refine z_iinc (ls' := [some (.ref 83), some (.int y2), some (.int x2), none]) y2 d_Mo_findDone_117 rfl (ey2 ▸ rfl) (Nat.le_of_ble_eq_true rfl) rfl rfl ?_
    refine z_goto 16 d_Mo_findDone_120 rfl ?_
    exact z_forget [some (.ref 83), some (.int y2), none, none] (And.intro rfl (And.intro rfl (trivial))) h
  · replace h := h.2 c1
    refine z_iconst 3 d_Mo_findDone_31 (by decide) ?_
    refine z_iload_n d_Mo_findDone_32 rfl ?_
    refine z_imul d_Mo_findDone_33 ?_
    refine z_name (fun y3 ey3 => ?_)
    replace h := h y3 ey3
    refine z_istore_n (ls' := [some (.ref 83), some (.int x1), some (.int x2), some (.int y3)]) d_Mo_findDone_34 (Nat.le_of_ble_eq_true rfl) rfl rfl ?_
    refine z_aload_n d_Mo_findDone_35 rfl ?_
    refine z_aload_n d_Mo_findDone_36 rfl ?_
    refine z_getr f_Mo_16 rfl d_Mo_findDone_37 (tA_83 k) (tr_83_2 k) ?_
    refine z_iload_n d_Mo_findDone_40 rfl ?_
    refine z_aload_n d_Mo_findDone_41 rfl ?_
    refine z_getr f_Mo_37 rfl d_Mo_findDone_42 (tA_83 k) (tr_83_10 k) ?_
    refine z_iconst 3 d_Mo_findDone_45 (by decide) ?_
    refine z_iload_n d_Mo_findDone_46 rfl ?_
    refine z_imul d_Mo_findDone_47 ?_
    obtain ⟨j4, hj4, ej4, h⟩ := h
    refine y_iaload j4 d_Mo_findDone_48 (ta_93 k) hj4 ej4 ?_
    refine z_iadd d_Mo_findDone_49 ?_
    obtain ⟨j5, hj5, ej5, h⟩ := h
    refine y_iaload j5 d_Mo_findDone_50 (ta_86 k) hj5 ej5 ?_
    refine z_aload_n d_Mo_findDone_51 rfl ?_
    refine z_getr f_Mo_16 rfl d_Mo_findDone_52 (tA_83 k) (tr_83_2 k) ?_
    refine z_iload_n d_Mo_findDone_55 rfl ?_
    refine z_aload_n d_Mo_findDone_56 rfl ?_
    refine z_getr f_Mo_37 rfl d_Mo_findDone_57 (tA_83 k) (tr_83_10 k) ?_
    refine z_iconst 3 d_Mo_findDone_60 (by decide) ?_
    refine z_iload_n d_Mo_findDone_61 rfl ?_
    refine z_imul d_Mo_findDone_62 ?_
    refine z_iconst 1 d_Mo_findDone_63 (by decide) ?_
    refine z_iadd d_Mo_findDone_64 ?_
    obtain ⟨j6, hj6, ej6, h⟩ := h
    refine y_iaload j6 d_Mo_findDone_65 (ta_93 k) hj6 ej6 ?_
    refine z_iadd d_Mo_findDone_66 ?_
    obtain ⟨j7, hj7, ej7, h⟩ := h
    refine y_iaload j7 d_Mo_findDone_67 (ta_86 k) hj7 ej7 ?_
    refine z_aload_n d_Mo_findDone_68 rfl ?_
    refine z_getr f_Mo_16 rfl d_Mo_findDone_69 (tA_83 k) (tr_83_2 k) ?_
    refine z_iload_n d_Mo_findDone_72 rfl ?_
    refine z_aload_n d_Mo_findDone_73 rfl ?_
    refine z_getr f_Mo_37 rfl d_Mo_findDone_74 (tA_83 k) (tr_83_10 k) ?_
    refine z_iconst 3 d_Mo_findDone_77 (by decide) ?_
    refine z_iload_n d_Mo_findDone_78 rfl ?_
    refine z_imul d_Mo_findDone_79 ?_
    refine z_iconst 2 d_Mo_findDone_80 (by decide) ?_
    refine z_iadd d_Mo_findDone_81 ?_
    obtain ⟨j8, hj8, ej8, h⟩ := h
    refine y_iaload j8 d_Mo_findDone_82 (ta_93 k) hj8 ej8 ?_
    refine z_iadd d_Mo_findDone_83 ?_
    obtain ⟨j9, hj9, ej9, h⟩ := h
    refine y_iaload j9 d_Mo_findDone_84 (ta_86 k) hj9 ej9 ?_
    refine z_aload_n d_Mo_findDone_85 rfl ?_
    refine z_getr f_Mo_40 rfl d_Mo_findDone_86 (tA_83 k) (tr_83_11 k) ?_
    refine z_iload_n d_Mo_findDone_89 rfl ?_
    obtain ⟨j10, hj10, ej10, h⟩ := h
    refine y_iaload j10 d_Mo_findDone_90 (ta_94 k) hj10 ej10 ?_
    refine z_iload_n d_Mo_findDone_91 rfl ?_
    refine z_aload_n d_Mo_findDone_92 rfl ?_
    refine z_getr f_Mo_43 rfl d_Mo_findDone_93 (tA_83 k) (tr_83_12 k) ?_
    refine z_iload_n d_Mo_findDone_96 rfl ?_
    obtain ⟨j11, hj11, ej11, h⟩ := h
    refine y_iaload j11 d_Mo_findDone_97 (ta_95 k) hj11 ej11 ?_
    refine z_ishl d_Mo_findDone_98 ?_
    refine z_ior d_Mo_findDone_99 ?_
    refine z_aload_n d_Mo_findDone_100 rfl ?_
    refine z_getr f_Mo_43 rfl d_Mo_findDone_101 (tA_83 k) (tr_83_12 k) ?_
    refine z_iload_n d_Mo_findDone_104 rfl ?_
    obtain ⟨j12, hj12, ej12, h⟩ := h
    refine y_iaload j12 d_Mo_findDone_105 (ta_95 k) hj12 ej12 ?_
    refine z_iconst 1 d_Mo_findDone_106 (by decide) ?_
    refine z_iadd d_Mo_findDone_107 ?_
    refine z_callV (as := [.int (M 86 j5), .int (M 86 j7), .int (M 86 j9), .int ((M 94 j10) ||| ((x2 : Int32) <<< ((M 95 j11) &&& 31))), .int ((M 95 j12) + 1)]) (st := []) i_Mo_addDone ⟨rfl, rfl⟩ v_Mo_addDone w_Mo_addDone l_Mo_154 d_Mo_findDone_108 (by decide) (tA_83 k) rfl (Nat.le_of_ble_eq_true rfl) (Nat.le_of_ble_eq_true rfl) h (fun q13 T13 M13 h => ?_)
    obtain ⟨rfl, rfl, h⟩ := h
    obtain ⟨y14, ey14⟩ : ∃ q : Int32, q = x2 + 1 := ⟨_, rfl⟩
    replace h := h y14 ey14
    refine z_iinc (ls' := [some (.ref 83), some (.int x1), some (.int y14), some (.int y3)]) y14 d_Mo_findDone_111 rfl (ey14 ▸ rfl) (Nat.le_of_ble_eq_true rfl) rfl rfl ?_
    refine z_goto 26 d_Mo_findDone_114 rfl ?_
    exact z_forget [some (.ref 83), some (.int x1), some (.int y14), none] (And.intro rfl (And.intro rfl (And.intro rfl (trivial)))) h

set_option maxRecDepth 20000 in
theorem vc_Mo_firstFor_0 (E : ZE) (k : Nat) (M : ZM) (r1 L1 : Nat) (x2 : Int32) (Φ : Option Value → ZS → ZM → Prop) (h1 : zArr (zSt k) r1 L1) (h : zW E m_Mo_firstFor 1 (zSt k) M 2 [some (.ref 83), some (.ref r1), some (.int x2), some (.int 0)] [] Φ) : zW E m_Mo_firstFor 1 (zSt k) M 0 [some (.ref 83), some (.ref r1), some (.int x2), none] [] Φ := by
  refine z_iconst 0 d_Mo_firstFor_0 (by decide) ?_
  refine z_istore_n (ls' := [some (.ref 83), some (.ref r1), some (.int x2), some (.int 0)]) d_Mo_firstFor_1 (Nat.le_of_ble_eq_true rfl) rfl rfl ?_
  exact z_forget [some (.ref 83), some (.ref r1), some (.int x2), some (.int 0)] (And.intro rfl (And.intro rfl (And.intro rfl (And.intro rfl (trivial))))) h

set_option maxRecDepth 20000 in
theorem vc_Mo_firstFor_2 (E : ZE) (k : Nat) (M : ZM) (r1 L1 : Nat) (x2 : Int32) (x3 : Int32) (Φ : Option Value → ZS → ZM → Prop) (h1 : zArr (zSt k) r1 L1) (h : ((M 83 13) ≤ x3 → Φ (some (.int (-6))) (zSt k) M) ∧ (¬ (M 83 13) ≤ x3 → ∃ j2 : Nat, j2 < L1 ∧ x2 = nI j2 ∧ (∃ j3 : Nat, j3 < 81 ∧ (3 * x3) = nI j3 ∧ (zW E m_Mo_has 0 (zSt k) M 0 [some (.int (M r1 j2)), some (.int (M 93 j3))] [] (fun q4 T4 M4 => ∃ y4 : Int32, q4 = some (.int y4) ∧ (zSt k) = T4 ∧ (y4 = 0 → ∀ y6 : Int32, y6 = x3 + 1 → zW E m_Mo_firstFor 1 (zSt k) M4 2 [some (.ref 83), some (.ref r1), some (.int x2), some (.int y6)] [] Φ) ∧ (¬ y4 = 0 → ∃ j7 : Nat, j7 < L1 ∧ (x2 + 1) = nI j7 ∧ (∃ j8 : Nat, j8 < 81 ∧ ((3 * x3) + 1) = nI j8 ∧ (zW E m_Mo_has 0 (zSt k) M4 0 [some (.int (M4 r1 j7)), some (.int (M4 93 j8))] [] (fun q9 T9 M9 => ∃ y9 : Int32, q9 = some (.int y9) ∧ (zSt k) = T9 ∧ (y9 = 0 → ∀ y11 : Int32, y11 = x3 + 1 → zW E m_Mo_firstFor 1 (zSt k) M9 2 [some (.ref 83), some (.ref r1), some (.int x2), some (.int y11)] [] Φ) ∧ (¬ y9 = 0 → ∃ j12 : Nat, j12 < L1 ∧ (x2 + 2) = nI j12 ∧ (∃ j13 : Nat, j13 < 81 ∧ ((3 * x3) + 2) = nI j13 ∧ (zW E m_Mo_has 0 (zSt k) M9 0 [some (.int (M9 r1 j12)), some (.int (M9 93 j13))] [] (fun q14 T14 M14 => ∃ y14 : Int32, q14 = some (.int y14) ∧ (zSt k) = T14 ∧ (y14 = 0 → ∀ y16 : Int32, y16 = x3 + 1 → zW E m_Mo_firstFor 1 (zSt k) M14 2 [some (.ref 83), some (.ref r1), some (.int x2), some (.int y16)] [] Φ) ∧ (¬ y14 = 0 → Φ (some (.int x3)) (zSt k) M14)))))))))))))) : zW E m_Mo_firstFor 1 (zSt k) M 2 [some (.ref 83), some (.ref r1), some (.int x2), some (.int x3)] [] Φ := by
  refine z_iload_n d_Mo_firstFor_2 rfl ?_
  refine z_aload_n d_Mo_firstFor_3 rfl ?_
  refine z_geti f_Mo_147 rfl d_Mo_firstFor_4 (tA_83 k) ?_
  refine z_icmp_ge 77 d_Mo_firstFor_7 rfl ⟨fun c1 => ?_, fun c1 => ?_⟩
  · replace h := h.1 c1
    refine z_bipush (-6) d_Mo_firstFor_77 (by decide) ?_
    exact z_iret rfl d_Mo_firstFor_79 h
  · replace h := h.2 c1
    refine z_aload_n d_Mo_firstFor_10 rfl ?_
    refine z_iload_n d_Mo_firstFor_11 rfl ?_
    obtain ⟨j2, hj2, ej2, h⟩ := h
    refine y_iaload j2 d_Mo_firstFor_12 h1 hj2 ej2 ?_
    refine z_aload_n d_Mo_firstFor_13 rfl ?_
    refine z_getr f_Mo_37 rfl d_Mo_firstFor_14 (tA_83 k) (tr_83_10 k) ?_
    refine z_iconst 3 d_Mo_firstFor_17 (by decide) ?_
    refine z_iload_n d_Mo_firstFor_18 rfl ?_
    refine z_imul d_Mo_firstFor_19 ?_
    obtain ⟨j3, hj3, ej3, h⟩ := h
    refine y_iaload j3 d_Mo_firstFor_20 (ta_93 k) hj3 ej3 ?_
    refine z_callS (as := [.int (M r1 j2), .int (M 93 j3)]) (st := []) i_Mo_has s_Mo_has l_Mo_158 d_Mo_firstFor_21 (by decide) rfl (Nat.le_of_ble_eq_true rfl) (Nat.le_of_ble_eq_true rfl) h (fun q4 T4 M4 h => ?_)
    obtain ⟨y4, rfl, rfl, h⟩ := h
    refine z_if_eq 71 d_Mo_firstFor_24 rfl ⟨fun c5 => ?_, fun c5 => ?_⟩
    · replace h := h.1 c5
      obtain ⟨y6, ey6⟩ : ∃ q : Int32, q = x3 + 1 := ⟨_, rfl⟩
      replace h := h y6 ey6
      refine z_iinc (ls' := [some (.ref 83), some (.ref r1), some (.int x2), some (.int y6)]) y6 d_Mo_firstFor_71 rfl (ey6 ▸ rfl) (Nat.le_of_ble_eq_true rfl) rfl rfl ?_
      refine z_goto 2 d_Mo_firstFor_74 rfl ?_
      exact z_forget [some (.ref 83), some (.ref r1), some (.int x2), some (.int y6)] (And.intro rfl (And.intro rfl (And.intro rfl (And.intro rfl (trivial))))) h
    · replace h := h.2 c5
      refine z_aload_n d_Mo_firstFor_27 rfl ?_
      refine z_iload_n d_Mo_firstFor_28 rfl ?_
      refine z_iconst 1 d_Mo_firstFor_29 (by decide) ?_
      refine z_iadd d_Mo_firstFor_30 ?_
      obtain ⟨j7, hj7, ej7, h⟩ := h
      refine y_iaload j7 d_Mo_firstFor_31 h1 hj7 ej7 ?_
      refine z_aload_n d_Mo_firstFor_32 rfl ?_
      refine z_getr f_Mo_37 rfl d_Mo_firstFor_33 (tA_83 k) (tr_83_10 k) ?_
      refine z_iconst 3 d_Mo_firstFor_36 (by decide) ?_
      refine z_iload_n d_Mo_firstFor_37 rfl ?_
      refine z_imul d_Mo_firstFor_38 ?_
      refine z_iconst 1 d_Mo_firstFor_39 (by decide) ?_
      refine z_iadd d_Mo_firstFor_40 ?_
      obtain ⟨j8, hj8, ej8, h⟩ := h
      refine y_iaload j8 d_Mo_firstFor_41 (ta_93 k) hj8 ej8 ?_
      refine z_callS (as := [.int (M4 r1 j7), .int (M4 93 j8)]) (st := []) i_Mo_has s_Mo_has l_Mo_158 d_Mo_firstFor_42 (by decide) rfl (Nat.le_of_ble_eq_true rfl) (Nat.le_of_ble_eq_true rfl) h (fun q9 T9 M9 h => ?_)
      obtain ⟨y9, rfl, rfl, h⟩ := h
      refine z_if_eq 71 d_Mo_firstFor_45 rfl ⟨fun c10 => ?_, fun c10 => ?_⟩
      · replace h := h.1 c10
        obtain ⟨y11, ey11⟩ : ∃ q : Int32, q = x3 + 1 := ⟨_, rfl⟩
        replace h := h y11 ey11
        refine z_iinc (ls' := [some (.ref 83), some (.ref r1), some (.int x2), some (.int y11)]) y11 d_Mo_firstFor_71 rfl (ey11 ▸ rfl) (Nat.le_of_ble_eq_true rfl) rfl rfl ?_
        refine z_goto 2 d_Mo_firstFor_74 rfl ?_
        exact z_forget [some (.ref 83), some (.ref r1), some (.int x2), some (.int y11)] (And.intro rfl (And.intro rfl (And.intro rfl (And.intro rfl (trivial))))) h
      · replace h := h.2 c10
        refine z_aload_n d_Mo_firstFor_48 rfl ?_
        refine z_iload_n d_Mo_firstFor_49 rfl ?_
        refine z_iconst 2 d_Mo_firstFor_50 (by decide) ?_
        refine z_iadd d_Mo_firstFor_51 ?_
        obtain ⟨j12, hj12, ej12, h⟩ := h
        refine y_iaload j12 d_Mo_firstFor_52 h1 hj12 ej12 ?_
        refine z_aload_n d_Mo_firstFor_53 rfl ?_
        refine z_getr f_Mo_37 rfl d_Mo_firstFor_54 (tA_83 k) (tr_83_10 k) ?_
        refine z_iconst 3 d_Mo_firstFor_57 (by decide) ?_
        refine z_iload_n d_Mo_firstFor_58 rfl ?_
        refine z_imul d_Mo_firstFor_59 ?_
        refine z_iconst 2 d_Mo_firstFor_60 (by decide) ?_
        refine z_iadd d_Mo_firstFor_61 ?_
        obtain ⟨j13, hj13, ej13, h⟩ := h
        refine y_iaload j13 d_Mo_firstFor_62 (ta_93 k) hj13 ej13 ?_
        refine z_callS (as := [.int (M9 r1 j12), .int (M9 93 j13)]) (st := []) i_Mo_has s_Mo_has l_Mo_158 d_Mo_firstFor_63 (by decide) rfl (Nat.le_of_ble_eq_true rfl) (Nat.le_of_ble_eq_true rfl) h (fun q14 T14 M14 h => ?_)
        obtain ⟨y14, rfl, rfl, h⟩ := h
        refine z_if_eq 71 d_Mo_firstFor_66 rfl ⟨fun c15 => ?_, fun c15 => ?_⟩
        · replace h := h.1 c15
          obtain ⟨y16, ey16⟩ : ∃ q : Int32, q = x3 + 1 := ⟨_, rfl⟩
          replace h := h y16 ey16
          refine z_iinc (ls' := [some (.ref 83), some (.ref r1), some (.int x2), some (.int y16)]) y16 d_Mo_firstFor_71 rfl (ey16 ▸ rfl) (Nat.le_of_ble_eq_true rfl) rfl rfl ?_
          refine z_goto 2 d_Mo_firstFor_74 rfl ?_
          exact z_forget [some (.ref 83), some (.ref r1), some (.int x2), some (.int y16)] (And.intro rfl (And.intro rfl (And.intro rfl (And.intro rfl (trivial))))) h
        · replace h := h.2 c15
          refine z_iload_n d_Mo_firstFor_69 rfl ?_
          exact z_iret rfl d_Mo_firstFor_70 h

set_option maxRecDepth 20000 in
theorem vc_Mo_brief_0 (E : ZE) (k : Nat) (M : ZM) (x1 : Int32) (x2 : Int32) (Φ : Option Value → ZS → ZM → Prop)  (h : zW E m_Mo_isThird 1 (zSt k) M 0 [some (.int x1)] [] (fun q1 T1 M1 => ∃ y1 : Int32, q1 = some (.int y1) ∧ (zSt k) = T1 ∧ (¬ y1 = 0 → zW E m_Mo_findDone 2 (zSt k) M1 0 [some (.ref 83), none, none, none] [] (fun q3 T3 M3 => q3 = none ∧ (zSt k) = T3 ∧ zW E m_Mo_firstFor 1 (zSt k) M3 0 [some (.ref 83), some (.ref 87), some (.int (3 * x1)), none] [] (fun q4 T4 M4 => ∃ y4 : Int32, q4 = some (.int y4) ∧ (zSt k) = T4 ∧ (0 ≤ y4 → (¬ x2 = (-1) → ∃ j7 : Nat, j7 < 27 ∧ y4 = nI j7 ∧ (zW E m_Mo_in 0 (zSt k) M4 0 [some (.long (Int32.toInt64 x2)), none, some (.long 0), none, some (.long (Int32.toInt64 ((M4 95 j7) - 1))), none] [] (fun q8 T8 M8 => ∃ y8 : Int32, q8 = some (.int y8) ∧ (zSt k) = T8 ∧ (y8 = 0 → Φ (some (.int (-6))) (zSt k) M8) ∧ (¬ y8 = 0 → ∃ j10 : Nat, j10 < 27 ∧ y4 = nI j10 ∧ (Φ (some (.int ((((M8 94 j10) : Int32) >>> (x2 &&& 31)) &&& 1))) (zSt k) M8))))) ∧ (x2 = (-1) → ∃ j11 : Nat, j11 < 27 ∧ y4 = nI j11 ∧ (Φ (some (.int (M4 95 j11))) (zSt k) M4))) ∧ (¬ 0 ≤ y4 → Φ (some (.int (-6))) (zSt k) M4)))) ∧ (y1 = 0 → Φ (some (.int (-1))) (zSt k) M1))) : zW E m_Mo_brief 3 (zSt k) M 0 [some (.ref 83), some (.int x1), some (.int x2), none] [] Φ := by
  refine z_iload_n d_Mo_brief_0 rfl ?_
  refine z_callS (as := [.int x1]) (st := []) i_Mo_isThird s_Mo_isThird l_Mo_141 d_Mo_brief_1 (by decide) rfl (Nat.le_of_ble_eq_true rfl) (Nat.le_of_ble_eq_true rfl) h (fun q1 T1 M1 h => ?_)
  obtain ⟨y1, rfl, rfl, h⟩ := h
  refine z_if_ne 9 d_Mo_brief_4 rfl ⟨fun c2 => ?_, fun c2 => ?_⟩
  · replace h := h.1 c2
    refine z_aload_n d_Mo_brief_9 rfl ?_
    refine z_callV (as := []) (st := []) i_Mo_findDone ⟨rfl, rfl⟩ v_Mo_findDone w_Mo_findDone l_Mo_162 d_Mo_brief_10 (by decide) (tA_83 k) rfl (Nat.le_of_ble_eq_true rfl) (Nat.le_of_ble_eq_true rfl) h (fun q3 T3 M3 h => ?_)
    obtain ⟨rfl, rfl, h⟩ := h
    refine z_aload_n d_Mo_brief_13 rfl ?_
    refine z_aload_n d_Mo_brief_14 rfl ?_
    refine z_getr f_Mo_19 rfl d_Mo_brief_15 (tA_83 k) (tr_83_3 k) ?_
    refine z_iconst 3 d_Mo_brief_18 (by decide) ?_
    refine z_iload_n d_Mo_brief_19 rfl ?_
    refine z_imul d_Mo_brief_20 ?_
    refine z_callV (as := [.ref 87, .int (3 * x1)]) (st := []) i_Mo_firstFor ⟨rfl, rfl⟩ v_Mo_firstFor w_Mo_firstFor l_Mo_165 d_Mo_brief_21 (by decide) (tA_83 k) rfl (Nat.le_of_ble_eq_true rfl) (Nat.le_of_ble_eq_true rfl) h (fun q4 T4 M4 h => ?_)
    obtain ⟨y4, rfl, rfl, h⟩ := h
    refine z_istore_n (ls' := [some (.ref 83), some (.int x1), some (.int x2), some (.int y4)]) d_Mo_brief_24 (Nat.le_of_ble_eq_true rfl) rfl rfl ?_
    refine z_iload_n d_Mo_brief_25 rfl ?_
    refine z_if_ge 32 d_Mo_brief_26 rfl ⟨fun c5 => ?_, fun c5 => ?_⟩
    · replace h := h.1 c5
      refine z_iload_n d_Mo_brief_32 rfl ?_
      refine z_iconst (-1) d_Mo_brief_33 (by decide) ?_
      refine z_icmp_ne 46 d_Mo_brief_34 rfl ⟨fun c6 => ?_, fun c6 => ?_⟩
      · replace h := h.1 c6
        refine z_iload_n d_Mo_brief_46 rfl ?_
        refine z_i2l d_Mo_brief_47 ?_
        refine z_lconst 0 d_Mo_brief_48 (by decide) ?_
        refine z_aload_n d_Mo_brief_49 rfl ?_
        refine z_getr f_Mo_43 rfl d_Mo_brief_50 (tA_83 k) (tr_83_12 k) ?_
        refine z_iload_n d_Mo_brief_53 rfl ?_
        obtain ⟨j7, hj7, ej7, h⟩ := h
        refine y_iaload j7 d_Mo_brief_54 (ta_95 k) hj7 ej7 ?_
        refine z_iconst 1 d_Mo_brief_55 (by decide) ?_
        refine z_isub d_Mo_brief_56 ?_
        refine z_i2l d_Mo_brief_57 ?_
        refine z_callS (as := [.long (Int32.toInt64 x2), .long 0, .long (Int32.toInt64 ((M4 95 j7) - 1))]) (st := []) i_Mo_in s_Mo_in l_Mo_109 d_Mo_brief_58 (by decide) rfl (Nat.le_of_ble_eq_true rfl) (Nat.le_of_ble_eq_true rfl) h (fun q8 T8 M8 h => ?_)
        obtain ⟨y8, rfl, rfl, h⟩ := h
        refine z_if_eq 77 d_Mo_brief_61 rfl ⟨fun c9 => ?_, fun c9 => ?_⟩
        · replace h := h.1 c9
          refine z_bipush (-6) d_Mo_brief_77 (by decide) ?_
          exact z_iret rfl d_Mo_brief_79 h
        · replace h := h.2 c9
          refine z_aload_n d_Mo_brief_64 rfl ?_
          refine z_getr f_Mo_40 rfl d_Mo_brief_65 (tA_83 k) (tr_83_11 k) ?_
          refine z_iload_n d_Mo_brief_68 rfl ?_
          obtain ⟨j10, hj10, ej10, h⟩ := h
          refine y_iaload j10 d_Mo_brief_69 (ta_94 k) hj10 ej10 ?_
          refine z_iload_n d_Mo_brief_70 rfl ?_
          refine z_ishr d_Mo_brief_71 ?_
          refine z_iconst 1 d_Mo_brief_72 (by decide) ?_
          refine z_iand d_Mo_brief_73 ?_
          refine z_goto 79 d_Mo_brief_74 rfl ?_
          exact z_iret rfl d_Mo_brief_79 h
      · replace h := h.2 c6
        refine z_aload_n d_Mo_brief_37 rfl ?_
        refine z_getr f_Mo_43 rfl d_Mo_brief_38 (tA_83 k) (tr_83_12 k) ?_
        refine z_iload_n d_Mo_brief_41 rfl ?_
        obtain ⟨j11, hj11, ej11, h⟩ := h
        refine y_iaload j11 d_Mo_brief_42 (ta_95 k) hj11 ej11 ?_
        refine z_goto 79 d_Mo_brief_43 rfl ?_
        exact z_iret rfl d_Mo_brief_79 h
    · replace h := h.2 c5
      refine z_bipush (-6) d_Mo_brief_29 (by decide) ?_
      exact z_iret rfl d_Mo_brief_31 h
  · replace h := h.2 c2
    refine z_iconst (-1) d_Mo_brief_7 (by decide) ?_
    exact z_iret rfl d_Mo_brief_8 h

set_option maxRecDepth 20000 in
theorem vc_Mo_dropFirst_0 (E : ZE) (k : Nat) (M : ZM)  (Φ : Option Value → ZS → ZM → Prop)  (h : zW E m_Mo_dropFirst 0 (zSt k) M 2 [some (.ref 83), some (.int 0), none] [] Φ) : zW E m_Mo_dropFirst 0 (zSt k) M 0 [some (.ref 83), none, none] [] Φ := by
  refine z_iconst 0 d_Mo_dropFirst_0 (by decide) ?_
  refine z_istore_n (ls' := [some (.ref 83), some (.int 0), none]) d_Mo_dropFirst_1 (Nat.le_of_ble_eq_true rfl) rfl rfl ?_
  exact z_forget [some (.ref 83), some (.int 0), none] (And.intro rfl (And.intro rfl (trivial))) h

set_option maxRecDepth 20000 in
theorem vc_Mo_dropFirst_2 (E : ZE) (k : Nat) (M : ZM) (x1 : Int32) (Φ : Option Value → ZS → ZM → Prop)  (h : (2 ≤ x1 → Φ none (zSt k) M) ∧ (¬ 2 ≤ x1 → ∃ j2 : Nat, j2 < 2 ∧ x1 = nI j2 ∧ (∃ j3 : Nat, j3 < 2 ∧ x1 = nI j3 ∧ (∀ M4 : ZM, M4 = zms M 104 j3 ((M 104 j2) - 1) → zW E m_Mo_dropFirst 0 (zSt k) M4 19 [some (.ref 83), some (.int x1), some (.int 0)] [] Φ)))) : zW E m_Mo_dropFirst 0 (zSt k) M 2 [some (.ref 83), some (.int x1), none] [] Φ := by
  refine z_iload_n d_Mo_dropFirst_2 rfl ?_
  refine z_iconst 2 d_Mo_dropFirst_3 (by decide) ?_
  refine z_icmp_ge 65 d_Mo_dropFirst_4 rfl ⟨fun c1 => ?_, fun c1 => ?_⟩
  · replace h := h.1 c1
    exact z_vret rfl d_Mo_dropFirst_65 h
  · replace h := h.2 c1
    refine z_aload_n d_Mo_dropFirst_7 rfl ?_
    refine z_getr f_Mo_71 rfl d_Mo_dropFirst_8 (tA_83 k) (tr_83_24 k) ?_
    refine z_iload_n d_Mo_dropFirst_11 rfl ?_
    refine z_dup2 d_Mo_dropFirst_12 rfl rfl ?_
    obtain ⟨j2, hj2, ej2, h⟩ := h
    refine y_iaload j2 d_Mo_dropFirst_13 (ta_104 k) hj2 ej2 ?_
    refine z_iconst 1 d_Mo_dropFirst_14 (by decide) ?_
    refine z_isub d_Mo_dropFirst_15 ?_
    obtain ⟨j3, hj3, ej3, h⟩ := h
    refine y_iastore j3 d_Mo_dropFirst_16 (ta_104 k) hj3 ej3 ?_
    refine z_mem (fun M4 eM4 => ?_)
    replace h := h M4 eM4
    refine z_iconst 0 d_Mo_dropFirst_17 (by decide) ?_
    refine z_istore_n (ls' := [some (.ref 83), some (.int x1), some (.int 0)]) d_Mo_dropFirst_18 (Nat.le_of_ble_eq_true rfl) rfl rfl ?_
    exact z_forget [some (.ref 83), some (.int x1), some (.int 0)] (And.intro rfl (And.intro rfl (And.intro rfl (trivial)))) h

set_option maxRecDepth 20000 in
theorem vc_Mo_dropFirst_19 (E : ZE) (k : Nat) (M : ZM) (x1 : Int32) (x2 : Int32) (Φ : Option Value → ZS → ZM → Prop)  (h : ∃ j1 : Nat, j1 < 2 ∧ x1 = nI j1 ∧ (((M 104 j1) ≤ x2 → ∀ y3 : Int32, y3 = x1 + 1 → zW E m_Mo_dropFirst 0 (zSt k) M 2 [some (.ref 83), some (.int y3), none] [] Φ) ∧ (¬ (M 104 j1) ≤ x2 → ∃ j4 : Nat, j4 < 96 ∧ (((48 * x1) + x2) + 1) = nI j4 ∧ (∃ j5 : Nat, j5 < 96 ∧ ((48 * x1) + x2) = nI j5 ∧ (∀ M6 : ZM, M6 = zms M 103 j5 (M 103 j4) → ∀ y7 : Int32, y7 = x2 + 1 → zW E m_Mo_dropFirst 0 (zSt k) M6 19 [some (.ref 83), some (.int x1), some (.int y7)] [] Φ))))) : zW E m_Mo_dropFirst 0 (zSt k) M 19 [some (.ref 83), some (.int x1), some (.int x2)] [] Φ := by
  refine z_iload_n d_Mo_dropFirst_19 rfl ?_
  refine z_aload_n d_Mo_dropFirst_20 rfl ?_
  refine z_getr f_Mo_71 rfl d_Mo_dropFirst_21 (tA_83 k) (tr_83_24 k) ?_
  refine z_iload_n d_Mo_dropFirst_24 rfl ?_
  obtain ⟨j1, hj1, ej1, h⟩ := h
  refine y_iaload j1 d_Mo_dropFirst_25 (ta_104 k) hj1 ej1 ?_
  refine z_icmp_ge 59 d_Mo_dropFirst_26 rfl ⟨fun c2 => ?_, fun c2 => ?_⟩
  · replace h := h.1 c2
    obtain ⟨y3, ey3⟩ : ∃ q : Int32, q = x1 + 1 := ⟨_, rfl⟩
    replace h := h y3 ey3
    refine z_iinc (ls' := [some (.ref 83), some (.int y3), some (.int x2)]) y3 d_Mo_dropFirst_59 rfl (ey3 ▸ rfl) (Nat.le_of_ble_eq_true rfl) rfl rfl ?_
    refine z_goto 2 d_Mo_dropFirst_62 rfl ?_
    exact z_forget [some (.ref 83), some (.int y3), none] (And.intro rfl (And.intro rfl (trivial))) h
  · replace h := h.2 c2
    refine z_aload_n d_Mo_dropFirst_29 rfl ?_
    refine z_getr f_Mo_68 rfl d_Mo_dropFirst_30 (tA_83 k) (tr_83_23 k) ?_
    refine z_bipush 48 d_Mo_dropFirst_33 (by decide) ?_
    refine z_iload_n d_Mo_dropFirst_35 rfl ?_
    refine z_imul d_Mo_dropFirst_36 ?_
    refine z_iload_n d_Mo_dropFirst_37 rfl ?_
    refine z_iadd d_Mo_dropFirst_38 ?_
    refine z_aload_n d_Mo_dropFirst_39 rfl ?_
    refine z_getr f_Mo_68 rfl d_Mo_dropFirst_40 (tA_83 k) (tr_83_23 k) ?_
    refine z_bipush 48 d_Mo_dropFirst_43 (by decide) ?_
    refine z_iload_n d_Mo_dropFirst_45 rfl ?_
    refine z_imul d_Mo_dropFirst_46 ?_
    refine z_iload_n d_Mo_dropFirst_47 rfl ?_
    refine z_iadd d_Mo_dropFirst_48 ?_
    refine z_iconst 1 d_Mo_dropFirst_49 (by decide) ?_
    refine z_iadd d_Mo_dropFirst_50 ?_
    obtain ⟨j4, hj4, ej4, h⟩ := h
    refine y_iaload j4 d_Mo_dropFirst_51 (ta_103 k) hj4 ej4 ?_
    obtain ⟨j5, hj5, ej5, h⟩ := h
    refine y_iastore j5 d_Mo_dropFirst_52 (ta_103 k) hj5 ej5 ?_
    refine z_mem (fun M6 eM6 => ?_)
    replace h := h M6 eM6
    obtain ⟨y7, ey7⟩ : ∃ q : Int32, q = x2 + 1 := ⟨_, rfl⟩
    replace h := h y7 ey7
    refine z_iinc (ls' := [some (.ref 83), some (.int x1), some (.int y7)]) y7 d_Mo_dropFirst_53 rfl (ey7 ▸ rfl) (Nat.le_of_ble_eq_true rfl) rfl rfl ?_
    refine z_goto 19 d_Mo_dropFirst_56 rfl ?_
    exact z_forget [some (.ref 83), some (.int x1), some (.int y7)] (And.intro rfl (And.intro rfl (And.intro rfl (trivial)))) h

set_option maxRecDepth 20000 in
theorem vc_Mo_lean_0 (E : ZE) (k : Nat) (M : ZM)  (Φ : Option Value → ZS → ZM → Prop)  (h : ((M 104 0) ≤ 0 → Φ none (zSt k) M) ∧ (¬ (M 104 0) ≤ 0 → ((M 104 1) ≤ 0 → Φ none (zSt k) M) ∧ (¬ (M 104 1) ≤ 0 → (¬ (M 103 0) = (M 103 48) → Φ none (zSt k) M) ∧ ((M 103 0) = (M 103 48) → zW E m_Mo_dropFirst 0 (zSt k) M 0 [some (.ref 83), none, none] [] (fun q4 T4 M4 => q4 = none ∧ (zSt k) = T4 ∧ zW E m_Mo_lean 1 (zSt k) M4 0 [some (.ref 83)] [] Φ))))) : zW E m_Mo_lean 1 (zSt k) M 0 [some (.ref 83)] [] Φ := by
  refine z_aload_n d_Mo_lean_0 rfl ?_
  refine z_getr f_Mo_71 rfl d_Mo_lean_1 (tA_83 k) (tr_83_24 k) ?_
  refine z_iconst 0 d_Mo_lean_4 (by decide) ?_
  refine y_iaload 0 d_Mo_lean_5 (ta_104 k) (by decide) (by decide) ?_
  refine z_if_le 41 d_Mo_lean_6 rfl ⟨fun c1 => ?_, fun c1 => ?_⟩
  · replace h := h.1 c1
    exact z_vret rfl d_Mo_lean_41 h
  · replace h := h.2 c1
    refine z_aload_n d_Mo_lean_9 rfl ?_
    refine z_getr f_Mo_71 rfl d_Mo_lean_10 (tA_83 k) (tr_83_24 k) ?_
    refine z_iconst 1 d_Mo_lean_13 (by decide) ?_
    refine y_iaload 1 d_Mo_lean_14 (ta_104 k) (by decide) (by decide) ?_
    refine z_if_le 41 d_Mo_lean_15 rfl ⟨fun c2 => ?_, fun c2 => ?_⟩
    · replace h := h.1 c2
      exact z_vret rfl d_Mo_lean_41 h
    · replace h := h.2 c2
      refine z_aload_n d_Mo_lean_18 rfl ?_
      refine z_getr f_Mo_68 rfl d_Mo_lean_19 (tA_83 k) (tr_83_23 k) ?_
      refine z_iconst 0 d_Mo_lean_22 (by decide) ?_
      refine y_iaload 0 d_Mo_lean_23 (ta_103 k) (by decide) (by decide) ?_
      refine z_aload_n d_Mo_lean_24 rfl ?_
      refine z_getr f_Mo_68 rfl d_Mo_lean_25 (tA_83 k) (tr_83_23 k) ?_
      refine z_bipush 48 d_Mo_lean_28 (by decide) ?_
      refine y_iaload 48 d_Mo_lean_30 (ta_103 k) (by decide) (by decide) ?_
      refine z_icmp_ne 41 d_Mo_lean_31 rfl ⟨fun c3 => ?_, fun c3 => ?_⟩
      · replace h := h.1 c3
        exact z_vret rfl d_Mo_lean_41 h
      · replace h := h.2 c3
        refine z_aload_n d_Mo_lean_34 rfl ?_
        refine z_callV (as := []) (st := []) i_Mo_dropFirst ⟨rfl, rfl⟩ v_Mo_dropFirst w_Mo_dropFirst l_Mo_169 d_Mo_lean_35 (by decide) (tA_83 k) rfl (Nat.le_of_ble_eq_true rfl) (Nat.le_of_ble_eq_true rfl) h (fun q4 T4 M4 h => ?_)
        obtain ⟨rfl, rfl, h⟩ := h
        refine z_goto 0 d_Mo_lean_38 rfl ?_
        exact z_forget [some (.ref 83)] (And.intro rfl (trivial)) h

set_option maxRecDepth 20000 in
theorem vc_Mo_isHopeless_0 (E : ZE) (k : Nat) (M : ZM)  (Φ : Option Value → ZS → ZM → Prop)  (h : zW E m_Mo_firstFor 1 (zSt k) M 0 [some (.ref 83), some (.ref 105), some (.int 0), none] [] (fun q1 T1 M1 => ∃ y1 : Int32, q1 = some (.int y1) ∧ (zSt k) = T1 ∧ (y1 < 0 → Φ (some (.int 1)) (zSt k) M1) ∧ (¬ y1 < 0 → zW E m_Mo_firstFor 1 (zSt k) M1 0 [some (.ref 83), some (.ref 105), some (.int 3), none] [] (fun q3 T3 M3 => ∃ y3 : Int32, q3 = some (.int y3) ∧ (zSt k) = T3 ∧ (y3 < 0 → Φ (some (.int 1)) (zSt k) M3) ∧ (¬ y3 < 0 → zW E m_Mo_firstFor 1 (zSt k) M3 0 [some (.ref 83), some (.ref 105), some (.int 6), none] [] (fun q5 T5 M5 => ∃ y5 : Int32, q5 = some (.int y5) ∧ (zSt k) = T5 ∧ (0 ≤ y5 → Φ (some (.int 0)) (zSt k) M5) ∧ (¬ 0 ≤ y5 → Φ (some (.int 1)) (zSt k) M5))))))) : zW E m_Mo_isHopeless 2 (zSt k) M 0 [some (.ref 83)] [] Φ := by
  refine z_aload_n d_Mo_isHopeless_0 rfl ?_
  refine z_aload_n d_Mo_isHopeless_1 rfl ?_
  refine z_getr f_Mo_74 rfl d_Mo_isHopeless_2 (tA_83 k) (tr_83_25 k) ?_
  refine z_iconst 0 d_Mo_isHopeless_5 (by decide) ?_
  refine z_callV (as := [.ref 105, .int 0]) (st := []) i_Mo_firstFor ⟨rfl, rfl⟩ v_Mo_firstFor w_Mo_firstFor l_Mo_165 d_Mo_isHopeless_6 (by decide) (tA_83 k) rfl (Nat.le_of_ble_eq_true rfl) (Nat.le_of_ble_eq_true rfl) h (fun q1 T1 M1 h => ?_)
  obtain ⟨y1, rfl, rfl, h⟩ := h
  refine z_if_lt 37 d_Mo_isHopeless_9 rfl ⟨fun c2 => ?_, fun c2 => ?_⟩
  · replace h := h.1 c2
    refine z_iconst 1 d_Mo_isHopeless_37 (by decide) ?_
    refine z_goto 42 d_Mo_isHopeless_38 rfl ?_
    exact z_zret rfl d_Mo_isHopeless_42 rfl h
  · replace h := h.2 c2
    refine z_aload_n d_Mo_isHopeless_12 rfl ?_
    refine z_aload_n d_Mo_isHopeless_13 rfl ?_
    refine z_getr f_Mo_74 rfl d_Mo_isHopeless_14 (tA_83 k) (tr_83_25 k) ?_
    refine z_iconst 3 d_Mo_isHopeless_17 (by decide) ?_
    refine z_callV (as := [.ref 105, .int 3]) (st := []) i_Mo_firstFor ⟨rfl, rfl⟩ v_Mo_firstFor w_Mo_firstFor l_Mo_165 d_Mo_isHopeless_18 (by decide) (tA_83 k) rfl (Nat.le_of_ble_eq_true rfl) (Nat.le_of_ble_eq_true rfl) h (fun q3 T3 M3 h => ?_)
    obtain ⟨y3, rfl, rfl, h⟩ := h
    refine z_if_lt 37 d_Mo_isHopeless_21 rfl ⟨fun c4 => ?_, fun c4 => ?_⟩
    · replace h := h.1 c4
      refine z_iconst 1 d_Mo_isHopeless_37 (by decide) ?_
      refine z_goto 42 d_Mo_isHopeless_38 rfl ?_
      exact z_zret rfl d_Mo_isHopeless_42 rfl h
    · replace h := h.2 c4
      refine z_aload_n d_Mo_isHopeless_24 rfl ?_
      refine z_aload_n d_Mo_isHopeless_25 rfl ?_
      refine z_getr f_Mo_74 rfl d_Mo_isHopeless_26 (tA_83 k) (tr_83_25 k) ?_
      refine z_bipush 6 d_Mo_isHopeless_29 (by decide) ?_
      refine z_callV (as := [.ref 105, .int 6]) (st := []) i_Mo_firstFor ⟨rfl, rfl⟩ v_Mo_firstFor w_Mo_firstFor l_Mo_165 d_Mo_isHopeless_31 (by decide) (tA_83 k) rfl (Nat.le_of_ble_eq_true rfl) (Nat.le_of_ble_eq_true rfl) h (fun q5 T5 M5 h => ?_)
      obtain ⟨y5, rfl, rfl, h⟩ := h
      refine z_if_ge 41 d_Mo_isHopeless_34 rfl ⟨fun c6 => ?_, fun c6 => ?_⟩
      · replace h := h.1 c6
        refine z_iconst 0 d_Mo_isHopeless_41 (by decide) ?_
        exact z_zret rfl d_Mo_isHopeless_42 rfl h
      · replace h := h.2 c6
        refine z_iconst 1 d_Mo_isHopeless_37 (by decide) ?_
        refine z_goto 42 d_Mo_isHopeless_38 rfl ?_
        exact z_zret rfl d_Mo_isHopeless_42 rfl h

set_option maxRecDepth 20000 in
theorem vc_Mo_isSame_0 (E : ZE) (k : Nat) (M : ZM) (x1 : Int32) (Φ : Option Value → ZS → ZM → Prop)  (h : ∃ j1 : Nat, j1 < 300 ∧ (2 * x1) = nI j1 ∧ ((¬ (M 97 j1) = (M 104 0) → zW E m_Mo_isSame 0 (zSt k) M 44 [some (.ref 83), some (.int x1), some (.int 0), some (.int 0), none] [] Φ) ∧ ((M 97 j1) = (M 104 0) → ∃ j3 : Nat, j3 < 300 ∧ ((2 * x1) + 1) = nI j3 ∧ ((¬ (M 97 j3) = (M 104 1) → zW E m_Mo_isSame 0 (zSt k) M 44 [some (.ref 83), some (.int x1), some (.int 0), some (.int 0), none] [] Φ) ∧ ((M 97 j3) = (M 104 1) → zW E m_Mo_isSame 0 (zSt k) M 44 [some (.ref 83), some (.int x1), some (.int 1), some (.int 0), none] [] Φ))))) : zW E m_Mo_isSame 0 (zSt k) M 0 [some (.ref 83), some (.int x1), none, none, none] [] Φ := by
  refine z_aload_n d_Mo_isSame_0 rfl ?_
  refine z_getr f_Mo_49 rfl d_Mo_isSame_1 (tA_83 k) (tr_83_15 k) ?_
  refine z_iconst 2 d_Mo_isSame_4 (by decide) ?_
  refine z_iload_n d_Mo_isSame_5 rfl ?_
  refine z_imul d_Mo_isSame_6 ?_
  obtain ⟨j1, hj1, ej1, h⟩ := h
  refine y_iaload j1 d_Mo_isSame_7 (ta_97 k) hj1 ej1 ?_
  refine z_aload_n d_Mo_isSame_8 rfl ?_
  refine z_getr f_Mo_71 rfl d_Mo_isSame_9 (tA_83 k) (tr_83_24 k) ?_
  refine z_iconst 0 d_Mo_isSame_12 (by decide) ?_
  refine y_iaload 0 d_Mo_isSame_13 (ta_104 k) (by decide) (by decide) ?_
  refine z_icmp_ne 40 d_Mo_isSame_14 rfl ⟨fun c2 => ?_, fun c2 => ?_⟩
  · replace h := h.1 c2
    refine z_iconst 0 d_Mo_isSame_40 (by decide) ?_
    refine z_istore_n (ls' := [some (.ref 83), some (.int x1), some (.int 0), none, none]) d_Mo_isSame_41 (Nat.le_of_ble_eq_true rfl) rfl rfl ?_
    refine z_iconst 0 d_Mo_isSame_42 (by decide) ?_
    refine z_istore_n (ls' := [some (.ref 83), some (.int x1), some (.int 0), some (.int 0), none]) d_Mo_isSame_43 (Nat.le_of_ble_eq_true rfl) rfl rfl ?_
    exact z_forget [some (.ref 83), some (.int x1), some (.int 0), some (.int 0), none] (And.intro rfl (And.intro rfl (And.intro rfl (And.intro rfl (trivial))))) h
  · replace h := h.2 c2
    refine z_aload_n d_Mo_isSame_17 rfl ?_
    refine z_getr f_Mo_49 rfl d_Mo_isSame_18 (tA_83 k) (tr_83_15 k) ?_
    refine z_iconst 2 d_Mo_isSame_21 (by decide) ?_
    refine z_iload_n d_Mo_isSame_22 rfl ?_
    refine z_imul d_Mo_isSame_23 ?_
    refine z_iconst 1 d_Mo_isSame_24 (by decide) ?_
    refine z_iadd d_Mo_isSame_25 ?_
    obtain ⟨j3, hj3, ej3, h⟩ := h
    refine y_iaload j3 d_Mo_isSame_26 (ta_97 k) hj3 ej3 ?_
    refine z_aload_n d_Mo_isSame_27 rfl ?_
    refine z_getr f_Mo_71 rfl d_Mo_isSame_28 (tA_83 k) (tr_83_24 k) ?_
    refine z_iconst 1 d_Mo_isSame_31 (by decide) ?_
    refine y_iaload 1 d_Mo_isSame_32 (ta_104 k) (by decide) (by decide) ?_
    refine z_icmp_ne 40 d_Mo_isSame_33 rfl ⟨fun c4 => ?_, fun c4 => ?_⟩
    · replace h := h.1 c4
      refine z_iconst 0 d_Mo_isSame_40 (by decide) ?_
      refine z_istore_n (ls' := [some (.ref 83), some (.int x1), some (.int 0), none, none]) d_Mo_isSame_41 (Nat.le_of_ble_eq_true rfl) rfl rfl ?_
      refine z_iconst 0 d_Mo_isSame_42 (by decide) ?_
      refine z_istore_n (ls' := [some (.ref 83), some (.int x1), some (.int 0), some (.int 0), none]) d_Mo_isSame_43 (Nat.le_of_ble_eq_true rfl) rfl rfl ?_
      exact z_forget [some (.ref 83), some (.int x1), some (.int 0), some (.int 0), none] (And.intro rfl (And.intro rfl (And.intro rfl (And.intro rfl (trivial))))) h
    · replace h := h.2 c4
      refine z_iconst 1 d_Mo_isSame_36 (by decide) ?_
      refine z_goto 41 d_Mo_isSame_37 rfl ?_
      refine z_istore_n (ls' := [some (.ref 83), some (.int x1), some (.int 1), none, none]) d_Mo_isSame_41 (Nat.le_of_ble_eq_true rfl) rfl rfl ?_
      refine z_iconst 0 d_Mo_isSame_42 (by decide) ?_
      refine z_istore_n (ls' := [some (.ref 83), some (.int x1), some (.int 1), some (.int 0), none]) d_Mo_isSame_43 (Nat.le_of_ble_eq_true rfl) rfl rfl ?_
      exact z_forget [some (.ref 83), some (.int x1), some (.int 1), some (.int 0), none] (And.intro rfl (And.intro rfl (And.intro rfl (And.intro rfl (trivial))))) h

set_option maxRecDepth 20000 in
theorem vc_Mo_isSame_44 (E : ZE) (k : Nat) (M : ZM) (x1 : Int32) (x2 : Int32) (x3 : Int32) (Φ : Option Value → ZS → ZM → Prop)  (h : (9 ≤ x3 → zW E m_Mo_isSame 0 (zSt k) M 88 [some (.ref 83), some (.int x1), some (.int x2), some (.int 0), none] [] Φ) ∧ (¬ 9 ≤ x3 → (x2 = 0 → zW E m_Mo_isSame 0 (zSt k) M 88 [some (.ref 83), some (.int x1), some (.int x2), some (.int 0), none] [] Φ) ∧ (¬ x2 = 0 → ∃ j3 : Nat, j3 < 1350 ∧ ((9 * x1) + x3) = nI j3 ∧ (∃ j4 : Nat, j4 < 9 ∧ x3 = nI j4 ∧ ((¬ (M 98 j3) = (M 105 j4) → ∀ y6 : Int32, y6 = x3 + 1 → zW E m_Mo_isSame 0 (zSt k) M 44 [some (.ref 83), some (.int x1), some (.int 0), some (.int y6), none] [] Φ) ∧ ((M 98 j3) = (M 105 j4) → ∀ y7 : Int32, y7 = x3 + 1 → zW E m_Mo_isSame 0 (zSt k) M 44 [some (.ref 83), some (.int x1), some (.int 1), some (.int y7), none] [] Φ)))))) : zW E m_Mo_isSame 0 (zSt k) M 44 [some (.ref 83), some (.int x1), some (.int x2), some (.int x3), none] [] Φ := by
  refine z_iload_n d_Mo_isSame_44 rfl ?_
  refine z_bipush 9 d_Mo_isSame_45 (by decide) ?_
  refine z_icmp_ge 86 d_Mo_isSame_47 rfl ⟨fun c1 => ?_, fun c1 => ?_⟩
  · replace h := h.1 c1
    refine z_iconst 0 d_Mo_isSame_86 (by decide) ?_
    refine z_istore_n (ls' := [some (.ref 83), some (.int x1), some (.int x2), some (.int 0), none]) d_Mo_isSame_87 (Nat.le_of_ble_eq_true rfl) rfl rfl ?_
    exact z_forget [some (.ref 83), some (.int x1), some (.int x2), some (.int 0), none] (And.intro rfl (And.intro rfl (And.intro rfl (And.intro rfl (trivial))))) h
  · replace h := h.2 c1
    refine z_iload_n d_Mo_isSame_50 rfl ?_
    refine z_if_eq 86 d_Mo_isSame_51 rfl ⟨fun c2 => ?_, fun c2 => ?_⟩
    · replace h := h.1 c2
      refine z_iconst 0 d_Mo_isSame_86 (by decide) ?_
      refine z_istore_n (ls' := [some (.ref 83), some (.int x1), some (.int x2), some (.int 0), none]) d_Mo_isSame_87 (Nat.le_of_ble_eq_true rfl) rfl rfl ?_
      exact z_forget [some (.ref 83), some (.int x1), some (.int x2), some (.int 0), none] (And.intro rfl (And.intro rfl (And.intro rfl (And.intro rfl (trivial))))) h
    · replace h := h.2 c2
      refine z_aload_n d_Mo_isSame_54 rfl ?_
      refine z_getr f_Mo_52 rfl d_Mo_isSame_55 (tA_83 k) (tr_83_16 k) ?_
      refine z_bipush 9 d_Mo_isSame_58 (by decide) ?_
      refine z_iload_n d_Mo_isSame_60 rfl ?_
      refine z_imul d_Mo_isSame_61 ?_
      refine z_iload_n d_Mo_isSame_62 rfl ?_
      refine z_iadd d_Mo_isSame_63 ?_
      obtain ⟨j3, hj3, ej3, h⟩ := h
      refine y_iaload j3 d_Mo_isSame_64 (ta_98 k) hj3 ej3 ?_
      refine z_aload_n d_Mo_isSame_65 rfl ?_
      refine z_getr f_Mo_74 rfl d_Mo_isSame_66 (tA_83 k) (tr_83_25 k) ?_
      refine z_iload_n d_Mo_isSame_69 rfl ?_
      obtain ⟨j4, hj4, ej4, h⟩ := h
      refine y_iaload j4 d_Mo_isSame_70 (ta_105 k) hj4 ej4 ?_
      refine z_icmp_ne 78 d_Mo_isSame_71 rfl ⟨fun c5 => ?_, fun c5 => ?_⟩
      · replace h := h.1 c5
        refine z_iconst 0 d_Mo_isSame_78 (by decide) ?_
        refine z_istore_n (ls' := [some (.ref 83), some (.int x1), some (.int 0), some (.int x3), none]) d_Mo_isSame_79 (Nat.le_of_ble_eq_true rfl) rfl rfl ?_
        obtain ⟨y6, ey6⟩ : ∃ q : Int32, q = x3 + 1 := ⟨_, rfl⟩
        replace h := h y6 ey6
        refine z_iinc (ls' := [some (.ref 83), some (.int x1), some (.int 0), some (.int y6), none]) y6 d_Mo_isSame_80 rfl (ey6 ▸ rfl) (Nat.le_of_ble_eq_true rfl) rfl rfl ?_
        refine z_goto 44 d_Mo_isSame_83 rfl ?_
        exact z_forget [some (.ref 83), some (.int x1), some (.int 0), some (.int y6), none] (And.intro rfl (And.intro rfl (And.intro rfl (And.intro rfl (trivial))))) h
      · replace h := h.2 c5
        refine z_iconst 1 d_Mo_isSame_74 (by decide) ?_
        refine z_goto 79 d_Mo_isSame_75 rfl ?_
        refine z_istore_n (ls' := [some (.ref 83), some (.int x1), some (.int 1), some (.int x3), none]) d_Mo_isSame_79 (Nat.le_of_ble_eq_true rfl) rfl rfl ?_
        obtain ⟨y7, ey7⟩ : ∃ q : Int32, q = x3 + 1 := ⟨_, rfl⟩
        replace h := h y7 ey7
        refine z_iinc (ls' := [some (.ref 83), some (.int x1), some (.int 1), some (.int y7), none]) y7 d_Mo_isSame_80 rfl (ey7 ▸ rfl) (Nat.le_of_ble_eq_true rfl) rfl rfl ?_
        refine z_goto 44 d_Mo_isSame_83 rfl ?_
        exact z_forget [some (.ref 83), some (.int x1), some (.int 1), some (.int y7), none] (And.intro rfl (And.intro rfl (And.intro rfl (And.intro rfl (trivial))))) h

set_option maxRecDepth 20000 in
theorem vc_Mo_isSame_88 (E : ZE) (k : Nat) (M : ZM) (x1 : Int32) (x2 : Int32) (x3 : Int32) (Φ : Option Value → ZS → ZM → Prop)  (h : (2 ≤ x3 → (x2 = 0 ∨ x2 = 1) ∧ Φ (some (.int x2)) (zSt k) M) ∧ (¬ 2 ≤ x3 → zW E m_Mo_isSame 0 (zSt k) M 96 [some (.ref 83), some (.int x1), some (.int x2), some (.int x3), some (.int 0)] [] Φ)) : zW E m_Mo_isSame 0 (zSt k) M 88 [some (.ref 83), some (.int x1), some (.int x2), some (.int x3), none] [] Φ := by
  refine z_iload_n d_Mo_isSame_88 rfl ?_
  refine z_iconst 2 d_Mo_isSame_89 (by decide) ?_
  refine z_icmp_ge 161 d_Mo_isSame_90 rfl ⟨fun c1 => ?_, fun c1 => ?_⟩
  · replace h := h.1 c1
    refine z_iload_n d_Mo_isSame_161 rfl ?_
    exact z_zret rfl d_Mo_isSame_162 (zbool h.1).1 h.2
  · replace h := h.2 c1
    refine z_iconst 0 d_Mo_isSame_93 (by decide) ?_
    refine z_istore (ls' := [some (.ref 83), some (.int x1), some (.int x2), some (.int x3), some (.int 0)]) d_Mo_isSame_94 (Nat.le_of_ble_eq_true rfl) rfl rfl ?_
    exact z_forget [some (.ref 83), some (.int x1), some (.int x2), some (.int x3), some (.int 0)] (And.intro rfl (And.intro rfl (And.intro rfl (And.intro rfl (And.intro rfl (trivial)))))) h

set_option maxRecDepth 20000 in
theorem vc_Mo_isSame_96 (E : ZE) (k : Nat) (M : ZM) (x1 : Int32) (x2 : Int32) (x3 : Int32) (x4 : Int32) (Φ : Option Value → ZS → ZM → Prop)  (h : ∃ j1 : Nat, j1 < 2 ∧ x3 = nI j1 ∧ (((M 104 j1) ≤ x4 → ∀ y3 : Int32, y3 = x3 + 1 → zW E m_Mo_isSame 0 (zSt k) M 88 [some (.ref 83), some (.int x1), some (.int x2), some (.int y3), none] [] Φ) ∧ (¬ (M 104 j1) ≤ x4 → (x2 = 0 → ∀ y5 : Int32, y5 = x3 + 1 → zW E m_Mo_isSame 0 (zSt k) M 88 [some (.ref 83), some (.int x1), some (.int x2), some (.int y5), none] [] Φ) ∧ (¬ x2 = 0 → ∃ j6 : Nat, j6 < 7200 ∧ (((48 * x1) + (24 * x3)) + x4) = nI j6 ∧ (∃ j7 : Nat, j7 < 96 ∧ ((48 * x3) + x4) = nI j7 ∧ ((¬ (M 96 j6) = (M 103 j7) → ∀ y9 : Int32, y9 = x4 + 1 → zW E m_Mo_isSame 0 (zSt k) M 96 [some (.ref 83), some (.int x1), some (.int 0), some (.int x3), some (.int y9)] [] Φ) ∧ ((M 96 j6) = (M 103 j7) → ∀ y10 : Int32, y10 = x4 + 1 → zW E m_Mo_isSame 0 (zSt k) M 96 [some (.ref 83), some (.int x1), some (.int 1), some (.int x3), some (.int y10)] [] Φ))))))) : zW E m_Mo_isSame 0 (zSt k) M 96 [some (.ref 83), some (.int x1), some (.int x2), some (.int x3), some (.int x4)] [] Φ := by
  refine z_iload d_Mo_isSame_96 rfl ?_
  refine z_aload_n d_Mo_isSame_98 rfl ?_
  refine z_getr f_Mo_71 rfl d_Mo_isSame_99 (tA_83 k) (tr_83_24 k) ?_
  refine z_iload_n d_Mo_isSame_102 rfl ?_
  obtain ⟨j1, hj1, ej1, h⟩ := h
  refine y_iaload j1 d_Mo_isSame_103 (ta_104 k) hj1 ej1 ?_
  refine z_icmp_ge 155 d_Mo_isSame_104 rfl ⟨fun c2 => ?_, fun c2 => ?_⟩
  · replace h := h.1 c2
    obtain ⟨y3, ey3⟩ : ∃ q : Int32, q = x3 + 1 := ⟨_, rfl⟩
    replace h := h y3 ey3
    refine z_iinc (ls' := [some (.ref 83), some (.int x1), some (.int x2), some (.int y3), some (.int x4)]) y3 d_Mo_isSame_155 rfl (ey3 ▸ rfl) (Nat.le_of_ble_eq_true rfl) rfl rfl ?_
    refine z_goto 88 d_Mo_isSame_158 rfl ?_
    exact z_forget [some (.ref 83), some (.int x1), some (.int x2), some (.int y3), none] (And.intro rfl (And.intro rfl (And.intro rfl (And.intro rfl (trivial))))) h
  · replace h := h.2 c2
    refine z_iload_n d_Mo_isSame_107 rfl ?_
    refine z_if_eq 155 d_Mo_isSame_108 rfl ⟨fun c4 => ?_, fun c4 => ?_⟩
    · replace h := h.1 c4
      obtain ⟨y5, ey5⟩ : ∃ q : Int32, q = x3 + 1 := ⟨_, rfl⟩
      replace h := h y5 ey5
      refine z_iinc (ls' := [some (.ref 83), some (.int x1), some (.int x2), some (.int y5), some (.int x4)]) y5 d_Mo_isSame_155 rfl (ey5 ▸ rfl) (Nat.le_of_ble_eq_true rfl) rfl rfl ?_
      refine z_goto 88 d_Mo_isSame_158 rfl ?_
      exact z_forget [some (.ref 83), some (.int x1), some (.int x2), some (.int y5), none] (And.intro rfl (And.intro rfl (And.intro rfl (And.intro rfl (trivial))))) h
    · replace h := h.2 c4
      refine z_aload_n d_Mo_isSame_111 rfl ?_
      refine z_getr f_Mo_46 rfl d_Mo_isSame_112 (tA_83 k) (tr_83_14 k) ?_
      refine z_bipush 48 d_Mo_isSame_115 (by decide) ?_
      refine z_iload_n d_Mo_isSame_117 rfl ?_
      refine z_imul d_Mo_isSame_118 ?_
      refine z_bipush 24 d_Mo_isSame_119 (by decide) ?_
      refine z_iload_n d_Mo_isSame_121 rfl ?_
      refine z_imul d_Mo_isSame_122 ?_
      refine z_iadd d_Mo_isSame_123 ?_
      refine z_iload d_Mo_isSame_124 rfl ?_
      refine z_iadd d_Mo_isSame_126 ?_
      obtain ⟨j6, hj6, ej6, h⟩ := h
      refine y_iaload j6 d_Mo_isSame_127 (ta_96 k) hj6 ej6 ?_
      refine z_aload_n d_Mo_isSame_128 rfl ?_
      refine z_getr f_Mo_68 rfl d_Mo_isSame_129 (tA_83 k) (tr_83_23 k) ?_
      refine z_bipush 48 d_Mo_isSame_132 (by decide) ?_
      refine z_iload_n d_Mo_isSame_134 rfl ?_
      refine z_imul d_Mo_isSame_135 ?_
      refine z_iload d_Mo_isSame_136 rfl ?_
      refine z_iadd d_Mo_isSame_138 ?_
      obtain ⟨j7, hj7, ej7, h⟩ := h
      refine y_iaload j7 d_Mo_isSame_139 (ta_103 k) hj7 ej7 ?_
      refine z_icmp_ne 147 d_Mo_isSame_140 rfl ⟨fun c8 => ?_, fun c8 => ?_⟩
      · replace h := h.1 c8
        refine z_iconst 0 d_Mo_isSame_147 (by decide) ?_
        refine z_istore_n (ls' := [some (.ref 83), some (.int x1), some (.int 0), some (.int x3), some (.int x4)]) d_Mo_isSame_148 (Nat.le_of_ble_eq_true rfl) rfl rfl ?_
        obtain ⟨y9, ey9⟩ : ∃ q : Int32, q = x4 + 1 := ⟨_, rfl⟩
        replace h := h y9 ey9
        refine z_iinc (ls' := [some (.ref 83), some (.int x1), some (.int 0), some (.int x3), some (.int y9)]) y9 d_Mo_isSame_149 rfl (ey9 ▸ rfl) (Nat.le_of_ble_eq_true rfl) rfl rfl ?_
        refine z_goto 96 d_Mo_isSame_152 rfl ?_
        exact z_forget [some (.ref 83), some (.int x1), some (.int 0), some (.int x3), some (.int y9)] (And.intro rfl (And.intro rfl (And.intro rfl (And.intro rfl (And.intro rfl (trivial)))))) h
      · replace h := h.2 c8
        refine z_iconst 1 d_Mo_isSame_143 (by decide) ?_
        refine z_goto 148 d_Mo_isSame_144 rfl ?_
        refine z_istore_n (ls' := [some (.ref 83), some (.int x1), some (.int 1), some (.int x3), some (.int x4)]) d_Mo_isSame_148 (Nat.le_of_ble_eq_true rfl) rfl rfl ?_
        obtain ⟨y10, ey10⟩ : ∃ q : Int32, q = x4 + 1 := ⟨_, rfl⟩
        replace h := h y10 ey10
        refine z_iinc (ls' := [some (.ref 83), some (.int x1), some (.int 1), some (.int x3), some (.int y10)]) y10 d_Mo_isSame_149 rfl (ey10 ▸ rfl) (Nat.le_of_ble_eq_true rfl) rfl rfl ?_
        refine z_goto 96 d_Mo_isSame_152 rfl ?_
        exact z_forget [some (.ref 83), some (.int x1), some (.int 1), some (.int x3), some (.int y10)] (And.intro rfl (And.intro rfl (And.intro rfl (And.intro rfl (And.intro rfl (trivial)))))) h

set_option maxRecDepth 20000 in
theorem vc_Mo_lookFor_0 (E : ZE) (k : Nat) (M : ZM)  (Φ : Option Value → ZS → ZM → Prop)  (h : zW E m_Mo_lookFor 1 (zSt k) M 2 [some (.ref 83), some (.int 0)] [] Φ) : zW E m_Mo_lookFor 1 (zSt k) M 0 [some (.ref 83), none] [] Φ := by
  refine z_iconst 0 d_Mo_lookFor_0 (by decide) ?_
  refine z_istore_n (ls' := [some (.ref 83), some (.int 0)]) d_Mo_lookFor_1 (Nat.le_of_ble_eq_true rfl) rfl rfl ?_
  exact z_forget [some (.ref 83), some (.int 0)] (And.intro rfl (And.intro rfl (trivial))) h

set_option maxRecDepth 20000 in
theorem vc_Mo_lookFor_2 (E : ZE) (k : Nat) (M : ZM) (x1 : Int32) (Φ : Option Value → ZS → ZM → Prop)  (h : ((M 83 21) ≤ x1 → Φ (some (.int (-6))) (zSt k) M) ∧ (¬ (M 83 21) ≤ x1 → zW E m_Mo_isSame 0 (zSt k) M 0 [some (.ref 83), some (.int x1), none, none, none] [] (fun q2 T2 M2 => ∃ y2 : Int32, q2 = some (.int y2) ∧ (zSt k) = T2 ∧ (y2 = 0 → ∀ y4 : Int32, y4 = x1 + 1 → zW E m_Mo_lookFor 1 (zSt k) M2 2 [some (.ref 83), some (.int y4)] [] Φ) ∧ (¬ y2 = 0 → Φ (some (.int x1)) (zSt k) M2)))) : zW E m_Mo_lookFor 1 (zSt k) M 2 [some (.ref 83), some (.int x1)] [] Φ := by
  refine z_iload_n d_Mo_lookFor_2 rfl ?_
  refine z_aload_n d_Mo_lookFor_3 rfl ?_
  refine z_geti f_Mo_172 rfl d_Mo_lookFor_4 (tA_83 k) ?_
  refine z_icmp_ge 26 d_Mo_lookFor_7 rfl ⟨fun c1 => ?_, fun c1 => ?_⟩
  · replace h := h.1 c1
    refine z_bipush (-6) d_Mo_lookFor_26 (by decide) ?_
    exact z_iret rfl d_Mo_lookFor_28 h
  · replace h := h.2 c1
    refine z_aload_n d_Mo_lookFor_10 rfl ?_
    refine z_iload_n d_Mo_lookFor_11 rfl ?_
    refine z_callV (as := [.int x1]) (st := []) i_Mo_isSame ⟨rfl, rfl⟩ v_Mo_isSame w_Mo_isSame l_Mo_175 d_Mo_lookFor_12 (by decide) (tA_83 k) rfl (Nat.le_of_ble_eq_true rfl) (Nat.le_of_ble_eq_true rfl) h (fun q2 T2 M2 h => ?_)
    obtain ⟨y2, rfl, rfl, h⟩ := h
    refine z_if_eq 20 d_Mo_lookFor_15 rfl ⟨fun c3 => ?_, fun c3 => ?_⟩
    · replace h := h.1 c3
      obtain ⟨y4, ey4⟩ : ∃ q : Int32, q = x1 + 1 := ⟨_, rfl⟩
      replace h := h y4 ey4
      refine z_iinc (ls' := [some (.ref 83), some (.int y4)]) y4 d_Mo_lookFor_20 rfl (ey4 ▸ rfl) (Nat.le_of_ble_eq_true rfl) rfl rfl ?_
      refine z_goto 2 d_Mo_lookFor_23 rfl ?_
      exact z_forget [some (.ref 83), some (.int y4)] (And.intro rfl (And.intro rfl (trivial))) h
    · replace h := h.2 c3
      refine z_iload_n d_Mo_lookFor_18 rfl ?_
      exact z_iret rfl d_Mo_lookFor_19 h

set_option maxRecDepth 20000 in
theorem vc_Mo_addNode_0 (E : ZE) (k : Nat) (M : ZM) (x1 : Int32) (x2 : Int32) (x3 : Int32) (Φ : Option Value → ZS → ZM → Prop)  (h : zW E m_Mo_addNode 0 (zSt k) M 3 [some (.ref 83), some (.int x1), some (.int x2), some (.int x3), some (.int 0), none] [] Φ) : zW E m_Mo_addNode 0 (zSt k) M 0 [some (.ref 83), some (.int x1), some (.int x2), some (.int x3), none, none] [] Φ := by
  refine z_iconst 0 d_Mo_addNode_0 (by decide) ?_
  refine z_istore (ls' := [some (.ref 83), some (.int x1), some (.int x2), some (.int x3), some (.int 0), none]) d_Mo_addNode_1 (Nat.le_of_ble_eq_true rfl) rfl rfl ?_
  exact z_forget [some (.ref 83), some (.int x1), some (.int x2), some (.int x3), some (.int 0), none] (And.intro rfl (And.intro rfl (And.intro rfl (And.intro rfl (And.intro rfl (trivial)))))) h

set_option maxRecDepth 20000 in
theorem vc_Mo_addNode_3 (E : ZE) (k : Nat) (M : ZM) (x1 : Int32) (x2 : Int32) (x3 : Int32) (x4 : Int32) (Φ : Option Value → ZS → ZM → Prop)  (h : (2 ≤ x4 → zW E m_Mo_addNode 0 (zSt k) M 94 [some (.ref 83), some (.int x1), some (.int x2), some (.int x3), some (.int 0), none] [] Φ) ∧ (¬ 2 ≤ x4 → ∃ j2 : Nat, j2 < 2 ∧ x4 = nI j2 ∧ (∃ j3 : Nat, j3 < 300 ∧ ((2 * (M 83 21)) + x4) = nI j3 ∧ (∀ M4 : ZM, M4 = zms M 97 j3 (M 104 j2) → zW E m_Mo_addNode 0 (zSt k) M4 33 [some (.ref 83), some (.int x1), some (.int x2), some (.int x3), some (.int x4), some (.int 0)] [] Φ)))) : zW E m_Mo_addNode 0 (zSt k) M 3 [some (.ref 83), some (.int x1), some (.int x2), some (.int x3), some (.int x4), none] [] Φ := by
  refine z_iload d_Mo_addNode_3 rfl ?_
  refine z_iconst 2 d_Mo_addNode_5 (by decide) ?_
  refine z_icmp_ge 91 d_Mo_addNode_6 rfl ⟨fun c1 => ?_, fun c1 => ?_⟩
  · replace h := h.1 c1
    refine z_iconst 0 d_Mo_addNode_91 (by decide) ?_
    refine z_istore (ls' := [some (.ref 83), some (.int x1), some (.int x2), some (.int x3), some (.int 0), none]) d_Mo_addNode_92 (Nat.le_of_ble_eq_true rfl) rfl rfl ?_
    exact z_forget [some (.ref 83), some (.int x1), some (.int x2), some (.int x3), some (.int 0), none] (And.intro rfl (And.intro rfl (And.intro rfl (And.intro rfl (And.intro rfl (trivial)))))) h
  · replace h := h.2 c1
    refine z_aload_n d_Mo_addNode_9 rfl ?_
    refine z_getr f_Mo_49 rfl d_Mo_addNode_10 (tA_83 k) (tr_83_15 k) ?_
    refine z_iconst 2 d_Mo_addNode_13 (by decide) ?_
    refine z_aload_n d_Mo_addNode_14 rfl ?_
    refine z_geti f_Mo_172 rfl d_Mo_addNode_15 (tA_83 k) ?_
    refine z_imul d_Mo_addNode_18 ?_
    refine z_iload d_Mo_addNode_19 rfl ?_
    refine z_iadd d_Mo_addNode_21 ?_
    refine z_aload_n d_Mo_addNode_22 rfl ?_
    refine z_getr f_Mo_71 rfl d_Mo_addNode_23 (tA_83 k) (tr_83_24 k) ?_
    refine z_iload d_Mo_addNode_26 rfl ?_
    obtain ⟨j2, hj2, ej2, h⟩ := h
    refine y_iaload j2 d_Mo_addNode_28 (ta_104 k) hj2 ej2 ?_
    obtain ⟨j3, hj3, ej3, h⟩ := h
    refine y_iastore j3 d_Mo_addNode_29 (ta_97 k) hj3 ej3 ?_
    refine z_mem (fun M4 eM4 => ?_)
    replace h := h M4 eM4
    refine z_iconst 0 d_Mo_addNode_30 (by decide) ?_
    refine z_istore (ls' := [some (.ref 83), some (.int x1), some (.int x2), some (.int x3), some (.int x4), some (.int 0)]) d_Mo_addNode_31 (Nat.le_of_ble_eq_true rfl) rfl rfl ?_
    exact z_forget [some (.ref 83), some (.int x1), some (.int x2), some (.int x3), some (.int x4), some (.int 0)] (And.intro rfl (And.intro rfl (And.intro rfl (And.intro rfl (And.intro rfl (And.intro rfl (trivial))))))) h

set_option maxRecDepth 20000 in
theorem vc_Mo_addNode_33 (E : ZE) (k : Nat) (M : ZM) (x1 : Int32) (x2 : Int32) (x3 : Int32) (x4 : Int32) (x5 : Int32) (Φ : Option Value → ZS → ZM → Prop)  (h : ∃ j1 : Nat, j1 < 2 ∧ x4 = nI j1 ∧ (((M 104 j1) ≤ x5 → ∀ y3 : Int32, y3 = x4 + 1 → zW E m_Mo_addNode 0 (zSt k) M 3 [some (.ref 83), some (.int x1), some (.int x2), some (.int x3), some (.int y3), none] [] Φ) ∧ (¬ (M 104 j1) ≤ x5 → ∃ j4 : Nat, j4 < 96 ∧ ((48 * x4) + x5) = nI j4 ∧ (∃ j5 : Nat, j5 < 7200 ∧ (((48 * (M 83 21)) + (24 * x4)) + x5) = nI j5 ∧ (∀ M6 : ZM, M6 = zms M 96 j5 (M 103 j4) → ∀ y7 : Int32, y7 = x5 + 1 → zW E m_Mo_addNode 0 (zSt k) M6 33 [some (.ref 83), some (.int x1), some (.int x2), some (.int x3), some (.int x4), some (.int y7)] [] Φ))))) : zW E m_Mo_addNode 0 (zSt k) M 33 [some (.ref 83), some (.int x1), some (.int x2), some (.int x3), some (.int x4), some (.int x5)] [] Φ := by
  refine z_iload d_Mo_addNode_33 rfl ?_
  refine z_aload_n d_Mo_addNode_35 rfl ?_
  refine z_getr f_Mo_71 rfl d_Mo_addNode_36 (tA_83 k) (tr_83_24 k) ?_
  refine z_iload d_Mo_addNode_39 rfl ?_
  obtain ⟨j1, hj1, ej1, h⟩ := h
  refine y_iaload j1 d_Mo_addNode_41 (ta_104 k) hj1 ej1 ?_
  refine z_icmp_ge 85 d_Mo_addNode_42 rfl ⟨fun c2 => ?_, fun c2 => ?_⟩
  · replace h := h.1 c2
    obtain ⟨y3, ey3⟩ : ∃ q : Int32, q = x4 + 1 := ⟨_, rfl⟩
    replace h := h y3 ey3
    refine z_iinc (ls' := [some (.ref 83), some (.int x1), some (.int x2), some (.int x3), some (.int y3), some (.int x5)]) y3 d_Mo_addNode_85 rfl (ey3 ▸ rfl) (Nat.le_of_ble_eq_true rfl) rfl rfl ?_
    refine z_goto 3 d_Mo_addNode_88 rfl ?_
    exact z_forget [some (.ref 83), some (.int x1), some (.int x2), some (.int x3), some (.int y3), none] (And.intro rfl (And.intro rfl (And.intro rfl (And.intro rfl (And.intro rfl (trivial)))))) h
  · replace h := h.2 c2
    refine z_aload_n d_Mo_addNode_45 rfl ?_
    refine z_getr f_Mo_46 rfl d_Mo_addNode_46 (tA_83 k) (tr_83_14 k) ?_
    refine z_bipush 48 d_Mo_addNode_49 (by decide) ?_
    refine z_aload_n d_Mo_addNode_51 rfl ?_
    refine z_geti f_Mo_172 rfl d_Mo_addNode_52 (tA_83 k) ?_
    refine z_imul d_Mo_addNode_55 ?_
    refine z_bipush 24 d_Mo_addNode_56 (by decide) ?_
    refine z_iload d_Mo_addNode_58 rfl ?_
    refine z_imul d_Mo_addNode_60 ?_
    refine z_iadd d_Mo_addNode_61 ?_
    refine z_iload d_Mo_addNode_62 rfl ?_
    refine z_iadd d_Mo_addNode_64 ?_
    refine z_aload_n d_Mo_addNode_65 rfl ?_
    refine z_getr f_Mo_68 rfl d_Mo_addNode_66 (tA_83 k) (tr_83_23 k) ?_
    refine z_bipush 48 d_Mo_addNode_69 (by decide) ?_
    refine z_iload d_Mo_addNode_71 rfl ?_
    refine z_imul d_Mo_addNode_73 ?_
    refine z_iload d_Mo_addNode_74 rfl ?_
    refine z_iadd d_Mo_addNode_76 ?_
    obtain ⟨j4, hj4, ej4, h⟩ := h
    refine y_iaload j4 d_Mo_addNode_77 (ta_103 k) hj4 ej4 ?_
    obtain ⟨j5, hj5, ej5, h⟩ := h
    refine y_iastore j5 d_Mo_addNode_78 (ta_96 k) hj5 ej5 ?_
    refine z_mem (fun M6 eM6 => ?_)
    replace h := h M6 eM6
    obtain ⟨y7, ey7⟩ : ∃ q : Int32, q = x5 + 1 := ⟨_, rfl⟩
    replace h := h y7 ey7
    refine z_iinc (ls' := [some (.ref 83), some (.int x1), some (.int x2), some (.int x3), some (.int x4), some (.int y7)]) y7 d_Mo_addNode_79 rfl (ey7 ▸ rfl) (Nat.le_of_ble_eq_true rfl) rfl rfl ?_
    refine z_goto 33 d_Mo_addNode_82 rfl ?_
    exact z_forget [some (.ref 83), some (.int x1), some (.int x2), some (.int x3), some (.int x4), some (.int y7)] (And.intro rfl (And.intro rfl (And.intro rfl (And.intro rfl (And.intro rfl (And.intro rfl (trivial))))))) h

set_option maxRecDepth 20000 in
theorem vc_Mo_addNode_94 (E : ZE) (k : Nat) (M : ZM) (x1 : Int32) (x2 : Int32) (x3 : Int32) (x4 : Int32) (Φ : Option Value → ZS → ZM → Prop)  (h : (9 ≤ x4 → ∃ j2 : Nat, j2 < 150 ∧ (M 83 21) = nI j2 ∧ (∀ M3 : ZM, M3 = zms M 99 j2 x1 → ∃ j4 : Nat, j4 < 150 ∧ (M3 83 21) = nI j4 ∧ (∀ M5 : ZM, M5 = zms M3 100 j4 x2 → ∃ j6 : Nat, j6 < 150 ∧ (M5 83 21) = nI j6 ∧ (∀ M7 : ZM, M7 = zms M5 101 j6 x3 → ∃ j8 : Nat, j8 < 150 ∧ (M7 83 21) = nI j8 ∧ (∀ M9 : ZM, M9 = zms M7 102 j8 0 → ∀ M10 : ZM, M10 = zms M9 83 21 ((M9 83 21) + 1) → Φ none (zSt k) M10))))) ∧ (¬ 9 ≤ x4 → ∃ j11 : Nat, j11 < 9 ∧ x4 = nI j11 ∧ (∃ j12 : Nat, j12 < 1350 ∧ ((9 * (M 83 21)) + x4) = nI j12 ∧ (∀ M13 : ZM, M13 = zms M 98 j12 (M 105 j11) → ∀ y14 : Int32, y14 = x4 + 1 → zW E m_Mo_addNode 0 (zSt k) M13 94 [some (.ref 83), some (.int x1), some (.int x2), some (.int x3), some (.int y14), none] [] Φ)))) : zW E m_Mo_addNode 0 (zSt k) M 94 [some (.ref 83), some (.int x1), some (.int x2), some (.int x3), some (.int x4), none] [] Φ := by
  refine z_iload d_Mo_addNode_94 rfl ?_
  refine z_bipush 9 d_Mo_addNode_96 (by decide) ?_
  refine z_icmp_ge 129 d_Mo_addNode_98 rfl ⟨fun c1 => ?_, fun c1 => ?_⟩
  · replace h := h.1 c1
    refine z_aload_n d_Mo_addNode_129 rfl ?_
    refine z_getr f_Mo_55 rfl d_Mo_addNode_130 (tA_83 k) (tr_83_17 k) ?_
    refine z_aload_n d_Mo_addNode_133 rfl ?_
    refine z_geti f_Mo_172 rfl d_Mo_addNode_134 (tA_83 k) ?_
    refine z_iload_n d_Mo_addNode_137 rfl ?_
    obtain ⟨j2, hj2, ej2, h⟩ := h
    refine y_iastore j2 d_Mo_addNode_138 (ta_99 k) hj2 ej2 ?_
    refine z_mem (fun M3 eM3 => ?_)
    replace h := h M3 eM3
    refine z_aload_n d_Mo_addNode_139 rfl ?_
    refine z_getr f_Mo_58 rfl d_Mo_addNode_140 (tA_83 k) (tr_83_18 k) ?_
    refine z_aload_n d_Mo_addNode_143 rfl ?_
    refine z_geti f_Mo_172 rfl d_Mo_addNode_144 (tA_83 k) ?_
    refine z_iload_n d_Mo_addNode_147 rfl ?_
    obtain ⟨j4, hj4, ej4, h⟩ := h
    refine y_iastore j4 d_Mo_addNode_148 (ta_100 k) hj4 ej4 ?_
    refine z_mem (fun M5 eM5 => ?_)
    replace h := h M5 eM5
    refine z_aload_n d_Mo_addNode_149 rfl ?_
    refine z_getr f_Mo_61 rfl d_Mo_addNode_150 (tA_83 k) (tr_83_19 k) ?_
    refine z_aload_n d_Mo_addNode_153 rfl ?_
    refine z_geti f_Mo_172 rfl d_Mo_addNode_154 (tA_83 k) ?_
    refine z_iload_n d_Mo_addNode_157 rfl ?_
    obtain ⟨j6, hj6, ej6, h⟩ := h
    refine y_iastore j6 d_Mo_addNode_158 (ta_101 k) hj6 ej6 ?_
    refine z_mem (fun M7 eM7 => ?_)
    replace h := h M7 eM7
    refine z_aload_n d_Mo_addNode_159 rfl ?_
    refine z_getr f_Mo_64 rfl d_Mo_addNode_160 (tA_83 k) (tr_83_20 k) ?_
    refine z_aload_n d_Mo_addNode_163 rfl ?_
    refine z_geti f_Mo_172 rfl d_Mo_addNode_164 (tA_83 k) ?_
    refine z_iconst 0 d_Mo_addNode_167 (by decide) ?_
    obtain ⟨j8, hj8, ej8, h⟩ := h
    refine y_bastore j8 d_Mo_addNode_168 (ta_102 k) hj8 ej8 rfl ?_
    refine z_mem (fun M9 eM9 => ?_)
    replace h := h M9 eM9
    refine z_aload_n d_Mo_addNode_169 rfl ?_
    refine z_dup d_Mo_addNode_170 rfl ?_
    refine z_geti f_Mo_172 rfl d_Mo_addNode_171 (tA_83 k) ?_
    refine z_iconst 1 d_Mo_addNode_174 (by decide) ?_
    refine z_iadd d_Mo_addNode_175 ?_
    refine z_puti (p_Mo_172 rfl) rfl d_Mo_addNode_176 (tA_83 k) rfl rfl ?_
    refine z_mem (fun M10 eM10 => ?_)
    replace h := h M10 eM10
    exact z_vret rfl d_Mo_addNode_179 h
  · replace h := h.2 c1
    refine z_aload_n d_Mo_addNode_101 rfl ?_
    refine z_getr f_Mo_52 rfl d_Mo_addNode_102 (tA_83 k) (tr_83_16 k) ?_
    refine z_bipush 9 d_Mo_addNode_105 (by decide) ?_
    refine z_aload_n d_Mo_addNode_107 rfl ?_
    refine z_geti f_Mo_172 rfl d_Mo_addNode_108 (tA_83 k) ?_
    refine z_imul d_Mo_addNode_111 ?_
    refine z_iload d_Mo_addNode_112 rfl ?_
    refine z_iadd d_Mo_addNode_114 ?_
    refine z_aload_n d_Mo_addNode_115 rfl ?_
    refine z_getr f_Mo_74 rfl d_Mo_addNode_116 (tA_83 k) (tr_83_25 k) ?_
    refine z_iload d_Mo_addNode_119 rfl ?_
    obtain ⟨j11, hj11, ej11, h⟩ := h
    refine y_iaload j11 d_Mo_addNode_121 (ta_105 k) hj11 ej11 ?_
    obtain ⟨j12, hj12, ej12, h⟩ := h
    refine y_iastore j12 d_Mo_addNode_122 (ta_98 k) hj12 ej12 ?_
    refine z_mem (fun M13 eM13 => ?_)
    replace h := h M13 eM13
    obtain ⟨y14, ey14⟩ : ∃ q : Int32, q = x4 + 1 := ⟨_, rfl⟩
    replace h := h y14 ey14
    refine z_iinc (ls' := [some (.ref 83), some (.int x1), some (.int x2), some (.int x3), some (.int y14), none]) y14 d_Mo_addNode_123 rfl (ey14 ▸ rfl) (Nat.le_of_ble_eq_true rfl) rfl rfl ?_
    refine z_goto 94 d_Mo_addNode_126 rfl ?_
    exact z_forget [some (.ref 83), some (.int x1), some (.int x2), some (.int x3), some (.int y14), none] (And.intro rfl (And.intro rfl (And.intro rfl (And.intro rfl (And.intro rfl (trivial)))))) h

set_option maxRecDepth 20000 in
theorem vc_Mo_firstOf_0 (E : ZE) (k : Nat) (M : ZM) (x1 : Int32) (x2 : Int32) (Φ : Option Value → ZS → ZM → Prop)  (h : ∃ j1 : Nat, j1 < 300 ∧ ((2 * x1) + x2) = nI j1 ∧ (((M 97 j1) ≤ 0 → Φ (some (.int (-6))) (zSt k) M) ∧ (¬ (M 97 j1) ≤ 0 → ∃ j3 : Nat, j3 < 7200 ∧ ((48 * x1) + (24 * x2)) = nI j3 ∧ (Φ (some (.int (M 96 j3))) (zSt k) M)))) : zW E m_Mo_firstOf 0 (zSt k) M 0 [some (.ref 83), some (.int x1), some (.int x2)] [] Φ := by
  refine z_aload_n d_Mo_firstOf_0 rfl ?_
  refine z_getr f_Mo_49 rfl d_Mo_firstOf_1 (tA_83 k) (tr_83_15 k) ?_
  refine z_iconst 2 d_Mo_firstOf_4 (by decide) ?_
  refine z_iload_n d_Mo_firstOf_5 rfl ?_
  refine z_imul d_Mo_firstOf_6 ?_
  refine z_iload_n d_Mo_firstOf_7 rfl ?_
  refine z_iadd d_Mo_firstOf_8 ?_
  obtain ⟨j1, hj1, ej1, h⟩ := h
  refine y_iaload j1 d_Mo_firstOf_9 (ta_97 k) hj1 ej1 ?_
  refine z_if_le 30 d_Mo_firstOf_10 rfl ⟨fun c2 => ?_, fun c2 => ?_⟩
  · replace h := h.1 c2
    refine z_bipush (-6) d_Mo_firstOf_30 (by decide) ?_
    exact z_iret rfl d_Mo_firstOf_32 h
  · replace h := h.2 c2
    refine z_aload_n d_Mo_firstOf_13 rfl ?_
    refine z_getr f_Mo_46 rfl d_Mo_firstOf_14 (tA_83 k) (tr_83_14 k) ?_
    refine z_bipush 48 d_Mo_firstOf_17 (by decide) ?_
    refine z_iload_n d_Mo_firstOf_19 rfl ?_
    refine z_imul d_Mo_firstOf_20 ?_
    refine z_bipush 24 d_Mo_firstOf_21 (by decide) ?_
    refine z_iload_n d_Mo_firstOf_23 rfl ?_
    refine z_imul d_Mo_firstOf_24 ?_
    refine z_iadd d_Mo_firstOf_25 ?_
    obtain ⟨j3, hj3, ej3, h⟩ := h
    refine y_iaload j3 d_Mo_firstOf_26 (ta_96 k) hj3 ej3 ?_
    refine z_goto 32 d_Mo_firstOf_27 rfl ?_
    exact z_iret rfl d_Mo_firstOf_32 h

set_option maxRecDepth 20000 in
theorem vc_Mo_isEnd_0 (E : ZE) (k : Nat) (M : ZM) (x1 : Int32) (Φ : Option Value → ZS → ZM → Prop)  (h : zW E m_Mo_firstFor 1 (zSt k) M 0 [some (.ref 83), some (.ref 98), some (.int (9 * x1)), none] [] (fun q1 T1 M1 => ∃ y1 : Int32, q1 = some (.int y1) ∧ (zSt k) = T1 ∧ (y1 < 0 → ∃ j3 : Nat, j3 < 300 ∧ (2 * x1) = nI j3 ∧ ((¬ (M1 97 j3) = 0 → Φ (some (.int 0)) (zSt k) M1) ∧ ((M1 97 j3) = 0 → ∃ j5 : Nat, j5 < 300 ∧ ((2 * x1) + 1) = nI j5 ∧ ((¬ (M1 97 j5) = 0 → Φ (some (.int 0)) (zSt k) M1) ∧ ((M1 97 j5) = 0 → Φ (some (.int 0)) (zSt k) M1))))) ∧ (¬ y1 < 0 → zW E m_Mo_firstFor 1 (zSt k) M1 0 [some (.ref 83), some (.ref 98), some (.int ((9 * x1) + 3)), none] [] (fun q7 T7 M7 => ∃ y7 : Int32, q7 = some (.int y7) ∧ (zSt k) = T7 ∧ (y7 < 0 → ∃ j9 : Nat, j9 < 300 ∧ (2 * x1) = nI j9 ∧ ((¬ (M7 97 j9) = 0 → Φ (some (.int 0)) (zSt k) M7) ∧ ((M7 97 j9) = 0 → ∃ j11 : Nat, j11 < 300 ∧ ((2 * x1) + 1) = nI j11 ∧ ((¬ (M7 97 j11) = 0 → Φ (some (.int 0)) (zSt k) M7) ∧ ((M7 97 j11) = 0 → Φ (some (.int 0)) (zSt k) M7))))) ∧ (¬ y7 < 0 → zW E m_Mo_firstFor 1 (zSt k) M7 0 [some (.ref 83), some (.ref 98), some (.int ((9 * x1) + 6)), none] [] (fun q13 T13 M13 => ∃ y13 : Int32, q13 = some (.int y13) ∧ (zSt k) = T13 ∧ (y13 < 0 → ∃ j15 : Nat, j15 < 300 ∧ (2 * x1) = nI j15 ∧ ((¬ (M13 97 j15) = 0 → Φ (some (.int 0)) (zSt k) M13) ∧ ((M13 97 j15) = 0 → ∃ j17 : Nat, j17 < 300 ∧ ((2 * x1) + 1) = nI j17 ∧ ((¬ (M13 97 j17) = 0 → Φ (some (.int 0)) (zSt k) M13) ∧ ((M13 97 j17) = 0 → Φ (some (.int 0)) (zSt k) M13))))) ∧ (¬ y13 < 0 → ∃ j19 : Nat, j19 < 300 ∧ (2 * x1) = nI j19 ∧ ((¬ (M13 97 j19) = 0 → Φ (some (.int 0)) (zSt k) M13) ∧ ((M13 97 j19) = 0 → ∃ j21 : Nat, j21 < 300 ∧ ((2 * x1) + 1) = nI j21 ∧ ((¬ (M13 97 j21) = 0 → Φ (some (.int 0)) (zSt k) M13) ∧ ((M13 97 j21) = 0 → Φ (some (.int 1)) (zSt k) M13))))))))))) : zW E m_Mo_isEnd 2 (zSt k) M 0 [some (.ref 83), some (.int x1), none] [] Φ := by
  refine z_aload_n d_Mo_isEnd_0 rfl ?_
  refine z_aload_n d_Mo_isEnd_1 rfl ?_
  refine z_getr f_Mo_52 rfl d_Mo_isEnd_2 (tA_83 k) (tr_83_16 k) ?_
  refine z_bipush 9 d_Mo_isEnd_5 (by decide) ?_
  refine z_iload_n d_Mo_isEnd_7 rfl ?_
  refine z_imul d_Mo_isEnd_8 ?_
  refine z_callV (as := [.ref 98, .int (9 * x1)]) (st := []) i_Mo_firstFor ⟨rfl, rfl⟩ v_Mo_firstFor w_Mo_firstFor l_Mo_165 d_Mo_isEnd_9 (by decide) (tA_83 k) rfl (Nat.le_of_ble_eq_true rfl) (Nat.le_of_ble_eq_true rfl) h (fun q1 T1 M1 h => ?_)
  obtain ⟨y1, rfl, rfl, h⟩ := h
  refine z_if_lt 54 d_Mo_isEnd_12 rfl ⟨fun c2 => ?_, fun c2 => ?_⟩
  · replace h := h.1 c2
    refine z_iconst 0 d_Mo_isEnd_54 (by decide) ?_
    refine z_istore_n (ls' := [some (.ref 83), some (.int x1), some (.int 0)]) d_Mo_isEnd_55 (Nat.le_of_ble_eq_true rfl) rfl rfl ?_
    refine z_aload_n d_Mo_isEnd_56 rfl ?_
    refine z_getr f_Mo_49 rfl d_Mo_isEnd_57 (tA_83 k) (tr_83_15 k) ?_
    refine z_iconst 2 d_Mo_isEnd_60 (by decide) ?_
    refine z_iload_n d_Mo_isEnd_61 rfl ?_
    refine z_imul d_Mo_isEnd_62 ?_
    obtain ⟨j3, hj3, ej3, h⟩ := h
    refine y_iaload j3 d_Mo_isEnd_63 (ta_97 k) hj3 ej3 ?_
    refine z_if_ne 88 d_Mo_isEnd_64 rfl ⟨fun c4 => ?_, fun c4 => ?_⟩
    · replace h := h.1 c4
      refine z_iconst 0 d_Mo_isEnd_88 (by decide) ?_
      exact z_zret rfl d_Mo_isEnd_89 rfl h
    · replace h := h.2 c4
      refine z_aload_n d_Mo_isEnd_67 rfl ?_
      refine z_getr f_Mo_49 rfl d_Mo_isEnd_68 (tA_83 k) (tr_83_15 k) ?_
      refine z_iconst 2 d_Mo_isEnd_71 (by decide) ?_
      refine z_iload_n d_Mo_isEnd_72 rfl ?_
      refine z_imul d_Mo_isEnd_73 ?_
      refine z_iconst 1 d_Mo_isEnd_74 (by decide) ?_
      refine z_iadd d_Mo_isEnd_75 ?_
      obtain ⟨j5, hj5, ej5, h⟩ := h
      refine y_iaload j5 d_Mo_isEnd_76 (ta_97 k) hj5 ej5 ?_
      refine z_if_ne 88 d_Mo_isEnd_77 rfl ⟨fun c6 => ?_, fun c6 => ?_⟩
      · replace h := h.1 c6
        refine z_iconst 0 d_Mo_isEnd_88 (by decide) ?_
        exact z_zret rfl d_Mo_isEnd_89 rfl h
      · replace h := h.2 c6
        refine z_iload_n d_Mo_isEnd_80 rfl ?_
        refine z_if_eq 88 d_Mo_isEnd_81 rfl ⟨fun _ => ?_, fun q => absurd (by decide) q⟩
        refine z_iconst 0 d_Mo_isEnd_88 (by decide) ?_
        exact z_zret rfl d_Mo_isEnd_89 rfl h
  · replace h := h.2 c2
    refine z_aload_n d_Mo_isEnd_15 rfl ?_
    refine z_aload_n d_Mo_isEnd_16 rfl ?_
    refine z_getr f_Mo_52 rfl d_Mo_isEnd_17 (tA_83 k) (tr_83_16 k) ?_
    refine z_bipush 9 d_Mo_isEnd_20 (by decide) ?_
    refine z_iload_n d_Mo_isEnd_22 rfl ?_
    refine z_imul d_Mo_isEnd_23 ?_
    refine z_iconst 3 d_Mo_isEnd_24 (by decide) ?_
    refine z_iadd d_Mo_isEnd_25 ?_
    refine z_callV (as := [.ref 98, .int ((9 * x1) + 3)]) (st := []) i_Mo_firstFor ⟨rfl, rfl⟩ v_Mo_firstFor w_Mo_firstFor l_Mo_165 d_Mo_isEnd_26 (by decide) (tA_83 k) rfl (Nat.le_of_ble_eq_true rfl) (Nat.le_of_ble_eq_true rfl) h (fun q7 T7 M7 h => ?_)
    obtain ⟨y7, rfl, rfl, h⟩ := h
    refine z_if_lt 54 d_Mo_isEnd_29 rfl ⟨fun c8 => ?_, fun c8 => ?_⟩
    · replace h := h.1 c8
      refine z_iconst 0 d_Mo_isEnd_54 (by decide) ?_
      refine z_istore_n (ls' := [some (.ref 83), some (.int x1), some (.int 0)]) d_Mo_isEnd_55 (Nat.le_of_ble_eq_true rfl) rfl rfl ?_
      refine z_aload_n d_Mo_isEnd_56 rfl ?_
      refine z_getr f_Mo_49 rfl d_Mo_isEnd_57 (tA_83 k) (tr_83_15 k) ?_
      refine z_iconst 2 d_Mo_isEnd_60 (by decide) ?_
      refine z_iload_n d_Mo_isEnd_61 rfl ?_
      refine z_imul d_Mo_isEnd_62 ?_
      obtain ⟨j9, hj9, ej9, h⟩ := h
      refine y_iaload j9 d_Mo_isEnd_63 (ta_97 k) hj9 ej9 ?_
      refine z_if_ne 88 d_Mo_isEnd_64 rfl ⟨fun c10 => ?_, fun c10 => ?_⟩
      · replace h := h.1 c10
        refine z_iconst 0 d_Mo_isEnd_88 (by decide) ?_
        exact z_zret rfl d_Mo_isEnd_89 rfl h
      · replace h := h.2 c10
        refine z_aload_n d_Mo_isEnd_67 rfl ?_
        refine z_getr f_Mo_49 rfl d_Mo_isEnd_68 (tA_83 k) (tr_83_15 k) ?_
        refine z_iconst 2 d_Mo_isEnd_71 (by decide) ?_
        refine z_iload_n d_Mo_isEnd_72 rfl ?_
        refine z_imul d_Mo_isEnd_73 ?_
        refine z_iconst 1 d_Mo_isEnd_74 (by decide) ?_
        refine z_iadd d_Mo_isEnd_75 ?_
        obtain ⟨j11, hj11, ej11, h⟩ := h
        refine y_iaload j11 d_Mo_isEnd_76 (ta_97 k) hj11 ej11 ?_
        refine z_if_ne 88 d_Mo_isEnd_77 rfl ⟨fun c12 => ?_, fun c12 => ?_⟩
        · replace h := h.1 c12
          refine z_iconst 0 d_Mo_isEnd_88 (by decide) ?_
          exact z_zret rfl d_Mo_isEnd_89 rfl h
        · replace h := h.2 c12
          refine z_iload_n d_Mo_isEnd_80 rfl ?_
          refine z_if_eq 88 d_Mo_isEnd_81 rfl ⟨fun _ => ?_, fun q => absurd (by decide) q⟩
          refine z_iconst 0 d_Mo_isEnd_88 (by decide) ?_
          exact z_zret rfl d_Mo_isEnd_89 rfl h
    · replace h := h.2 c8
      refine z_aload_n d_Mo_isEnd_32 rfl ?_
      refine z_aload_n d_Mo_isEnd_33 rfl ?_
      refine z_getr f_Mo_52 rfl d_Mo_isEnd_34 (tA_83 k) (tr_83_16 k) ?_
      refine z_bipush 9 d_Mo_isEnd_37 (by decide) ?_
      refine z_iload_n d_Mo_isEnd_39 rfl ?_
      refine z_imul d_Mo_isEnd_40 ?_
      refine z_bipush 6 d_Mo_isEnd_41 (by decide) ?_
      refine z_iadd d_Mo_isEnd_43 ?_
      refine z_callV (as := [.ref 98, .int ((9 * x1) + 6)]) (st := []) i_Mo_firstFor ⟨rfl, rfl⟩ v_Mo_firstFor w_Mo_firstFor l_Mo_165 d_Mo_isEnd_44 (by decide) (tA_83 k) rfl (Nat.le_of_ble_eq_true rfl) (Nat.le_of_ble_eq_true rfl) h (fun q13 T13 M13 h => ?_)
      obtain ⟨y13, rfl, rfl, h⟩ := h
      refine z_if_lt 54 d_Mo_isEnd_47 rfl ⟨fun c14 => ?_, fun c14 => ?_⟩
      · replace h := h.1 c14
        refine z_iconst 0 d_Mo_isEnd_54 (by decide) ?_
        refine z_istore_n (ls' := [some (.ref 83), some (.int x1), some (.int 0)]) d_Mo_isEnd_55 (Nat.le_of_ble_eq_true rfl) rfl rfl ?_
        refine z_aload_n d_Mo_isEnd_56 rfl ?_
        refine z_getr f_Mo_49 rfl d_Mo_isEnd_57 (tA_83 k) (tr_83_15 k) ?_
        refine z_iconst 2 d_Mo_isEnd_60 (by decide) ?_
        refine z_iload_n d_Mo_isEnd_61 rfl ?_
        refine z_imul d_Mo_isEnd_62 ?_
        obtain ⟨j15, hj15, ej15, h⟩ := h
        refine y_iaload j15 d_Mo_isEnd_63 (ta_97 k) hj15 ej15 ?_
        refine z_if_ne 88 d_Mo_isEnd_64 rfl ⟨fun c16 => ?_, fun c16 => ?_⟩
        · replace h := h.1 c16
          refine z_iconst 0 d_Mo_isEnd_88 (by decide) ?_
          exact z_zret rfl d_Mo_isEnd_89 rfl h
        · replace h := h.2 c16
          refine z_aload_n d_Mo_isEnd_67 rfl ?_
          refine z_getr f_Mo_49 rfl d_Mo_isEnd_68 (tA_83 k) (tr_83_15 k) ?_
          refine z_iconst 2 d_Mo_isEnd_71 (by decide) ?_
          refine z_iload_n d_Mo_isEnd_72 rfl ?_
          refine z_imul d_Mo_isEnd_73 ?_
          refine z_iconst 1 d_Mo_isEnd_74 (by decide) ?_
          refine z_iadd d_Mo_isEnd_75 ?_
          obtain ⟨j17, hj17, ej17, h⟩ := h
          refine y_iaload j17 d_Mo_isEnd_76 (ta_97 k) hj17 ej17 ?_
          refine z_if_ne 88 d_Mo_isEnd_77 rfl ⟨fun c18 => ?_, fun c18 => ?_⟩
          · replace h := h.1 c18
            refine z_iconst 0 d_Mo_isEnd_88 (by decide) ?_
            exact z_zret rfl d_Mo_isEnd_89 rfl h
          · replace h := h.2 c18
            refine z_iload_n d_Mo_isEnd_80 rfl ?_
            refine z_if_eq 88 d_Mo_isEnd_81 rfl ⟨fun _ => ?_, fun q => absurd (by decide) q⟩
            refine z_iconst 0 d_Mo_isEnd_88 (by decide) ?_
            exact z_zret rfl d_Mo_isEnd_89 rfl h
      · replace h := h.2 c14
        refine z_iconst 1 d_Mo_isEnd_50 (by decide) ?_
        refine z_goto 55 d_Mo_isEnd_51 rfl ?_
        refine z_istore_n (ls' := [some (.ref 83), some (.int x1), some (.int 1)]) d_Mo_isEnd_55 (Nat.le_of_ble_eq_true rfl) rfl rfl ?_
        refine z_aload_n d_Mo_isEnd_56 rfl ?_
        refine z_getr f_Mo_49 rfl d_Mo_isEnd_57 (tA_83 k) (tr_83_15 k) ?_
        refine z_iconst 2 d_Mo_isEnd_60 (by decide) ?_
        refine z_iload_n d_Mo_isEnd_61 rfl ?_
        refine z_imul d_Mo_isEnd_62 ?_
        obtain ⟨j19, hj19, ej19, h⟩ := h
        refine y_iaload j19 d_Mo_isEnd_63 (ta_97 k) hj19 ej19 ?_
        refine z_if_ne 88 d_Mo_isEnd_64 rfl ⟨fun c20 => ?_, fun c20 => ?_⟩
        · replace h := h.1 c20
          refine z_iconst 0 d_Mo_isEnd_88 (by decide) ?_
          exact z_zret rfl d_Mo_isEnd_89 rfl h
        · replace h := h.2 c20
          refine z_aload_n d_Mo_isEnd_67 rfl ?_
          refine z_getr f_Mo_49 rfl d_Mo_isEnd_68 (tA_83 k) (tr_83_15 k) ?_
          refine z_iconst 2 d_Mo_isEnd_71 (by decide) ?_
          refine z_iload_n d_Mo_isEnd_72 rfl ?_
          refine z_imul d_Mo_isEnd_73 ?_
          refine z_iconst 1 d_Mo_isEnd_74 (by decide) ?_
          refine z_iadd d_Mo_isEnd_75 ?_
          obtain ⟨j21, hj21, ej21, h⟩ := h
          refine y_iaload j21 d_Mo_isEnd_76 (ta_97 k) hj21 ej21 ?_
          refine z_if_ne 88 d_Mo_isEnd_77 rfl ⟨fun c22 => ?_, fun c22 => ?_⟩
          · replace h := h.1 c22
            refine z_iconst 0 d_Mo_isEnd_88 (by decide) ?_
            exact z_zret rfl d_Mo_isEnd_89 rfl h
          · replace h := h.2 c22
            refine z_iload_n d_Mo_isEnd_80 rfl ?_
            refine z_if_eq 88 d_Mo_isEnd_81 rfl ⟨fun q => absurd q (by decide), fun _ => ?_⟩
            refine z_iconst 1 d_Mo_isEnd_84 (by decide) ?_
            refine z_goto 89 d_Mo_isEnd_85 rfl ?_
            exact z_zret rfl d_Mo_isEnd_89 rfl h

set_option maxRecDepth 20000 in
theorem vc_Mo_addMove_0 (E : ZE) (k : Nat) (M : ZM) (x1 : Int32) (x2 : Int32) (x3 : Int32) (Φ : Option Value → ZS → ZM → Prop)  (h : ∃ j1 : Nat, j1 < 60 ∧ (M 83 27) = nI j1 ∧ (∀ M2 : ZM, M2 = zms M 106 j1 (((1000 * x1) + (100 * x2)) + x3) → ∀ M3 : ZM, M3 = zms M2 83 27 ((M2 83 27) + 1) → Φ none (zSt k) M3)) : zW E m_Mo_addMove 0 (zSt k) M 0 [some (.ref 83), some (.int x1), some (.int x2), some (.int x3)] [] Φ := by
  refine z_aload_n d_Mo_addMove_0 rfl ?_
  refine z_getr f_Mo_77 rfl d_Mo_addMove_1 (tA_83 k) (tr_83_26 k) ?_
  refine z_aload_n d_Mo_addMove_4 rfl ?_
  refine z_geti f_Mo_178 rfl d_Mo_addMove_5 (tA_83 k) ?_
  refine z_sipush 1000 d_Mo_addMove_8 (by decide) ?_
  refine z_iload_n d_Mo_addMove_11 rfl ?_
  refine z_imul d_Mo_addMove_12 ?_
  refine z_bipush 100 d_Mo_addMove_13 (by decide) ?_
  refine z_iload_n d_Mo_addMove_15 rfl ?_
  refine z_imul d_Mo_addMove_16 ?_
  refine z_iadd d_Mo_addMove_17 ?_
  refine z_iload_n d_Mo_addMove_18 rfl ?_
  refine z_iadd d_Mo_addMove_19 ?_
  obtain ⟨j1, hj1, ej1, h⟩ := h
  refine y_iastore j1 d_Mo_addMove_20 (ta_106 k) hj1 ej1 ?_
  refine z_mem (fun M2 eM2 => ?_)
  replace h := h M2 eM2
  refine z_aload_n d_Mo_addMove_21 rfl ?_
  refine z_dup d_Mo_addMove_22 rfl ?_
  refine z_geti f_Mo_178 rfl d_Mo_addMove_23 (tA_83 k) ?_
  refine z_iconst 1 d_Mo_addMove_26 (by decide) ?_
  refine z_iadd d_Mo_addMove_27 ?_
  refine z_puti (p_Mo_178 rfl) rfl d_Mo_addMove_28 (tA_83 k) rfl rfl ?_
  refine z_mem (fun M3 eM3 => ?_)
  replace h := h M3 eM3
  exact z_vret rfl d_Mo_addMove_31 h

set_option maxRecDepth 20000 in
theorem vc_Mo_third_0 (E : ZE) (k : Nat) (M : ZM) (x0 : Int32) (Φ : Option Value → ZS → ZM → Prop)  (h : (¬ x0 = 0 → (¬ x0 = 1 → Φ (some (.int 9)) (zSt k) M) ∧ (x0 = 1 → Φ (some (.int 3)) (zSt k) M)) ∧ (x0 = 0 → Φ (some (.int 1)) (zSt k) M)) : zW E m_Mo_third 0 (zSt k) M 0 [some (.int x0)] [] Φ := by
  refine z_iload_n d_Mo_third_0 rfl ?_
  refine z_if_ne 8 d_Mo_third_1 rfl ⟨fun c1 => ?_, fun c1 => ?_⟩
  · replace h := h.1 c1
    refine z_iload_n d_Mo_third_8 rfl ?_
    refine z_iconst 1 d_Mo_third_9 (by decide) ?_
    refine z_icmp_ne 17 d_Mo_third_10 rfl ⟨fun c2 => ?_, fun c2 => ?_⟩
    · replace h := h.1 c2
      refine z_bipush 9 d_Mo_third_17 (by decide) ?_
      exact z_iret rfl d_Mo_third_19 h
    · replace h := h.2 c2
      refine z_iconst 3 d_Mo_third_13 (by decide) ?_
      refine z_goto 19 d_Mo_third_14 rfl ?_
      exact z_iret rfl d_Mo_third_19 h
  · replace h := h.2 c1
    refine z_iconst 1 d_Mo_third_4 (by decide) ?_
    refine z_goto 19 d_Mo_third_5 rfl ?_
    exact z_iret rfl d_Mo_third_19 h

set_option maxRecDepth 20000 in
theorem vc_Mo_isTurn_0 (E : ZE) (k : Nat) (M : ZM) (x1 : Int32) (x2 : Int32) (x3 : Int32) (Φ : Option Value → ZS → ZM → Prop)  (h : zW E m_Mo_isTurn 1 (zSt k) M 6 [some (.ref 83), some (.int x1), some (.int x2), some (.int x3), some (.int 1), some (.int 0)] [] Φ) : zW E m_Mo_isTurn 1 (zSt k) M 0 [some (.ref 83), some (.int x1), some (.int x2), some (.int x3), none, none] [] Φ := by
  refine z_iconst 1 d_Mo_isTurn_0 (by decide) ?_
  refine z_istore (ls' := [some (.ref 83), some (.int x1), some (.int x2), some (.int x3), some (.int 1), none]) d_Mo_isTurn_1 (Nat.le_of_ble_eq_true rfl) rfl rfl ?_
  refine z_iconst 0 d_Mo_isTurn_3 (by decide) ?_
  refine z_istore (ls' := [some (.ref 83), some (.int x1), some (.int x2), some (.int x3), some (.int 1), some (.int 0)]) d_Mo_isTurn_4 (Nat.le_of_ble_eq_true rfl) rfl rfl ?_
  exact z_forget [some (.ref 83), some (.int x1), some (.int x2), some (.int x3), some (.int 1), some (.int 0)] (And.intro rfl (And.intro rfl (And.intro rfl (And.intro rfl (And.intro rfl (And.intro rfl (trivial))))))) h

set_option maxRecDepth 20000 in
theorem vc_Mo_isTurn_6 (E : ZE) (k : Nat) (M : ZM) (x1 : Int32) (x2 : Int32) (x3 : Int32) (x4 : Int32) (x5 : Int32) (Φ : Option Value → ZS → ZM → Prop)  (h : (3 ≤ x5 → (x4 = 0 ∨ x4 = 1) ∧ Φ (some (.int x4)) (zSt k) M) ∧ (¬ 3 ≤ x5 → (x4 = 0 → ∀ y3 : Int32, y3 = x5 + 1 → zW E m_Mo_isTurn 1 (zSt k) M 6 [some (.ref 83), some (.int x1), some (.int x2), some (.int x3), some (.int 0), some (.int y3)] [] Φ) ∧ (¬ x4 = 0 → ∃ j4 : Nat, j4 < 1350 ∧ (((9 * x1) + (3 * x2)) + x5) = nI j4 ∧ ((¬ (M 98 j4) = 7 → ∀ y6 : Int32, y6 = x5 + 1 → zW E m_Mo_isTurn 1 (zSt k) M 6 [some (.ref 83), some (.int x1), some (.int x2), some (.int x3), some (.int 1), some (.int y6)] [] Φ) ∧ ((M 98 j4) = 7 → zW E m_Mo_third 0 (zSt k) M 0 [some (.int x5)] [] (fun q7 T7 M7 => ∃ y7 : Int32, q7 = some (.int y7) ∧ (zSt k) = T7 ∧ ¬ y7 = 0 ∧ ((¬ ((x3 / y7) - (x3 / y7) / 3 * 3) = 0 → ∀ y10 : Int32, y10 = x5 + 1 → zW E m_Mo_isTurn 1 (zSt k) M7 6 [some (.ref 83), some (.int x1), some (.int x2), some (.int x3), some (.int 0), some (.int y10)] [] Φ) ∧ (((x3 / y7) - (x3 / y7) / 3 * 3) = 0 → ∀ y11 : Int32, y11 = x5 + 1 → zW E m_Mo_isTurn 1 (zSt k) M7 6 [some (.ref 83), some (.int x1), some (.int x2), some (.int x3), some (.int 1), some (.int y11)] [] Φ)))))))) : zW E m_Mo_isTurn 1 (zSt k) M 6 [some (.ref 83), some (.int x1), some (.int x2), some (.int x3), some (.int x4), some (.int x5)] [] Φ := by
  refine z_iload d_Mo_isTurn_6 rfl ?_
  refine z_iconst 3 d_Mo_isTurn_8 (by decide) ?_
  refine z_icmp_ge 63 d_Mo_isTurn_9 rfl ⟨fun c1 => ?_, fun c1 => ?_⟩
  · replace h := h.1 c1
    refine z_iload d_Mo_isTurn_63 rfl ?_
    exact z_zret rfl d_Mo_isTurn_65 (zbool h.1).1 h.2
  · replace h := h.2 c1
    refine z_iload d_Mo_isTurn_12 rfl ?_
    refine z_if_eq 54 d_Mo_isTurn_14 rfl ⟨fun c2 => ?_, fun c2 => ?_⟩
    · replace h := h.1 c2
      refine z_iconst 0 d_Mo_isTurn_54 (by decide) ?_
      refine z_istore (ls' := [some (.ref 83), some (.int x1), some (.int x2), some (.int x3), some (.int 0), some (.int x5)]) d_Mo_isTurn_55 (Nat.le_of_ble_eq_true rfl) rfl rfl ?_
      obtain ⟨y3, ey3⟩ : ∃ q : Int32, q = x5 + 1 := ⟨_, rfl⟩
      replace h := h y3 ey3
      refine z_iinc (ls' := [some (.ref 83), some (.int x1), some (.int x2), some (.int x3), some (.int 0), some (.int y3)]) y3 d_Mo_isTurn_57 rfl (ey3 ▸ rfl) (Nat.le_of_ble_eq_true rfl) rfl rfl ?_
      refine z_goto 6 d_Mo_isTurn_60 rfl ?_
      exact z_forget [some (.ref 83), some (.int x1), some (.int x2), some (.int x3), some (.int 0), some (.int y3)] (And.intro rfl (And.intro rfl (And.intro rfl (And.intro rfl (And.intro rfl (And.intro rfl (trivial))))))) h
    · replace h := h.2 c2
      refine z_aload_n d_Mo_isTurn_17 rfl ?_
      refine z_getr f_Mo_52 rfl d_Mo_isTurn_18 (tA_83 k) (tr_83_16 k) ?_
      refine z_bipush 9 d_Mo_isTurn_21 (by decide) ?_
      refine z_iload_n d_Mo_isTurn_23 rfl ?_
      refine z_imul d_Mo_isTurn_24 ?_
      refine z_iconst 3 d_Mo_isTurn_25 (by decide) ?_
      refine z_iload_n d_Mo_isTurn_26 rfl ?_
      refine z_imul d_Mo_isTurn_27 ?_
      refine z_iadd d_Mo_isTurn_28 ?_
      refine z_iload d_Mo_isTurn_29 rfl ?_
      refine z_iadd d_Mo_isTurn_31 ?_
      obtain ⟨j4, hj4, ej4, h⟩ := h
      refine y_iaload j4 d_Mo_isTurn_32 (ta_98 k) hj4 ej4 ?_
      refine z_bipush 7 d_Mo_isTurn_33 (by decide) ?_
      refine z_icmp_ne 50 d_Mo_isTurn_35 rfl ⟨fun c5 => ?_, fun c5 => ?_⟩
      · replace h := h.1 c5
        refine z_iconst 1 d_Mo_isTurn_50 (by decide) ?_
        refine z_goto 55 d_Mo_isTurn_51 rfl ?_
        refine z_istore (ls' := [some (.ref 83), some (.int x1), some (.int x2), some (.int x3), some (.int 1), some (.int x5)]) d_Mo_isTurn_55 (Nat.le_of_ble_eq_true rfl) rfl rfl ?_
        obtain ⟨y6, ey6⟩ : ∃ q : Int32, q = x5 + 1 := ⟨_, rfl⟩
        replace h := h y6 ey6
        refine z_iinc (ls' := [some (.ref 83), some (.int x1), some (.int x2), some (.int x3), some (.int 1), some (.int y6)]) y6 d_Mo_isTurn_57 rfl (ey6 ▸ rfl) (Nat.le_of_ble_eq_true rfl) rfl rfl ?_
        refine z_goto 6 d_Mo_isTurn_60 rfl ?_
        exact z_forget [some (.ref 83), some (.int x1), some (.int x2), some (.int x3), some (.int 1), some (.int y6)] (And.intro rfl (And.intro rfl (And.intro rfl (And.intro rfl (And.intro rfl (And.intro rfl (trivial))))))) h
      · replace h := h.2 c5
        refine z_iload_n d_Mo_isTurn_38 rfl ?_
        refine z_iload d_Mo_isTurn_39 rfl ?_
        refine z_callS (as := [.int x5]) (st := [.int x3]) i_Mo_third s_Mo_third l_Mo_181 d_Mo_isTurn_41 (by decide) rfl (Nat.le_of_ble_eq_true rfl) (Nat.le_of_ble_eq_true rfl) h (fun q7 T7 M7 h => ?_)
        obtain ⟨y7, rfl, rfl, h⟩ := h
        obtain ⟨hn8, h⟩ := h
        refine z_idiv d_Mo_isTurn_44 hn8 ?_
        refine z_iconst 3 d_Mo_isTurn_45 (by decide) ?_
        refine z_irem d_Mo_isTurn_46 (by decide) ?_
        refine z_if_ne 54 d_Mo_isTurn_47 rfl ⟨fun c9 => ?_, fun c9 => ?_⟩
        · replace h := h.1 c9
          refine z_iconst 0 d_Mo_isTurn_54 (by decide) ?_
          refine z_istore (ls' := [some (.ref 83), some (.int x1), some (.int x2), some (.int x3), some (.int 0), some (.int x5)]) d_Mo_isTurn_55 (Nat.le_of_ble_eq_true rfl) rfl rfl ?_
          obtain ⟨y10, ey10⟩ : ∃ q : Int32, q = x5 + 1 := ⟨_, rfl⟩
          replace h := h y10 ey10
          refine z_iinc (ls' := [some (.ref 83), some (.int x1), some (.int x2), some (.int x3), some (.int 0), some (.int y10)]) y10 d_Mo_isTurn_57 rfl (ey10 ▸ rfl) (Nat.le_of_ble_eq_true rfl) rfl rfl ?_
          refine z_goto 6 d_Mo_isTurn_60 rfl ?_
          exact z_forget [some (.ref 83), some (.int x1), some (.int x2), some (.int x3), some (.int 0), some (.int y10)] (And.intro rfl (And.intro rfl (And.intro rfl (And.intro rfl (And.intro rfl (And.intro rfl (trivial))))))) h
        · replace h := h.2 c9
          refine z_iconst 1 d_Mo_isTurn_50 (by decide) ?_
          refine z_goto 55 d_Mo_isTurn_51 rfl ?_
          refine z_istore (ls' := [some (.ref 83), some (.int x1), some (.int x2), some (.int x3), some (.int 1), some (.int x5)]) d_Mo_isTurn_55 (Nat.le_of_ble_eq_true rfl) rfl rfl ?_
          obtain ⟨y11, ey11⟩ : ∃ q : Int32, q = x5 + 1 := ⟨_, rfl⟩
          replace h := h y11 ey11
          refine z_iinc (ls' := [some (.ref 83), some (.int x1), some (.int x2), some (.int x3), some (.int 1), some (.int y11)]) y11 d_Mo_isTurn_57 rfl (ey11 ▸ rfl) (Nat.le_of_ble_eq_true rfl) rfl rfl ?_
          refine z_goto 6 d_Mo_isTurn_60 rfl ?_
          exact z_forget [some (.ref 83), some (.int x1), some (.int x2), some (.int x3), some (.int 1), some (.int y11)] (And.intro rfl (And.intro rfl (And.intro rfl (And.intro rfl (And.intro rfl (And.intro rfl (trivial))))))) h

set_option maxRecDepth 20000 in
theorem vc_Mo_addBegins_0 (E : ZE) (k : Nat) (M : ZM) (x1 : Int32) (x2 : Int32) (x3 : Int32) (Φ : Option Value → ZS → ZM → Prop)  (h : (2 ≤ x3 → zW E m_Mo_addBegins 2 (zSt k) M 16 [some (.ref 83), some (.int x1), some (.int x2), none, some (.int 0)] [] Φ) ∧ (¬ 2 ≤ x3 → zW E m_Mo_addMove 0 (zSt k) M 0 [some (.ref 83), some (.int 1), some (.int x2), some (.int 0)] [] (fun q2 T2 M2 => q2 = none ∧ (zSt k) = T2 ∧ Φ none (zSt k) M2))) : zW E m_Mo_addBegins 2 (zSt k) M 0 [some (.ref 83), some (.int x1), some (.int x2), some (.int x3), none] [] Φ := by
  refine z_iload_n d_Mo_addBegins_0 rfl ?_
  refine z_iconst 2 d_Mo_addBegins_1 (by decide) ?_
  refine z_icmp_ge 13 d_Mo_addBegins_2 rfl ⟨fun c1 => ?_, fun c1 => ?_⟩
  · replace h := h.1 c1
    refine z_iconst 0 d_Mo_addBegins_13 (by decide) ?_
    refine z_istore (ls' := [some (.ref 83), some (.int x1), some (.int x2), some (.int x3), some (.int 0)]) d_Mo_addBegins_14 (Nat.le_of_ble_eq_true rfl) rfl rfl ?_
    exact z_forget [some (.ref 83), some (.int x1), some (.int x2), none, some (.int 0)] (And.intro rfl (And.intro rfl (And.intro rfl (And.intro rfl (trivial))))) h
  · replace h := h.2 c1
    refine z_aload_n d_Mo_addBegins_5 rfl ?_
    refine z_iconst 1 d_Mo_addBegins_6 (by decide) ?_
    refine z_iload_n d_Mo_addBegins_7 rfl ?_
    refine z_iconst 0 d_Mo_addBegins_8 (by decide) ?_
    refine z_callV (as := [.int 1, .int x2, .int 0]) (st := []) i_Mo_addMove ⟨rfl, rfl⟩ v_Mo_addMove w_Mo_addMove l_Mo_184 d_Mo_addBegins_9 (by decide) (tA_83 k) rfl (Nat.le_of_ble_eq_true rfl) (Nat.le_of_ble_eq_true rfl) h (fun q2 T2 M2 h => ?_)
    obtain ⟨rfl, rfl, h⟩ := h
    exact z_vret rfl d_Mo_addBegins_12 h

set_option maxRecDepth 20000 in
theorem vc_Mo_addBegins_16 (E : ZE) (k : Nat) (M : ZM) (x1 : Int32) (x2 : Int32) (x4 : Int32) (Φ : Option Value → ZS → ZM → Prop)  (h : (27 ≤ x4 → Φ none (zSt k) M) ∧ (¬ 27 ≤ x4 → zW E m_Mo_isTurn 1 (zSt k) M 0 [some (.ref 83), some (.int x1), some (.int x2), some (.int x4), none, none] [] (fun q2 T2 M2 => ∃ y2 : Int32, q2 = some (.int y2) ∧ (zSt k) = T2 ∧ (y2 = 0 → ∀ y4 : Int32, y4 = x4 + 1 → zW E m_Mo_addBegins 2 (zSt k) M2 16 [some (.ref 83), some (.int x1), some (.int x2), none, some (.int y4)] [] Φ) ∧ (¬ y2 = 0 → zW E m_Mo_addMove 0 (zSt k) M2 0 [some (.ref 83), some (.int 1), some (.int x2), some (.int x4)] [] (fun q5 T5 M5 => q5 = none ∧ (zSt k) = T5 ∧ ∀ y6 : Int32, y6 = x4 + 1 → zW E m_Mo_addBegins 2 (zSt k) M5 16 [some (.ref 83), some (.int x1), some (.int x2), none, some (.int y6)] [] Φ))))) : zW E m_Mo_addBegins 2 (zSt k) M 16 [some (.ref 83), some (.int x1), some (.int x2), none, some (.int x4)] [] Φ := by
  refine z_iload d_Mo_addBegins_16 rfl ?_
  refine z_bipush 27 d_Mo_addBegins_18 (by decide) ?_
  refine z_icmp_ge 48 d_Mo_addBegins_20 rfl ⟨fun c1 => ?_, fun c1 => ?_⟩
  · replace h := h.1 c1
    exact z_vret rfl d_Mo_addBegins_48 h
  · replace h := h.2 c1
    refine z_aload_n d_Mo_addBegins_23 rfl ?_
    refine z_iload_n d_Mo_addBegins_24 rfl ?_
    refine z_iload_n d_Mo_addBegins_25 rfl ?_
    refine z_iload d_Mo_addBegins_26 rfl ?_
    refine z_callV (as := [.int x1, .int x2, .int x4]) (st := []) i_Mo_isTurn ⟨rfl, rfl⟩ v_Mo_isTurn w_Mo_isTurn l_Mo_188 d_Mo_addBegins_28 (by decide) (tA_83 k) rfl (Nat.le_of_ble_eq_true rfl) (Nat.le_of_ble_eq_true rfl) h (fun q2 T2 M2 h => ?_)
    obtain ⟨y2, rfl, rfl, h⟩ := h
    refine z_if_eq 42 d_Mo_addBegins_31 rfl ⟨fun c3 => ?_, fun c3 => ?_⟩
    · replace h := h.1 c3
      obtain ⟨y4, ey4⟩ : ∃ q : Int32, q = x4 + 1 := ⟨_, rfl⟩
      replace h := h y4 ey4
      refine z_iinc (ls' := [some (.ref 83), some (.int x1), some (.int x2), none, some (.int y4)]) y4 d_Mo_addBegins_42 rfl (ey4 ▸ rfl) (Nat.le_of_ble_eq_true rfl) rfl rfl ?_
      refine z_goto 16 d_Mo_addBegins_45 rfl ?_
      exact z_forget [some (.ref 83), some (.int x1), some (.int x2), none, some (.int y4)] (And.intro rfl (And.intro rfl (And.intro rfl (And.intro rfl (trivial))))) h
    · replace h := h.2 c3
      refine z_aload_n d_Mo_addBegins_34 rfl ?_
      refine z_iconst 1 d_Mo_addBegins_35 (by decide) ?_
      refine z_iload_n d_Mo_addBegins_36 rfl ?_
      refine z_iload d_Mo_addBegins_37 rfl ?_
      refine z_callV (as := [.int 1, .int x2, .int x4]) (st := []) i_Mo_addMove ⟨rfl, rfl⟩ v_Mo_addMove w_Mo_addMove l_Mo_184 d_Mo_addBegins_39 (by decide) (tA_83 k) rfl (Nat.le_of_ble_eq_true rfl) (Nat.le_of_ble_eq_true rfl) h (fun q5 T5 M5 h => ?_)
      obtain ⟨rfl, rfl, h⟩ := h
      obtain ⟨y6, ey6⟩ : ∃ q : Int32, q = x4 + 1 := ⟨_, rfl⟩
      replace h := h y6 ey6
      refine z_iinc (ls' := [some (.ref 83), some (.int x1), some (.int x2), none, some (.int y6)]) y6 d_Mo_addBegins_42 rfl (ey6 ▸ rfl) (Nat.le_of_ble_eq_true rfl) rfl rfl ?_
      refine z_goto 16 d_Mo_addBegins_45 rfl ?_
      exact z_forget [some (.ref 83), some (.int x1), some (.int x2), none, some (.int y6)] (And.intro rfl (And.intro rfl (And.intro rfl (And.intro rfl (trivial))))) h

set_option maxRecDepth 20000 in
theorem vc_Mo_findMoves_0 (E : ZE) (k : Nat) (M : ZM) (x1 : Int32) (Φ : Option Value → ZS → ZM → Prop)  (h : ∀ M1 : ZM, M1 = zms M 83 27 0 → zW E m_Mo_firstOf 0 (zSt k) M1 0 [some (.ref 83), some (.int x1), some (.int 0)] [] (fun q2 T2 M2 => ∃ y2 : Int32, q2 = some (.int y2) ∧ (zSt k) = T2 ∧ zW E m_Mo_firstOf 0 (zSt k) M2 0 [some (.ref 83), some (.int x1), some (.int 1)] [] (fun q3 T3 M3 => ∃ y3 : Int32, q3 = some (.int y3) ∧ (zSt k) = T3 ∧ (y2 < 2 → (y3 < 2 → (y2 < 2 → (y3 < 2 → Φ none (zSt k) M3) ∧ (¬ y3 < 2 → (y2 < 0 → Φ none (zSt k) M3) ∧ (¬ y2 < 0 → zW E m_Mo_addBegins 2 (zSt k) M3 0 [some (.ref 83), some (.int x1), some (.int (y3 - 2)), some (.int y2), none] [] (fun q9 T9 M9 => q9 = none ∧ (zSt k) = T9 ∧ Φ none (zSt k) M9)))) ∧ (¬ y2 < 2 → (y3 < 0 → (y3 < 2 → Φ none (zSt k) M3) ∧ (¬ y3 < 2 → (y2 < 0 → Φ none (zSt k) M3) ∧ (¬ y2 < 0 → zW E m_Mo_addBegins 2 (zSt k) M3 0 [some (.ref 83), some (.int x1), some (.int (y3 - 2)), some (.int y2), none] [] (fun q13 T13 M13 => q13 = none ∧ (zSt k) = T13 ∧ Φ none (zSt k) M13)))) ∧ (¬ y3 < 0 → zW E m_Mo_addBegins 2 (zSt k) M3 0 [some (.ref 83), some (.int x1), some (.int (y2 - 2)), some (.int y3), none] [] (fun q14 T14 M14 => q14 = none ∧ (zSt k) = T14 ∧ (y3 < 2 → Φ none (zSt k) M14) ∧ (¬ y3 < 2 → (y2 < 0 → Φ none (zSt k) M14) ∧ (¬ y2 < 0 → zW E m_Mo_addBegins 2 (zSt k) M14 0 [some (.ref 83), some (.int x1), some (.int (y3 - 2)), some (.int y2), none] [] (fun q17 T17 M17 => q17 = none ∧ (zSt k) = T17 ∧ Φ none (zSt k) M17))))))) ∧ (¬ y3 < 2 → zW E m_Mo_addMove 0 (zSt k) M3 0 [some (.ref 83), some (.int 0), some (.int (y3 - 2)), some (.int 0)] [] (fun q18 T18 M18 => q18 = none ∧ (zSt k) = T18 ∧ (y2 < 2 → (y3 < 2 → Φ none (zSt k) M18) ∧ (¬ y3 < 2 → (y2 < 0 → Φ none (zSt k) M18) ∧ (¬ y2 < 0 → zW E m_Mo_addBegins 2 (zSt k) M18 0 [some (.ref 83), some (.int x1), some (.int (y3 - 2)), some (.int y2), none] [] (fun q22 T22 M22 => q22 = none ∧ (zSt k) = T22 ∧ Φ none (zSt k) M22)))) ∧ (¬ y2 < 2 → (y3 < 0 → (y3 < 2 → Φ none (zSt k) M18) ∧ (¬ y3 < 2 → (y2 < 0 → Φ none (zSt k) M18) ∧ (¬ y2 < 0 → zW E m_Mo_addBegins 2 (zSt k) M18 0 [some (.ref 83), some (.int x1), some (.int (y3 - 2)), some (.int y2), none] [] (fun q26 T26 M26 => q26 = none ∧ (zSt k) = T26 ∧ Φ none (zSt k) M26)))) ∧ (¬ y3 < 0 → zW E m_Mo_addBegins 2 (zSt k) M18 0 [some (.ref 83), some (.int x1), some (.int (y2 - 2)), some (.int y3), none] [] (fun q27 T27 M27 => q27 = none ∧ (zSt k) = T27 ∧ (y3 < 2 → Φ none (zSt k) M27) ∧ (¬ y3 < 2 → (y2 < 0 → Φ none (zSt k) M27) ∧ (¬ y2 < 0 → zW E m_Mo_addBegins 2 (zSt k) M27 0 [some (.ref 83), some (.int x1), some (.int (y3 - 2)), some (.int y2), none] [] (fun q30 T30 M30 => q30 = none ∧ (zSt k) = T30 ∧ Φ none (zSt k) M30))))))))) ∧ (¬ y2 < 2 → zW E m_Mo_addMove 0 (zSt k) M3 0 [some (.ref 83), some (.int 0), some (.int (y2 - 2)), some (.int 0)] [] (fun q31 T31 M31 => q31 = none ∧ (zSt k) = T31 ∧ (y3 < 2 → (y2 < 2 → (y3 < 2 → Φ none (zSt k) M31) ∧ (¬ y3 < 2 → (y2 < 0 → Φ none (zSt k) M31) ∧ (¬ y2 < 0 → zW E m_Mo_addBegins 2 (zSt k) M31 0 [some (.ref 83), some (.int x1), some (.int (y3 - 2)), some (.int y2), none] [] (fun q36 T36 M36 => q36 = none ∧ (zSt k) = T36 ∧ Φ none (zSt k) M36)))) ∧ (¬ y2 < 2 → (y3 < 0 → (y3 < 2 → Φ none (zSt k) M31) ∧ (¬ y3 < 2 → (y2 < 0 → Φ none (zSt k) M31) ∧ (¬ y2 < 0 → zW E m_Mo_addBegins 2 (zSt k) M31 0 [some (.ref 83), some (.int x1), some (.int (y3 - 2)), some (.int y2), none] [] (fun q40 T40 M40 => q40 = none ∧ (zSt k) = T40 ∧ Φ none (zSt k) M40)))) ∧ (¬ y3 < 0 → zW E m_Mo_addBegins 2 (zSt k) M31 0 [some (.ref 83), some (.int x1), some (.int (y2 - 2)), some (.int y3), none] [] (fun q41 T41 M41 => q41 = none ∧ (zSt k) = T41 ∧ (y3 < 2 → Φ none (zSt k) M41) ∧ (¬ y3 < 2 → (y2 < 0 → Φ none (zSt k) M41) ∧ (¬ y2 < 0 → zW E m_Mo_addBegins 2 (zSt k) M41 0 [some (.ref 83), some (.int x1), some (.int (y3 - 2)), some (.int y2), none] [] (fun q44 T44 M44 => q44 = none ∧ (zSt k) = T44 ∧ Φ none (zSt k) M44))))))) ∧ (¬ y3 < 2 → zW E m_Mo_addMove 0 (zSt k) M31 0 [some (.ref 83), some (.int 0), some (.int (y3 - 2)), some (.int 0)] [] (fun q45 T45 M45 => q45 = none ∧ (zSt k) = T45 ∧ (y2 < 2 → (y3 < 2 → Φ none (zSt k) M45) ∧ (¬ y3 < 2 → (y2 < 0 → Φ none (zSt k) M45) ∧ (¬ y2 < 0 → zW E m_Mo_addBegins 2 (zSt k) M45 0 [some (.ref 83), some (.int x1), some (.int (y3 - 2)), some (.int y2), none] [] (fun q49 T49 M49 => q49 = none ∧ (zSt k) = T49 ∧ Φ none (zSt k) M49)))) ∧ (¬ y2 < 2 → (y3 < 0 → (y3 < 2 → Φ none (zSt k) M45) ∧ (¬ y3 < 2 → (y2 < 0 → Φ none (zSt k) M45) ∧ (¬ y2 < 0 → zW E m_Mo_addBegins 2 (zSt k) M45 0 [some (.ref 83), some (.int x1), some (.int (y3 - 2)), some (.int y2), none] [] (fun q53 T53 M53 => q53 = none ∧ (zSt k) = T53 ∧ Φ none (zSt k) M53)))) ∧ (¬ y3 < 0 → zW E m_Mo_addBegins 2 (zSt k) M45 0 [some (.ref 83), some (.int x1), some (.int (y2 - 2)), some (.int y3), none] [] (fun q54 T54 M54 => q54 = none ∧ (zSt k) = T54 ∧ (y3 < 2 → Φ none (zSt k) M54) ∧ (¬ y3 < 2 → (y2 < 0 → Φ none (zSt k) M54) ∧ (¬ y2 < 0 → zW E m_Mo_addBegins 2 (zSt k) M54 0 [some (.ref 83), some (.int x1), some (.int (y3 - 2)), some (.int y2), none] [] (fun q57 T57 M57 => q57 = none ∧ (zSt k) = T57 ∧ Φ none (zSt k) M57))))))))))))) : zW E m_Mo_findMoves 3 (zSt k) M 0 [some (.ref 83), some (.int x1), none, none] [] Φ := by
  refine z_aload_n d_Mo_findMoves_0 rfl ?_
  refine z_iconst 0 d_Mo_findMoves_1 (by decide) ?_
  refine z_puti (p_Mo_178 rfl) rfl d_Mo_findMoves_2 (tA_83 k) rfl rfl ?_
  refine z_mem (fun M1 eM1 => ?_)
  replace h := h M1 eM1
  refine z_aload_n d_Mo_findMoves_5 rfl ?_
  refine z_iload_n d_Mo_findMoves_6 rfl ?_
  refine z_iconst 0 d_Mo_findMoves_7 (by decide) ?_
  refine z_callV (as := [.int x1, .int 0]) (st := []) i_Mo_firstOf ⟨rfl, rfl⟩ v_Mo_firstOf w_Mo_firstOf l_Mo_191 d_Mo_findMoves_8 (by decide) (tA_83 k) rfl (Nat.le_of_ble_eq_true rfl) (Nat.le_of_ble_eq_true rfl) h (fun q2 T2 M2 h => ?_)
  obtain ⟨y2, rfl, rfl, h⟩ := h
  refine z_istore_n (ls' := [some (.ref 83), some (.int x1), some (.int y2), none]) d_Mo_findMoves_11 (Nat.le_of_ble_eq_true rfl) rfl rfl ?_
  refine z_aload_n d_Mo_findMoves_12 rfl ?_
  refine z_iload_n d_Mo_findMoves_13 rfl ?_
  refine z_iconst 1 d_Mo_findMoves_14 (by decide) ?_
  refine z_callV (as := [.int x1, .int 1]) (st := []) i_Mo_firstOf ⟨rfl, rfl⟩ v_Mo_firstOf w_Mo_firstOf l_Mo_191 d_Mo_findMoves_15 (by decide) (tA_83 k) rfl (Nat.le_of_ble_eq_true rfl) (Nat.le_of_ble_eq_true rfl) h (fun q3 T3 M3 h => ?_)
  obtain ⟨y3, rfl, rfl, h⟩ := h
  refine z_istore_n (ls' := [some (.ref 83), some (.int x1), some (.int y2), some (.int y3)]) d_Mo_findMoves_18 (Nat.le_of_ble_eq_true rfl) rfl rfl ?_
  refine z_iload_n d_Mo_findMoves_19 rfl ?_
  refine z_iconst 2 d_Mo_findMoves_20 (by decide) ?_
  refine z_icmp_lt 33 d_Mo_findMoves_21 rfl ⟨fun c4 => ?_, fun c4 => ?_⟩
  · replace h := h.1 c4
    refine z_iload_n d_Mo_findMoves_33 rfl ?_
    refine z_iconst 2 d_Mo_findMoves_34 (by decide) ?_
    refine z_icmp_lt 47 d_Mo_findMoves_35 rfl ⟨fun c5 => ?_, fun c5 => ?_⟩
    · replace h := h.1 c5
      refine z_iload_n d_Mo_findMoves_47 rfl ?_
      refine z_iconst 2 d_Mo_findMoves_48 (by decide) ?_
      refine z_icmp_lt 65 d_Mo_findMoves_49 rfl ⟨fun c6 => ?_, fun c6 => ?_⟩
      · replace h := h.1 c6
        refine z_iload_n d_Mo_findMoves_65 rfl ?_
        refine z_iconst 2 d_Mo_findMoves_66 (by decide) ?_
        refine z_icmp_lt 83 d_Mo_findMoves_67 rfl ⟨fun c7 => ?_, fun c7 => ?_⟩
        · replace h := h.1 c7
          exact z_vret rfl d_Mo_findMoves_83 h
        · replace h := h.2 c7
          refine z_iload_n d_Mo_findMoves_70 rfl ?_
          refine z_if_lt 83 d_Mo_findMoves_71 rfl ⟨fun c8 => ?_, fun c8 => ?_⟩
          · replace h := h.1 c8
            exact z_vret rfl d_Mo_findMoves_83 h
          · replace h := h.2 c8
            refine z_aload_n d_Mo_findMoves_74 rfl ?_
            refine z_iload_n d_Mo_findMoves_75 rfl ?_
            refine z_iload_n d_Mo_findMoves_76 rfl ?_
            refine z_iconst 2 d_Mo_findMoves_77 (by decide) ?_
            refine z_isub d_Mo_findMoves_78 ?_
            refine z_iload_n d_Mo_findMoves_79 rfl ?_
            refine z_callV (as := [.int x1, .int (y3 - 2), .int y2]) (st := []) i_Mo_addBegins ⟨rfl, rfl⟩ v_Mo_addBegins w_Mo_addBegins l_Mo_195 d_Mo_findMoves_80 (by decide) (tA_83 k) rfl (Nat.le_of_ble_eq_true rfl) (Nat.le_of_ble_eq_true rfl) h (fun q9 T9 M9 h => ?_)
            obtain ⟨rfl, rfl, h⟩ := h
            exact z_vret rfl d_Mo_findMoves_83 h
      · replace h := h.2 c6
        refine z_iload_n d_Mo_findMoves_52 rfl ?_
        refine z_if_lt 65 d_Mo_findMoves_53 rfl ⟨fun c10 => ?_, fun c10 => ?_⟩
        · replace h := h.1 c10
          refine z_iload_n d_Mo_findMoves_65 rfl ?_
          refine z_iconst 2 d_Mo_findMoves_66 (by decide) ?_
          refine z_icmp_lt 83 d_Mo_findMoves_67 rfl ⟨fun c11 => ?_, fun c11 => ?_⟩
          · replace h := h.1 c11
            exact z_vret rfl d_Mo_findMoves_83 h
          · replace h := h.2 c11
            refine z_iload_n d_Mo_findMoves_70 rfl ?_
            refine z_if_lt 83 d_Mo_findMoves_71 rfl ⟨fun c12 => ?_, fun c12 => ?_⟩
            · replace h := h.1 c12
              exact z_vret rfl d_Mo_findMoves_83 h
            · replace h := h.2 c12
              refine z_aload_n d_Mo_findMoves_74 rfl ?_
              refine z_iload_n d_Mo_findMoves_75 rfl ?_
              refine z_iload_n d_Mo_findMoves_76 rfl ?_
              refine z_iconst 2 d_Mo_findMoves_77 (by decide) ?_
              refine z_isub d_Mo_findMoves_78 ?_
              refine z_iload_n d_Mo_findMoves_79 rfl ?_
              refine z_callV (as := [.int x1, .int (y3 - 2), .int y2]) (st := []) i_Mo_addBegins ⟨rfl, rfl⟩ v_Mo_addBegins w_Mo_addBegins l_Mo_195 d_Mo_findMoves_80 (by decide) (tA_83 k) rfl (Nat.le_of_ble_eq_true rfl) (Nat.le_of_ble_eq_true rfl) h (fun q13 T13 M13 h => ?_)
              obtain ⟨rfl, rfl, h⟩ := h
              exact z_vret rfl d_Mo_findMoves_83 h
        · replace h := h.2 c10
          refine z_aload_n d_Mo_findMoves_56 rfl ?_
          refine z_iload_n d_Mo_findMoves_57 rfl ?_
          refine z_iload_n d_Mo_findMoves_58 rfl ?_
          refine z_iconst 2 d_Mo_findMoves_59 (by decide) ?_
          refine z_isub d_Mo_findMoves_60 ?_
          refine z_iload_n d_Mo_findMoves_61 rfl ?_
          refine z_callV (as := [.int x1, .int (y2 - 2), .int y3]) (st := []) i_Mo_addBegins ⟨rfl, rfl⟩ v_Mo_addBegins w_Mo_addBegins l_Mo_195 d_Mo_findMoves_62 (by decide) (tA_83 k) rfl (Nat.le_of_ble_eq_true rfl) (Nat.le_of_ble_eq_true rfl) h (fun q14 T14 M14 h => ?_)
          obtain ⟨rfl, rfl, h⟩ := h
          refine z_iload_n d_Mo_findMoves_65 rfl ?_
          refine z_iconst 2 d_Mo_findMoves_66 (by decide) ?_
          refine z_icmp_lt 83 d_Mo_findMoves_67 rfl ⟨fun c15 => ?_, fun c15 => ?_⟩
          · replace h := h.1 c15
            exact z_vret rfl d_Mo_findMoves_83 h
          · replace h := h.2 c15
            refine z_iload_n d_Mo_findMoves_70 rfl ?_
            refine z_if_lt 83 d_Mo_findMoves_71 rfl ⟨fun c16 => ?_, fun c16 => ?_⟩
            · replace h := h.1 c16
              exact z_vret rfl d_Mo_findMoves_83 h
            · replace h := h.2 c16
              refine z_aload_n d_Mo_findMoves_74 rfl ?_
              refine z_iload_n d_Mo_findMoves_75 rfl ?_
              refine z_iload_n d_Mo_findMoves_76 rfl ?_
              refine z_iconst 2 d_Mo_findMoves_77 (by decide) ?_
              refine z_isub d_Mo_findMoves_78 ?_
              refine z_iload_n d_Mo_findMoves_79 rfl ?_
              refine z_callV (as := [.int x1, .int (y3 - 2), .int y2]) (st := []) i_Mo_addBegins ⟨rfl, rfl⟩ v_Mo_addBegins w_Mo_addBegins l_Mo_195 d_Mo_findMoves_80 (by decide) (tA_83 k) rfl (Nat.le_of_ble_eq_true rfl) (Nat.le_of_ble_eq_true rfl) h (fun q17 T17 M17 h => ?_)
              obtain ⟨rfl, rfl, h⟩ := h
              exact z_vret rfl d_Mo_findMoves_83 h
    · replace h := h.2 c5
      refine z_aload_n d_Mo_findMoves_38 rfl ?_
      refine z_iconst 0 d_Mo_findMoves_39 (by decide) ?_
      refine z_iload_n d_Mo_findMoves_40 rfl ?_
      refine z_iconst 2 d_Mo_findMoves_41 (by decide) ?_
      refine z_isub d_Mo_findMoves_42 ?_
      refine z_iconst 0 d_Mo_findMoves_43 (by decide) ?_
      refine z_callV (as := [.int 0, .int (y3 - 2), .int 0]) (st := []) i_Mo_addMove ⟨rfl, rfl⟩ v_Mo_addMove w_Mo_addMove l_Mo_184 d_Mo_findMoves_44 (by decide) (tA_83 k) rfl (Nat.le_of_ble_eq_true rfl) (Nat.le_of_ble_eq_true rfl) h (fun q18 T18 M18 h => ?_)
      obtain ⟨rfl, rfl, h⟩ := h
      refine z_iload_n d_Mo_findMoves_47 rfl ?_
      refine z_iconst 2 d_Mo_findMoves_48 (by decide) ?_
      refine z_icmp_lt 65 d_Mo_findMoves_49 rfl ⟨fun c19 => ?_, fun c19 => ?_⟩
      · replace h := h.1 c19
        refine z_iload_n d_Mo_findMoves_65 rfl ?_
        refine z_iconst 2 d_Mo_findMoves_66 (by decide) ?_
        refine z_icmp_lt 83 d_Mo_findMoves_67 rfl ⟨fun c20 => ?_, fun c20 => ?_⟩
        · replace h := h.1 c20
          exact z_vret rfl d_Mo_findMoves_83 h
        · replace h := h.2 c20
          refine z_iload_n d_Mo_findMoves_70 rfl ?_
          refine z_if_lt 83 d_Mo_findMoves_71 rfl ⟨fun c21 => ?_, fun c21 => ?_⟩
          · replace h := h.1 c21
            exact z_vret rfl d_Mo_findMoves_83 h
          · replace h := h.2 c21
            refine z_aload_n d_Mo_findMoves_74 rfl ?_
            refine z_iload_n d_Mo_findMoves_75 rfl ?_
            refine z_iload_n d_Mo_findMoves_76 rfl ?_
            refine z_iconst 2 d_Mo_findMoves_77 (by decide) ?_
            refine z_isub d_Mo_findMoves_78 ?_
            refine z_iload_n d_Mo_findMoves_79 rfl ?_
            refine z_callV (as := [.int x1, .int (y3 - 2), .int y2]) (st := []) i_Mo_addBegins ⟨rfl, rfl⟩ v_Mo_addBegins w_Mo_addBegins l_Mo_195 d_Mo_findMoves_80 (by decide) (tA_83 k) rfl (Nat.le_of_ble_eq_true rfl) (Nat.le_of_ble_eq_true rfl) h (fun q22 T22 M22 h => ?_)
            obtain ⟨rfl, rfl, h⟩ := h
            exact z_vret rfl d_Mo_findMoves_83 h
      · replace h := h.2 c19
        refine z_iload_n d_Mo_findMoves_52 rfl ?_
        refine z_if_lt 65 d_Mo_findMoves_53 rfl ⟨fun c23 => ?_, fun c23 => ?_⟩
        · replace h := h.1 c23
          refine z_iload_n d_Mo_findMoves_65 rfl ?_
          refine z_iconst 2 d_Mo_findMoves_66 (by decide) ?_
          refine z_icmp_lt 83 d_Mo_findMoves_67 rfl ⟨fun c24 => ?_, fun c24 => ?_⟩
          · replace h := h.1 c24
            exact z_vret rfl d_Mo_findMoves_83 h
          · replace h := h.2 c24
            refine z_iload_n d_Mo_findMoves_70 rfl ?_
            refine z_if_lt 83 d_Mo_findMoves_71 rfl ⟨fun c25 => ?_, fun c25 => ?_⟩
            · replace h := h.1 c25
              exact z_vret rfl d_Mo_findMoves_83 h
            · replace h := h.2 c25
              refine z_aload_n d_Mo_findMoves_74 rfl ?_
              refine z_iload_n d_Mo_findMoves_75 rfl ?_
              refine z_iload_n d_Mo_findMoves_76 rfl ?_
              refine z_iconst 2 d_Mo_findMoves_77 (by decide) ?_
              refine z_isub d_Mo_findMoves_78 ?_
              refine z_iload_n d_Mo_findMoves_79 rfl ?_
              refine z_callV (as := [.int x1, .int (y3 - 2), .int y2]) (st := []) i_Mo_addBegins ⟨rfl, rfl⟩ v_Mo_addBegins w_Mo_addBegins l_Mo_195 d_Mo_findMoves_80 (by decide) (tA_83 k) rfl (Nat.le_of_ble_eq_true rfl) (Nat.le_of_ble_eq_true rfl) h (fun q26 T26 M26 h => ?_)
              obtain ⟨rfl, rfl, h⟩ := h
              exact z_vret rfl d_Mo_findMoves_83 h
        · replace h := h.2 c23
          refine z_aload_n d_Mo_findMoves_56 rfl ?_
          refine z_iload_n d_Mo_findMoves_57 rfl ?_
          refine z_iload_n d_Mo_findMoves_58 rfl ?_
          refine z_iconst 2 d_Mo_findMoves_59 (by decide) ?_
          refine z_isub d_Mo_findMoves_60 ?_
          refine z_iload_n d_Mo_findMoves_61 rfl ?_
          refine z_callV (as := [.int x1, .int (y2 - 2), .int y3]) (st := []) i_Mo_addBegins ⟨rfl, rfl⟩ v_Mo_addBegins w_Mo_addBegins l_Mo_195 d_Mo_findMoves_62 (by decide) (tA_83 k) rfl (Nat.le_of_ble_eq_true rfl) (Nat.le_of_ble_eq_true rfl) h (fun q27 T27 M27 h => ?_)
          obtain ⟨rfl, rfl, h⟩ := h
          refine z_iload_n d_Mo_findMoves_65 rfl ?_
          refine z_iconst 2 d_Mo_findMoves_66 (by decide) ?_
          refine z_icmp_lt 83 d_Mo_findMoves_67 rfl ⟨fun c28 => ?_, fun c28 => ?_⟩
          · replace h := h.1 c28
            exact z_vret rfl d_Mo_findMoves_83 h
          · replace h := h.2 c28
            refine z_iload_n d_Mo_findMoves_70 rfl ?_
            refine z_if_lt 83 d_Mo_findMoves_71 rfl ⟨fun c29 => ?_, fun c29 => ?_⟩
            · replace h := h.1 c29
              exact z_vret rfl d_Mo_findMoves_83 h
            · replace h := h.2 c29
              refine z_aload_n d_Mo_findMoves_74 rfl ?_
              refine z_iload_n d_Mo_findMoves_75 rfl ?_
              refine z_iload_n d_Mo_findMoves_76 rfl ?_
              refine z_iconst 2 d_Mo_findMoves_77 (by decide) ?_
              refine z_isub d_Mo_findMoves_78 ?_
              refine z_iload_n d_Mo_findMoves_79 rfl ?_
              refine z_callV (as := [.int x1, .int (y3 - 2), .int y2]) (st := []) i_Mo_addBegins ⟨rfl, rfl⟩ v_Mo_addBegins w_Mo_addBegins l_Mo_195 d_Mo_findMoves_80 (by decide) (tA_83 k) rfl (Nat.le_of_ble_eq_true rfl) (Nat.le_of_ble_eq_true rfl) h (fun q30 T30 M30 h => ?_)
              obtain ⟨rfl, rfl, h⟩ := h
              exact z_vret rfl d_Mo_findMoves_83 h
  · replace h := h.2 c4
    refine z_aload_n d_Mo_findMoves_24 rfl ?_
    refine z_iconst 0 d_Mo_findMoves_25 (by decide) ?_
    refine z_iload_n d_Mo_findMoves_26 rfl ?_
    refine z_iconst 2 d_Mo_findMoves_27 (by decide) ?_
    refine z_isub d_Mo_findMoves_28 ?_
    refine z_iconst 0 d_Mo_findMoves_29 (by decide) ?_
    refine z_callV (as := [.int 0, .int (y2 - 2), .int 0]) (st := []) i_Mo_addMove ⟨rfl, rfl⟩ v_Mo_addMove w_Mo_addMove l_Mo_184 d_Mo_findMoves_30 (by decide) (tA_83 k) rfl (Nat.le_of_ble_eq_true rfl) (Nat.le_of_ble_eq_true rfl) h (fun q31 T31 M31 h => ?_)
    obtain ⟨rfl, rfl, h⟩ := h
    refine z_iload_n d_Mo_findMoves_33 rfl ?_
    refine z_iconst 2 d_Mo_findMoves_34 (by decide) ?_
    refine z_icmp_lt 47 d_Mo_findMoves_35 rfl ⟨fun c32 => ?_, fun c32 => ?_⟩
    · replace h := h.1 c32
      refine z_iload_n d_Mo_findMoves_47 rfl ?_
      refine z_iconst 2 d_Mo_findMoves_48 (by decide) ?_
      refine z_icmp_lt 65 d_Mo_findMoves_49 rfl ⟨fun c33 => ?_, fun c33 => ?_⟩
      · replace h := h.1 c33
        refine z_iload_n d_Mo_findMoves_65 rfl ?_
        refine z_iconst 2 d_Mo_findMoves_66 (by decide) ?_
        refine z_icmp_lt 83 d_Mo_findMoves_67 rfl ⟨fun c34 => ?_, fun c34 => ?_⟩
        · replace h := h.1 c34
          exact z_vret rfl d_Mo_findMoves_83 h
        · replace h := h.2 c34
          refine z_iload_n d_Mo_findMoves_70 rfl ?_
          refine z_if_lt 83 d_Mo_findMoves_71 rfl ⟨fun c35 => ?_, fun c35 => ?_⟩
          · replace h := h.1 c35
            exact z_vret rfl d_Mo_findMoves_83 h
          · replace h := h.2 c35
            refine z_aload_n d_Mo_findMoves_74 rfl ?_
            refine z_iload_n d_Mo_findMoves_75 rfl ?_
            refine z_iload_n d_Mo_findMoves_76 rfl ?_
            refine z_iconst 2 d_Mo_findMoves_77 (by decide) ?_
            refine z_isub d_Mo_findMoves_78 ?_
            refine z_iload_n d_Mo_findMoves_79 rfl ?_
            refine z_callV (as := [.int x1, .int (y3 - 2), .int y2]) (st := []) i_Mo_addBegins ⟨rfl, rfl⟩ v_Mo_addBegins w_Mo_addBegins l_Mo_195 d_Mo_findMoves_80 (by decide) (tA_83 k) rfl (Nat.le_of_ble_eq_true rfl) (Nat.le_of_ble_eq_true rfl) h (fun q36 T36 M36 h => ?_)
            obtain ⟨rfl, rfl, h⟩ := h
            exact z_vret rfl d_Mo_findMoves_83 h
      · replace h := h.2 c33
        refine z_iload_n d_Mo_findMoves_52 rfl ?_
        refine z_if_lt 65 d_Mo_findMoves_53 rfl ⟨fun c37 => ?_, fun c37 => ?_⟩
        · replace h := h.1 c37
          refine z_iload_n d_Mo_findMoves_65 rfl ?_
          refine z_iconst 2 d_Mo_findMoves_66 (by decide) ?_
          refine z_icmp_lt 83 d_Mo_findMoves_67 rfl ⟨fun c38 => ?_, fun c38 => ?_⟩
          · replace h := h.1 c38
            exact z_vret rfl d_Mo_findMoves_83 h
          · replace h := h.2 c38
            refine z_iload_n d_Mo_findMoves_70 rfl ?_
            refine z_if_lt 83 d_Mo_findMoves_71 rfl ⟨fun c39 => ?_, fun c39 => ?_⟩
            · replace h := h.1 c39
              exact z_vret rfl d_Mo_findMoves_83 h
            · replace h := h.2 c39
              refine z_aload_n d_Mo_findMoves_74 rfl ?_
              refine z_iload_n d_Mo_findMoves_75 rfl ?_
              refine z_iload_n d_Mo_findMoves_76 rfl ?_
              refine z_iconst 2 d_Mo_findMoves_77 (by decide) ?_
              refine z_isub d_Mo_findMoves_78 ?_
              refine z_iload_n d_Mo_findMoves_79 rfl ?_
              refine z_callV (as := [.int x1, .int (y3 - 2), .int y2]) (st := []) i_Mo_addBegins ⟨rfl, rfl⟩ v_Mo_addBegins w_Mo_addBegins l_Mo_195 d_Mo_findMoves_80 (by decide) (tA_83 k) rfl (Nat.le_of_ble_eq_true rfl) (Nat.le_of_ble_eq_true rfl) h (fun q40 T40 M40 h => ?_)
              obtain ⟨rfl, rfl, h⟩ := h
              exact z_vret rfl d_Mo_findMoves_83 h
        · replace h := h.2 c37
          refine z_aload_n d_Mo_findMoves_56 rfl ?_
          refine z_iload_n d_Mo_findMoves_57 rfl ?_
          refine z_iload_n d_Mo_findMoves_58 rfl ?_
          refine z_iconst 2 d_Mo_findMoves_59 (by decide) ?_
          refine z_isub d_Mo_findMoves_60 ?_
          refine z_iload_n d_Mo_findMoves_61 rfl ?_
          refine z_callV (as := [.int x1, .int (y2 - 2), .int y3]) (st := []) i_Mo_addBegins ⟨rfl, rfl⟩ v_Mo_addBegins w_Mo_addBegins l_Mo_195 d_Mo_findMoves_62 (by decide) (tA_83 k) rfl (Nat.le_of_ble_eq_true rfl) (Nat.le_of_ble_eq_true rfl) h (fun q41 T41 M41 h => ?_)
          obtain ⟨rfl, rfl, h⟩ := h
          refine z_iload_n d_Mo_findMoves_65 rfl ?_
          refine z_iconst 2 d_Mo_findMoves_66 (by decide) ?_
          refine z_icmp_lt 83 d_Mo_findMoves_67 rfl ⟨fun c42 => ?_, fun c42 => ?_⟩
          · replace h := h.1 c42
            exact z_vret rfl d_Mo_findMoves_83 h
          · replace h := h.2 c42
            refine z_iload_n d_Mo_findMoves_70 rfl ?_
            refine z_if_lt 83 d_Mo_findMoves_71 rfl ⟨fun c43 => ?_, fun c43 => ?_⟩
            · replace h := h.1 c43
              exact z_vret rfl d_Mo_findMoves_83 h
            · replace h := h.2 c43
              refine z_aload_n d_Mo_findMoves_74 rfl ?_
              refine z_iload_n d_Mo_findMoves_75 rfl ?_
              refine z_iload_n d_Mo_findMoves_76 rfl ?_
              refine z_iconst 2 d_Mo_findMoves_77 (by decide) ?_
              refine z_isub d_Mo_findMoves_78 ?_
              refine z_iload_n d_Mo_findMoves_79 rfl ?_
              refine z_callV (as := [.int x1, .int (y3 - 2), .int y2]) (st := []) i_Mo_addBegins ⟨rfl, rfl⟩ v_Mo_addBegins w_Mo_addBegins l_Mo_195 d_Mo_findMoves_80 (by decide) (tA_83 k) rfl (Nat.le_of_ble_eq_true rfl) (Nat.le_of_ble_eq_true rfl) h (fun q44 T44 M44 h => ?_)
              obtain ⟨rfl, rfl, h⟩ := h
              exact z_vret rfl d_Mo_findMoves_83 h
    · replace h := h.2 c32
      refine z_aload_n d_Mo_findMoves_38 rfl ?_
      refine z_iconst 0 d_Mo_findMoves_39 (by decide) ?_
      refine z_iload_n d_Mo_findMoves_40 rfl ?_
      refine z_iconst 2 d_Mo_findMoves_41 (by decide) ?_
      refine z_isub d_Mo_findMoves_42 ?_
      refine z_iconst 0 d_Mo_findMoves_43 (by decide) ?_
      refine z_callV (as := [.int 0, .int (y3 - 2), .int 0]) (st := []) i_Mo_addMove ⟨rfl, rfl⟩ v_Mo_addMove w_Mo_addMove l_Mo_184 d_Mo_findMoves_44 (by decide) (tA_83 k) rfl (Nat.le_of_ble_eq_true rfl) (Nat.le_of_ble_eq_true rfl) h (fun q45 T45 M45 h => ?_)
      obtain ⟨rfl, rfl, h⟩ := h
      refine z_iload_n d_Mo_findMoves_47 rfl ?_
      refine z_iconst 2 d_Mo_findMoves_48 (by decide) ?_
      refine z_icmp_lt 65 d_Mo_findMoves_49 rfl ⟨fun c46 => ?_, fun c46 => ?_⟩
      · replace h := h.1 c46
        refine z_iload_n d_Mo_findMoves_65 rfl ?_
        refine z_iconst 2 d_Mo_findMoves_66 (by decide) ?_
        refine z_icmp_lt 83 d_Mo_findMoves_67 rfl ⟨fun c47 => ?_, fun c47 => ?_⟩
        · replace h := h.1 c47
          exact z_vret rfl d_Mo_findMoves_83 h
        · replace h := h.2 c47
          refine z_iload_n d_Mo_findMoves_70 rfl ?_
          refine z_if_lt 83 d_Mo_findMoves_71 rfl ⟨fun c48 => ?_, fun c48 => ?_⟩
          · replace h := h.1 c48
            exact z_vret rfl d_Mo_findMoves_83 h
          · replace h := h.2 c48
            refine z_aload_n d_Mo_findMoves_74 rfl ?_
            refine z_iload_n d_Mo_findMoves_75 rfl ?_
            refine z_iload_n d_Mo_findMoves_76 rfl ?_
            refine z_iconst 2 d_Mo_findMoves_77 (by decide) ?_
            refine z_isub d_Mo_findMoves_78 ?_
            refine z_iload_n d_Mo_findMoves_79 rfl ?_
            refine z_callV (as := [.int x1, .int (y3 - 2), .int y2]) (st := []) i_Mo_addBegins ⟨rfl, rfl⟩ v_Mo_addBegins w_Mo_addBegins l_Mo_195 d_Mo_findMoves_80 (by decide) (tA_83 k) rfl (Nat.le_of_ble_eq_true rfl) (Nat.le_of_ble_eq_true rfl) h (fun q49 T49 M49 h => ?_)
            obtain ⟨rfl, rfl, h⟩ := h
            exact z_vret rfl d_Mo_findMoves_83 h
      · replace h := h.2 c46
        refine z_iload_n d_Mo_findMoves_52 rfl ?_
        refine z_if_lt 65 d_Mo_findMoves_53 rfl ⟨fun c50 => ?_, fun c50 => ?_⟩
        · replace h := h.1 c50
          refine z_iload_n d_Mo_findMoves_65 rfl ?_
          refine z_iconst 2 d_Mo_findMoves_66 (by decide) ?_
          refine z_icmp_lt 83 d_Mo_findMoves_67 rfl ⟨fun c51 => ?_, fun c51 => ?_⟩
          · replace h := h.1 c51
            exact z_vret rfl d_Mo_findMoves_83 h
          · replace h := h.2 c51
            refine z_iload_n d_Mo_findMoves_70 rfl ?_
            refine z_if_lt 83 d_Mo_findMoves_71 rfl ⟨fun c52 => ?_, fun c52 => ?_⟩
            · replace h := h.1 c52
              exact z_vret rfl d_Mo_findMoves_83 h
            · replace h := h.2 c52
              refine z_aload_n d_Mo_findMoves_74 rfl ?_
              refine z_iload_n d_Mo_findMoves_75 rfl ?_
              refine z_iload_n d_Mo_findMoves_76 rfl ?_
              refine z_iconst 2 d_Mo_findMoves_77 (by decide) ?_
              refine z_isub d_Mo_findMoves_78 ?_
              refine z_iload_n d_Mo_findMoves_79 rfl ?_
              refine z_callV (as := [.int x1, .int (y3 - 2), .int y2]) (st := []) i_Mo_addBegins ⟨rfl, rfl⟩ v_Mo_addBegins w_Mo_addBegins l_Mo_195 d_Mo_findMoves_80 (by decide) (tA_83 k) rfl (Nat.le_of_ble_eq_true rfl) (Nat.le_of_ble_eq_true rfl) h (fun q53 T53 M53 h => ?_)
              obtain ⟨rfl, rfl, h⟩ := h
              exact z_vret rfl d_Mo_findMoves_83 h
        · replace h := h.2 c50
          refine z_aload_n d_Mo_findMoves_56 rfl ?_
          refine z_iload_n d_Mo_findMoves_57 rfl ?_
          refine z_iload_n d_Mo_findMoves_58 rfl ?_
          refine z_iconst 2 d_Mo_findMoves_59 (by decide) ?_
          refine z_isub d_Mo_findMoves_60 ?_
          refine z_iload_n d_Mo_findMoves_61 rfl ?_
          refine z_callV (as := [.int x1, .int (y2 - 2), .int y3]) (st := []) i_Mo_addBegins ⟨rfl, rfl⟩ v_Mo_addBegins w_Mo_addBegins l_Mo_195 d_Mo_findMoves_62 (by decide) (tA_83 k) rfl (Nat.le_of_ble_eq_true rfl) (Nat.le_of_ble_eq_true rfl) h (fun q54 T54 M54 h => ?_)
          obtain ⟨rfl, rfl, h⟩ := h
          refine z_iload_n d_Mo_findMoves_65 rfl ?_
          refine z_iconst 2 d_Mo_findMoves_66 (by decide) ?_
          refine z_icmp_lt 83 d_Mo_findMoves_67 rfl ⟨fun c55 => ?_, fun c55 => ?_⟩
          · replace h := h.1 c55
            exact z_vret rfl d_Mo_findMoves_83 h
          · replace h := h.2 c55
            refine z_iload_n d_Mo_findMoves_70 rfl ?_
            refine z_if_lt 83 d_Mo_findMoves_71 rfl ⟨fun c56 => ?_, fun c56 => ?_⟩
            · replace h := h.1 c56
              exact z_vret rfl d_Mo_findMoves_83 h
            · replace h := h.2 c56
              refine z_aload_n d_Mo_findMoves_74 rfl ?_
              refine z_iload_n d_Mo_findMoves_75 rfl ?_
              refine z_iload_n d_Mo_findMoves_76 rfl ?_
              refine z_iconst 2 d_Mo_findMoves_77 (by decide) ?_
              refine z_isub d_Mo_findMoves_78 ?_
              refine z_iload_n d_Mo_findMoves_79 rfl ?_
              refine z_callV (as := [.int x1, .int (y3 - 2), .int y2]) (st := []) i_Mo_addBegins ⟨rfl, rfl⟩ v_Mo_addBegins w_Mo_addBegins l_Mo_195 d_Mo_findMoves_80 (by decide) (tA_83 k) rfl (Nat.le_of_ble_eq_true rfl) (Nat.le_of_ble_eq_true rfl) h (fun q57 T57 M57 h => ?_)
              obtain ⟨rfl, rfl, h⟩ := h
              exact z_vret rfl d_Mo_findMoves_83 h

set_option maxRecDepth 20000 in
theorem vc_Mo_layRows_0 (E : ZE) (k : Nat) (M : ZM) (x1 : Int32) (x2 : Int32) (x3 : Int32) (Φ : Option Value → ZS → ZM → Prop)  (h : zW E m_Mo_layRows 0 (zSt k) M 3 [some (.ref 83), some (.int x1), some (.int x2), some (.int x3), some (.int 0), none, none, none, none] [] Φ) : zW E m_Mo_layRows 0 (zSt k) M 0 [some (.ref 83), some (.int x1), some (.int x2), some (.int x3), none, none, none, none, none] [] Φ := by
  refine z_iconst 0 d_Mo_layRows_0 (by decide) ?_
  refine z_istore (ls' := [some (.ref 83), some (.int x1), some (.int x2), some (.int x3), some (.int 0), none, none, none, none]) d_Mo_layRows_1 (Nat.le_of_ble_eq_true rfl) rfl rfl ?_
  exact z_forget [some (.ref 83), some (.int x1), some (.int x2), some (.int x3), some (.int 0), none, none, none, none] (And.intro rfl (And.intro rfl (And.intro rfl (And.intro rfl (And.intro rfl (trivial)))))) h

set_option maxRecDepth 20000 in
theorem vc_Mo_layRows_3 (E : ZE) (k : Nat) (M : ZM) (x1 : Int32) (x2 : Int32) (x3 : Int32) (x4 : Int32) (Φ : Option Value → ZS → ZM → Prop)  (h : (2 ≤ x4 → zW E m_Mo_layRows 0 (zSt k) M 143 [some (.ref 83), some (.int x1), none, none, some (.int 0), none, none, none, none] [] Φ) ∧ (¬ 2 ≤ x4 → zW E m_Mo_layRows 0 (zSt k) M 15 [some (.ref 83), some (.int x1), some (.int x2), some (.int x3), some (.int x4), some (.int 0), some (.int 0), none, none] [] Φ)) : zW E m_Mo_layRows 0 (zSt k) M 3 [some (.ref 83), some (.int x1), some (.int x2), some (.int x3), some (.int x4), none, none, none, none] [] Φ := by
  refine z_iload d_Mo_layRows_3 rfl ?_
  refine z_iconst 2 d_Mo_layRows_5 (by decide) ?_
  refine z_icmp_ge 140 d_Mo_layRows_6 rfl ⟨fun c1 => ?_, fun c1 => ?_⟩
  · replace h := h.1 c1
    refine z_iconst 0 d_Mo_layRows_140 (by decide) ?_
    refine z_istore (ls' := [some (.ref 83), some (.int x1), some (.int x2), some (.int x3), some (.int 0), none, none, none, none]) d_Mo_layRows_141 (Nat.le_of_ble_eq_true rfl) rfl rfl ?_
    exact z_forget [some (.ref 83), some (.int x1), none, none, some (.int 0), none, none, none, none] (And.intro rfl (And.intro rfl (And.intro rfl (trivial)))) h
  · replace h := h.2 c1
    refine z_iconst 0 d_Mo_layRows_9 (by decide) ?_
    refine z_istore (ls' := [some (.ref 83), some (.int x1), some (.int x2), some (.int x3), some (.int x4), some (.int 0), none, none, none]) d_Mo_layRows_10 (Nat.le_of_ble_eq_true rfl) rfl rfl ?_
    refine z_iconst 0 d_Mo_layRows_12 (by decide) ?_
    refine z_istore (ls' := [some (.ref 83), some (.int x1), some (.int x2), some (.int x3), some (.int x4), some (.int 0), some (.int 0), none, none]) d_Mo_layRows_13 (Nat.le_of_ble_eq_true rfl) rfl rfl ?_
    exact z_forget [some (.ref 83), some (.int x1), some (.int x2), some (.int x3), some (.int x4), some (.int 0), some (.int 0), none, none] (And.intro rfl (And.intro rfl (And.intro rfl (And.intro rfl (And.intro rfl (And.intro rfl (And.intro rfl (trivial)))))))) h

set_option maxRecDepth 20000 in
theorem vc_Mo_layRows_15 (E : ZE) (k : Nat) (M : ZM) (x1 : Int32) (x2 : Int32) (x3 : Int32) (x4 : Int32) (x5 : Int32) (x6 : Int32) (Φ : Option Value → ZS → ZM → Prop)  (h : ∃ j1 : Nat, j1 < 300 ∧ ((2 * x1) + x4) = nI j1 ∧ (((M 97 j1) ≤ x6 → ∃ j3 : Nat, j3 < 2 ∧ x4 = nI j3 ∧ (∀ M4 : ZM, M4 = zms M 104 j3 x5 → ∀ y5 : Int32, y5 = x4 + 1 → zW E m_Mo_layRows 0 (zSt k) M4 3 [some (.ref 83), some (.int x1), some (.int x2), some (.int x3), some (.int y5), none, none, none, none] [] Φ)) ∧ (¬ (M 97 j1) ≤ x6 → ∃ j6 : Nat, j6 < 7200 ∧ (((48 * x1) + (24 * x4)) + x6) = nI j6 ∧ (∀ y7 : Int32, y7 = (M 96 j6) → (¬ y7 = (x2 + 2) → ∃ j9 : Nat, j9 < 96 ∧ ((48 * x4) + x5) = nI j9 ∧ (∀ M10 : ZM, M10 = zms M 103 j9 y7 → ∀ y11 : Int32, y11 = x5 + 1 → ∀ y12 : Int32, y12 = x6 + 1 → zW E m_Mo_layRows 0 (zSt k) M10 15 [some (.ref 83), some (.int x1), some (.int x2), some (.int x3), some (.int x4), some (.int y11), some (.int y12), none, none] [] Φ)) ∧ (y7 = (x2 + 2) → (x3 < 0 → (x3 < 0 → ∀ y15 : Int32, y15 = x6 + 1 → zW E m_Mo_layRows 0 (zSt k) M 15 [some (.ref 83), some (.int x1), some (.int x2), some (.int x3), some (.int x4), some (.int x5), some (.int y15), none, none] [] Φ) ∧ (¬ x3 < 0 → ∃ j16 : Nat, j16 < 96 ∧ ((48 * x4) + x5) = nI j16 ∧ (∀ M17 : ZM, M17 = zms M 103 j16 y7 → ∀ y18 : Int32, y18 = x5 + 1 → ∀ y19 : Int32, y19 = x6 + 1 → zW E m_Mo_layRows 0 (zSt k) M17 15 [some (.ref 83), some (.int x1), some (.int x2), some (.int x3), some (.int x4), some (.int y18), some (.int y19), none, none] [] Φ))) ∧ (¬ x3 < 0 → ∃ j20 : Nat, j20 < 96 ∧ ((48 * x4) + x5) = nI j20 ∧ (∀ M21 : ZM, M21 = zms M 103 j20 x3 → ∀ y22 : Int32, y22 = x5 + 1 → (x3 < 0 → ∀ y24 : Int32, y24 = x6 + 1 → zW E m_Mo_layRows 0 (zSt k) M21 15 [some (.ref 83), some (.int x1), some (.int x2), some (.int x3), some (.int x4), some (.int y22), some (.int y24), none, none] [] Φ) ∧ (¬ x3 < 0 → ∃ j25 : Nat, j25 < 96 ∧ ((48 * x4) + y22) = nI j25 ∧ (∀ M26 : ZM, M26 = zms M21 103 j25 y7 → ∀ y27 : Int32, y27 = y22 + 1 → ∀ y28 : Int32, y28 = x6 + 1 → zW E m_Mo_layRows 0 (zSt k) M26 15 [some (.ref 83), some (.int x1), some (.int x2), some (.int x3), some (.int x4), some (.int y27), some (.int y28), none, none] [] Φ))))))))) : zW E m_Mo_layRows 0 (zSt k) M 15 [some (.ref 83), some (.int x1), some (.int x2), some (.int x3), some (.int x4), some (.int x5), some (.int x6), none, none] [] Φ := by
  refine z_iload d_Mo_layRows_15 rfl ?_
  refine z_aload_n d_Mo_layRows_17 rfl ?_
  refine z_getr f_Mo_49 rfl d_Mo_layRows_18 (tA_83 k) (tr_83_15 k) ?_
  refine z_iconst 2 d_Mo_layRows_21 (by decide) ?_
  refine z_iload_n d_Mo_layRows_22 rfl ?_
  refine z_imul d_Mo_layRows_23 ?_
  refine z_iload d_Mo_layRows_24 rfl ?_
  refine z_iadd d_Mo_layRows_26 ?_
  obtain ⟨j1, hj1, ej1, h⟩ := h
  refine y_iaload j1 d_Mo_layRows_27 (ta_97 k) hj1 ej1 ?_
  refine z_icmp_ge 125 d_Mo_layRows_28 rfl ⟨fun c2 => ?_, fun c2 => ?_⟩
  · replace h := h.1 c2
    refine z_aload_n d_Mo_layRows_125 rfl ?_
    refine z_getr f_Mo_71 rfl d_Mo_layRows_126 (tA_83 k) (tr_83_24 k) ?_
    refine z_iload d_Mo_layRows_129 rfl ?_
    refine z_iload d_Mo_layRows_131 rfl ?_
    obtain ⟨j3, hj3, ej3, h⟩ := h
    refine y_iastore j3 d_Mo_layRows_133 (ta_104 k) hj3 ej3 ?_
    refine z_mem (fun M4 eM4 => ?_)
    replace h := h M4 eM4
    obtain ⟨y5, ey5⟩ : ∃ q : Int32, q = x4 + 1 := ⟨_, rfl⟩
    replace h := h y5 ey5
    refine z_iinc (ls' := [some (.ref 83), some (.int x1), some (.int x2), some (.int x3), some (.int y5), some (.int x5), some (.int x6), none, none]) y5 d_Mo_layRows_134 rfl (ey5 ▸ rfl) (Nat.le_of_ble_eq_true rfl) rfl rfl ?_
    refine z_goto 3 d_Mo_layRows_137 rfl ?_
    exact z_forget [some (.ref 83), some (.int x1), some (.int x2), some (.int x3), some (.int y5), none, none, none, none] (And.intro rfl (And.intro rfl (And.intro rfl (And.intro rfl (And.intro rfl (trivial)))))) h
  · replace h := h.2 c2
    refine z_aload_n d_Mo_layRows_31 rfl ?_
    refine z_getr f_Mo_46 rfl d_Mo_layRows_32 (tA_83 k) (tr_83_14 k) ?_
    refine z_bipush 48 d_Mo_layRows_35 (by decide) ?_
    refine z_iload_n d_Mo_layRows_37 rfl ?_
    refine z_imul d_Mo_layRows_38 ?_
    refine z_bipush 24 d_Mo_layRows_39 (by decide) ?_
    refine z_iload d_Mo_layRows_41 rfl ?_
    refine z_imul d_Mo_layRows_43 ?_
    refine z_iadd d_Mo_layRows_44 ?_
    refine z_iload d_Mo_layRows_45 rfl ?_
    refine z_iadd d_Mo_layRows_47 ?_
    obtain ⟨j6, hj6, ej6, h⟩ := h
    refine y_iaload j6 d_Mo_layRows_48 (ta_96 k) hj6 ej6 ?_
    refine z_name (fun y7 ey7 => ?_)
    replace h := h y7 ey7
    refine z_istore (ls' := [some (.ref 83), some (.int x1), some (.int x2), some (.int x3), some (.int x4), some (.int x5), some (.int x6), some (.int y7), none]) d_Mo_layRows_49 (Nat.le_of_ble_eq_true rfl) rfl rfl ?_
    refine z_iload d_Mo_layRows_51 rfl ?_
    refine z_iload_n d_Mo_layRows_53 rfl ?_
    refine z_iconst 2 d_Mo_layRows_54 (by decide) ?_
    refine z_iadd d_Mo_layRows_55 ?_
    refine z_icmp_ne 63 d_Mo_layRows_56 rfl ⟨fun c8 => ?_, fun c8 => ?_⟩
    · replace h := h.1 c8
      refine z_iconst 0 d_Mo_layRows_63 (by decide) ?_
      refine z_istore (ls' := [some (.ref 83), some (.int x1), some (.int x2), some (.int x3), some (.int x4), some (.int x5), some (.int x6), some (.int y7), some (.int 0)]) d_Mo_layRows_64 (Nat.le_of_ble_eq_true rfl) rfl rfl ?_
      refine z_iload d_Mo_layRows_66 rfl ?_
      refine z_if_eq 92 d_Mo_layRows_68 rfl ⟨fun _ => ?_, fun q => absurd (by decide) q⟩
      refine z_iload d_Mo_layRows_92 rfl ?_
      refine z_if_eq 101 d_Mo_layRows_94 rfl ⟨fun _ => ?_, fun q => absurd (by decide) q⟩
      refine z_aload_n d_Mo_layRows_101 rfl ?_
      refine z_getr f_Mo_68 rfl d_Mo_layRows_102 (tA_83 k) (tr_83_23 k) ?_
      refine z_bipush 48 d_Mo_layRows_105 (by decide) ?_
      refine z_iload d_Mo_layRows_107 rfl ?_
      refine z_imul d_Mo_layRows_109 ?_
      refine z_iload d_Mo_layRows_110 rfl ?_
      refine z_iadd d_Mo_layRows_112 ?_
      refine z_iload d_Mo_layRows_113 rfl ?_
      obtain ⟨j9, hj9, ej9, h⟩ := h
      refine y_iastore j9 d_Mo_layRows_115 (ta_103 k) hj9 ej9 ?_
      refine z_mem (fun M10 eM10 => ?_)
      replace h := h M10 eM10
      obtain ⟨y11, ey11⟩ : ∃ q : Int32, q = x5 + 1 := ⟨_, rfl⟩
      replace h := h y11 ey11
      refine z_iinc (ls' := [some (.ref 83), some (.int x1), some (.int x2), some (.int x3), some (.int x4), some (.int y11), some (.int x6), some (.int y7), some (.int 0)]) y11 d_Mo_layRows_116 rfl (ey11 ▸ rfl) (Nat.le_of_ble_eq_true rfl) rfl rfl ?_
      obtain ⟨y12, ey12⟩ : ∃ q : Int32, q = x6 + 1 := ⟨_, rfl⟩
      replace h := h y12 ey12
      refine z_iinc (ls' := [some (.ref 83), some (.int x1), some (.int x2), some (.int x3), some (.int x4), some (.int y11), some (.int y12), some (.int y7), some (.int 0)]) y12 d_Mo_layRows_119 rfl (ey12 ▸ rfl) (Nat.le_of_ble_eq_true rfl) rfl rfl ?_
      refine z_goto 15 d_Mo_layRows_122 rfl ?_
      exact z_forget [some (.ref 83), some (.int x1), some (.int x2), some (.int x3), some (.int x4), some (.int y11), some (.int y12), none, none] (And.intro rfl (And.intro rfl (And.intro rfl (And.intro rfl (And.intro rfl (And.intro rfl (And.intro rfl (trivial)))))))) h
    · replace h := h.2 c8
      refine z_iconst 1 d_Mo_layRows_59 (by decide) ?_
      refine z_goto 64 d_Mo_layRows_60 rfl ?_
      refine z_istore (ls' := [some (.ref 83), some (.int x1), some (.int x2), some (.int x3), some (.int x4), some (.int x5), some (.int x6), some (.int y7), some (.int 1)]) d_Mo_layRows_64 (Nat.le_of_ble_eq_true rfl) rfl rfl ?_
      refine z_iload d_Mo_layRows_66 rfl ?_
      refine z_if_eq 92 d_Mo_layRows_68 rfl ⟨fun q => absurd q (by decide), fun _ => ?_⟩
      refine z_iload_n d_Mo_layRows_71 rfl ?_
      refine z_if_lt 92 d_Mo_layRows_72 rfl ⟨fun c13 => ?_, fun c13 => ?_⟩
      · replace h := h.1 c13
        refine z_iload d_Mo_layRows_92 rfl ?_
        refine z_if_eq 101 d_Mo_layRows_94 rfl ⟨fun q => absurd q (by decide), fun _ => ?_⟩
        refine z_iload_n d_Mo_layRows_97 rfl ?_
        refine z_if_lt 119 d_Mo_layRows_98 rfl ⟨fun c14 => ?_, fun c14 => ?_⟩
        · replace h := h.1 c14
          obtain ⟨y15, ey15⟩ : ∃ q : Int32, q = x6 + 1 := ⟨_, rfl⟩
          replace h := h y15 ey15
          refine z_iinc (ls' := [some (.ref 83), some (.int x1), some (.int x2), some (.int x3), some (.int x4), some (.int x5), some (.int y15), some (.int y7), some (.int 1)]) y15 d_Mo_layRows_119 rfl (ey15 ▸ rfl) (Nat.le_of_ble_eq_true rfl) rfl rfl ?_
          refine z_goto 15 d_Mo_layRows_122 rfl ?_
          exact z_forget [some (.ref 83), some (.int x1), some (.int x2), some (.int x3), some (.int x4), some (.int x5), some (.int y15), none, none] (And.intro rfl (And.intro rfl (And.intro rfl (And.intro rfl (And.intro rfl (And.intro rfl (And.intro rfl (trivial)))))))) h
        · replace h := h.2 c14
          refine z_aload_n d_Mo_layRows_101 rfl ?_
          refine z_getr f_Mo_68 rfl d_Mo_layRows_102 (tA_83 k) (tr_83_23 k) ?_
          refine z_bipush 48 d_Mo_layRows_105 (by decide) ?_
          refine z_iload d_Mo_layRows_107 rfl ?_
          refine z_imul d_Mo_layRows_109 ?_
          refine z_iload d_Mo_layRows_110 rfl ?_
          refine z_iadd d_Mo_layRows_112 ?_
          refine z_iload d_Mo_layRows_113 rfl ?_
          obtain ⟨j16, hj16, ej16, h⟩ := h
          refine y_iastore j16 d_Mo_layRows_115 (ta_103 k) hj16 ej16 ?_
          refine z_mem (fun M17 eM17 => ?_)
          replace h := h M17 eM17
          obtain ⟨y18, ey18⟩ : ∃ q : Int32, q = x5 + 1 := ⟨_, rfl⟩
          replace h := h y18 ey18
          refine z_iinc (ls' := [some (.ref 83), some (.int x1), some (.int x2), some (.int x3), some (.int x4), some (.int y18), some (.int x6), some (.int y7), some (.int 1)]) y18 d_Mo_layRows_116 rfl (ey18 ▸ rfl) (Nat.le_of_ble_eq_true rfl) rfl rfl ?_
          obtain ⟨y19, ey19⟩ : ∃ q : Int32, q = x6 + 1 := ⟨_, rfl⟩
          replace h := h y19 ey19
          refine z_iinc (ls' := [some (.ref 83), some (.int x1), some (.int x2), some (.int x3), some (.int x4), some (.int y18), some (.int y19), some (.int y7), some (.int 1)]) y19 d_Mo_layRows_119 rfl (ey19 ▸ rfl) (Nat.le_of_ble_eq_true rfl) rfl rfl ?_
          refine z_goto 15 d_Mo_layRows_122 rfl ?_
          exact z_forget [some (.ref 83), some (.int x1), some (.int x2), some (.int x3), some (.int x4), some (.int y18), some (.int y19), none, none] (And.intro rfl (And.intro rfl (And.intro rfl (And.intro rfl (And.intro rfl (And.intro rfl (And.intro rfl (trivial)))))))) h
      · replace h := h.2 c13
        refine z_aload_n d_Mo_layRows_75 rfl ?_
        refine z_getr f_Mo_68 rfl d_Mo_layRows_76 (tA_83 k) (tr_83_23 k) ?_
        refine z_bipush 48 d_Mo_layRows_79 (by decide) ?_
        refine z_iload d_Mo_layRows_81 rfl ?_
        refine z_imul d_Mo_layRows_83 ?_
        refine z_iload d_Mo_layRows_84 rfl ?_
        refine z_iadd d_Mo_layRows_86 ?_
        refine z_iload_n d_Mo_layRows_87 rfl ?_
        obtain ⟨j20, hj20, ej20, h⟩ := h
        refine y_iastore j20 d_Mo_layRows_88 (ta_103 k) hj20 ej20 ?_
        refine z_mem (fun M21 eM21 => ?_)
        replace h := h M21 eM21
        obtain ⟨y22, ey22⟩ : ∃ q : Int32, q = x5 + 1 := ⟨_, rfl⟩
        replace h := h y22 ey22
        refine z_iinc (ls' := [some (.ref 83), some (.int x1), some (.int x2), some (.int x3), some (.int x4), some (.int y22), some (.int x6), some (.int y7), some (.int 1)]) y22 d_Mo_layRows_89 rfl (ey22 ▸ rfl) (Nat.le_of_ble_eq_true rfl) rfl rfl ?_
        refine z_iload d_Mo_layRows_92 rfl ?_
        refine z_if_eq 101 d_Mo_layRows_94 rfl ⟨fun q => absurd q (by decide), fun _ => ?_⟩
        refine z_iload_n d_Mo_layRows_97 rfl ?_
        refine z_if_lt 119 d_Mo_layRows_98 rfl ⟨fun c23 => ?_, fun c23 => ?_⟩
        · replace h := h.1 c23
          obtain ⟨y24, ey24⟩ : ∃ q : Int32, q = x6 + 1 := ⟨_, rfl⟩
          replace h := h y24 ey24
          refine z_iinc (ls' := [some (.ref 83), some (.int x1), some (.int x2), some (.int x3), some (.int x4), some (.int y22), some (.int y24), some (.int y7), some (.int 1)]) y24 d_Mo_layRows_119 rfl (ey24 ▸ rfl) (Nat.le_of_ble_eq_true rfl) rfl rfl ?_
          refine z_goto 15 d_Mo_layRows_122 rfl ?_
          exact z_forget [some (.ref 83), some (.int x1), some (.int x2), some (.int x3), some (.int x4), some (.int y22), some (.int y24), none, none] (And.intro rfl (And.intro rfl (And.intro rfl (And.intro rfl (And.intro rfl (And.intro rfl (And.intro rfl (trivial)))))))) h
        · replace h := h.2 c23
          refine z_aload_n d_Mo_layRows_101 rfl ?_
          refine z_getr f_Mo_68 rfl d_Mo_layRows_102 (tA_83 k) (tr_83_23 k) ?_
          refine z_bipush 48 d_Mo_layRows_105 (by decide) ?_
          refine z_iload d_Mo_layRows_107 rfl ?_
          refine z_imul d_Mo_layRows_109 ?_
          refine z_iload d_Mo_layRows_110 rfl ?_
          refine z_iadd d_Mo_layRows_112 ?_
          refine z_iload d_Mo_layRows_113 rfl ?_
          obtain ⟨j25, hj25, ej25, h⟩ := h
          refine y_iastore j25 d_Mo_layRows_115 (ta_103 k) hj25 ej25 ?_
          refine z_mem (fun M26 eM26 => ?_)
          replace h := h M26 eM26
          obtain ⟨y27, ey27⟩ : ∃ q : Int32, q = y22 + 1 := ⟨_, rfl⟩
          replace h := h y27 ey27
          refine z_iinc (ls' := [some (.ref 83), some (.int x1), some (.int x2), some (.int x3), some (.int x4), some (.int y27), some (.int x6), some (.int y7), some (.int 1)]) y27 d_Mo_layRows_116 rfl (ey27 ▸ rfl) (Nat.le_of_ble_eq_true rfl) rfl rfl ?_
          obtain ⟨y28, ey28⟩ : ∃ q : Int32, q = x6 + 1 := ⟨_, rfl⟩
          replace h := h y28 ey28
          refine z_iinc (ls' := [some (.ref 83), some (.int x1), some (.int x2), some (.int x3), some (.int x4), some (.int y27), some (.int y28), some (.int y7), some (.int 1)]) y28 d_Mo_layRows_119 rfl (ey28 ▸ rfl) (Nat.le_of_ble_eq_true rfl) rfl rfl ?_
          refine z_goto 15 d_Mo_layRows_122 rfl ?_
          exact z_forget [some (.ref 83), some (.int x1), some (.int x2), some (.int x3), some (.int x4), some (.int y27), some (.int y28), none, none] (And.intro rfl (And.intro rfl (And.intro rfl (And.intro rfl (And.intro rfl (And.intro rfl (And.intro rfl (trivial)))))))) h

set_option maxRecDepth 20000 in
theorem vc_Mo_layRows_143 (E : ZE) (k : Nat) (M : ZM) (x1 : Int32) (x4 : Int32) (Φ : Option Value → ZS → ZM → Prop)  (h : (9 ≤ x4 → Φ none (zSt k) M) ∧ (¬ 9 ≤ x4 → ∃ j2 : Nat, j2 < 1350 ∧ ((9 * x1) + x4) = nI j2 ∧ (∃ j3 : Nat, j3 < 9 ∧ x4 = nI j3 ∧ (∀ M4 : ZM, M4 = zms M 105 j3 (M 98 j2) → ∀ y5 : Int32, y5 = x4 + 1 → zW E m_Mo_layRows 0 (zSt k) M4 143 [some (.ref 83), some (.int x1), none, none, some (.int y5), none, none, none, none] [] Φ)))) : zW E m_Mo_layRows 0 (zSt k) M 143 [some (.ref 83), some (.int x1), none, none, some (.int x4), none, none, none, none] [] Φ := by
  refine z_iload d_Mo_layRows_143 rfl ?_
  refine z_bipush 9 d_Mo_layRows_145 (by decide) ?_
  refine z_icmp_ge 175 d_Mo_layRows_147 rfl ⟨fun c1 => ?_, fun c1 => ?_⟩
  · replace h := h.1 c1
    exact z_vret rfl d_Mo_layRows_175 h
  · replace h := h.2 c1
    refine z_aload_n d_Mo_layRows_150 rfl ?_
    refine z_getr f_Mo_74 rfl d_Mo_layRows_151 (tA_83 k) (tr_83_25 k) ?_
    refine z_iload d_Mo_layRows_154 rfl ?_
    refine z_aload_n d_Mo_layRows_156 rfl ?_
    refine z_getr f_Mo_52 rfl d_Mo_layRows_157 (tA_83 k) (tr_83_16 k) ?_
    refine z_bipush 9 d_Mo_layRows_160 (by decide) ?_
    refine z_iload_n d_Mo_layRows_162 rfl ?_
    refine z_imul d_Mo_layRows_163 ?_
    refine z_iload d_Mo_layRows_164 rfl ?_
    refine z_iadd d_Mo_layRows_166 ?_
    obtain ⟨j2, hj2, ej2, h⟩ := h
    refine y_iaload j2 d_Mo_layRows_167 (ta_98 k) hj2 ej2 ?_
    obtain ⟨j3, hj3, ej3, h⟩ := h
    refine y_iastore j3 d_Mo_layRows_168 (ta_105 k) hj3 ej3 ?_
    refine z_mem (fun M4 eM4 => ?_)
    replace h := h M4 eM4
    obtain ⟨y5, ey5⟩ : ∃ q : Int32, q = x4 + 1 := ⟨_, rfl⟩
    replace h := h y5 ey5
    refine z_iinc (ls' := [some (.ref 83), some (.int x1), none, none, some (.int y5), none, none, none, none]) y5 d_Mo_layRows_169 rfl (ey5 ▸ rfl) (Nat.le_of_ble_eq_true rfl) rfl rfl ?_
    refine z_goto 143 d_Mo_layRows_172 rfl ?_
    exact z_forget [some (.ref 83), some (.int x1), none, none, some (.int y5), none, none, none, none] (And.intro rfl (And.intro rfl (And.intro rfl (trivial)))) h

set_option maxRecDepth 20000 in
theorem vc_Mo_letterAhead_0 (E : ZE) (k : Nat) (M : ZM) (x1 : Int32) (x2 : Int32) (x3 : Int32) (Φ : Option Value → ZS → ZM → Prop)  (h : zW E m_Mo_letterAhead 0 (zSt k) M 3 [some (.ref 83), some (.int x1), some (.int x2), some (.int x3), some (.int 0), none, none] [] Φ) : zW E m_Mo_letterAhead 0 (zSt k) M 0 [some (.ref 83), some (.int x1), some (.int x2), some (.int x3), none, none, none] [] Φ := by
  refine z_iconst 0 d_Mo_letterAhead_0 (by decide) ?_
  refine z_istore (ls' := [some (.ref 83), some (.int x1), some (.int x2), some (.int x3), some (.int 0), none, none]) d_Mo_letterAhead_1 (Nat.le_of_ble_eq_true rfl) rfl rfl ?_
  exact z_forget [some (.ref 83), some (.int x1), some (.int x2), some (.int x3), some (.int 0), none, none] (And.intro rfl (And.intro rfl (And.intro rfl (And.intro rfl (And.intro rfl (trivial)))))) h

set_option maxRecDepth 20000 in
theorem vc_Mo_letterAhead_3 (E : ZE) (k : Nat) (M : ZM) (x1 : Int32) (x2 : Int32) (x3 : Int32) (x4 : Int32) (Φ : Option Value → ZS → ZM → Prop)  (h : (3 ≤ x4 → Φ none (zSt k) M) ∧ (¬ 3 ≤ x4 → zW E m_Mo_letterAhead 0 (zSt k) M 16 [some (.ref 83), some (.int x1), some (.int x2), some (.int x3), some (.int x4), some (.int 7), some (.int 0)] [] Φ)) : zW E m_Mo_letterAhead 0 (zSt k) M 3 [some (.ref 83), some (.int x1), some (.int x2), some (.int x3), some (.int x4), none, none] [] Φ := by
  refine z_iload d_Mo_letterAhead_3 rfl ?_
  refine z_iconst 3 d_Mo_letterAhead_5 (by decide) ?_
  refine z_icmp_ge 89 d_Mo_letterAhead_6 rfl ⟨fun c1 => ?_, fun c1 => ?_⟩
  · replace h := h.1 c1
    exact z_vret rfl d_Mo_letterAhead_89 h
  · replace h := h.2 c1
    refine z_bipush 7 d_Mo_letterAhead_9 (by decide) ?_
    refine z_istore (ls' := [some (.ref 83), some (.int x1), some (.int x2), some (.int x3), some (.int x4), some (.int 7), none]) d_Mo_letterAhead_11 (Nat.le_of_ble_eq_true rfl) rfl rfl ?_
    refine z_iconst 0 d_Mo_letterAhead_13 (by decide) ?_
    refine z_istore (ls' := [some (.ref 83), some (.int x1), some (.int x2), some (.int x3), some (.int x4), some (.int 7), some (.int 0)]) d_Mo_letterAhead_14 (Nat.le_of_ble_eq_true rfl) rfl rfl ?_
    exact z_forget [some (.ref 83), some (.int x1), some (.int x2), some (.int x3), some (.int x4), some (.int 7), some (.int 0)] (And.intro rfl (And.intro rfl (And.intro rfl (And.intro rfl (And.intro rfl (And.intro rfl (And.intro rfl (trivial)))))))) h

set_option maxRecDepth 20000 in
theorem vc_Mo_letterAhead_16 (E : ZE) (k : Nat) (M : ZM) (x1 : Int32) (x2 : Int32) (x3 : Int32) (x4 : Int32) (x5 : Int32) (x6 : Int32) (Φ : Option Value → ZS → ZM → Prop)  (h : (3 ≤ x6 → ∃ j2 : Nat, j2 < 9 ∧ ((3 * x2) + x4) = nI j2 ∧ (∀ M3 : ZM, M3 = zms M 105 j2 x5 → ∀ y4 : Int32, y4 = x4 + 1 → zW E m_Mo_letterAhead 0 (zSt k) M3 3 [some (.ref 83), some (.int x1), some (.int x2), some (.int x3), some (.int y4), none, none] [] Φ)) ∧ (¬ 3 ≤ x6 → ∃ j5 : Nat, j5 < 6 ∧ ((3 * x3) + x6) = nI j5 ∧ ((¬ (M 86 j5) = x4 → ∀ y7 : Int32, y7 = (x5 &&& 7) → ∀ y8 : Int32, y8 = x6 + 1 → zW E m_Mo_letterAhead 0 (zSt k) M 16 [some (.ref 83), some (.int x1), some (.int x2), some (.int x3), some (.int x4), some (.int y7), some (.int y8)] [] Φ) ∧ ((M 86 j5) = x4 → ∃ j9 : Nat, j9 < 1350 ∧ (((9 * x1) + (3 * x2)) + x6) = nI j9 ∧ (∀ y10 : Int32, y10 = (x5 &&& (M 98 j9)) → ∀ y11 : Int32, y11 = x6 + 1 → zW E m_Mo_letterAhead 0 (zSt k) M 16 [some (.ref 83), some (.int x1), some (.int x2), some (.int x3), some (.int x4), some (.int y10), some (.int y11)] [] Φ))))) : zW E m_Mo_letterAhead 0 (zSt k) M 16 [some (.ref 83), some (.int x1), some (.int x2), some (.int x3), some (.int x4), some (.int x5), some (.int x6)] [] Φ := by
  refine z_iload d_Mo_letterAhead_16 rfl ?_
  refine z_iconst 3 d_Mo_letterAhead_18 (by decide) ?_
  refine z_icmp_ge 70 d_Mo_letterAhead_19 rfl ⟨fun c1 => ?_, fun c1 => ?_⟩
  · replace h := h.1 c1
    refine z_aload_n d_Mo_letterAhead_70 rfl ?_
    refine z_getr f_Mo_74 rfl d_Mo_letterAhead_71 (tA_83 k) (tr_83_25 k) ?_
    refine z_iconst 3 d_Mo_letterAhead_74 (by decide) ?_
    refine z_iload_n d_Mo_letterAhead_75 rfl ?_
    refine z_imul d_Mo_letterAhead_76 ?_
    refine z_iload d_Mo_letterAhead_77 rfl ?_
    refine z_iadd d_Mo_letterAhead_79 ?_
    refine z_iload d_Mo_letterAhead_80 rfl ?_
    obtain ⟨j2, hj2, ej2, h⟩ := h
    refine y_iastore j2 d_Mo_letterAhead_82 (ta_105 k) hj2 ej2 ?_
    refine z_mem (fun M3 eM3 => ?_)
    replace h := h M3 eM3
    obtain ⟨y4, ey4⟩ : ∃ q : Int32, q = x4 + 1 := ⟨_, rfl⟩
    replace h := h y4 ey4
    refine z_iinc (ls' := [some (.ref 83), some (.int x1), some (.int x2), some (.int x3), some (.int y4), some (.int x5), some (.int x6)]) y4 d_Mo_letterAhead_83 rfl (ey4 ▸ rfl) (Nat.le_of_ble_eq_true rfl) rfl rfl ?_
    refine z_goto 3 d_Mo_letterAhead_86 rfl ?_
    exact z_forget [some (.ref 83), some (.int x1), some (.int x2), some (.int x3), some (.int y4), none, none] (And.intro rfl (And.intro rfl (And.intro rfl (And.intro rfl (And.intro rfl (trivial)))))) h
  · replace h := h.2 c1
    refine z_iload d_Mo_letterAhead_22 rfl ?_
    refine z_aload_n d_Mo_letterAhead_24 rfl ?_
    refine z_getr f_Mo_16 rfl d_Mo_letterAhead_25 (tA_83 k) (tr_83_2 k) ?_
    refine z_iconst 3 d_Mo_letterAhead_28 (by decide) ?_
    refine z_iload_n d_Mo_letterAhead_29 rfl ?_
    refine z_imul d_Mo_letterAhead_30 ?_
    refine z_iload d_Mo_letterAhead_31 rfl ?_
    refine z_iadd d_Mo_letterAhead_33 ?_
    obtain ⟨j5, hj5, ej5, h⟩ := h
    refine y_iaload j5 d_Mo_letterAhead_34 (ta_86 k) hj5 ej5 ?_
    refine z_iload d_Mo_letterAhead_35 rfl ?_
    refine z_icmp_ne 59 d_Mo_letterAhead_37 rfl ⟨fun c6 => ?_, fun c6 => ?_⟩
    · replace h := h.1 c6
      refine z_bipush 7 d_Mo_letterAhead_59 (by decide) ?_
      refine z_iand d_Mo_letterAhead_61 ?_
      refine z_name (fun y7 ey7 => ?_)
      replace h := h y7 ey7
      refine z_istore (ls' := [some (.ref 83), some (.int x1), some (.int x2), some (.int x3), some (.int x4), some (.int y7), some (.int x6)]) d_Mo_letterAhead_62 (Nat.le_of_ble_eq_true rfl) rfl rfl ?_
      obtain ⟨y8, ey8⟩ : ∃ q : Int32, q = x6 + 1 := ⟨_, rfl⟩
      replace h := h y8 ey8
      refine z_iinc (ls' := [some (.ref 83), some (.int x1), some (.int x2), some (.int x3), some (.int x4), some (.int y7), some (.int y8)]) y8 d_Mo_letterAhead_64 rfl (ey8 ▸ rfl) (Nat.le_of_ble_eq_true rfl) rfl rfl ?_
      refine z_goto 16 d_Mo_letterAhead_67 rfl ?_
      exact z_forget [some (.ref 83), some (.int x1), some (.int x2), some (.int x3), some (.int x4), some (.int y7), some (.int y8)] (And.intro rfl (And.intro rfl (And.intro rfl (And.intro rfl (And.intro rfl (And.intro rfl (And.intro rfl (trivial)))))))) h
    · replace h := h.2 c6
      refine z_aload_n d_Mo_letterAhead_40 rfl ?_
      refine z_getr f_Mo_52 rfl d_Mo_letterAhead_41 (tA_83 k) (tr_83_16 k) ?_
      refine z_bipush 9 d_Mo_letterAhead_44 (by decide) ?_
      refine z_iload_n d_Mo_letterAhead_46 rfl ?_
      refine z_imul d_Mo_letterAhead_47 ?_
      refine z_iconst 3 d_Mo_letterAhead_48 (by decide) ?_
      refine z_iload_n d_Mo_letterAhead_49 rfl ?_
      refine z_imul d_Mo_letterAhead_50 ?_
      refine z_iadd d_Mo_letterAhead_51 ?_
      refine z_iload d_Mo_letterAhead_52 rfl ?_
      refine z_iadd d_Mo_letterAhead_54 ?_
      obtain ⟨j9, hj9, ej9, h⟩ := h
      refine y_iaload j9 d_Mo_letterAhead_55 (ta_98 k) hj9 ej9 ?_
      refine z_goto 61 d_Mo_letterAhead_56 rfl ?_
      refine z_iand d_Mo_letterAhead_61 ?_
      refine z_name (fun y10 ey10 => ?_)
      replace h := h y10 ey10
      refine z_istore (ls' := [some (.ref 83), some (.int x1), some (.int x2), some (.int x3), some (.int x4), some (.int y10), some (.int x6)]) d_Mo_letterAhead_62 (Nat.le_of_ble_eq_true rfl) rfl rfl ?_
      obtain ⟨y11, ey11⟩ : ∃ q : Int32, q = x6 + 1 := ⟨_, rfl⟩
      replace h := h y11 ey11
      refine z_iinc (ls' := [some (.ref 83), some (.int x1), some (.int x2), some (.int x3), some (.int x4), some (.int y10), some (.int y11)]) y11 d_Mo_letterAhead_64 rfl (ey11 ▸ rfl) (Nat.le_of_ble_eq_true rfl) rfl rfl ?_
      refine z_goto 16 d_Mo_letterAhead_67 rfl ?_
      exact z_forget [some (.ref 83), some (.int x1), some (.int x2), some (.int x3), some (.int x4), some (.int y10), some (.int y11)] (And.intro rfl (And.intro rfl (And.intro rfl (And.intro rfl (And.intro rfl (And.intro rfl (And.intro rfl (trivial)))))))) h

set_option maxRecDepth 20000 in
theorem vc_Mo_variableAhead_0 (E : ZE) (k : Nat) (M : ZM) (x1 : Int32) (x2 : Int32) (x3 : Int32) (x4 : Int32) (Φ : Option Value → ZS → ZM → Prop)  (h : zW E m_Mo_variableAhead 1 (zSt k) M 3 [some (.ref 83), some (.int x1), some (.int x2), some (.int x3), some (.int x4), some (.int 0), none, none] [] Φ) : zW E m_Mo_variableAhead 1 (zSt k) M 0 [some (.ref 83), some (.int x1), some (.int x2), some (.int x3), some (.int x4), none, none, none] [] Φ := by
  refine z_iconst 0 d_Mo_variableAhead_0 (by decide) ?_
  refine z_istore (ls' := [some (.ref 83), some (.int x1), some (.int x2), some (.int x3), some (.int x4), some (.int 0), none, none]) d_Mo_variableAhead_1 (Nat.le_of_ble_eq_true rfl) rfl rfl ?_
  exact z_forget [some (.ref 83), some (.int x1), some (.int x2), some (.int x3), some (.int x4), some (.int 0), none, none] (And.intro rfl (And.intro rfl (And.intro rfl (And.intro rfl (And.intro rfl (And.intro rfl (trivial))))))) h

set_option maxRecDepth 20000 in
theorem vc_Mo_variableAhead_3 (E : ZE) (k : Nat) (M : ZM) (x1 : Int32) (x2 : Int32) (x3 : Int32) (x4 : Int32) (x5 : Int32) (Φ : Option Value → ZS → ZM → Prop)  (h : (3 ≤ x5 → zW E m_Mo_variableAhead 1 (zSt k) M 31 [some (.ref 83), some (.int x1), some (.int x2), some (.int x3), some (.int x4), some (.int 0), none, none] [] Φ) ∧ (¬ 3 ≤ x5 → ∃ j2 : Nat, j2 < 9 ∧ ((3 * x2) + x5) = nI j2 ∧ (∀ M3 : ZM, M3 = zms M 105 j2 7 → ∀ y4 : Int32, y4 = x5 + 1 → zW E m_Mo_variableAhead 1 (zSt k) M3 3 [some (.ref 83), some (.int x1), some (.int x2), some (.int x3), some (.int x4), some (.int y4), none, none] [] Φ))) : zW E m_Mo_variableAhead 1 (zSt k) M 3 [some (.ref 83), some (.int x1), some (.int x2), some (.int x3), some (.int x4), some (.int x5), none, none] [] Φ := by
  refine z_iload d_Mo_variableAhead_3 rfl ?_
  refine z_iconst 3 d_Mo_variableAhead_5 (by decide) ?_
  refine z_icmp_ge 28 d_Mo_variableAhead_6 rfl ⟨fun c1 => ?_, fun c1 => ?_⟩
  · replace h := h.1 c1
    refine z_iconst 0 d_Mo_variableAhead_28 (by decide) ?_
    refine z_istore (ls' := [some (.ref 83), some (.int x1), some (.int x2), some (.int x3), some (.int x4), some (.int 0), none, none]) d_Mo_variableAhead_29 (Nat.le_of_ble_eq_true rfl) rfl rfl ?_
    exact z_forget [some (.ref 83), some (.int x1), some (.int x2), some (.int x3), some (.int x4), some (.int 0), none, none] (And.intro rfl (And.intro rfl (And.intro rfl (And.intro rfl (And.intro rfl (And.intro rfl (trivial))))))) h
  · replace h := h.2 c1
    refine z_aload_n d_Mo_variableAhead_9 rfl ?_
    refine z_getr f_Mo_74 rfl d_Mo_variableAhead_10 (tA_83 k) (tr_83_25 k) ?_
    refine z_iconst 3 d_Mo_variableAhead_13 (by decide) ?_
    refine z_iload_n d_Mo_variableAhead_14 rfl ?_
    refine z_imul d_Mo_variableAhead_15 ?_
    refine z_iload d_Mo_variableAhead_16 rfl ?_
    refine z_iadd d_Mo_variableAhead_18 ?_
    refine z_bipush 7 d_Mo_variableAhead_19 (by decide) ?_
    obtain ⟨j2, hj2, ej2, h⟩ := h
    refine y_iastore j2 d_Mo_variableAhead_21 (ta_105 k) hj2 ej2 ?_
    refine z_mem (fun M3 eM3 => ?_)
    replace h := h M3 eM3
    obtain ⟨y4, ey4⟩ : ∃ q : Int32, q = x5 + 1 := ⟨_, rfl⟩
    replace h := h y4 ey4
    refine z_iinc (ls' := [some (.ref 83), some (.int x1), some (.int x2), some (.int x3), some (.int x4), some (.int y4), none, none]) y4 d_Mo_variableAhead_22 rfl (ey4 ▸ rfl) (Nat.le_of_ble_eq_true rfl) rfl rfl ?_
    refine z_goto 3 d_Mo_variableAhead_25 rfl ?_
    exact z_forget [some (.ref 83), some (.int x1), some (.int x2), some (.int x3), some (.int x4), some (.int y4), none, none] (And.intro rfl (And.intro rfl (And.intro rfl (And.intro rfl (And.intro rfl (And.intro rfl (trivial))))))) h

set_option maxRecDepth 20000 in
theorem vc_Mo_variableAhead_31 (E : ZE) (k : Nat) (M : ZM) (x1 : Int32) (x2 : Int32) (x3 : Int32) (x4 : Int32) (x5 : Int32) (Φ : Option Value → ZS → ZM → Prop)  (h : (3 ≤ x5 → Φ none (zSt k) M) ∧ (¬ 3 ≤ x5 → ∃ j2 : Nat, j2 < 1350 ∧ (((9 * x1) + (3 * x2)) + x5) = nI j2 ∧ (∀ y3 : Int32, y3 = (M 98 j2) → zW E m_Mo_third 0 (zSt k) M 0 [some (.int x5)] [] (fun q4 T4 M4 => ∃ y4 : Int32, q4 = some (.int y4) ∧ (zSt k) = T4 ∧ ¬ y4 = 0 ∧ (∀ y6 : Int32, y6 = ((x4 / y4) - (x4 / y4) / 3 * 3) → (y3 = 7 → ∀ y8 : Int32, y8 = x5 + 1 → zW E m_Mo_variableAhead 1 (zSt k) M4 31 [some (.ref 83), some (.int x1), some (.int x2), some (.int x3), some (.int x4), some (.int y8), none, none] [] Φ) ∧ (¬ y3 = 7 → ∃ j9 : Nat, j9 < 9 ∧ ((3 * x3) + x5) = nI j9 ∧ (∃ j10 : Nat, j10 < 9 ∧ ((3 * x3) + x5) = nI j10 ∧ (∀ M11 : ZM, M11 = zms M4 105 j10 ((M4 105 j9) &&& ((1 : Int32) <<< (y6 &&& 31))) → ∃ j12 : Nat, j12 < 9 ∧ ((3 * x2) + y6) = nI j12 ∧ (∃ j13 : Nat, j13 < 9 ∧ ((3 * x2) + y6) = nI j13 ∧ (∀ M14 : ZM, M14 = zms M11 105 j13 ((M11 105 j12) &&& y3) → ∀ y15 : Int32, y15 = x5 + 1 → zW E m_Mo_variableAhead 1 (zSt k) M14 31 [some (.ref 83), some (.int x1), some (.int x2), some (.int x3), some (.int x4), some (.int y15), none, none] [] Φ)))))))))) : zW E m_Mo_variableAhead 1 (zSt k) M 31 [some (.ref 83), some (.int x1), some (.int x2), some (.int x3), some (.int x4), some (.int x5), none, none] [] Φ := by
  refine z_iload d_Mo_variableAhead_31 rfl ?_
  refine z_iconst 3 d_Mo_variableAhead_33 (by decide) ?_
  refine z_icmp_ge 114 d_Mo_variableAhead_34 rfl ⟨fun c1 => ?_, fun c1 => ?_⟩
  · replace h := h.1 c1
    exact z_vret rfl d_Mo_variableAhead_114 h
  · replace h := h.2 c1
    refine z_aload_n d_Mo_variableAhead_37 rfl ?_
    refine z_getr f_Mo_52 rfl d_Mo_variableAhead_38 (tA_83 k) (tr_83_16 k) ?_
    refine z_bipush 9 d_Mo_variableAhead_41 (by decide) ?_
    refine z_iload_n d_Mo_variableAhead_43 rfl ?_
    refine z_imul d_Mo_variableAhead_44 ?_
    refine z_iconst 3 d_Mo_variableAhead_45 (by decide) ?_
    refine z_iload_n d_Mo_variableAhead_46 rfl ?_
    refine z_imul d_Mo_variableAhead_47 ?_
    refine z_iadd d_Mo_variableAhead_48 ?_
    refine z_iload d_Mo_variableAhead_49 rfl ?_
    refine z_iadd d_Mo_variableAhead_51 ?_
    obtain ⟨j2, hj2, ej2, h⟩ := h
    refine y_iaload j2 d_Mo_variableAhead_52 (ta_98 k) hj2 ej2 ?_
    refine z_name (fun y3 ey3 => ?_)
    replace h := h y3 ey3
    refine z_istore (ls' := [some (.ref 83), some (.int x1), some (.int x2), some (.int x3), some (.int x4), some (.int x5), some (.int y3), none]) d_Mo_variableAhead_53 (Nat.le_of_ble_eq_true rfl) rfl rfl ?_
    refine z_iload d_Mo_variableAhead_55 rfl ?_
    refine z_iload d_Mo_variableAhead_57 rfl ?_
    refine z_callS (as := [.int x5]) (st := [.int x4]) i_Mo_third s_Mo_third l_Mo_181 d_Mo_variableAhead_59 (by decide) rfl (Nat.le_of_ble_eq_true rfl) (Nat.le_of_ble_eq_true rfl) h (fun q4 T4 M4 h => ?_)
    obtain ⟨y4, rfl, rfl, h⟩ := h
    obtain ⟨hn5, h⟩ := h
    refine z_idiv d_Mo_variableAhead_62 hn5 ?_
    refine z_iconst 3 d_Mo_variableAhead_63 (by decide) ?_
    refine z_irem d_Mo_variableAhead_64 (by decide) ?_
    refine z_name (fun y6 ey6 => ?_)
    replace h := h y6 ey6
    refine z_istore (ls' := [some (.ref 83), some (.int x1), some (.int x2), some (.int x3), some (.int x4), some (.int x5), some (.int y3), some (.int y6)]) d_Mo_variableAhead_65 (Nat.le_of_ble_eq_true rfl) rfl rfl ?_
    refine z_iload d_Mo_variableAhead_67 rfl ?_
    refine z_bipush 7 d_Mo_variableAhead_69 (by decide) ?_
    refine z_icmp_eq 108 d_Mo_variableAhead_71 rfl ⟨fun c7 => ?_, fun c7 => ?_⟩
    · replace h := h.1 c7
      obtain ⟨y8, ey8⟩ : ∃ q : Int32, q = x5 + 1 := ⟨_, rfl⟩
      replace h := h y8 ey8
      refine z_iinc (ls' := [some (.ref 83), some (.int x1), some (.int x2), some (.int x3), some (.int x4), some (.int y8), some (.int y3), some (.int y6)]) y8 d_Mo_variableAhead_108 rfl (ey8 ▸ rfl) (Nat.le_of_ble_eq_true rfl) rfl rfl ?_
      refine z_goto 31 d_Mo_variableAhead_111 rfl ?_
      exact z_forget [some (.ref 83), some (.int x1), some (.int x2), some (.int x3), some (.int x4), some (.int y8), none, none] (And.intro rfl (And.intro rfl (And.intro rfl (And.intro rfl (And.intro rfl (And.intro rfl (trivial))))))) h
    · replace h := h.2 c7
      refine z_aload_n d_Mo_variableAhead_74 rfl ?_
      refine z_getr f_Mo_74 rfl d_Mo_variableAhead_75 (tA_83 k) (tr_83_25 k) ?_
      refine z_iconst 3 d_Mo_variableAhead_78 (by decide) ?_
      refine z_iload_n d_Mo_variableAhead_79 rfl ?_
      refine z_imul d_Mo_variableAhead_80 ?_
      refine z_iload d_Mo_variableAhead_81 rfl ?_
      refine z_iadd d_Mo_variableAhead_83 ?_
      refine z_dup2 d_Mo_variableAhead_84 rfl rfl ?_
      obtain ⟨j9, hj9, ej9, h⟩ := h
      refine y_iaload j9 d_Mo_variableAhead_85 (ta_105 k) hj9 ej9 ?_
      refine z_iconst 1 d_Mo_variableAhead_86 (by decide) ?_
      refine z_iload d_Mo_variableAhead_87 rfl ?_
      refine z_ishl d_Mo_variableAhead_89 ?_
      refine z_iand d_Mo_variableAhead_90 ?_
      obtain ⟨j10, hj10, ej10, h⟩ := h
      refine y_iastore j10 d_Mo_variableAhead_91 (ta_105 k) hj10 ej10 ?_
      refine z_mem (fun M11 eM11 => ?_)
      replace h := h M11 eM11
      refine z_aload_n d_Mo_variableAhead_92 rfl ?_
      refine z_getr f_Mo_74 rfl d_Mo_variableAhead_93 (tA_83 k) (tr_83_25 k) ?_
      refine z_iconst 3 d_Mo_variableAhead_96 (by decide) ?_
      refine z_iload_n d_Mo_variableAhead_97 rfl ?_
      refine z_imul d_Mo_variableAhead_98 ?_
      refine z_iload d_Mo_variableAhead_99 rfl ?_
      refine z_iadd d_Mo_variableAhead_101 ?_
      refine z_dup2 d_Mo_variableAhead_102 rfl rfl ?_
      obtain ⟨j12, hj12, ej12, h⟩ := h
      refine y_iaload j12 d_Mo_variableAhead_103 (ta_105 k) hj12 ej12 ?_
      refine z_iload d_Mo_variableAhead_104 rfl ?_
      refine z_iand d_Mo_variableAhead_106 ?_
      obtain ⟨j13, hj13, ej13, h⟩ := h
      refine y_iastore j13 d_Mo_variableAhead_107 (ta_105 k) hj13 ej13 ?_
      refine z_mem (fun M14 eM14 => ?_)
      replace h := h M14 eM14
      obtain ⟨y15, ey15⟩ : ∃ q : Int32, q = x5 + 1 := ⟨_, rfl⟩
      replace h := h y15 ey15
      refine z_iinc (ls' := [some (.ref 83), some (.int x1), some (.int x2), some (.int x3), some (.int x4), some (.int y15), some (.int y3), some (.int y6)]) y15 d_Mo_variableAhead_108 rfl (ey15 ▸ rfl) (Nat.le_of_ble_eq_true rfl) rfl rfl ?_
      refine z_goto 31 d_Mo_variableAhead_111 rfl ?_
      exact z_forget [some (.ref 83), some (.int x1), some (.int x2), some (.int x3), some (.int x4), some (.int y15), none, none] (And.intro rfl (And.intro rfl (And.intro rfl (And.intro rfl (And.intro rfl (And.intro rfl (trivial))))))) h

set_option maxRecDepth 20000 in
theorem vc_Mo_isNothing_0 (E : ZE) (k : Nat) (M : ZM) (x1 : Int32) (x2 : Int32) (Φ : Option Value → ZS → ZM → Prop)  (h : ∀ y1 : Int32, y1 = ((9 * x1) + (3 * x2)) → ∃ j2 : Nat, j2 < 1350 ∧ y1 = nI j2 ∧ (zW E m_Mo_has 0 (zSt k) M 0 [some (.int (M 98 j2)), some (.int 0)] [] (fun q3 T3 M3 => ∃ y3 : Int32, q3 = some (.int y3) ∧ (zSt k) = T3 ∧ (y3 = 0 → Φ (some (.int 0)) (zSt k) M3) ∧ (¬ y3 = 0 → ∃ j5 : Nat, j5 < 1350 ∧ (y1 + 1) = nI j5 ∧ (zW E m_Mo_has 0 (zSt k) M3 0 [some (.int (M3 98 j5)), some (.int 1)] [] (fun q6 T6 M6 => ∃ y6 : Int32, q6 = some (.int y6) ∧ (zSt k) = T6 ∧ (y6 = 0 → Φ (some (.int 0)) (zSt k) M6) ∧ (¬ y6 = 0 → ∃ j8 : Nat, j8 < 1350 ∧ (y1 + 2) = nI j8 ∧ (zW E m_Mo_has 0 (zSt k) M6 0 [some (.int (M6 98 j8)), some (.int 2)] [] (fun q9 T9 M9 => ∃ y9 : Int32, q9 = some (.int y9) ∧ (zSt k) = T9 ∧ (y9 = 0 → Φ (some (.int 0)) (zSt k) M9) ∧ (¬ y9 = 0 → Φ (some (.int 1)) (zSt k) M9)))))))))) : zW E m_Mo_isNothing 1 (zSt k) M 0 [some (.ref 83), some (.int x1), some (.int x2), none] [] Φ := by
  refine z_bipush 9 d_Mo_isNothing_0 (by decide) ?_
  refine z_iload_n d_Mo_isNothing_2 rfl ?_
  refine z_imul d_Mo_isNothing_3 ?_
  refine z_iconst 3 d_Mo_isNothing_4 (by decide) ?_
  refine z_iload_n d_Mo_isNothing_5 rfl ?_
  refine z_imul d_Mo_isNothing_6 ?_
  refine z_iadd d_Mo_isNothing_7 ?_
  refine z_name (fun y1 ey1 => ?_)
  replace h := h y1 ey1
  refine z_istore_n (ls' := [some (.ref 83), some (.int x1), some (.int x2), some (.int y1)]) d_Mo_isNothing_8 (Nat.le_of_ble_eq_true rfl) rfl rfl ?_
  refine z_aload_n d_Mo_isNothing_9 rfl ?_
  refine z_getr f_Mo_52 rfl d_Mo_isNothing_10 (tA_83 k) (tr_83_16 k) ?_
  refine z_iload_n d_Mo_isNothing_13 rfl ?_
  obtain ⟨j2, hj2, ej2, h⟩ := h
  refine y_iaload j2 d_Mo_isNothing_14 (ta_98 k) hj2 ej2 ?_
  refine z_iconst 0 d_Mo_isNothing_15 (by decide) ?_
  refine z_callS (as := [.int (M 98 j2), .int 0]) (st := []) i_Mo_has s_Mo_has l_Mo_158 d_Mo_isNothing_16 (by decide) rfl (Nat.le_of_ble_eq_true rfl) (Nat.le_of_ble_eq_true rfl) h (fun q3 T3 M3 h => ?_)
  obtain ⟨y3, rfl, rfl, h⟩ := h
  refine z_if_eq 56 d_Mo_isNothing_19 rfl ⟨fun c4 => ?_, fun c4 => ?_⟩
  · replace h := h.1 c4
    refine z_iconst 0 d_Mo_isNothing_56 (by decide) ?_
    exact z_zret rfl d_Mo_isNothing_57 rfl h
  · replace h := h.2 c4
    refine z_aload_n d_Mo_isNothing_22 rfl ?_
    refine z_getr f_Mo_52 rfl d_Mo_isNothing_23 (tA_83 k) (tr_83_16 k) ?_
    refine z_iload_n d_Mo_isNothing_26 rfl ?_
    refine z_iconst 1 d_Mo_isNothing_27 (by decide) ?_
    refine z_iadd d_Mo_isNothing_28 ?_
    obtain ⟨j5, hj5, ej5, h⟩ := h
    refine y_iaload j5 d_Mo_isNothing_29 (ta_98 k) hj5 ej5 ?_
    refine z_iconst 1 d_Mo_isNothing_30 (by decide) ?_
    refine z_callS (as := [.int (M3 98 j5), .int 1]) (st := []) i_Mo_has s_Mo_has l_Mo_158 d_Mo_isNothing_31 (by decide) rfl (Nat.le_of_ble_eq_true rfl) (Nat.le_of_ble_eq_true rfl) h (fun q6 T6 M6 h => ?_)
    obtain ⟨y6, rfl, rfl, h⟩ := h
    refine z_if_eq 56 d_Mo_isNothing_34 rfl ⟨fun c7 => ?_, fun c7 => ?_⟩
    · replace h := h.1 c7
      refine z_iconst 0 d_Mo_isNothing_56 (by decide) ?_
      exact z_zret rfl d_Mo_isNothing_57 rfl h
    · replace h := h.2 c7
      refine z_aload_n d_Mo_isNothing_37 rfl ?_
      refine z_getr f_Mo_52 rfl d_Mo_isNothing_38 (tA_83 k) (tr_83_16 k) ?_
      refine z_iload_n d_Mo_isNothing_41 rfl ?_
      refine z_iconst 2 d_Mo_isNothing_42 (by decide) ?_
      refine z_iadd d_Mo_isNothing_43 ?_
      obtain ⟨j8, hj8, ej8, h⟩ := h
      refine y_iaload j8 d_Mo_isNothing_44 (ta_98 k) hj8 ej8 ?_
      refine z_iconst 2 d_Mo_isNothing_45 (by decide) ?_
      refine z_callS (as := [.int (M6 98 j8), .int 2]) (st := []) i_Mo_has s_Mo_has l_Mo_158 d_Mo_isNothing_46 (by decide) rfl (Nat.le_of_ble_eq_true rfl) (Nat.le_of_ble_eq_true rfl) h (fun q9 T9 M9 h => ?_)
      obtain ⟨y9, rfl, rfl, h⟩ := h
      refine z_if_eq 56 d_Mo_isNothing_49 rfl ⟨fun c10 => ?_, fun c10 => ?_⟩
      · replace h := h.1 c10
        refine z_iconst 0 d_Mo_isNothing_56 (by decide) ?_
        exact z_zret rfl d_Mo_isNothing_57 rfl h
      · replace h := h.2 c10
        refine z_iconst 1 d_Mo_isNothing_52 (by decide) ?_
        refine z_goto 57 d_Mo_isNothing_53 rfl ?_
        exact z_zret rfl d_Mo_isNothing_57 rfl h

set_option maxRecDepth 20000 in
theorem vc_Mo_makeMove_0 (E : ZE) (k : Nat) (M : ZM) (x1 : Int32) (x2 : Int32) (Φ : Option Value → ZS → ZM → Prop)  (h : ∀ y1 : Int32, y1 = ((x2 / 100) - (x2 / 100) / 10 * 10) → zW E m_Mo_firstOf 0 (zSt k) M 0 [some (.ref 83), some (.int x1), some (.int 0)] [] (fun q2 T2 M2 => ∃ y2 : Int32, q2 = some (.int y2) ∧ (zSt k) = T2 ∧ (¬ y2 = (y1 + 2) → (1000 ≤ x2 → zW E m_Mo_layRows 0 (zSt k) M2 0 [some (.ref 83), some (.int x1), some (.int y1), some (.int y2), none, none, none, none, none] [] (fun q5 T5 M5 => q5 = none ∧ (zSt k) = T5 ∧ (2 ≤ y2 → zW E m_Mo_variableAhead 1 (zSt k) M5 0 [some (.ref 83), some (.int x1), some (.int y1), some (.int (y2 - 2)), some (.int (x2 - x2 / 100 * 100)), none, none, none] [] (fun q7 T7 M7 => q7 = none ∧ (zSt k) = T7 ∧ (1000 ≤ x2 → zW E m_Mo_lean 1 (zSt k) M7 0 [some (.ref 83)] [] (fun q9 T9 M9 => q9 = none ∧ (zSt k) = T9 ∧ zW E m_Mo_isHopeless 2 (zSt k) M9 0 [some (.ref 83)] [] (fun q10 T10 M10 => ∃ y10 : Int32, q10 = some (.int y10) ∧ (zSt k) = T10 ∧ (y10 = 0 → (24 < (M10 104 0) → Φ (some (.int 2)) (zSt k) M10) ∧ (¬ 24 < (M10 104 0) → ((M10 104 1) ≤ 24 → Φ (some (.int 1)) (zSt k) M10) ∧ (¬ (M10 104 1) ≤ 24 → Φ (some (.int 2)) (zSt k) M10))) ∧ (¬ y10 = 0 → Φ (some (.int 0)) (zSt k) M10)))) ∧ (¬ 1000 ≤ x2 → zW E m_Mo_isNothing 1 (zSt k) M7 0 [some (.ref 83), some (.int x1), some (.int y1), none] [] (fun q14 T14 M14 => ∃ y14 : Int32, q14 = some (.int y14) ∧ (zSt k) = T14 ∧ (¬ y14 = 0 → zW E m_Mo_lean 1 (zSt k) M14 0 [some (.ref 83)] [] (fun q16 T16 M16 => q16 = none ∧ (zSt k) = T16 ∧ zW E m_Mo_isHopeless 2 (zSt k) M16 0 [some (.ref 83)] [] (fun q17 T17 M17 => ∃ y17 : Int32, q17 = some (.int y17) ∧ (zSt k) = T17 ∧ (y17 = 0 → (24 < (M17 104 0) → Φ (some (.int 2)) (zSt k) M17) ∧ (¬ 24 < (M17 104 0) → ((M17 104 1) ≤ 24 → Φ (some (.int 1)) (zSt k) M17) ∧ (¬ (M17 104 1) ≤ 24 → Φ (some (.int 2)) (zSt k) M17))) ∧ (¬ y17 = 0 → Φ (some (.int 0)) (zSt k) M17)))) ∧ (y14 = 0 → Φ (some (.int 0)) (zSt k) M14))))) ∧ (¬ 2 ≤ y2 → zW E m_Mo_letterAhead 0 (zSt k) M5 0 [some (.ref 83), some (.int x1), some (.int y1), some (.int y2), none, none, none] [] (fun q21 T21 M21 => q21 = none ∧ (zSt k) = T21 ∧ (1000 ≤ x2 → zW E m_Mo_lean 1 (zSt k) M21 0 [some (.ref 83)] [] (fun q23 T23 M23 => q23 = none ∧ (zSt k) = T23 ∧ zW E m_Mo_isHopeless 2 (zSt k) M23 0 [some (.ref 83)] [] (fun q24 T24 M24 => ∃ y24 : Int32, q24 = some (.int y24) ∧ (zSt k) = T24 ∧ (y24 = 0 → (24 < (M24 104 0) → Φ (some (.int 2)) (zSt k) M24) ∧ (¬ 24 < (M24 104 0) → ((M24 104 1) ≤ 24 → Φ (some (.int 1)) (zSt k) M24) ∧ (¬ (M24 104 1) ≤ 24 → Φ (some (.int 2)) (zSt k) M24))) ∧ (¬ y24 = 0 → Φ (some (.int 0)) (zSt k) M24)))) ∧ (¬ 1000 ≤ x2 → zW E m_Mo_isNothing 1 (zSt k) M21 0 [some (.ref 83), some (.int x1), some (.int y1), none] [] (fun q28 T28 M28 => ∃ y28 : Int32, q28 = some (.int y28) ∧ (zSt k) = T28 ∧ (¬ y28 = 0 → zW E m_Mo_lean 1 (zSt k) M28 0 [some (.ref 83)] [] (fun q30 T30 M30 => q30 = none ∧ (zSt k) = T30 ∧ zW E m_Mo_isHopeless 2 (zSt k) M30 0 [some (.ref 83)] [] (fun q31 T31 M31 => ∃ y31 : Int32, q31 = some (.int y31) ∧ (zSt k) = T31 ∧ (y31 = 0 → (24 < (M31 104 0) → Φ (some (.int 2)) (zSt k) M31) ∧ (¬ 24 < (M31 104 0) → ((M31 104 1) ≤ 24 → Φ (some (.int 1)) (zSt k) M31) ∧ (¬ (M31 104 1) ≤ 24 → Φ (some (.int 2)) (zSt k) M31))) ∧ (¬ y31 = 0 → Φ (some (.int 0)) (zSt k) M31)))) ∧ (y28 = 0 → Φ (some (.int 0)) (zSt k) M28))))))) ∧ (¬ 1000 ≤ x2 → zW E m_Mo_layRows 0 (zSt k) M2 0 [some (.ref 83), some (.int x1), some (.int y1), some (.int (-6)), none, none, none, none, none] [] (fun q35 T35 M35 => q35 = none ∧ (zSt k) = T35 ∧ zW E m_Mo_makeMove 3 (zSt k) M35 55 [some (.ref 83), some (.int x1), some (.int x2), some (.int y1), none, none, some (.int 0)] [] Φ))) ∧ (y2 = (y1 + 2) → zW E m_Mo_firstOf 0 (zSt k) M2 0 [some (.ref 83), some (.int x1), some (.int 1)] [] (fun q36 T36 M36 => ∃ y36 : Int32, q36 = some (.int y36) ∧ (zSt k) = T36 ∧ (1000 ≤ x2 → zW E m_Mo_layRows 0 (zSt k) M36 0 [some (.ref 83), some (.int x1), some (.int y1), some (.int y36), none, none, none, none, none] [] (fun q38 T38 M38 => q38 = none ∧ (zSt k) = T38 ∧ (2 ≤ y36 → zW E m_Mo_variableAhead 1 (zSt k) M38 0 [some (.ref 83), some (.int x1), some (.int y1), some (.int (y36 - 2)), some (.int (x2 - x2 / 100 * 100)), none, none, none] [] (fun q40 T40 M40 => q40 = none ∧ (zSt k) = T40 ∧ (1000 ≤ x2 → zW E m_Mo_lean 1 (zSt k) M40 0 [some (.ref 83)] [] (fun q42 T42 M42 => q42 = none ∧ (zSt k) = T42 ∧ zW E m_Mo_isHopeless 2 (zSt k) M42 0 [some (.ref 83)] [] (fun q43 T43 M43 => ∃ y43 : Int32, q43 = some (.int y43) ∧ (zSt k) = T43 ∧ (y43 = 0 → (24 < (M43 104 0) → Φ (some (.int 2)) (zSt k) M43) ∧ (¬ 24 < (M43 104 0) → ((M43 104 1) ≤ 24 → Φ (some (.int 1)) (zSt k) M43) ∧ (¬ (M43 104 1) ≤ 24 → Φ (some (.int 2)) (zSt k) M43))) ∧ (¬ y43 = 0 → Φ (some (.int 0)) (zSt k) M43)))) ∧ (¬ 1000 ≤ x2 → zW E m_Mo_isNothing 1 (zSt k) M40 0 [some (.ref 83), some (.int x1), some (.int y1), none] [] (fun q47 T47 M47 => ∃ y47 : Int32, q47 = some (.int y47) ∧ (zSt k) = T47 ∧ (¬ y47 = 0 → zW E m_Mo_lean 1 (zSt k) M47 0 [some (.ref 83)] [] (fun q49 T49 M49 => q49 = none ∧ (zSt k) = T49 ∧ zW E m_Mo_isHopeless 2 (zSt k) M49 0 [some (.ref 83)] [] (fun q50 T50 M50 => ∃ y50 : Int32, q50 = some (.int y50) ∧ (zSt k) = T50 ∧ (y50 = 0 → (24 < (M50 104 0) → Φ (some (.int 2)) (zSt k) M50) ∧ (¬ 24 < (M50 104 0) → ((M50 104 1) ≤ 24 → Φ (some (.int 1)) (zSt k) M50) ∧ (¬ (M50 104 1) ≤ 24 → Φ (some (.int 2)) (zSt k) M50))) ∧ (¬ y50 = 0 → Φ (some (.int 0)) (zSt k) M50)))) ∧ (y47 = 0 → Φ (some (.int 0)) (zSt k) M47))))) ∧ (¬ 2 ≤ y36 → zW E m_Mo_letterAhead 0 (zSt k) M38 0 [some (.ref 83), some (.int x1), some (.int y1), some (.int y36), none, none, none] [] (fun q54 T54 M54 => q54 = none ∧ (zSt k) = T54 ∧ (1000 ≤ x2 → zW E m_Mo_lean 1 (zSt k) M54 0 [some (.ref 83)] [] (fun q56 T56 M56 => q56 = none ∧ (zSt k) = T56 ∧ zW E m_Mo_isHopeless 2 (zSt k) M56 0 [some (.ref 83)] [] (fun q57 T57 M57 => ∃ y57 : Int32, q57 = some (.int y57) ∧ (zSt k) = T57 ∧ (y57 = 0 → (24 < (M57 104 0) → Φ (some (.int 2)) (zSt k) M57) ∧ (¬ 24 < (M57 104 0) → ((M57 104 1) ≤ 24 → Φ (some (.int 1)) (zSt k) M57) ∧ (¬ (M57 104 1) ≤ 24 → Φ (some (.int 2)) (zSt k) M57))) ∧ (¬ y57 = 0 → Φ (some (.int 0)) (zSt k) M57)))) ∧ (¬ 1000 ≤ x2 → zW E m_Mo_isNothing 1 (zSt k) M54 0 [some (.ref 83), some (.int x1), some (.int y1), none] [] (fun q61 T61 M61 => ∃ y61 : Int32, q61 = some (.int y61) ∧ (zSt k) = T61 ∧ (¬ y61 = 0 → zW E m_Mo_lean 1 (zSt k) M61 0 [some (.ref 83)] [] (fun q63 T63 M63 => q63 = none ∧ (zSt k) = T63 ∧ zW E m_Mo_isHopeless 2 (zSt k) M63 0 [some (.ref 83)] [] (fun q64 T64 M64 => ∃ y64 : Int32, q64 = some (.int y64) ∧ (zSt k) = T64 ∧ (y64 = 0 → (24 < (M64 104 0) → Φ (some (.int 2)) (zSt k) M64) ∧ (¬ 24 < (M64 104 0) → ((M64 104 1) ≤ 24 → Φ (some (.int 1)) (zSt k) M64) ∧ (¬ (M64 104 1) ≤ 24 → Φ (some (.int 2)) (zSt k) M64))) ∧ (¬ y64 = 0 → Φ (some (.int 0)) (zSt k) M64)))) ∧ (y61 = 0 → Φ (some (.int 0)) (zSt k) M61))))))) ∧ (¬ 1000 ≤ x2 → zW E m_Mo_layRows 0 (zSt k) M36 0 [some (.ref 83), some (.int x1), some (.int y1), some (.int (-6)), none, none, none, none, none] [] (fun q68 T68 M68 => q68 = none ∧ (zSt k) = T68 ∧ zW E m_Mo_makeMove 3 (zSt k) M68 55 [some (.ref 83), some (.int x1), some (.int x2), some (.int y1), none, none, some (.int 0)] [] Φ)))))) : zW E m_Mo_makeMove 3 (zSt k) M 0 [some (.ref 83), some (.int x1), some (.int x2), none, none, none, none] [] Φ := by
  refine z_iload_n d_Mo_makeMove_0 rfl ?_
  refine z_bipush 100 d_Mo_makeMove_1 (by decide) ?_
  refine z_idiv d_Mo_makeMove_3 (by decide) ?_
  refine z_bipush 10 d_Mo_makeMove_4 (by decide) ?_
  refine z_irem d_Mo_makeMove_6 (by decide) ?_
  refine z_name (fun y1 ey1 => ?_)
  replace h := h y1 ey1
  refine z_istore_n (ls' := [some (.ref 83), some (.int x1), some (.int x2), some (.int y1), none, none, none]) d_Mo_makeMove_7 (Nat.le_of_ble_eq_true rfl) rfl rfl ?_
  refine z_aload_n d_Mo_makeMove_8 rfl ?_
  refine z_iload_n d_Mo_makeMove_9 rfl ?_
  refine z_iconst 0 d_Mo_makeMove_10 (by decide) ?_
  refine z_callV (as := [.int x1, .int 0]) (st := []) i_Mo_firstOf ⟨rfl, rfl⟩ v_Mo_firstOf w_Mo_firstOf l_Mo_191 d_Mo_makeMove_11 (by decide) (tA_83 k) rfl (Nat.le_of_ble_eq_true rfl) (Nat.le_of_ble_eq_true rfl) h (fun q2 T2 M2 h => ?_)
  obtain ⟨y2, rfl, rfl, h⟩ := h
  refine z_istore (ls' := [some (.ref 83), some (.int x1), some (.int x2), some (.int y1), some (.int y2), none, none]) d_Mo_makeMove_14 (Nat.le_of_ble_eq_true rfl) rfl rfl ?_
  refine z_iload d_Mo_makeMove_16 rfl ?_
  refine z_iload_n d_Mo_makeMove_18 rfl ?_
  refine z_iconst 2 d_Mo_makeMove_19 (by decide) ?_
  refine z_iadd d_Mo_makeMove_20 ?_
  refine z_icmp_ne 33 d_Mo_makeMove_21 rfl ⟨fun c3 => ?_, fun c3 => ?_⟩
  · replace h := h.1 c3
    refine z_iload d_Mo_makeMove_33 rfl ?_
    refine z_istore (ls' := [some (.ref 83), some (.int x1), some (.int x2), some (.int y1), some (.int y2), some (.int y2), none]) d_Mo_makeMove_35 (Nat.le_of_ble_eq_true rfl) rfl rfl ?_
    refine z_iload_n d_Mo_makeMove_37 rfl ?_
    refine z_sipush 1000 d_Mo_makeMove_38 (by decide) ?_
    refine z_icmp_ge 83 d_Mo_makeMove_41 rfl ⟨fun c4 => ?_, fun c4 => ?_⟩
    · replace h := h.1 c4
      refine z_aload_n d_Mo_makeMove_83 rfl ?_
      refine z_iload_n d_Mo_makeMove_84 rfl ?_
      refine z_iload_n d_Mo_makeMove_85 rfl ?_
      refine z_iload d_Mo_makeMove_86 rfl ?_
      refine z_callV (as := [.int x1, .int y1, .int y2]) (st := []) i_Mo_layRows ⟨rfl, rfl⟩ v_Mo_layRows w_Mo_layRows l_Mo_198 d_Mo_makeMove_88 (by decide) (tA_83 k) rfl (Nat.le_of_ble_eq_true rfl) (Nat.le_of_ble_eq_true rfl) h (fun q5 T5 M5 h => ?_)
      obtain ⟨rfl, rfl, h⟩ := h
      refine z_iload d_Mo_makeMove_91 rfl ?_
      refine z_iconst 2 d_Mo_makeMove_93 (by decide) ?_
      refine z_icmp_ge 108 d_Mo_makeMove_94 rfl ⟨fun c6 => ?_, fun c6 => ?_⟩
      · replace h := h.1 c6
        refine z_aload_n d_Mo_makeMove_108 rfl ?_
        refine z_iload_n d_Mo_makeMove_109 rfl ?_
        refine z_iload_n d_Mo_makeMove_110 rfl ?_
        refine z_iload d_Mo_makeMove_111 rfl ?_
        refine z_iconst 2 d_Mo_makeMove_113 (by decide) ?_
        refine z_isub d_Mo_makeMove_114 ?_
        refine z_iload_n d_Mo_makeMove_115 rfl ?_
        refine z_bipush 100 d_Mo_makeMove_116 (by decide) ?_
        refine z_irem d_Mo_makeMove_118 (by decide) ?_
        refine z_callV (as := [.int x1, .int y1, .int (y2 - 2), .int (x2 - x2 / 100 * 100)]) (st := []) i_Mo_variableAhead ⟨rfl, rfl⟩ v_Mo_variableAhead w_Mo_variableAhead l_Mo_204 d_Mo_makeMove_119 (by decide) (tA_83 k) rfl (Nat.le_of_ble_eq_true rfl) (Nat.le_of_ble_eq_true rfl) h (fun q7 T7 M7 h => ?_)
        obtain ⟨rfl, rfl, h⟩ := h
        refine z_iload_n d_Mo_makeMove_122 rfl ?_
        refine z_sipush 1000 d_Mo_makeMove_123 (by decide) ?_
        refine z_icmp_ge 140 d_Mo_makeMove_126 rfl ⟨fun c8 => ?_, fun c8 => ?_⟩
        · replace h := h.1 c8
          refine z_aload_n d_Mo_makeMove_140 rfl ?_
          refine z_callV (as := []) (st := []) i_Mo_lean ⟨rfl, rfl⟩ v_Mo_lean w_Mo_lean l_Mo_211 d_Mo_makeMove_141 (by decide) (tA_83 k) rfl (Nat.le_of_ble_eq_true rfl) (Nat.le_of_ble_eq_true rfl) h (fun q9 T9 M9 h => ?_)
          obtain ⟨rfl, rfl, h⟩ := h
          refine z_aload_n d_Mo_makeMove_144 rfl ?_
          refine z_callV (as := []) (st := []) i_Mo_isHopeless ⟨rfl, rfl⟩ v_Mo_isHopeless w_Mo_isHopeless l_Mo_214 d_Mo_makeMove_145 (by decide) (tA_83 k) rfl (Nat.le_of_ble_eq_true rfl) (Nat.le_of_ble_eq_true rfl) h (fun q10 T10 M10 h => ?_)
          obtain ⟨y10, rfl, rfl, h⟩ := h
          refine z_if_eq 153 d_Mo_makeMove_148 rfl ⟨fun c11 => ?_, fun c11 => ?_⟩
          · replace h := h.1 c11
            refine z_aload_n d_Mo_makeMove_153 rfl ?_
            refine z_getr f_Mo_71 rfl d_Mo_makeMove_154 (tA_83 k) (tr_83_24 k) ?_
            refine z_iconst 0 d_Mo_makeMove_157 (by decide) ?_
            refine y_iaload 0 d_Mo_makeMove_158 (ta_104 k) (by decide) (by decide) ?_
            refine z_bipush 24 d_Mo_makeMove_159 (by decide) ?_
            refine z_icmp_gt 175 d_Mo_makeMove_161 rfl ⟨fun c12 => ?_, fun c12 => ?_⟩
            · replace h := h.1 c12
              refine z_iconst 2 d_Mo_makeMove_175 (by decide) ?_
              refine z_goto 180 d_Mo_makeMove_176 rfl ?_
              exact z_iret rfl d_Mo_makeMove_180 h
            · replace h := h.2 c12
              refine z_aload_n d_Mo_makeMove_164 rfl ?_
              refine z_getr f_Mo_71 rfl d_Mo_makeMove_165 (tA_83 k) (tr_83_24 k) ?_
              refine z_iconst 1 d_Mo_makeMove_168 (by decide) ?_
              refine y_iaload 1 d_Mo_makeMove_169 (ta_104 k) (by decide) (by decide) ?_
              refine z_bipush 24 d_Mo_makeMove_170 (by decide) ?_
              refine z_icmp_le 179 d_Mo_makeMove_172 rfl ⟨fun c13 => ?_, fun c13 => ?_⟩
              · replace h := h.1 c13
                refine z_iconst 1 d_Mo_makeMove_179 (by decide) ?_
                exact z_iret rfl d_Mo_makeMove_180 h
              · replace h := h.2 c13
                refine z_iconst 2 d_Mo_makeMove_175 (by decide) ?_
                refine z_goto 180 d_Mo_makeMove_176 rfl ?_
                exact z_iret rfl d_Mo_makeMove_180 h
          · replace h := h.2 c11
            refine z_iconst 0 d_Mo_makeMove_151 (by decide) ?_
            exact z_iret rfl d_Mo_makeMove_152 h
        · replace h := h.2 c8
          refine z_aload_n d_Mo_makeMove_129 rfl ?_
          refine z_iload_n d_Mo_makeMove_130 rfl ?_
          refine z_iload_n d_Mo_makeMove_131 rfl ?_
          refine z_callV (as := [.int x1, .int y1]) (st := []) i_Mo_isNothing ⟨rfl, rfl⟩ v_Mo_isNothing w_Mo_isNothing l_Mo_208 d_Mo_makeMove_132 (by decide) (tA_83 k) rfl (Nat.le_of_ble_eq_true rfl) (Nat.le_of_ble_eq_true rfl) h (fun q14 T14 M14 h => ?_)
          obtain ⟨y14, rfl, rfl, h⟩ := h
          refine z_if_ne 140 d_Mo_makeMove_135 rfl ⟨fun c15 => ?_, fun c15 => ?_⟩
          · replace h := h.1 c15
            refine z_aload_n d_Mo_makeMove_140 rfl ?_
            refine z_callV (as := []) (st := []) i_Mo_lean ⟨rfl, rfl⟩ v_Mo_lean w_Mo_lean l_Mo_211 d_Mo_makeMove_141 (by decide) (tA_83 k) rfl (Nat.le_of_ble_eq_true rfl) (Nat.le_of_ble_eq_true rfl) h (fun q16 T16 M16 h => ?_)
            obtain ⟨rfl, rfl, h⟩ := h
            refine z_aload_n d_Mo_makeMove_144 rfl ?_
            refine z_callV (as := []) (st := []) i_Mo_isHopeless ⟨rfl, rfl⟩ v_Mo_isHopeless w_Mo_isHopeless l_Mo_214 d_Mo_makeMove_145 (by decide) (tA_83 k) rfl (Nat.le_of_ble_eq_true rfl) (Nat.le_of_ble_eq_true rfl) h (fun q17 T17 M17 h => ?_)
            obtain ⟨y17, rfl, rfl, h⟩ := h
            refine z_if_eq 153 d_Mo_makeMove_148 rfl ⟨fun c18 => ?_, fun c18 => ?_⟩
            · replace h := h.1 c18
              refine z_aload_n d_Mo_makeMove_153 rfl ?_
              refine z_getr f_Mo_71 rfl d_Mo_makeMove_154 (tA_83 k) (tr_83_24 k) ?_
              refine z_iconst 0 d_Mo_makeMove_157 (by decide) ?_
              refine y_iaload 0 d_Mo_makeMove_158 (ta_104 k) (by decide) (by decide) ?_
              refine z_bipush 24 d_Mo_makeMove_159 (by decide) ?_
              refine z_icmp_gt 175 d_Mo_makeMove_161 rfl ⟨fun c19 => ?_, fun c19 => ?_⟩
              · replace h := h.1 c19
                refine z_iconst 2 d_Mo_makeMove_175 (by decide) ?_
                refine z_goto 180 d_Mo_makeMove_176 rfl ?_
                exact z_iret rfl d_Mo_makeMove_180 h
              · replace h := h.2 c19
                refine z_aload_n d_Mo_makeMove_164 rfl ?_
                refine z_getr f_Mo_71 rfl d_Mo_makeMove_165 (tA_83 k) (tr_83_24 k) ?_
                refine z_iconst 1 d_Mo_makeMove_168 (by decide) ?_
                refine y_iaload 1 d_Mo_makeMove_169 (ta_104 k) (by decide) (by decide) ?_
                refine z_bipush 24 d_Mo_makeMove_170 (by decide) ?_
                refine z_icmp_le 179 d_Mo_makeMove_172 rfl ⟨fun c20 => ?_, fun c20 => ?_⟩
                · replace h := h.1 c20
                  refine z_iconst 1 d_Mo_makeMove_179 (by decide) ?_
                  exact z_iret rfl d_Mo_makeMove_180 h
                · replace h := h.2 c20
                  refine z_iconst 2 d_Mo_makeMove_175 (by decide) ?_
                  refine z_goto 180 d_Mo_makeMove_176 rfl ?_
                  exact z_iret rfl d_Mo_makeMove_180 h
            · replace h := h.2 c18
              refine z_iconst 0 d_Mo_makeMove_151 (by decide) ?_
              exact z_iret rfl d_Mo_makeMove_152 h
          · replace h := h.2 c15
            refine z_iconst 0 d_Mo_makeMove_138 (by decide) ?_
            exact z_iret rfl d_Mo_makeMove_139 h
      · replace h := h.2 c6
        refine z_aload_n d_Mo_makeMove_97 rfl ?_
        refine z_iload_n d_Mo_makeMove_98 rfl ?_
        refine z_iload_n d_Mo_makeMove_99 rfl ?_
        refine z_iload d_Mo_makeMove_100 rfl ?_
        refine z_callV (as := [.int x1, .int y1, .int y2]) (st := []) i_Mo_letterAhead ⟨rfl, rfl⟩ v_Mo_letterAhead w_Mo_letterAhead l_Mo_201 d_Mo_makeMove_102 (by decide) (tA_83 k) rfl (Nat.le_of_ble_eq_true rfl) (Nat.le_of_ble_eq_true rfl) h (fun q21 T21 M21 h => ?_)
        obtain ⟨rfl, rfl, h⟩ := h
        refine z_goto 122 d_Mo_makeMove_105 rfl ?_
        refine z_iload_n d_Mo_makeMove_122 rfl ?_
        refine z_sipush 1000 d_Mo_makeMove_123 (by decide) ?_
        refine z_icmp_ge 140 d_Mo_makeMove_126 rfl ⟨fun c22 => ?_, fun c22 => ?_⟩
        · replace h := h.1 c22
          refine z_aload_n d_Mo_makeMove_140 rfl ?_
          refine z_callV (as := []) (st := []) i_Mo_lean ⟨rfl, rfl⟩ v_Mo_lean w_Mo_lean l_Mo_211 d_Mo_makeMove_141 (by decide) (tA_83 k) rfl (Nat.le_of_ble_eq_true rfl) (Nat.le_of_ble_eq_true rfl) h (fun q23 T23 M23 h => ?_)
          obtain ⟨rfl, rfl, h⟩ := h
          refine z_aload_n d_Mo_makeMove_144 rfl ?_
          refine z_callV (as := []) (st := []) i_Mo_isHopeless ⟨rfl, rfl⟩ v_Mo_isHopeless w_Mo_isHopeless l_Mo_214 d_Mo_makeMove_145 (by decide) (tA_83 k) rfl (Nat.le_of_ble_eq_true rfl) (Nat.le_of_ble_eq_true rfl) h (fun q24 T24 M24 h => ?_)
          obtain ⟨y24, rfl, rfl, h⟩ := h
          refine z_if_eq 153 d_Mo_makeMove_148 rfl ⟨fun c25 => ?_, fun c25 => ?_⟩
          · replace h := h.1 c25
            refine z_aload_n d_Mo_makeMove_153 rfl ?_
            refine z_getr f_Mo_71 rfl d_Mo_makeMove_154 (tA_83 k) (tr_83_24 k) ?_
            refine z_iconst 0 d_Mo_makeMove_157 (by decide) ?_
            refine y_iaload 0 d_Mo_makeMove_158 (ta_104 k) (by decide) (by decide) ?_
            refine z_bipush 24 d_Mo_makeMove_159 (by decide) ?_
            refine z_icmp_gt 175 d_Mo_makeMove_161 rfl ⟨fun c26 => ?_, fun c26 => ?_⟩
            · replace h := h.1 c26
              refine z_iconst 2 d_Mo_makeMove_175 (by decide) ?_
              refine z_goto 180 d_Mo_makeMove_176 rfl ?_
              exact z_iret rfl d_Mo_makeMove_180 h
            · replace h := h.2 c26
              refine z_aload_n d_Mo_makeMove_164 rfl ?_
              refine z_getr f_Mo_71 rfl d_Mo_makeMove_165 (tA_83 k) (tr_83_24 k) ?_
              refine z_iconst 1 d_Mo_makeMove_168 (by decide) ?_
              refine y_iaload 1 d_Mo_makeMove_169 (ta_104 k) (by decide) (by decide) ?_
              refine z_bipush 24 d_Mo_makeMove_170 (by decide) ?_
              refine z_icmp_le 179 d_Mo_makeMove_172 rfl ⟨fun c27 => ?_, fun c27 => ?_⟩
              · replace h := h.1 c27
                refine z_iconst 1 d_Mo_makeMove_179 (by decide) ?_
                exact z_iret rfl d_Mo_makeMove_180 h
              · replace h := h.2 c27
                refine z_iconst 2 d_Mo_makeMove_175 (by decide) ?_
                refine z_goto 180 d_Mo_makeMove_176 rfl ?_
                exact z_iret rfl d_Mo_makeMove_180 h
          · replace h := h.2 c25
            refine z_iconst 0 d_Mo_makeMove_151 (by decide) ?_
            exact z_iret rfl d_Mo_makeMove_152 h
        · replace h := h.2 c22
          refine z_aload_n d_Mo_makeMove_129 rfl ?_
          refine z_iload_n d_Mo_makeMove_130 rfl ?_
          refine z_iload_n d_Mo_makeMove_131 rfl ?_
          refine z_callV (as := [.int x1, .int y1]) (st := []) i_Mo_isNothing ⟨rfl, rfl⟩ v_Mo_isNothing w_Mo_isNothing l_Mo_208 d_Mo_makeMove_132 (by decide) (tA_83 k) rfl (Nat.le_of_ble_eq_true rfl) (Nat.le_of_ble_eq_true rfl) h (fun q28 T28 M28 h => ?_)
          obtain ⟨y28, rfl, rfl, h⟩ := h
          refine z_if_ne 140 d_Mo_makeMove_135 rfl ⟨fun c29 => ?_, fun c29 => ?_⟩
          · replace h := h.1 c29
            refine z_aload_n d_Mo_makeMove_140 rfl ?_
            refine z_callV (as := []) (st := []) i_Mo_lean ⟨rfl, rfl⟩ v_Mo_lean w_Mo_lean l_Mo_211 d_Mo_makeMove_141 (by decide) (tA_83 k) rfl (Nat.le_of_ble_eq_true rfl) (Nat.le_of_ble_eq_true rfl) h (fun q30 T30 M30 h => ?_)
            obtain ⟨rfl, rfl, h⟩ := h
            refine z_aload_n d_Mo_makeMove_144 rfl ?_
            refine z_callV (as := []) (st := []) i_Mo_isHopeless ⟨rfl, rfl⟩ v_Mo_isHopeless w_Mo_isHopeless l_Mo_214 d_Mo_makeMove_145 (by decide) (tA_83 k) rfl (Nat.le_of_ble_eq_true rfl) (Nat.le_of_ble_eq_true rfl) h (fun q31 T31 M31 h => ?_)
            obtain ⟨y31, rfl, rfl, h⟩ := h
            refine z_if_eq 153 d_Mo_makeMove_148 rfl ⟨fun c32 => ?_, fun c32 => ?_⟩
            · replace h := h.1 c32
              refine z_aload_n d_Mo_makeMove_153 rfl ?_
              refine z_getr f_Mo_71 rfl d_Mo_makeMove_154 (tA_83 k) (tr_83_24 k) ?_
              refine z_iconst 0 d_Mo_makeMove_157 (by decide) ?_
              refine y_iaload 0 d_Mo_makeMove_158 (ta_104 k) (by decide) (by decide) ?_
              refine z_bipush 24 d_Mo_makeMove_159 (by decide) ?_
              refine z_icmp_gt 175 d_Mo_makeMove_161 rfl ⟨fun c33 => ?_, fun c33 => ?_⟩
              · replace h := h.1 c33
                refine z_iconst 2 d_Mo_makeMove_175 (by decide) ?_
                refine z_goto 180 d_Mo_makeMove_176 rfl ?_
                exact z_iret rfl d_Mo_makeMove_180 h
              · replace h := h.2 c33
                refine z_aload_n d_Mo_makeMove_164 rfl ?_
                refine z_getr f_Mo_71 rfl d_Mo_makeMove_165 (tA_83 k) (tr_83_24 k) ?_
                refine z_iconst 1 d_Mo_makeMove_168 (by decide) ?_
                refine y_iaload 1 d_Mo_makeMove_169 (ta_104 k) (by decide) (by decide) ?_
                refine z_bipush 24 d_Mo_makeMove_170 (by decide) ?_
                refine z_icmp_le 179 d_Mo_makeMove_172 rfl ⟨fun c34 => ?_, fun c34 => ?_⟩
                · replace h := h.1 c34
                  refine z_iconst 1 d_Mo_makeMove_179 (by decide) ?_
                  exact z_iret rfl d_Mo_makeMove_180 h
                · replace h := h.2 c34
                  refine z_iconst 2 d_Mo_makeMove_175 (by decide) ?_
                  refine z_goto 180 d_Mo_makeMove_176 rfl ?_
                  exact z_iret rfl d_Mo_makeMove_180 h
            · replace h := h.2 c32
              refine z_iconst 0 d_Mo_makeMove_151 (by decide) ?_
              exact z_iret rfl d_Mo_makeMove_152 h
          · replace h := h.2 c29
            refine z_iconst 0 d_Mo_makeMove_138 (by decide) ?_
            exact z_iret rfl d_Mo_makeMove_139 h
    · replace h := h.2 c4
      refine z_aload_n d_Mo_makeMove_44 rfl ?_
      refine z_iload_n d_Mo_makeMove_45 rfl ?_
      refine z_iload_n d_Mo_makeMove_46 rfl ?_
      refine z_bipush (-6) d_Mo_makeMove_47 (by decide) ?_
      refine z_callV (as := [.int x1, .int y1, .int (-6)]) (st := []) i_Mo_layRows ⟨rfl, rfl⟩ v_Mo_layRows w_Mo_layRows l_Mo_198 d_Mo_makeMove_49 (by decide) (tA_83 k) rfl (Nat.le_of_ble_eq_true rfl) (Nat.le_of_ble_eq_true rfl) h (fun q35 T35 M35 h => ?_)
      obtain ⟨rfl, rfl, h⟩ := h
      refine z_iconst 0 d_Mo_makeMove_52 (by decide) ?_
      refine z_istore (ls' := [some (.ref 83), some (.int x1), some (.int x2), some (.int y1), some (.int y2), some (.int y2), some (.int 0)]) d_Mo_makeMove_53 (Nat.le_of_ble_eq_true rfl) rfl rfl ?_
      exact z_forget [some (.ref 83), some (.int x1), some (.int x2), some (.int y1), none, none, some (.int 0)] (And.intro rfl (And.intro rfl (And.intro rfl (And.intro rfl (And.intro rfl (trivial)))))) h
  · replace h := h.2 c3
    refine z_aload_n d_Mo_makeMove_24 rfl ?_
    refine z_iload_n d_Mo_makeMove_25 rfl ?_
    refine z_iconst 1 d_Mo_makeMove_26 (by decide) ?_
    refine z_callV (as := [.int x1, .int 1]) (st := []) i_Mo_firstOf ⟨rfl, rfl⟩ v_Mo_firstOf w_Mo_firstOf l_Mo_191 d_Mo_makeMove_27 (by decide) (tA_83 k) rfl (Nat.le_of_ble_eq_true rfl) (Nat.le_of_ble_eq_true rfl) h (fun q36 T36 M36 h => ?_)
    obtain ⟨y36, rfl, rfl, h⟩ := h
    refine z_goto 35 d_Mo_makeMove_30 rfl ?_
    refine z_istore (ls' := [some (.ref 83), some (.int x1), some (.int x2), some (.int y1), some (.int y2), some (.int y36), none]) d_Mo_makeMove_35 (Nat.le_of_ble_eq_true rfl) rfl rfl ?_
    refine z_iload_n d_Mo_makeMove_37 rfl ?_
    refine z_sipush 1000 d_Mo_makeMove_38 (by decide) ?_
    refine z_icmp_ge 83 d_Mo_makeMove_41 rfl ⟨fun c37 => ?_, fun c37 => ?_⟩
    · replace h := h.1 c37
      refine z_aload_n d_Mo_makeMove_83 rfl ?_
      refine z_iload_n d_Mo_makeMove_84 rfl ?_
      refine z_iload_n d_Mo_makeMove_85 rfl ?_
      refine z_iload d_Mo_makeMove_86 rfl ?_
      refine z_callV (as := [.int x1, .int y1, .int y36]) (st := []) i_Mo_layRows ⟨rfl, rfl⟩ v_Mo_layRows w_Mo_layRows l_Mo_198 d_Mo_makeMove_88 (by decide) (tA_83 k) rfl (Nat.le_of_ble_eq_true rfl) (Nat.le_of_ble_eq_true rfl) h (fun q38 T38 M38 h => ?_)
      obtain ⟨rfl, rfl, h⟩ := h
      refine z_iload d_Mo_makeMove_91 rfl ?_
      refine z_iconst 2 d_Mo_makeMove_93 (by decide) ?_
      refine z_icmp_ge 108 d_Mo_makeMove_94 rfl ⟨fun c39 => ?_, fun c39 => ?_⟩
      · replace h := h.1 c39
        refine z_aload_n d_Mo_makeMove_108 rfl ?_
        refine z_iload_n d_Mo_makeMove_109 rfl ?_
        refine z_iload_n d_Mo_makeMove_110 rfl ?_
        refine z_iload d_Mo_makeMove_111 rfl ?_
        refine z_iconst 2 d_Mo_makeMove_113 (by decide) ?_
        refine z_isub d_Mo_makeMove_114 ?_
        refine z_iload_n d_Mo_makeMove_115 rfl ?_
        refine z_bipush 100 d_Mo_makeMove_116 (by decide) ?_
        refine z_irem d_Mo_makeMove_118 (by decide) ?_
        refine z_callV (as := [.int x1, .int y1, .int (y36 - 2), .int (x2 - x2 / 100 * 100)]) (st := []) i_Mo_variableAhead ⟨rfl, rfl⟩ v_Mo_variableAhead w_Mo_variableAhead l_Mo_204 d_Mo_makeMove_119 (by decide) (tA_83 k) rfl (Nat.le_of_ble_eq_true rfl) (Nat.le_of_ble_eq_true rfl) h (fun q40 T40 M40 h => ?_)
        obtain ⟨rfl, rfl, h⟩ := h
        refine z_iload_n d_Mo_makeMove_122 rfl ?_
        refine z_sipush 1000 d_Mo_makeMove_123 (by decide) ?_
        refine z_icmp_ge 140 d_Mo_makeMove_126 rfl ⟨fun c41 => ?_, fun c41 => ?_⟩
        · replace h := h.1 c41
          refine z_aload_n d_Mo_makeMove_140 rfl ?_
          refine z_callV (as := []) (st := []) i_Mo_lean ⟨rfl, rfl⟩ v_Mo_lean w_Mo_lean l_Mo_211 d_Mo_makeMove_141 (by decide) (tA_83 k) rfl (Nat.le_of_ble_eq_true rfl) (Nat.le_of_ble_eq_true rfl) h (fun q42 T42 M42 h => ?_)
          obtain ⟨rfl, rfl, h⟩ := h
          refine z_aload_n d_Mo_makeMove_144 rfl ?_
          refine z_callV (as := []) (st := []) i_Mo_isHopeless ⟨rfl, rfl⟩ v_Mo_isHopeless w_Mo_isHopeless l_Mo_214 d_Mo_makeMove_145 (by decide) (tA_83 k) rfl (Nat.le_of_ble_eq_true rfl) (Nat.le_of_ble_eq_true rfl) h (fun q43 T43 M43 h => ?_)
          obtain ⟨y43, rfl, rfl, h⟩ := h
          refine z_if_eq 153 d_Mo_makeMove_148 rfl ⟨fun c44 => ?_, fun c44 => ?_⟩
          · replace h := h.1 c44
            refine z_aload_n d_Mo_makeMove_153 rfl ?_
            refine z_getr f_Mo_71 rfl d_Mo_makeMove_154 (tA_83 k) (tr_83_24 k) ?_
            refine z_iconst 0 d_Mo_makeMove_157 (by decide) ?_
            refine y_iaload 0 d_Mo_makeMove_158 (ta_104 k) (by decide) (by decide) ?_
            refine z_bipush 24 d_Mo_makeMove_159 (by decide) ?_
            refine z_icmp_gt 175 d_Mo_makeMove_161 rfl ⟨fun c45 => ?_, fun c45 => ?_⟩
            · replace h := h.1 c45
              refine z_iconst 2 d_Mo_makeMove_175 (by decide) ?_
              refine z_goto 180 d_Mo_makeMove_176 rfl ?_
              exact z_iret rfl d_Mo_makeMove_180 h
            · replace h := h.2 c45
              refine z_aload_n d_Mo_makeMove_164 rfl ?_
              refine z_getr f_Mo_71 rfl d_Mo_makeMove_165 (tA_83 k) (tr_83_24 k) ?_
              refine z_iconst 1 d_Mo_makeMove_168 (by decide) ?_
              refine y_iaload 1 d_Mo_makeMove_169 (ta_104 k) (by decide) (by decide) ?_
              refine z_bipush 24 d_Mo_makeMove_170 (by decide) ?_
              refine z_icmp_le 179 d_Mo_makeMove_172 rfl ⟨fun c46 => ?_, fun c46 => ?_⟩
              · replace h := h.1 c46
                refine z_iconst 1 d_Mo_makeMove_179 (by decide) ?_
                exact z_iret rfl d_Mo_makeMove_180 h
              · replace h := h.2 c46
                refine z_iconst 2 d_Mo_makeMove_175 (by decide) ?_
                refine z_goto 180 d_Mo_makeMove_176 rfl ?_
                exact z_iret rfl d_Mo_makeMove_180 h
          · replace h := h.2 c44
            refine z_iconst 0 d_Mo_makeMove_151 (by decide) ?_
            exact z_iret rfl d_Mo_makeMove_152 h
        · replace h := h.2 c41
          refine z_aload_n d_Mo_makeMove_129 rfl ?_
          refine z_iload_n d_Mo_makeMove_130 rfl ?_
          refine z_iload_n d_Mo_makeMove_131 rfl ?_
          refine z_callV (as := [.int x1, .int y1]) (st := []) i_Mo_isNothing ⟨rfl, rfl⟩ v_Mo_isNothing w_Mo_isNothing l_Mo_208 d_Mo_makeMove_132 (by decide) (tA_83 k) rfl (Nat.le_of_ble_eq_true rfl) (Nat.le_of_ble_eq_true rfl) h (fun q47 T47 M47 h => ?_)
          obtain ⟨y47, rfl, rfl, h⟩ := h
          refine z_if_ne 140 d_Mo_makeMove_135 rfl ⟨fun c48 => ?_, fun c48 => ?_⟩
          · replace h := h.1 c48
            refine z_aload_n d_Mo_makeMove_140 rfl ?_
            refine z_callV (as := []) (st := []) i_Mo_lean ⟨rfl, rfl⟩ v_Mo_lean w_Mo_lean l_Mo_211 d_Mo_makeMove_141 (by decide) (tA_83 k) rfl (Nat.le_of_ble_eq_true rfl) (Nat.le_of_ble_eq_true rfl) h (fun q49 T49 M49 h => ?_)
            obtain ⟨rfl, rfl, h⟩ := h
            refine z_aload_n d_Mo_makeMove_144 rfl ?_
            refine z_callV (as := []) (st := []) i_Mo_isHopeless ⟨rfl, rfl⟩ v_Mo_isHopeless w_Mo_isHopeless l_Mo_214 d_Mo_makeMove_145 (by decide) (tA_83 k) rfl (Nat.le_of_ble_eq_true rfl) (Nat.le_of_ble_eq_true rfl) h (fun q50 T50 M50 h => ?_)
            obtain ⟨y50, rfl, rfl, h⟩ := h
            refine z_if_eq 153 d_Mo_makeMove_148 rfl ⟨fun c51 => ?_, fun c51 => ?_⟩
            · replace h := h.1 c51
              refine z_aload_n d_Mo_makeMove_153 rfl ?_
              refine z_getr f_Mo_71 rfl d_Mo_makeMove_154 (tA_83 k) (tr_83_24 k) ?_
              refine z_iconst 0 d_Mo_makeMove_157 (by decide) ?_
              refine y_iaload 0 d_Mo_makeMove_158 (ta_104 k) (by decide) (by decide) ?_
              refine z_bipush 24 d_Mo_makeMove_159 (by decide) ?_
              refine z_icmp_gt 175 d_Mo_makeMove_161 rfl ⟨fun c52 => ?_, fun c52 => ?_⟩
              · replace h := h.1 c52
                refine z_iconst 2 d_Mo_makeMove_175 (by decide) ?_
                refine z_goto 180 d_Mo_makeMove_176 rfl ?_
                exact z_iret rfl d_Mo_makeMove_180 h
              · replace h := h.2 c52
                refine z_aload_n d_Mo_makeMove_164 rfl ?_
                refine z_getr f_Mo_71 rfl d_Mo_makeMove_165 (tA_83 k) (tr_83_24 k) ?_
                refine z_iconst 1 d_Mo_makeMove_168 (by decide) ?_
                refine y_iaload 1 d_Mo_makeMove_169 (ta_104 k) (by decide) (by decide) ?_
                refine z_bipush 24 d_Mo_makeMove_170 (by decide) ?_
                refine z_icmp_le 179 d_Mo_makeMove_172 rfl ⟨fun c53 => ?_, fun c53 => ?_⟩
                · replace h := h.1 c53
                  refine z_iconst 1 d_Mo_makeMove_179 (by decide) ?_
                  exact z_iret rfl d_Mo_makeMove_180 h
                · replace h := h.2 c53
                  refine z_iconst 2 d_Mo_makeMove_175 (by decide) ?_
                  refine z_goto 180 d_Mo_makeMove_176 rfl ?_
                  exact z_iret rfl d_Mo_makeMove_180 h
            · replace h := h.2 c51
              refine z_iconst 0 d_Mo_makeMove_151 (by decide) ?_
              exact z_iret rfl d_Mo_makeMove_152 h
          · replace h := h.2 c48
            refine z_iconst 0 d_Mo_makeMove_138 (by decide) ?_
            exact z_iret rfl d_Mo_makeMove_139 h
      · replace h := h.2 c39
        refine z_aload_n d_Mo_makeMove_97 rfl ?_
        refine z_iload_n d_Mo_makeMove_98 rfl ?_
        refine z_iload_n d_Mo_makeMove_99 rfl ?_
        refine z_iload d_Mo_makeMove_100 rfl ?_
        refine z_callV (as := [.int x1, .int y1, .int y36]) (st := []) i_Mo_letterAhead ⟨rfl, rfl⟩ v_Mo_letterAhead w_Mo_letterAhead l_Mo_201 d_Mo_makeMove_102 (by decide) (tA_83 k) rfl (Nat.le_of_ble_eq_true rfl) (Nat.le_of_ble_eq_true rfl) h (fun q54 T54 M54 h => ?_)
        obtain ⟨rfl, rfl, h⟩ := h
        refine z_goto 122 d_Mo_makeMove_105 rfl ?_
        refine z_iload_n d_Mo_makeMove_122 rfl ?_
        refine z_sipush 1000 d_Mo_makeMove_123 (by decide) ?_
        refine z_icmp_ge 140 d_Mo_makeMove_126 rfl ⟨fun c55 => ?_, fun c55 => ?_⟩
        · replace h := h.1 c55
          refine z_aload_n d_Mo_makeMove_140 rfl ?_
          refine z_callV (as := []) (st := []) i_Mo_lean ⟨rfl, rfl⟩ v_Mo_lean w_Mo_lean l_Mo_211 d_Mo_makeMove_141 (by decide) (tA_83 k) rfl (Nat.le_of_ble_eq_true rfl) (Nat.le_of_ble_eq_true rfl) h (fun q56 T56 M56 h => ?_)
          obtain ⟨rfl, rfl, h⟩ := h
          refine z_aload_n d_Mo_makeMove_144 rfl ?_
          refine z_callV (as := []) (st := []) i_Mo_isHopeless ⟨rfl, rfl⟩ v_Mo_isHopeless w_Mo_isHopeless l_Mo_214 d_Mo_makeMove_145 (by decide) (tA_83 k) rfl (Nat.le_of_ble_eq_true rfl) (Nat.le_of_ble_eq_true rfl) h (fun q57 T57 M57 h => ?_)
          obtain ⟨y57, rfl, rfl, h⟩ := h
          refine z_if_eq 153 d_Mo_makeMove_148 rfl ⟨fun c58 => ?_, fun c58 => ?_⟩
          · replace h := h.1 c58
            refine z_aload_n d_Mo_makeMove_153 rfl ?_
            refine z_getr f_Mo_71 rfl d_Mo_makeMove_154 (tA_83 k) (tr_83_24 k) ?_
            refine z_iconst 0 d_Mo_makeMove_157 (by decide) ?_
            refine y_iaload 0 d_Mo_makeMove_158 (ta_104 k) (by decide) (by decide) ?_
            refine z_bipush 24 d_Mo_makeMove_159 (by decide) ?_
            refine z_icmp_gt 175 d_Mo_makeMove_161 rfl ⟨fun c59 => ?_, fun c59 => ?_⟩
            · replace h := h.1 c59
              refine z_iconst 2 d_Mo_makeMove_175 (by decide) ?_
              refine z_goto 180 d_Mo_makeMove_176 rfl ?_
              exact z_iret rfl d_Mo_makeMove_180 h
            · replace h := h.2 c59
              refine z_aload_n d_Mo_makeMove_164 rfl ?_
              refine z_getr f_Mo_71 rfl d_Mo_makeMove_165 (tA_83 k) (tr_83_24 k) ?_
              refine z_iconst 1 d_Mo_makeMove_168 (by decide) ?_
              refine y_iaload 1 d_Mo_makeMove_169 (ta_104 k) (by decide) (by decide) ?_
              refine z_bipush 24 d_Mo_makeMove_170 (by decide) ?_
              refine z_icmp_le 179 d_Mo_makeMove_172 rfl ⟨fun c60 => ?_, fun c60 => ?_⟩
              · replace h := h.1 c60
                refine z_iconst 1 d_Mo_makeMove_179 (by decide) ?_
                exact z_iret rfl d_Mo_makeMove_180 h
              · replace h := h.2 c60
                refine z_iconst 2 d_Mo_makeMove_175 (by decide) ?_
                refine z_goto 180 d_Mo_makeMove_176 rfl ?_
                exact z_iret rfl d_Mo_makeMove_180 h
          · replace h := h.2 c58
            refine z_iconst 0 d_Mo_makeMove_151 (by decide) ?_
            exact z_iret rfl d_Mo_makeMove_152 h
        · replace h := h.2 c55
          refine z_aload_n d_Mo_makeMove_129 rfl ?_
          refine z_iload_n d_Mo_makeMove_130 rfl ?_
          refine z_iload_n d_Mo_makeMove_131 rfl ?_
          refine z_callV (as := [.int x1, .int y1]) (st := []) i_Mo_isNothing ⟨rfl, rfl⟩ v_Mo_isNothing w_Mo_isNothing l_Mo_208 d_Mo_makeMove_132 (by decide) (tA_83 k) rfl (Nat.le_of_ble_eq_true rfl) (Nat.le_of_ble_eq_true rfl) h (fun q61 T61 M61 h => ?_)
          obtain ⟨y61, rfl, rfl, h⟩ := h
          refine z_if_ne 140 d_Mo_makeMove_135 rfl ⟨fun c62 => ?_, fun c62 => ?_⟩
          · replace h := h.1 c62
            refine z_aload_n d_Mo_makeMove_140 rfl ?_
            refine z_callV (as := []) (st := []) i_Mo_lean ⟨rfl, rfl⟩ v_Mo_lean w_Mo_lean l_Mo_211 d_Mo_makeMove_141 (by decide) (tA_83 k) rfl (Nat.le_of_ble_eq_true rfl) (Nat.le_of_ble_eq_true rfl) h (fun q63 T63 M63 h => ?_)
            obtain ⟨rfl, rfl, h⟩ := h
            refine z_aload_n d_Mo_makeMove_144 rfl ?_
            refine z_callV (as := []) (st := []) i_Mo_isHopeless ⟨rfl, rfl⟩ v_Mo_isHopeless w_Mo_isHopeless l_Mo_214 d_Mo_makeMove_145 (by decide) (tA_83 k) rfl (Nat.le_of_ble_eq_true rfl) (Nat.le_of_ble_eq_true rfl) h (fun q64 T64 M64 h => ?_)
            obtain ⟨y64, rfl, rfl, h⟩ := h
            refine z_if_eq 153 d_Mo_makeMove_148 rfl ⟨fun c65 => ?_, fun c65 => ?_⟩
            · replace h := h.1 c65
              refine z_aload_n d_Mo_makeMove_153 rfl ?_
              refine z_getr f_Mo_71 rfl d_Mo_makeMove_154 (tA_83 k) (tr_83_24 k) ?_
              refine z_iconst 0 d_Mo_makeMove_157 (by decide) ?_
              refine y_iaload 0 d_Mo_makeMove_158 (ta_104 k) (by decide) (by decide) ?_
              refine z_bipush 24 d_Mo_makeMove_159 (by decide) ?_
              refine z_icmp_gt 175 d_Mo_makeMove_161 rfl ⟨fun c66 => ?_, fun c66 => ?_⟩
              · replace h := h.1 c66
                refine z_iconst 2 d_Mo_makeMove_175 (by decide) ?_
                refine z_goto 180 d_Mo_makeMove_176 rfl ?_
                exact z_iret rfl d_Mo_makeMove_180 h
              · replace h := h.2 c66
                refine z_aload_n d_Mo_makeMove_164 rfl ?_
                refine z_getr f_Mo_71 rfl d_Mo_makeMove_165 (tA_83 k) (tr_83_24 k) ?_
                refine z_iconst 1 d_Mo_makeMove_168 (by decide) ?_
                refine y_iaload 1 d_Mo_makeMove_169 (ta_104 k) (by decide) (by decide) ?_
                refine z_bipush 24 d_Mo_makeMove_170 (by decide) ?_
                refine z_icmp_le 179 d_Mo_makeMove_172 rfl ⟨fun c67 => ?_, fun c67 => ?_⟩
                · replace h := h.1 c67
                  refine z_iconst 1 d_Mo_makeMove_179 (by decide) ?_
                  exact z_iret rfl d_Mo_makeMove_180 h
                · replace h := h.2 c67
                  refine z_iconst 2 d_Mo_makeMove_175 (by decide) ?_
                  refine z_goto 180 d_Mo_makeMove_176 rfl ?_
                  exact z_iret rfl d_Mo_makeMove_180 h
            · replace h := h.2 c65
              refine z_iconst 0 d_Mo_makeMove_151 (by decide) ?_
              exact z_iret rfl d_Mo_makeMove_152 h
          · replace h := h.2 c62
            refine z_iconst 0 d_Mo_makeMove_138 (by decide) ?_
            exact z_iret rfl d_Mo_makeMove_139 h
    · replace h := h.2 c37
      refine z_aload_n d_Mo_makeMove_44 rfl ?_
      refine z_iload_n d_Mo_makeMove_45 rfl ?_
      refine z_iload_n d_Mo_makeMove_46 rfl ?_
      refine z_bipush (-6) d_Mo_makeMove_47 (by decide) ?_
      refine z_callV (as := [.int x1, .int y1, .int (-6)]) (st := []) i_Mo_layRows ⟨rfl, rfl⟩ v_Mo_layRows w_Mo_layRows l_Mo_198 d_Mo_makeMove_49 (by decide) (tA_83 k) rfl (Nat.le_of_ble_eq_true rfl) (Nat.le_of_ble_eq_true rfl) h (fun q68 T68 M68 h => ?_)
      obtain ⟨rfl, rfl, h⟩ := h
      refine z_iconst 0 d_Mo_makeMove_52 (by decide) ?_
      refine z_istore (ls' := [some (.ref 83), some (.int x1), some (.int x2), some (.int y1), some (.int y2), some (.int y36), some (.int 0)]) d_Mo_makeMove_53 (Nat.le_of_ble_eq_true rfl) rfl rfl ?_
      exact z_forget [some (.ref 83), some (.int x1), some (.int x2), some (.int y1), none, none, some (.int 0)] (And.intro rfl (And.intro rfl (And.intro rfl (And.intro rfl (And.intro rfl (trivial)))))) h

set_option maxRecDepth 20000 in
theorem vc_Mo_makeMove_55 (E : ZE) (k : Nat) (M : ZM) (x1 : Int32) (x2 : Int32) (x3 : Int32) (x6 : Int32) (Φ : Option Value → ZS → ZM → Prop)  (h : (3 ≤ x6 → (1000 ≤ x2 → zW E m_Mo_lean 1 (zSt k) M 0 [some (.ref 83)] [] (fun q3 T3 M3 => q3 = none ∧ (zSt k) = T3 ∧ zW E m_Mo_isHopeless 2 (zSt k) M3 0 [some (.ref 83)] [] (fun q4 T4 M4 => ∃ y4 : Int32, q4 = some (.int y4) ∧ (zSt k) = T4 ∧ (y4 = 0 → (24 < (M4 104 0) → Φ (some (.int 2)) (zSt k) M4) ∧ (¬ 24 < (M4 104 0) → ((M4 104 1) ≤ 24 → Φ (some (.int 1)) (zSt k) M4) ∧ (¬ (M4 104 1) ≤ 24 → Φ (some (.int 2)) (zSt k) M4))) ∧ (¬ y4 = 0 → Φ (some (.int 0)) (zSt k) M4)))) ∧ (¬ 1000 ≤ x2 → zW E m_Mo_isNothing 1 (zSt k) M 0 [some (.ref 83), some (.int x1), some (.int x3), none] [] (fun q8 T8 M8 => ∃ y8 : Int32, q8 = some (.int y8) ∧ (zSt k) = T8 ∧ (¬ y8 = 0 → zW E m_Mo_lean 1 (zSt k) M8 0 [some (.ref 83)] [] (fun q10 T10 M10 => q10 = none ∧ (zSt k) = T10 ∧ zW E m_Mo_isHopeless 2 (zSt k) M10 0 [some (.ref 83)] [] (fun q11 T11 M11 => ∃ y11 : Int32, q11 = some (.int y11) ∧ (zSt k) = T11 ∧ (y11 = 0 → (24 < (M11 104 0) → Φ (some (.int 2)) (zSt k) M11) ∧ (¬ 24 < (M11 104 0) → ((M11 104 1) ≤ 24 → Φ (some (.int 1)) (zSt k) M11) ∧ (¬ (M11 104 1) ≤ 24 → Φ (some (.int 2)) (zSt k) M11))) ∧ (¬ y11 = 0 → Φ (some (.int 0)) (zSt k) M11)))) ∧ (y8 = 0 → Φ (some (.int 0)) (zSt k) M8)))) ∧ (¬ 3 ≤ x6 → ∃ j15 : Nat, j15 < 9 ∧ ((3 * x3) + x6) = nI j15 ∧ (∀ M16 : ZM, M16 = zms M 105 j15 7 → ∀ y17 : Int32, y17 = x6 + 1 → zW E m_Mo_makeMove 3 (zSt k) M16 55 [some (.ref 83), some (.int x1), some (.int x2), some (.int x3), none, none, some (.int y17)] [] Φ))) : zW E m_Mo_makeMove 3 (zSt k) M 55 [some (.ref 83), some (.int x1), some (.int x2), some (.int x3), none, none, some (.int x6)] [] Φ := by
  refine z_iload d_Mo_makeMove_55 rfl ?_
  refine z_iconst 3 d_Mo_makeMove_57 (by decide) ?_
  refine z_icmp_ge 80 d_Mo_makeMove_58 rfl ⟨fun c1 => ?_, fun c1 => ?_⟩
  · replace h := h.1 c1
    refine z_goto 122 d_Mo_makeMove_80 rfl ?_
    refine z_iload_n d_Mo_makeMove_122 rfl ?_
    refine z_sipush 1000 d_Mo_makeMove_123 (by decide) ?_
    refine z_icmp_ge 140 d_Mo_makeMove_126 rfl ⟨fun c2 => ?_, fun c2 => ?_⟩
    · replace h := h.1 c2
      refine z_aload_n d_Mo_makeMove_140 rfl ?_
      refine z_callV (as := []) (st := []) i_Mo_lean ⟨rfl, rfl⟩ v_Mo_lean w_Mo_lean l_Mo_211 d_Mo_makeMove_141 (by decide) (tA_83 k) rfl (Nat.le_of_ble_eq_true rfl) (Nat.le_of_ble_eq_true rfl) h (fun q3 T3 M3 h => ?_)
      obtain ⟨rfl, rfl, h⟩ := h
      refine z_aload_n d_Mo_makeMove_144 rfl ?_
      refine z_callV (as := []) (st := []) i_Mo_isHopeless ⟨rfl, rfl⟩ v_Mo_isHopeless w_Mo_isHopeless l_Mo_214 d_Mo_makeMove_145 (by decide) (tA_83 k) rfl (Nat.le_of_ble_eq_true rfl) (Nat.le_of_ble_eq_true rfl) h (fun q4 T4 M4 h => ?_)
      obtain ⟨y4, rfl, rfl, h⟩ := h
      refine z_if_eq 153 d_Mo_makeMove_148 rfl ⟨fun c5 => ?_, fun c5 => ?_⟩
      · replace h := h.1 c5
        refine z_aload_n d_Mo_makeMove_153 rfl ?_
        refine z_getr f_Mo_71 rfl d_Mo_makeMove_154 (tA_83 k) (tr_83_24 k) ?_
        refine z_iconst 0 d_Mo_makeMove_157 (by decide) ?_
        refine y_iaload 0 d_Mo_makeMove_158 (ta_104 k) (by decide) (by decide) ?_
        refine z_bipush 24 d_Mo_makeMove_159 (by decide) ?_
        refine z_icmp_gt 175 d_Mo_makeMove_161 rfl ⟨fun c6 => ?_, fun c6 => ?_⟩
        · replace h := h.1 c6
          refine z_iconst 2 d_Mo_makeMove_175 (by decide) ?_
          refine z_goto 180 d_Mo_makeMove_176 rfl ?_
          exact z_iret rfl d_Mo_makeMove_180 h
        · replace h := h.2 c6
          refine z_aload_n d_Mo_makeMove_164 rfl ?_
          refine z_getr f_Mo_71 rfl d_Mo_makeMove_165 (tA_83 k) (tr_83_24 k) ?_
          refine z_iconst 1 d_Mo_makeMove_168 (by decide) ?_
          refine y_iaload 1 d_Mo_makeMove_169 (ta_104 k) (by decide) (by decide) ?_
          refine z_bipush 24 d_Mo_makeMove_170 (by decide) ?_
          refine z_icmp_le 179 d_Mo_makeMove_172 rfl ⟨fun c7 => ?_, fun c7 => ?_⟩
          · replace h := h.1 c7
            refine z_iconst 1 d_Mo_makeMove_179 (by decide) ?_
            exact z_iret rfl d_Mo_makeMove_180 h
          · replace h := h.2 c7
            refine z_iconst 2 d_Mo_makeMove_175 (by decide) ?_
            refine z_goto 180 d_Mo_makeMove_176 rfl ?_
            exact z_iret rfl d_Mo_makeMove_180 h
      · replace h := h.2 c5
        refine z_iconst 0 d_Mo_makeMove_151 (by decide) ?_
        exact z_iret rfl d_Mo_makeMove_152 h
    · replace h := h.2 c2
      refine z_aload_n d_Mo_makeMove_129 rfl ?_
      refine z_iload_n d_Mo_makeMove_130 rfl ?_
      refine z_iload_n d_Mo_makeMove_131 rfl ?_
      refine z_callV (as := [.int x1, .int x3]) (st := []) i_Mo_isNothing ⟨rfl, rfl⟩ v_Mo_isNothing w_Mo_isNothing l_Mo_208 d_Mo_makeMove_132 (by decide) (tA_83 k) rfl (Nat.le_of_ble_eq_true rfl) (Nat.le_of_ble_eq_true rfl) h (fun q8 T8 M8 h => ?_)
      obtain ⟨y8, rfl, rfl, h⟩ := h
      refine z_if_ne 140 d_Mo_makeMove_135 rfl ⟨fun c9 => ?_, fun c9 => ?_⟩
      · replace h := h.1 c9
        refine z_aload_n d_Mo_makeMove_140 rfl ?_
        refine z_callV (as := []) (st := []) i_Mo_lean ⟨rfl, rfl⟩ v_Mo_lean w_Mo_lean l_Mo_211 d_Mo_makeMove_141 (by decide) (tA_83 k) rfl (Nat.le_of_ble_eq_true rfl) (Nat.le_of_ble_eq_true rfl) h (fun q10 T10 M10 h => ?_)
        obtain ⟨rfl, rfl, h⟩ := h
        refine z_aload_n d_Mo_makeMove_144 rfl ?_
        refine z_callV (as := []) (st := []) i_Mo_isHopeless ⟨rfl, rfl⟩ v_Mo_isHopeless w_Mo_isHopeless l_Mo_214 d_Mo_makeMove_145 (by decide) (tA_83 k) rfl (Nat.le_of_ble_eq_true rfl) (Nat.le_of_ble_eq_true rfl) h (fun q11 T11 M11 h => ?_)
        obtain ⟨y11, rfl, rfl, h⟩ := h
        refine z_if_eq 153 d_Mo_makeMove_148 rfl ⟨fun c12 => ?_, fun c12 => ?_⟩
        · replace h := h.1 c12
          refine z_aload_n d_Mo_makeMove_153 rfl ?_
          refine z_getr f_Mo_71 rfl d_Mo_makeMove_154 (tA_83 k) (tr_83_24 k) ?_
          refine z_iconst 0 d_Mo_makeMove_157 (by decide) ?_
          refine y_iaload 0 d_Mo_makeMove_158 (ta_104 k) (by decide) (by decide) ?_
          refine z_bipush 24 d_Mo_makeMove_159 (by decide) ?_
          refine z_icmp_gt 175 d_Mo_makeMove_161 rfl ⟨fun c13 => ?_, fun c13 => ?_⟩
          · replace h := h.1 c13
            refine z_iconst 2 d_Mo_makeMove_175 (by decide) ?_
            refine z_goto 180 d_Mo_makeMove_176 rfl ?_
            exact z_iret rfl d_Mo_makeMove_180 h
          · replace h := h.2 c13
            refine z_aload_n d_Mo_makeMove_164 rfl ?_
            refine z_getr f_Mo_71 rfl d_Mo_makeMove_165 (tA_83 k) (tr_83_24 k) ?_
            refine z_iconst 1 d_Mo_makeMove_168 (by decide) ?_
            refine y_iaload 1 d_Mo_makeMove_169 (ta_104 k) (by decide) (by decide) ?_
            refine z_bipush 24 d_Mo_makeMove_170 (by decide) ?_
            refine z_icmp_le 179 d_Mo_makeMove_172 rfl ⟨fun c14 => ?_, fun c14 => ?_⟩
            · replace h := h.1 c14
              refine z_iconst 1 d_Mo_makeMove_179 (by decide) ?_
              exact z_iret rfl d_Mo_makeMove_180 h
            · replace h := h.2 c14
              refine z_iconst 2 d_Mo_makeMove_175 (by decide) ?_
              refine z_goto 180 d_Mo_makeMove_176 rfl ?_
              exact z_iret rfl d_Mo_makeMove_180 h
        · replace h := h.2 c12
          refine z_iconst 0 d_Mo_makeMove_151 (by decide) ?_
          exact z_iret rfl d_Mo_makeMove_152 h
      · replace h := h.2 c9
        refine z_iconst 0 d_Mo_makeMove_138 (by decide) ?_
        exact z_iret rfl d_Mo_makeMove_139 h
  · replace h := h.2 c1
    refine z_aload_n d_Mo_makeMove_61 rfl ?_
    refine z_getr f_Mo_74 rfl d_Mo_makeMove_62 (tA_83 k) (tr_83_25 k) ?_
    refine z_iconst 3 d_Mo_makeMove_65 (by decide) ?_
    refine z_iload_n d_Mo_makeMove_66 rfl ?_
    refine z_imul d_Mo_makeMove_67 ?_
    refine z_iload d_Mo_makeMove_68 rfl ?_
    refine z_iadd d_Mo_makeMove_70 ?_
    refine z_bipush 7 d_Mo_makeMove_71 (by decide) ?_
    obtain ⟨j15, hj15, ej15, h⟩ := h
    refine y_iastore j15 d_Mo_makeMove_73 (ta_105 k) hj15 ej15 ?_
    refine z_mem (fun M16 eM16 => ?_)
    replace h := h M16 eM16
    obtain ⟨y17, ey17⟩ : ∃ q : Int32, q = x6 + 1 := ⟨_, rfl⟩
    replace h := h y17 ey17
    refine z_iinc (ls' := [some (.ref 83), some (.int x1), some (.int x2), some (.int x3), none, none, some (.int y17)]) y17 d_Mo_makeMove_74 rfl (ey17 ▸ rfl) (Nat.le_of_ble_eq_true rfl) rfl rfl ?_
    refine z_goto 55 d_Mo_makeMove_77 rfl ?_
    exact z_forget [some (.ref 83), some (.int x1), some (.int x2), some (.int x3), none, none, some (.int y17)] (And.intro rfl (And.intro rfl (And.intro rfl (And.intro rfl (And.intro rfl (trivial)))))) h

set_option maxRecDepth 20000 in
theorem vc_Mo_goOn_0 (E : ZE) (k : Nat) (M : ZM) (x1 : Int32) (Φ : Option Value → ZS → ZM → Prop)  (h : zW E m_Mo_findMoves 3 (zSt k) M 0 [some (.ref 83), some (.int x1), none, none] [] (fun q1 T1 M1 => q1 = none ∧ (zSt k) = T1 ∧ zW E m_Mo_goOn 4 (zSt k) M1 7 [some (.ref 83), some (.int x1), some (.int 0), none, none] [] Φ)) : zW E m_Mo_goOn 4 (zSt k) M 0 [some (.ref 83), some (.int x1), none, none, none] [] Φ := by
  refine z_aload_n d_Mo_goOn_0 rfl ?_
  refine z_iload_n d_Mo_goOn_1 rfl ?_
  refine z_callV (as := [.int x1]) (st := []) i_Mo_findMoves ⟨rfl, rfl⟩ v_Mo_findMoves w_Mo_findMoves l_Mo_218 d_Mo_goOn_2 (by decide) (tA_83 k) rfl (Nat.le_of_ble_eq_true rfl) (Nat.le_of_ble_eq_true rfl) h (fun q1 T1 M1 h => ?_)
  obtain ⟨rfl, rfl, h⟩ := h
  refine z_iconst 0 d_Mo_goOn_5 (by decide) ?_
  refine z_istore_n (ls' := [some (.ref 83), some (.int x1), some (.int 0), none, none]) d_Mo_goOn_6 (Nat.le_of_ble_eq_true rfl) rfl rfl ?_
  exact z_forget [some (.ref 83), some (.int x1), some (.int 0), none, none] (And.intro rfl (And.intro rfl (And.intro rfl (trivial)))) h

set_option maxRecDepth 20000 in
theorem vc_Mo_goOn_7 (E : ZE) (k : Nat) (M : ZM) (x1 : Int32) (x2 : Int32) (Φ : Option Value → ZS → ZM → Prop)  (h : ((M 83 27) ≤ x2 → Φ none (zSt k) M) ∧ (¬ (M 83 27) ≤ x2 → ∃ j2 : Nat, j2 < 60 ∧ x2 = nI j2 ∧ (zW E m_Mo_makeMove 3 (zSt k) M 0 [some (.ref 83), some (.int x1), some (.int (M 106 j2)), none, none, none, none] [] (fun q3 T3 M3 => ∃ y3 : Int32, q3 = some (.int y3) ∧ (zSt k) = T3 ∧ (¬ y3 = 1 → ∃ j5 : Nat, j5 < 150 ∧ x1 = nI j5 ∧ ((¬ (M3 102 j5) = 0 → ∃ j7 : Nat, j7 < 150 ∧ x1 = nI j7 ∧ (∀ M8 : ZM, M8 = zms M3 102 j7 1 → ∀ y9 : Int32, y9 = x2 + 1 → zW E m_Mo_goOn 4 (zSt k) M8 7 [some (.ref 83), some (.int x1), some (.int y9), none, none] [] Φ)) ∧ ((M3 102 j5) = 0 → (y3 = 2 → ∃ j11 : Nat, j11 < 150 ∧ x1 = nI j11 ∧ (∀ M12 : ZM, M12 = zms M3 102 j11 1 → ∀ y13 : Int32, y13 = x2 + 1 → zW E m_Mo_goOn 4 (zSt k) M12 7 [some (.ref 83), some (.int x1), some (.int y13), none, none] [] Φ)) ∧ (¬ y3 = 2 → ∃ j14 : Nat, j14 < 150 ∧ x1 = nI j14 ∧ (∀ M15 : ZM, M15 = zms M3 102 j14 0 → ∀ y16 : Int32, y16 = x2 + 1 → zW E m_Mo_goOn 4 (zSt k) M15 7 [some (.ref 83), some (.int x1), some (.int y16), none, none] [] Φ))))) ∧ (y3 = 1 → zW E m_Mo_lookFor 1 (zSt k) M3 0 [some (.ref 83), none] [] (fun q17 T17 M17 => ∃ y17 : Int32, q17 = some (.int y17) ∧ (zSt k) = T17 ∧ (0 ≤ y17 → ∃ j19 : Nat, j19 < 150 ∧ x1 = nI j19 ∧ ((¬ (M17 102 j19) = 0 → ∃ j21 : Nat, j21 < 150 ∧ x1 = nI j21 ∧ (∀ M22 : ZM, M22 = zms M17 102 j21 1 → ∀ y23 : Int32, y23 = x2 + 1 → zW E m_Mo_goOn 4 (zSt k) M22 7 [some (.ref 83), some (.int x1), some (.int y23), none, none] [] Φ)) ∧ ((M17 102 j19) = 0 → (y3 = 2 → ∃ j25 : Nat, j25 < 150 ∧ x1 = nI j25 ∧ (∀ M26 : ZM, M26 = zms M17 102 j25 1 → ∀ y27 : Int32, y27 = x2 + 1 → zW E m_Mo_goOn 4 (zSt k) M26 7 [some (.ref 83), some (.int x1), some (.int y27), none, none] [] Φ)) ∧ (¬ y3 = 2 → ∃ j28 : Nat, j28 < 150 ∧ x1 = nI j28 ∧ (∀ M29 : ZM, M29 = zms M17 102 j28 0 → ∀ y30 : Int32, y30 = x2 + 1 → zW E m_Mo_goOn 4 (zSt k) M29 7 [some (.ref 83), some (.int x1), some (.int y30), none, none] [] Φ))))) ∧ (¬ 0 ≤ y17 → ∃ j31 : Nat, j31 < 150 ∧ x1 = nI j31 ∧ ((¬ (M17 102 j31) = 0 → ∃ j33 : Nat, j33 < 150 ∧ x1 = nI j33 ∧ (∀ M34 : ZM, M34 = zms M17 102 j33 1 → (150 ≤ (M34 83 21) → ∀ y36 : Int32, y36 = x2 + 1 → zW E m_Mo_goOn 4 (zSt k) M34 7 [some (.ref 83), some (.int x1), some (.int y36), none, none] [] Φ) ∧ (¬ 150 ≤ (M34 83 21) → ∃ j37 : Nat, j37 < 150 ∧ x1 = nI j37 ∧ (∃ j38 : Nat, j38 < 60 ∧ x2 = nI j38 ∧ (zW E m_Mo_addNode 0 (zSt k) M34 0 [some (.ref 83), some (.int ((M34 99 j37) + 1)), some (.int x1), some (.int (M34 106 j38)), none, none] [] (fun q39 T39 M39 => q39 = none ∧ (zSt k) = T39 ∧ ∀ y40 : Int32, y40 = x2 + 1 → zW E m_Mo_goOn 4 (zSt k) M39 7 [some (.ref 83), some (.int x1), some (.int y40), none, none] [] Φ)))))) ∧ ((M17 102 j31) = 0 → (y3 = 2 → ∃ j42 : Nat, j42 < 150 ∧ x1 = nI j42 ∧ (∀ M43 : ZM, M43 = zms M17 102 j42 1 → (150 ≤ (M43 83 21) → ∀ y45 : Int32, y45 = x2 + 1 → zW E m_Mo_goOn 4 (zSt k) M43 7 [some (.ref 83), some (.int x1), some (.int y45), none, none] [] Φ) ∧ (¬ 150 ≤ (M43 83 21) → ∃ j46 : Nat, j46 < 150 ∧ x1 = nI j46 ∧ (∃ j47 : Nat, j47 < 60 ∧ x2 = nI j47 ∧ (zW E m_Mo_addNode 0 (zSt k) M43 0 [some (.ref 83), some (.int ((M43 99 j46) + 1)), some (.int x1), some (.int (M43 106 j47)), none, none] [] (fun q48 T48 M48 => q48 = none ∧ (zSt k) = T48 ∧ ∀ y49 : Int32, y49 = x2 + 1 → zW E m_Mo_goOn 4 (zSt k) M48 7 [some (.ref 83), some (.int x1), some (.int y49), none, none] [] Φ)))))) ∧ (¬ y3 = 2 → (¬ (M17 83 21) = 150 → ∃ j51 : Nat, j51 < 150 ∧ x1 = nI j51 ∧ (∀ M52 : ZM, M52 = zms M17 102 j51 0 → (150 ≤ (M52 83 21) → ∀ y54 : Int32, y54 = x2 + 1 → zW E m_Mo_goOn 4 (zSt k) M52 7 [some (.ref 83), some (.int x1), some (.int y54), none, none] [] Φ) ∧ (¬ 150 ≤ (M52 83 21) → ∃ j55 : Nat, j55 < 150 ∧ x1 = nI j55 ∧ (∃ j56 : Nat, j56 < 60 ∧ x2 = nI j56 ∧ (zW E m_Mo_addNode 0 (zSt k) M52 0 [some (.ref 83), some (.int ((M52 99 j55) + 1)), some (.int x1), some (.int (M52 106 j56)), none, none] [] (fun q57 T57 M57 => q57 = none ∧ (zSt k) = T57 ∧ ∀ y58 : Int32, y58 = x2 + 1 → zW E m_Mo_goOn 4 (zSt k) M57 7 [some (.ref 83), some (.int x1), some (.int y58), none, none] [] Φ)))))) ∧ ((M17 83 21) = 150 → ∃ j59 : Nat, j59 < 150 ∧ x1 = nI j59 ∧ (∀ M60 : ZM, M60 = zms M17 102 j59 1 → (150 ≤ (M60 83 21) → ∀ y62 : Int32, y62 = x2 + 1 → zW E m_Mo_goOn 4 (zSt k) M60 7 [some (.ref 83), some (.int x1), some (.int y62), none, none] [] Φ) ∧ (¬ 150 ≤ (M60 83 21) → ∃ j63 : Nat, j63 < 150 ∧ x1 = nI j63 ∧ (∃ j64 : Nat, j64 < 60 ∧ x2 = nI j64 ∧ (zW E m_Mo_addNode 0 (zSt k) M60 0 [some (.ref 83), some (.int ((M60 99 j63) + 1)), some (.int x1), some (.int (M60 106 j64)), none, none] [] (fun q65 T65 M65 => q65 = none ∧ (zSt k) = T65 ∧ ∀ y66 : Int32, y66 = x2 + 1 → zW E m_Mo_goOn 4 (zSt k) M65 7 [some (.ref 83), some (.int x1), some (.int y66), none, none] [] Φ)))))))))))))))) : zW E m_Mo_goOn 4 (zSt k) M 7 [some (.ref 83), some (.int x1), some (.int x2), none, none] [] Φ := by
  refine z_iload_n d_Mo_goOn_7 rfl ?_
  refine z_aload_n d_Mo_goOn_8 rfl ?_
  refine z_geti f_Mo_178 rfl d_Mo_goOn_9 (tA_83 k) ?_
  refine z_icmp_ge 126 d_Mo_goOn_12 rfl ⟨fun c1 => ?_, fun c1 => ?_⟩
  · replace h := h.1 c1
    exact z_vret rfl d_Mo_goOn_126 h
  · replace h := h.2 c1
    refine z_aload_n d_Mo_goOn_15 rfl ?_
    refine z_iload_n d_Mo_goOn_16 rfl ?_
    refine z_aload_n d_Mo_goOn_17 rfl ?_
    refine z_getr f_Mo_77 rfl d_Mo_goOn_18 (tA_83 k) (tr_83_26 k) ?_
    refine z_iload_n d_Mo_goOn_21 rfl ?_
    obtain ⟨j2, hj2, ej2, h⟩ := h
    refine y_iaload j2 d_Mo_goOn_22 (ta_106 k) hj2 ej2 ?_
    refine z_callV (as := [.int x1, .int (M 106 j2)]) (st := []) i_Mo_makeMove ⟨rfl, rfl⟩ v_Mo_makeMove w_Mo_makeMove l_Mo_222 d_Mo_goOn_23 (by decide) (tA_83 k) rfl (Nat.le_of_ble_eq_true rfl) (Nat.le_of_ble_eq_true rfl) h (fun q3 T3 M3 h => ?_)
    obtain ⟨y3, rfl, rfl, h⟩ := h
    refine z_istore_n (ls' := [some (.ref 83), some (.int x1), some (.int x2), some (.int y3), none]) d_Mo_goOn_26 (Nat.le_of_ble_eq_true rfl) rfl rfl ?_
    refine z_iload_n d_Mo_goOn_27 rfl ?_
    refine z_iconst 1 d_Mo_goOn_28 (by decide) ?_
    refine z_icmp_ne 43 d_Mo_goOn_29 rfl ⟨fun c4 => ?_, fun c4 => ?_⟩
    · replace h := h.1 c4
      refine z_iconst 0 d_Mo_goOn_43 (by decide) ?_
      refine z_istore (ls' := [some (.ref 83), some (.int x1), some (.int x2), some (.int y3), some (.int 0)]) d_Mo_goOn_44 (Nat.le_of_ble_eq_true rfl) rfl rfl ?_
      refine z_aload_n d_Mo_goOn_46 rfl ?_
      refine z_getr f_Mo_64 rfl d_Mo_goOn_47 (tA_83 k) (tr_83_20 k) ?_
      refine z_iload_n d_Mo_goOn_50 rfl ?_
      refine z_aload_n d_Mo_goOn_51 rfl ?_
      refine z_getr f_Mo_64 rfl d_Mo_goOn_52 (tA_83 k) (tr_83_20 k) ?_
      refine z_iload_n d_Mo_goOn_55 rfl ?_
      obtain ⟨j5, hj5, ej5, h⟩ := h
      refine y_baload j5 d_Mo_goOn_56 (ta_102 k) hj5 ej5 ?_
      refine z_if_ne 80 d_Mo_goOn_57 rfl ⟨fun c6 => ?_, fun c6 => ?_⟩
      · replace h := h.1 c6
        refine z_iconst 1 d_Mo_goOn_80 (by decide) ?_
        refine z_goto 85 d_Mo_goOn_81 rfl ?_
        obtain ⟨j7, hj7, ej7, h⟩ := h
        refine y_bastore j7 d_Mo_goOn_85 (ta_102 k) hj7 ej7 rfl ?_
        refine z_mem (fun M8 eM8 => ?_)
        replace h := h M8 eM8
        refine z_iload d_Mo_goOn_86 rfl ?_
        refine z_if_eq 120 d_Mo_goOn_88 rfl ⟨fun _ => ?_, fun q => absurd (by decide) q⟩
        obtain ⟨y9, ey9⟩ : ∃ q : Int32, q = x2 + 1 := ⟨_, rfl⟩
        replace h := h y9 ey9
        refine z_iinc (ls' := [some (.ref 83), some (.int x1), some (.int y9), some (.int y3), some (.int 0)]) y9 d_Mo_goOn_120 rfl (ey9 ▸ rfl) (Nat.le_of_ble_eq_true rfl) rfl rfl ?_
        refine z_goto 7 d_Mo_goOn_123 rfl ?_
        exact z_forget [some (.ref 83), some (.int x1), some (.int y9), none, none] (And.intro rfl (And.intro rfl (And.intro rfl (trivial)))) h
      · replace h := h.2 c6
        refine z_iload_n d_Mo_goOn_60 rfl ?_
        refine z_iconst 2 d_Mo_goOn_61 (by decide) ?_
        refine z_icmp_eq 80 d_Mo_goOn_62 rfl ⟨fun c10 => ?_, fun c10 => ?_⟩
        · replace h := h.1 c10
          refine z_iconst 1 d_Mo_goOn_80 (by decide) ?_
          refine z_goto 85 d_Mo_goOn_81 rfl ?_
          obtain ⟨j11, hj11, ej11, h⟩ := h
          refine y_bastore j11 d_Mo_goOn_85 (ta_102 k) hj11 ej11 rfl ?_
          refine z_mem (fun M12 eM12 => ?_)
          replace h := h M12 eM12
          refine z_iload d_Mo_goOn_86 rfl ?_
          refine z_if_eq 120 d_Mo_goOn_88 rfl ⟨fun _ => ?_, fun q => absurd (by decide) q⟩
          obtain ⟨y13, ey13⟩ : ∃ q : Int32, q = x2 + 1 := ⟨_, rfl⟩
          replace h := h y13 ey13
          refine z_iinc (ls' := [some (.ref 83), some (.int x1), some (.int y13), some (.int y3), some (.int 0)]) y13 d_Mo_goOn_120 rfl (ey13 ▸ rfl) (Nat.le_of_ble_eq_true rfl) rfl rfl ?_
          refine z_goto 7 d_Mo_goOn_123 rfl ?_
          exact z_forget [some (.ref 83), some (.int x1), some (.int y13), none, none] (And.intro rfl (And.intro rfl (And.intro rfl (trivial)))) h
        · replace h := h.2 c10
          refine z_iload d_Mo_goOn_65 rfl ?_
          refine z_if_eq 84 d_Mo_goOn_67 rfl ⟨fun _ => ?_, fun q => absurd (by decide) q⟩
          refine z_iconst 0 d_Mo_goOn_84 (by decide) ?_
          obtain ⟨j14, hj14, ej14, h⟩ := h
          refine y_bastore j14 d_Mo_goOn_85 (ta_102 k) hj14 ej14 rfl ?_
          refine z_mem (fun M15 eM15 => ?_)
          replace h := h M15 eM15
          refine z_iload d_Mo_goOn_86 rfl ?_
          refine z_if_eq 120 d_Mo_goOn_88 rfl ⟨fun _ => ?_, fun q => absurd (by decide) q⟩
          obtain ⟨y16, ey16⟩ : ∃ q : Int32, q = x2 + 1 := ⟨_, rfl⟩
          replace h := h y16 ey16
          refine z_iinc (ls' := [some (.ref 83), some (.int x1), some (.int y16), some (.int y3), some (.int 0)]) y16 d_Mo_goOn_120 rfl (ey16 ▸ rfl) (Nat.le_of_ble_eq_true rfl) rfl rfl ?_
          refine z_goto 7 d_Mo_goOn_123 rfl ?_
          exact z_forget [some (.ref 83), some (.int x1), some (.int y16), none, none] (And.intro rfl (And.intro rfl (And.intro rfl (trivial)))) h
    · replace h := h.2 c4
      refine z_aload_n d_Mo_goOn_32 rfl ?_
      refine z_callV (as := []) (st := []) i_Mo_lookFor ⟨rfl, rfl⟩ v_Mo_lookFor w_Mo_lookFor l_Mo_225 d_Mo_goOn_33 (by decide) (tA_83 k) rfl (Nat.le_of_ble_eq_true rfl) (Nat.le_of_ble_eq_true rfl) h (fun q17 T17 M17 h => ?_)
      obtain ⟨y17, rfl, rfl, h⟩ := h
      refine z_if_ge 43 d_Mo_goOn_36 rfl ⟨fun c18 => ?_, fun c18 => ?_⟩
      · replace h := h.1 c18
        refine z_iconst 0 d_Mo_goOn_43 (by decide) ?_
        refine z_istore (ls' := [some (.ref 83), some (.int x1), some (.int x2), some (.int y3), some (.int 0)]) d_Mo_goOn_44 (Nat.le_of_ble_eq_true rfl) rfl rfl ?_
        refine z_aload_n d_Mo_goOn_46 rfl ?_
        refine z_getr f_Mo_64 rfl d_Mo_goOn_47 (tA_83 k) (tr_83_20 k) ?_
        refine z_iload_n d_Mo_goOn_50 rfl ?_
        refine z_aload_n d_Mo_goOn_51 rfl ?_
        refine z_getr f_Mo_64 rfl d_Mo_goOn_52 (tA_83 k) (tr_83_20 k) ?_
        refine z_iload_n d_Mo_goOn_55 rfl ?_
        obtain ⟨j19, hj19, ej19, h⟩ := h
        refine y_baload j19 d_Mo_goOn_56 (ta_102 k) hj19 ej19 ?_
        refine z_if_ne 80 d_Mo_goOn_57 rfl ⟨fun c20 => ?_, fun c20 => ?_⟩
        · replace h := h.1 c20
          refine z_iconst 1 d_Mo_goOn_80 (by decide) ?_
          refine z_goto 85 d_Mo_goOn_81 rfl ?_
          obtain ⟨j21, hj21, ej21, h⟩ := h
          refine y_bastore j21 d_Mo_goOn_85 (ta_102 k) hj21 ej21 rfl ?_
          refine z_mem (fun M22 eM22 => ?_)
          replace h := h M22 eM22
          refine z_iload d_Mo_goOn_86 rfl ?_
          refine z_if_eq 120 d_Mo_goOn_88 rfl ⟨fun _ => ?_, fun q => absurd (by decide) q⟩
          obtain ⟨y23, ey23⟩ : ∃ q : Int32, q = x2 + 1 := ⟨_, rfl⟩
          replace h := h y23 ey23
          refine z_iinc (ls' := [some (.ref 83), some (.int x1), some (.int y23), some (.int y3), some (.int 0)]) y23 d_Mo_goOn_120 rfl (ey23 ▸ rfl) (Nat.le_of_ble_eq_true rfl) rfl rfl ?_
          refine z_goto 7 d_Mo_goOn_123 rfl ?_
          exact z_forget [some (.ref 83), some (.int x1), some (.int y23), none, none] (And.intro rfl (And.intro rfl (And.intro rfl (trivial)))) h
        · replace h := h.2 c20
          refine z_iload_n d_Mo_goOn_60 rfl ?_
          refine z_iconst 2 d_Mo_goOn_61 (by decide) ?_
          refine z_icmp_eq 80 d_Mo_goOn_62 rfl ⟨fun c24 => ?_, fun c24 => ?_⟩
          · replace h := h.1 c24
            refine z_iconst 1 d_Mo_goOn_80 (by decide) ?_
            refine z_goto 85 d_Mo_goOn_81 rfl ?_
            obtain ⟨j25, hj25, ej25, h⟩ := h
            refine y_bastore j25 d_Mo_goOn_85 (ta_102 k) hj25 ej25 rfl ?_
            refine z_mem (fun M26 eM26 => ?_)
            replace h := h M26 eM26
            refine z_iload d_Mo_goOn_86 rfl ?_
            refine z_if_eq 120 d_Mo_goOn_88 rfl ⟨fun _ => ?_, fun q => absurd (by decide) q⟩
            obtain ⟨y27, ey27⟩ : ∃ q : Int32, q = x2 + 1 := ⟨_, rfl⟩
            replace h := h y27 ey27
            refine z_iinc (ls' := [some (.ref 83), some (.int x1), some (.int y27), some (.int y3), some (.int 0)]) y27 d_Mo_goOn_120 rfl (ey27 ▸ rfl) (Nat.le_of_ble_eq_true rfl) rfl rfl ?_
            refine z_goto 7 d_Mo_goOn_123 rfl ?_
            exact z_forget [some (.ref 83), some (.int x1), some (.int y27), none, none] (And.intro rfl (And.intro rfl (And.intro rfl (trivial)))) h
          · replace h := h.2 c24
            refine z_iload d_Mo_goOn_65 rfl ?_
            refine z_if_eq 84 d_Mo_goOn_67 rfl ⟨fun _ => ?_, fun q => absurd (by decide) q⟩
            refine z_iconst 0 d_Mo_goOn_84 (by decide) ?_
            obtain ⟨j28, hj28, ej28, h⟩ := h
            refine y_bastore j28 d_Mo_goOn_85 (ta_102 k) hj28 ej28 rfl ?_
            refine z_mem (fun M29 eM29 => ?_)
            replace h := h M29 eM29
            refine z_iload d_Mo_goOn_86 rfl ?_
            refine z_if_eq 120 d_Mo_goOn_88 rfl ⟨fun _ => ?_, fun q => absurd (by decide) q⟩
            obtain ⟨y30, ey30⟩ : ∃ q : Int32, q = x2 + 1 := ⟨_, rfl⟩
            replace h := h y30 ey30
            refine z_iinc (ls' := [some (.ref 83), some (.int x1), some (.int y30), some (.int y3), some (.int 0)]) y30 d_Mo_goOn_120 rfl (ey30 ▸ rfl) (Nat.le_of_ble_eq_true rfl) rfl rfl ?_
            refine z_goto 7 d_Mo_goOn_123 rfl ?_
            exact z_forget [some (.ref 83), some (.int x1), some (.int y30), none, none] (And.intro rfl (And.intro rfl (And.intro rfl (trivial)))) h
      · replace h := h.2 c18
        refine z_iconst 1 d_Mo_goOn_39 (by decide) ?_
        refine z_goto 44 d_Mo_goOn_40 rfl ?_
        refine z_istore (ls' := [some (.ref 83), some (.int x1), some (.int x2), some (.int y3), some (.int 1)]) d_Mo_goOn_44 (Nat.le_of_ble_eq_true rfl) rfl rfl ?_
        refine z_aload_n d_Mo_goOn_46 rfl ?_
        refine z_getr f_Mo_64 rfl d_Mo_goOn_47 (tA_83 k) (tr_83_20 k) ?_
        refine z_iload_n d_Mo_goOn_50 rfl ?_
        refine z_aload_n d_Mo_goOn_51 rfl ?_
        refine z_getr f_Mo_64 rfl d_Mo_goOn_52 (tA_83 k) (tr_83_20 k) ?_
        refine z_iload_n d_Mo_goOn_55 rfl ?_
        obtain ⟨j31, hj31, ej31, h⟩ := h
        refine y_baload j31 d_Mo_goOn_56 (ta_102 k) hj31 ej31 ?_
        refine z_if_ne 80 d_Mo_goOn_57 rfl ⟨fun c32 => ?_, fun c32 => ?_⟩
        · replace h := h.1 c32
          refine z_iconst 1 d_Mo_goOn_80 (by decide) ?_
          refine z_goto 85 d_Mo_goOn_81 rfl ?_
          obtain ⟨j33, hj33, ej33, h⟩ := h
          refine y_bastore j33 d_Mo_goOn_85 (ta_102 k) hj33 ej33 rfl ?_
          refine z_mem (fun M34 eM34 => ?_)
          replace h := h M34 eM34
          refine z_iload d_Mo_goOn_86 rfl ?_
          refine z_if_eq 120 d_Mo_goOn_88 rfl ⟨fun q => absurd q (by decide), fun _ => ?_⟩
          refine z_aload_n d_Mo_goOn_91 rfl ?_
          refine z_geti f_Mo_172 rfl d_Mo_goOn_92 (tA_83 k) ?_
          refine z_sipush 150 d_Mo_goOn_95 (by decide) ?_
          refine z_icmp_ge 120 d_Mo_goOn_98 rfl ⟨fun c35 => ?_, fun c35 => ?_⟩
          · replace h := h.1 c35
            obtain ⟨y36, ey36⟩ : ∃ q : Int32, q = x2 + 1 := ⟨_, rfl⟩
            replace h := h y36 ey36
            refine z_iinc (ls' := [some (.ref 83), some (.int x1), some (.int y36), some (.int y3), some (.int 1)]) y36 d_Mo_goOn_120 rfl (ey36 ▸ rfl) (Nat.le_of_ble_eq_true rfl) rfl rfl ?_
            refine z_goto 7 d_Mo_goOn_123 rfl ?_
            exact z_forget [some (.ref 83), some (.int x1), some (.int y36), none, none] (And.intro rfl (And.intro rfl (And.intro rfl (trivial)))) h
          · replace h := h.2 c35
            refine z_aload_n d_Mo_goOn_101 rfl ?_
            refine z_aload_n d_Mo_goOn_102 rfl ?_
            refine z_getr f_Mo_55 rfl d_Mo_goOn_103 (tA_83 k) (tr_83_17 k) ?_
            refine z_iload_n d_Mo_goOn_106 rfl ?_
            obtain ⟨j37, hj37, ej37, h⟩ := h
            refine y_iaload j37 d_Mo_goOn_107 (ta_99 k) hj37 ej37 ?_
            refine z_iconst 1 d_Mo_goOn_108 (by decide) ?_
            refine z_iadd d_Mo_goOn_109 ?_
            refine z_iload_n d_Mo_goOn_110 rfl ?_
            refine z_aload_n d_Mo_goOn_111 rfl ?_
            refine z_getr f_Mo_77 rfl d_Mo_goOn_112 (tA_83 k) (tr_83_26 k) ?_
            refine z_iload_n d_Mo_goOn_115 rfl ?_
            obtain ⟨j38, hj38, ej38, h⟩ := h
            refine y_iaload j38 d_Mo_goOn_116 (ta_106 k) hj38 ej38 ?_
            refine z_callV (as := [.int ((M34 99 j37) + 1), .int x1, .int (M34 106 j38)]) (st := []) i_Mo_addNode ⟨rfl, rfl⟩ v_Mo_addNode w_Mo_addNode l_Mo_228 d_Mo_goOn_117 (by decide) (tA_83 k) rfl (Nat.le_of_ble_eq_true rfl) (Nat.le_of_ble_eq_true rfl) h (fun q39 T39 M39 h => ?_)
            obtain ⟨rfl, rfl, h⟩ := h
            obtain ⟨y40, ey40⟩ : ∃ q : Int32, q = x2 + 1 := ⟨_, rfl⟩
            replace h := h y40 ey40
            refine z_iinc (ls' := [some (.ref 83), some (.int x1), some (.int y40), some (.int y3), some (.int 1)]) y40 d_Mo_goOn_120 rfl (ey40 ▸ rfl) (Nat.le_of_ble_eq_true rfl) rfl rfl ?_
            refine z_goto 7 d_Mo_goOn_123 rfl ?_
            exact z_forget [some (.ref 83), some (.int x1), some (.int y40), none, none] (And.intro rfl (And.intro rfl (And.intro rfl (trivial)))) h
        · replace h := h.2 c32
          refine z_iload_n d_Mo_goOn_60 rfl ?_
          refine z_iconst 2 d_Mo_goOn_61 (by decide) ?_
          refine z_icmp_eq 80 d_Mo_goOn_62 rfl ⟨fun c41 => ?_, fun c41 => ?_⟩
          · replace h := h.1 c41
            refine z_iconst 1 d_Mo_goOn_80 (by decide) ?_
            refine z_goto 85 d_Mo_goOn_81 rfl ?_
            obtain ⟨j42, hj42, ej42, h⟩ := h
            refine y_bastore j42 d_Mo_goOn_85 (ta_102 k) hj42 ej42 rfl ?_
            refine z_mem (fun M43 eM43 => ?_)
            replace h := h M43 eM43
            refine z_iload d_Mo_goOn_86 rfl ?_
            refine z_if_eq 120 d_Mo_goOn_88 rfl ⟨fun q => absurd q (by decide), fun _ => ?_⟩
            refine z_aload_n d_Mo_goOn_91 rfl ?_
            refine z_geti f_Mo_172 rfl d_Mo_goOn_92 (tA_83 k) ?_
            refine z_sipush 150 d_Mo_goOn_95 (by decide) ?_
            refine z_icmp_ge 120 d_Mo_goOn_98 rfl ⟨fun c44 => ?_, fun c44 => ?_⟩
            · replace h := h.1 c44
              obtain ⟨y45, ey45⟩ : ∃ q : Int32, q = x2 + 1 := ⟨_, rfl⟩
              replace h := h y45 ey45
              refine z_iinc (ls' := [some (.ref 83), some (.int x1), some (.int y45), some (.int y3), some (.int 1)]) y45 d_Mo_goOn_120 rfl (ey45 ▸ rfl) (Nat.le_of_ble_eq_true rfl) rfl rfl ?_
              refine z_goto 7 d_Mo_goOn_123 rfl ?_
              exact z_forget [some (.ref 83), some (.int x1), some (.int y45), none, none] (And.intro rfl (And.intro rfl (And.intro rfl (trivial)))) h
            · replace h := h.2 c44
              refine z_aload_n d_Mo_goOn_101 rfl ?_
              refine z_aload_n d_Mo_goOn_102 rfl ?_
              refine z_getr f_Mo_55 rfl d_Mo_goOn_103 (tA_83 k) (tr_83_17 k) ?_
              refine z_iload_n d_Mo_goOn_106 rfl ?_
              obtain ⟨j46, hj46, ej46, h⟩ := h
              refine y_iaload j46 d_Mo_goOn_107 (ta_99 k) hj46 ej46 ?_
              refine z_iconst 1 d_Mo_goOn_108 (by decide) ?_
              refine z_iadd d_Mo_goOn_109 ?_
              refine z_iload_n d_Mo_goOn_110 rfl ?_
              refine z_aload_n d_Mo_goOn_111 rfl ?_
              refine z_getr f_Mo_77 rfl d_Mo_goOn_112 (tA_83 k) (tr_83_26 k) ?_
              refine z_iload_n d_Mo_goOn_115 rfl ?_
              obtain ⟨j47, hj47, ej47, h⟩ := h
              refine y_iaload j47 d_Mo_goOn_116 (ta_106 k) hj47 ej47 ?_
              refine z_callV (as := [.int ((M43 99 j46) + 1), .int x1, .int (M43 106 j47)]) (st := []) i_Mo_addNode ⟨rfl, rfl⟩ v_Mo_addNode w_Mo_addNode l_Mo_228 d_Mo_goOn_117 (by decide) (tA_83 k) rfl (Nat.le_of_ble_eq_true rfl) (Nat.le_of_ble_eq_true rfl) h (fun q48 T48 M48 h => ?_)
              obtain ⟨rfl, rfl, h⟩ := h
              obtain ⟨y49, ey49⟩ : ∃ q : Int32, q = x2 + 1 := ⟨_, rfl⟩
              replace h := h y49 ey49
              refine z_iinc (ls' := [some (.ref 83), some (.int x1), some (.int y49), some (.int y3), some (.int 1)]) y49 d_Mo_goOn_120 rfl (ey49 ▸ rfl) (Nat.le_of_ble_eq_true rfl) rfl rfl ?_
              refine z_goto 7 d_Mo_goOn_123 rfl ?_
              exact z_forget [some (.ref 83), some (.int x1), some (.int y49), none, none] (And.intro rfl (And.intro rfl (And.intro rfl (trivial)))) h
          · replace h := h.2 c41
            refine z_iload d_Mo_goOn_65 rfl ?_
            refine z_if_eq 84 d_Mo_goOn_67 rfl ⟨fun q => absurd q (by decide), fun _ => ?_⟩
            refine z_aload_n d_Mo_goOn_70 rfl ?_
            refine z_geti f_Mo_172 rfl d_Mo_goOn_71 (tA_83 k) ?_
            refine z_sipush 150 d_Mo_goOn_74 (by decide) ?_
            refine z_icmp_ne 84 d_Mo_goOn_77 rfl ⟨fun c50 => ?_, fun c50 => ?_⟩
            · replace h := h.1 c50
              refine z_iconst 0 d_Mo_goOn_84 (by decide) ?_
              obtain ⟨j51, hj51, ej51, h⟩ := h
              refine y_bastore j51 d_Mo_goOn_85 (ta_102 k) hj51 ej51 rfl ?_
              refine z_mem (fun M52 eM52 => ?_)
              replace h := h M52 eM52
              refine z_iload d_Mo_goOn_86 rfl ?_
              refine z_if_eq 120 d_Mo_goOn_88 rfl ⟨fun q => absurd q (by decide), fun _ => ?_⟩
              refine z_aload_n d_Mo_goOn_91 rfl ?_
              refine z_geti f_Mo_172 rfl d_Mo_goOn_92 (tA_83 k) ?_
              refine z_sipush 150 d_Mo_goOn_95 (by decide) ?_
              refine z_icmp_ge 120 d_Mo_goOn_98 rfl ⟨fun c53 => ?_, fun c53 => ?_⟩
              · replace h := h.1 c53
                obtain ⟨y54, ey54⟩ : ∃ q : Int32, q = x2 + 1 := ⟨_, rfl⟩
                replace h := h y54 ey54
                refine z_iinc (ls' := [some (.ref 83), some (.int x1), some (.int y54), some (.int y3), some (.int 1)]) y54 d_Mo_goOn_120 rfl (ey54 ▸ rfl) (Nat.le_of_ble_eq_true rfl) rfl rfl ?_
                refine z_goto 7 d_Mo_goOn_123 rfl ?_
                exact z_forget [some (.ref 83), some (.int x1), some (.int y54), none, none] (And.intro rfl (And.intro rfl (And.intro rfl (trivial)))) h
              · replace h := h.2 c53
                refine z_aload_n d_Mo_goOn_101 rfl ?_
                refine z_aload_n d_Mo_goOn_102 rfl ?_
                refine z_getr f_Mo_55 rfl d_Mo_goOn_103 (tA_83 k) (tr_83_17 k) ?_
                refine z_iload_n d_Mo_goOn_106 rfl ?_
                obtain ⟨j55, hj55, ej55, h⟩ := h
                refine y_iaload j55 d_Mo_goOn_107 (ta_99 k) hj55 ej55 ?_
                refine z_iconst 1 d_Mo_goOn_108 (by decide) ?_
                refine z_iadd d_Mo_goOn_109 ?_
                refine z_iload_n d_Mo_goOn_110 rfl ?_
                refine z_aload_n d_Mo_goOn_111 rfl ?_
                refine z_getr f_Mo_77 rfl d_Mo_goOn_112 (tA_83 k) (tr_83_26 k) ?_
                refine z_iload_n d_Mo_goOn_115 rfl ?_
                obtain ⟨j56, hj56, ej56, h⟩ := h
                refine y_iaload j56 d_Mo_goOn_116 (ta_106 k) hj56 ej56 ?_
                refine z_callV (as := [.int ((M52 99 j55) + 1), .int x1, .int (M52 106 j56)]) (st := []) i_Mo_addNode ⟨rfl, rfl⟩ v_Mo_addNode w_Mo_addNode l_Mo_228 d_Mo_goOn_117 (by decide) (tA_83 k) rfl (Nat.le_of_ble_eq_true rfl) (Nat.le_of_ble_eq_true rfl) h (fun q57 T57 M57 h => ?_)
                obtain ⟨rfl, rfl, h⟩ := h
                obtain ⟨y58, ey58⟩ : ∃ q : Int32, q = x2 + 1 := ⟨_, rfl⟩
                replace h := h y58 ey58
                refine z_iinc (ls' := [some (.ref 83), some (.int x1), some (.int y58), some (.int y3), some (.int 1)]) y58 d_Mo_goOn_120 rfl (ey58 ▸ rfl) (Nat.le_of_ble_eq_true rfl) rfl rfl ?_
                refine z_goto 7 d_Mo_goOn_123 rfl ?_
                exact z_forget [some (.ref 83), some (.int x1), some (.int y58), none, none] (And.intro rfl (And.intro rfl (And.intro rfl (trivial)))) h
            · replace h := h.2 c50
              refine z_iconst 1 d_Mo_goOn_80 (by decide) ?_
              refine z_goto 85 d_Mo_goOn_81 rfl ?_
              obtain ⟨j59, hj59, ej59, h⟩ := h
              refine y_bastore j59 d_Mo_goOn_85 (ta_102 k) hj59 ej59 rfl ?_
              refine z_mem (fun M60 eM60 => ?_)
              replace h := h M60 eM60
              refine z_iload d_Mo_goOn_86 rfl ?_
              refine z_if_eq 120 d_Mo_goOn_88 rfl ⟨fun q => absurd q (by decide), fun _ => ?_⟩
              refine z_aload_n d_Mo_goOn_91 rfl ?_
              refine z_geti f_Mo_172 rfl d_Mo_goOn_92 (tA_83 k) ?_
              refine z_sipush 150 d_Mo_goOn_95 (by decide) ?_
              refine z_icmp_ge 120 d_Mo_goOn_98 rfl ⟨fun c61 => ?_, fun c61 => ?_⟩
              · replace h := h.1 c61
                obtain ⟨y62, ey62⟩ : ∃ q : Int32, q = x2 + 1 := ⟨_, rfl⟩
                replace h := h y62 ey62
                refine z_iinc (ls' := [some (.ref 83), some (.int x1), some (.int y62), some (.int y3), some (.int 1)]) y62 d_Mo_goOn_120 rfl (ey62 ▸ rfl) (Nat.le_of_ble_eq_true rfl) rfl rfl ?_
                refine z_goto 7 d_Mo_goOn_123 rfl ?_
                exact z_forget [some (.ref 83), some (.int x1), some (.int y62), none, none] (And.intro rfl (And.intro rfl (And.intro rfl (trivial)))) h
              · replace h := h.2 c61
                refine z_aload_n d_Mo_goOn_101 rfl ?_
                refine z_aload_n d_Mo_goOn_102 rfl ?_
                refine z_getr f_Mo_55 rfl d_Mo_goOn_103 (tA_83 k) (tr_83_17 k) ?_
                refine z_iload_n d_Mo_goOn_106 rfl ?_
                obtain ⟨j63, hj63, ej63, h⟩ := h
                refine y_iaload j63 d_Mo_goOn_107 (ta_99 k) hj63 ej63 ?_
                refine z_iconst 1 d_Mo_goOn_108 (by decide) ?_
                refine z_iadd d_Mo_goOn_109 ?_
                refine z_iload_n d_Mo_goOn_110 rfl ?_
                refine z_aload_n d_Mo_goOn_111 rfl ?_
                refine z_getr f_Mo_77 rfl d_Mo_goOn_112 (tA_83 k) (tr_83_26 k) ?_
                refine z_iload_n d_Mo_goOn_115 rfl ?_
                obtain ⟨j64, hj64, ej64, h⟩ := h
                refine y_iaload j64 d_Mo_goOn_116 (ta_106 k) hj64 ej64 ?_
                refine z_callV (as := [.int ((M60 99 j63) + 1), .int x1, .int (M60 106 j64)]) (st := []) i_Mo_addNode ⟨rfl, rfl⟩ v_Mo_addNode w_Mo_addNode l_Mo_228 d_Mo_goOn_117 (by decide) (tA_83 k) rfl (Nat.le_of_ble_eq_true rfl) (Nat.le_of_ble_eq_true rfl) h (fun q65 T65 M65 h => ?_)
                obtain ⟨rfl, rfl, h⟩ := h
                obtain ⟨y66, ey66⟩ : ∃ q : Int32, q = x2 + 1 := ⟨_, rfl⟩
                replace h := h y66 ey66
                refine z_iinc (ls' := [some (.ref 83), some (.int x1), some (.int y66), some (.int y3), some (.int 1)]) y66 d_Mo_goOn_120 rfl (ey66 ▸ rfl) (Nat.le_of_ble_eq_true rfl) rfl rfl ?_
                refine z_goto 7 d_Mo_goOn_123 rfl ?_
                exact z_forget [some (.ref 83), some (.int x1), some (.int y66), none, none] (And.intro rfl (And.intro rfl (And.intro rfl (trivial)))) h

set_option maxRecDepth 20000 in
theorem vc_Mo_findNet_0 (E : ZE) (k : Nat) (M : ZM)  (Φ : Option Value → ZS → ZM → Prop)  (h : ((M 83 22) = 0 → ∀ M2 : ZM, M2 = zms M 83 22 1 → zW E m_Mo_findDone 2 (zSt k) M2 0 [some (.ref 83), none, none, none] [] (fun q3 T3 M3 => q3 = none ∧ (zSt k) = T3 ∧ ∀ M4 : ZM, M4 = zms M3 83 21 0 → zW E m_Mo_findNet 5 (zSt k) M4 24 [some (.ref 83), some (.int 0), none] [] Φ)) ∧ (¬ (M 83 22) = 0 → Φ none (zSt k) M)) : zW E m_Mo_findNet 5 (zSt k) M 0 [some (.ref 83), none, none] [] Φ := by
  refine z_aload_n d_Mo_findNet_0 rfl ?_
  refine z_geti f_Mo_137 rfl d_Mo_findNet_1 (tA_83 k) ?_
  refine z_if_eq 8 d_Mo_findNet_4 rfl ⟨fun c1 => ?_, fun c1 => ?_⟩
  · replace h := h.1 c1
    refine z_aload_n d_Mo_findNet_8 rfl ?_
    refine z_iconst 1 d_Mo_findNet_9 (by decide) ?_
    refine z_puti (p_Mo_137 rfl) rfl d_Mo_findNet_10 (tA_83 k) rfl rfl ?_
    refine z_mem (fun M2 eM2 => ?_)
    replace h := h M2 eM2
    refine z_aload_n d_Mo_findNet_13 rfl ?_
    refine z_callV (as := []) (st := []) i_Mo_findDone ⟨rfl, rfl⟩ v_Mo_findDone w_Mo_findDone l_Mo_162 d_Mo_findNet_14 (by decide) (tA_83 k) rfl (Nat.le_of_ble_eq_true rfl) (Nat.le_of_ble_eq_true rfl) h (fun q3 T3 M3 h => ?_)
    obtain ⟨rfl, rfl, h⟩ := h
    refine z_aload_n d_Mo_findNet_17 rfl ?_
    refine z_iconst 0 d_Mo_findNet_18 (by decide) ?_
    refine z_puti (p_Mo_172 rfl) rfl d_Mo_findNet_19 (tA_83 k) rfl rfl ?_
    refine z_mem (fun M4 eM4 => ?_)
    replace h := h M4 eM4
    refine z_iconst 0 d_Mo_findNet_22 (by decide) ?_
    refine z_istore_n (ls' := [some (.ref 83), some (.int 0), none]) d_Mo_findNet_23 (Nat.le_of_ble_eq_true rfl) rfl rfl ?_
    exact z_forget [some (.ref 83), some (.int 0), none] (And.intro rfl (And.intro rfl (trivial))) h
  · replace h := h.2 c1
    exact z_vret rfl d_Mo_findNet_7 h

set_option maxRecDepth 20000 in
theorem vc_Mo_findNet_24 (E : ZE) (k : Nat) (M : ZM) (x1 : Int32) (Φ : Option Value → ZS → ZM → Prop)  (h : (2 ≤ x1 → zW E m_Mo_findNet 5 (zSt k) M 89 [some (.ref 83), some (.int 0), none] [] Φ) ∧ (¬ 2 ≤ x1 → ∃ j2 : Nat, j2 < 2 ∧ x1 = nI j2 ∧ (∃ j3 : Nat, j3 < 2 ∧ x1 = nI j3 ∧ (∀ M4 : ZM, M4 = zms M 104 j3 (M 85 j2) → zW E m_Mo_findNet 5 (zSt k) M4 43 [some (.ref 83), some (.int x1), some (.int 0)] [] Φ)))) : zW E m_Mo_findNet 5 (zSt k) M 24 [some (.ref 83), some (.int x1), none] [] Φ := by
  refine z_iload_n d_Mo_findNet_24 rfl ?_
  refine z_iconst 2 d_Mo_findNet_25 (by decide) ?_
  refine z_icmp_ge 87 d_Mo_findNet_26 rfl ⟨fun c1 => ?_, fun c1 => ?_⟩
  · replace h := h.1 c1
    refine z_iconst 0 d_Mo_findNet_87 (by decide) ?_
    refine z_istore_n (ls' := [some (.ref 83), some (.int 0), none]) d_Mo_findNet_88 (Nat.le_of_ble_eq_true rfl) rfl rfl ?_
    exact z_forget [some (.ref 83), some (.int 0), none] (And.intro rfl (And.intro rfl (trivial))) h
  · replace h := h.2 c1
    refine z_aload_n d_Mo_findNet_29 rfl ?_
    refine z_getr f_Mo_71 rfl d_Mo_findNet_30 (tA_83 k) (tr_83_24 k) ?_
    refine z_iload_n d_Mo_findNet_33 rfl ?_
    refine z_aload_n d_Mo_findNet_34 rfl ?_
    refine z_getr f_Mo_13 rfl d_Mo_findNet_35 (tA_83 k) (tr_83_1 k) ?_
    refine z_iload_n d_Mo_findNet_38 rfl ?_
    obtain ⟨j2, hj2, ej2, h⟩ := h
    refine y_iaload j2 d_Mo_findNet_39 (ta_85 k) hj2 ej2 ?_
    obtain ⟨j3, hj3, ej3, h⟩ := h
    refine y_iastore j3 d_Mo_findNet_40 (ta_104 k) hj3 ej3 ?_
    refine z_mem (fun M4 eM4 => ?_)
    replace h := h M4 eM4
    refine z_iconst 0 d_Mo_findNet_41 (by decide) ?_
    refine z_istore_n (ls' := [some (.ref 83), some (.int x1), some (.int 0)]) d_Mo_findNet_42 (Nat.le_of_ble_eq_true rfl) rfl rfl ?_
    exact z_forget [some (.ref 83), some (.int x1), some (.int 0)] (And.intro rfl (And.intro rfl (And.intro rfl (trivial)))) h

set_option maxRecDepth 20000 in
theorem vc_Mo_findNet_43 (E : ZE) (k : Nat) (M : ZM) (x1 : Int32) (x2 : Int32) (Φ : Option Value → ZS → ZM → Prop)  (h : ∃ j1 : Nat, j1 < 2 ∧ x1 = nI j1 ∧ (((M 85 j1) ≤ x2 → ∀ y3 : Int32, y3 = x1 + 1 → zW E m_Mo_findNet 5 (zSt k) M 24 [some (.ref 83), some (.int y3), none] [] Φ) ∧ (¬ (M 85 j1) ≤ x2 → ∃ j4 : Nat, j4 < 24 ∧ ((12 * x1) + x2) = nI j4 ∧ (∃ j5 : Nat, j5 < 96 ∧ ((48 * x1) + x2) = nI j5 ∧ (∀ M6 : ZM, M6 = zms M 103 j5 (M 84 j4) → ∀ y7 : Int32, y7 = x2 + 1 → zW E m_Mo_findNet 5 (zSt k) M6 43 [some (.ref 83), some (.int x1), some (.int y7)] [] Φ))))) : zW E m_Mo_findNet 5 (zSt k) M 43 [some (.ref 83), some (.int x1), some (.int x2)] [] Φ := by
  refine z_iload_n d_Mo_findNet_43 rfl ?_
  refine z_aload_n d_Mo_findNet_44 rfl ?_
  refine z_getr f_Mo_13 rfl d_Mo_findNet_45 (tA_83 k) (tr_83_1 k) ?_
  refine z_iload_n d_Mo_findNet_48 rfl ?_
  obtain ⟨j1, hj1, ej1, h⟩ := h
  refine y_iaload j1 d_Mo_findNet_49 (ta_85 k) hj1 ej1 ?_
  refine z_icmp_ge 81 d_Mo_findNet_50 rfl ⟨fun c2 => ?_, fun c2 => ?_⟩
  · replace h := h.1 c2
    obtain ⟨y3, ey3⟩ : ∃ q : Int32, q = x1 + 1 := ⟨_, rfl⟩
    replace h := h y3 ey3
    refine z_iinc (ls' := [some (.ref 83), some (.int y3), some (.int x2)]) y3 d_Mo_findNet_81 rfl (ey3 ▸ rfl) (Nat.le_of_ble_eq_true rfl) rfl rfl ?_
    refine z_goto 24 d_Mo_findNet_84 rfl ?_
    exact z_forget [some (.ref 83), some (.int y3), none] (And.intro rfl (And.intro rfl (trivial))) h
  · replace h := h.2 c2
    refine z_aload_n d_Mo_findNet_53 rfl ?_
    refine z_getr f_Mo_68 rfl d_Mo_findNet_54 (tA_83 k) (tr_83_23 k) ?_
    refine z_bipush 48 d_Mo_findNet_57 (by decide) ?_
    refine z_iload_n d_Mo_findNet_59 rfl ?_
    refine z_imul d_Mo_findNet_60 ?_
    refine z_iload_n d_Mo_findNet_61 rfl ?_
    refine z_iadd d_Mo_findNet_62 ?_
    refine z_aload_n d_Mo_findNet_63 rfl ?_
    refine z_getr f_Mo_7 rfl d_Mo_findNet_64 (tA_83 k) (tr_83_0 k) ?_
    refine z_bipush 12 d_Mo_findNet_67 (by decide) ?_
    refine z_iload_n d_Mo_findNet_69 rfl ?_
    refine z_imul d_Mo_findNet_70 ?_
    refine z_iload_n d_Mo_findNet_71 rfl ?_
    refine z_iadd d_Mo_findNet_72 ?_
    obtain ⟨j4, hj4, ej4, h⟩ := h
    refine y_iaload j4 d_Mo_findNet_73 (ta_84 k) hj4 ej4 ?_
    obtain ⟨j5, hj5, ej5, h⟩ := h
    refine y_iastore j5 d_Mo_findNet_74 (ta_103 k) hj5 ej5 ?_
    refine z_mem (fun M6 eM6 => ?_)
    replace h := h M6 eM6
    obtain ⟨y7, ey7⟩ : ∃ q : Int32, q = x2 + 1 := ⟨_, rfl⟩
    replace h := h y7 ey7
    refine z_iinc (ls' := [some (.ref 83), some (.int x1), some (.int y7)]) y7 d_Mo_findNet_75 rfl (ey7 ▸ rfl) (Nat.le_of_ble_eq_true rfl) rfl rfl ?_
    refine z_goto 43 d_Mo_findNet_78 rfl ?_
    exact z_forget [some (.ref 83), some (.int x1), some (.int y7)] (And.intro rfl (And.intro rfl (And.intro rfl (trivial)))) h

set_option maxRecDepth 20000 in
theorem vc_Mo_findNet_89 (E : ZE) (k : Nat) (M : ZM) (x1 : Int32) (Φ : Option Value → ZS → ZM → Prop)  (h : (9 ≤ x1 → zW E m_Mo_lean 1 (zSt k) M 0 [some (.ref 83)] [] (fun q2 T2 M2 => q2 = none ∧ (zSt k) = T2 ∧ zW E m_Mo_addNode 0 (zSt k) M2 0 [some (.ref 83), some (.int 0), some (.int (-6)), some (.int (-6)), none, none] [] (fun q3 T3 M3 => q3 = none ∧ (zSt k) = T3 ∧ zW E m_Mo_findNet 5 (zSt k) M3 128 [some (.ref 83), some (.int 0), none] [] Φ))) ∧ (¬ 9 ≤ x1 → ∃ j4 : Nat, j4 < 9 ∧ x1 = nI j4 ∧ (∃ j5 : Nat, j5 < 9 ∧ x1 = nI j5 ∧ (∀ M6 : ZM, M6 = zms M 105 j5 (M 87 j4) → ∀ y7 : Int32, y7 = x1 + 1 → zW E m_Mo_findNet 5 (zSt k) M6 89 [some (.ref 83), some (.int y7), none] [] Φ)))) : zW E m_Mo_findNet 5 (zSt k) M 89 [some (.ref 83), some (.int x1), none] [] Φ := by
  refine z_iload_n d_Mo_findNet_89 rfl ?_
  refine z_bipush 9 d_Mo_findNet_90 (by decide) ?_
  refine z_icmp_ge 113 d_Mo_findNet_92 rfl ⟨fun c1 => ?_, fun c1 => ?_⟩
  · replace h := h.1 c1
    refine z_aload_n d_Mo_findNet_113 rfl ?_
    refine z_callV (as := []) (st := []) i_Mo_lean ⟨rfl, rfl⟩ v_Mo_lean w_Mo_lean l_Mo_211 d_Mo_findNet_114 (by decide) (tA_83 k) rfl (Nat.le_of_ble_eq_true rfl) (Nat.le_of_ble_eq_true rfl) h (fun q2 T2 M2 h => ?_)
    obtain ⟨rfl, rfl, h⟩ := h
    refine z_aload_n d_Mo_findNet_117 rfl ?_
    refine z_iconst 0 d_Mo_findNet_118 (by decide) ?_
    refine z_bipush (-6) d_Mo_findNet_119 (by decide) ?_
    refine z_bipush (-6) d_Mo_findNet_121 (by decide) ?_
    refine z_callV (as := [.int 0, .int (-6), .int (-6)]) (st := []) i_Mo_addNode ⟨rfl, rfl⟩ v_Mo_addNode w_Mo_addNode l_Mo_228 d_Mo_findNet_123 (by decide) (tA_83 k) rfl (Nat.le_of_ble_eq_true rfl) (Nat.le_of_ble_eq_true rfl) h (fun q3 T3 M3 h => ?_)
    obtain ⟨rfl, rfl, h⟩ := h
    refine z_iconst 0 d_Mo_findNet_126 (by decide) ?_
    refine z_istore_n (ls' := [some (.ref 83), some (.int 0), none]) d_Mo_findNet_127 (Nat.le_of_ble_eq_true rfl) rfl rfl ?_
    exact z_forget [some (.ref 83), some (.int 0), none] (And.intro rfl (And.intro rfl (trivial))) h
  · replace h := h.2 c1
    refine z_aload_n d_Mo_findNet_95 rfl ?_
    refine z_getr f_Mo_74 rfl d_Mo_findNet_96 (tA_83 k) (tr_83_25 k) ?_
    refine z_iload_n d_Mo_findNet_99 rfl ?_
    refine z_aload_n d_Mo_findNet_100 rfl ?_
    refine z_getr f_Mo_19 rfl d_Mo_findNet_101 (tA_83 k) (tr_83_3 k) ?_
    refine z_iload_n d_Mo_findNet_104 rfl ?_
    obtain ⟨j4, hj4, ej4, h⟩ := h
    refine y_iaload j4 d_Mo_findNet_105 (ta_87 k) hj4 ej4 ?_
    obtain ⟨j5, hj5, ej5, h⟩ := h
    refine y_iastore j5 d_Mo_findNet_106 (ta_105 k) hj5 ej5 ?_
    refine z_mem (fun M6 eM6 => ?_)
    replace h := h M6 eM6
    obtain ⟨y7, ey7⟩ : ∃ q : Int32, q = x1 + 1 := ⟨_, rfl⟩
    replace h := h y7 ey7
    refine z_iinc (ls' := [some (.ref 83), some (.int y7), none]) y7 d_Mo_findNet_107 rfl (ey7 ▸ rfl) (Nat.le_of_ble_eq_true rfl) rfl rfl ?_
    refine z_goto 89 d_Mo_findNet_110 rfl ?_
    exact z_forget [some (.ref 83), some (.int y7), none] (And.intro rfl (And.intro rfl (trivial))) h

set_option maxRecDepth 20000 in
theorem vc_Mo_findNet_128 (E : ZE) (k : Nat) (M : ZM) (x1 : Int32) (Φ : Option Value → ZS → ZM → Prop)  (h : ((M 83 21) ≤ x1 → Φ none (zSt k) M) ∧ (¬ (M 83 21) ≤ x1 → zW E m_Mo_isEnd 2 (zSt k) M 0 [some (.ref 83), some (.int x1), none] [] (fun q2 T2 M2 => ∃ y2 : Int32, q2 = some (.int y2) ∧ (zSt k) = T2 ∧ (¬ y2 = 0 → ∀ y4 : Int32, y4 = x1 + 1 → zW E m_Mo_findNet 5 (zSt k) M2 128 [some (.ref 83), some (.int y4), none] [] Φ) ∧ (y2 = 0 → zW E m_Mo_goOn 4 (zSt k) M2 0 [some (.ref 83), some (.int x1), none, none, none] [] (fun q5 T5 M5 => q5 = none ∧ (zSt k) = T5 ∧ ∀ y6 : Int32, y6 = x1 + 1 → zW E m_Mo_findNet 5 (zSt k) M5 128 [some (.ref 83), some (.int y6), none] [] Φ))))) : zW E m_Mo_findNet 5 (zSt k) M 128 [some (.ref 83), some (.int x1), none] [] Φ := by
  refine z_iload_n d_Mo_findNet_128 rfl ?_
  refine z_aload_n d_Mo_findNet_129 rfl ?_
  refine z_geti f_Mo_172 rfl d_Mo_findNet_130 (tA_83 k) ?_
  refine z_icmp_ge 155 d_Mo_findNet_133 rfl ⟨fun c1 => ?_, fun c1 => ?_⟩
  · replace h := h.1 c1
    exact z_vret rfl d_Mo_findNet_155 h
  · replace h := h.2 c1
    refine z_aload_n d_Mo_findNet_136 rfl ?_
    refine z_iload_n d_Mo_findNet_137 rfl ?_
    refine z_callV (as := [.int x1]) (st := []) i_Mo_isEnd ⟨rfl, rfl⟩ v_Mo_isEnd w_Mo_isEnd l_Mo_231 d_Mo_findNet_138 (by decide) (tA_83 k) rfl (Nat.le_of_ble_eq_true rfl) (Nat.le_of_ble_eq_true rfl) h (fun q2 T2 M2 h => ?_)
    obtain ⟨y2, rfl, rfl, h⟩ := h
    refine z_if_ne 149 d_Mo_findNet_141 rfl ⟨fun c3 => ?_, fun c3 => ?_⟩
    · replace h := h.1 c3
      obtain ⟨y4, ey4⟩ : ∃ q : Int32, q = x1 + 1 := ⟨_, rfl⟩
      replace h := h y4 ey4
      refine z_iinc (ls' := [some (.ref 83), some (.int y4), none]) y4 d_Mo_findNet_149 rfl (ey4 ▸ rfl) (Nat.le_of_ble_eq_true rfl) rfl rfl ?_
      refine z_goto 128 d_Mo_findNet_152 rfl ?_
      exact z_forget [some (.ref 83), some (.int y4), none] (And.intro rfl (And.intro rfl (trivial))) h
    · replace h := h.2 c3
      refine z_aload_n d_Mo_findNet_144 rfl ?_
      refine z_iload_n d_Mo_findNet_145 rfl ?_
      refine z_callV (as := [.int x1]) (st := []) i_Mo_goOn ⟨rfl, rfl⟩ v_Mo_goOn w_Mo_goOn l_Mo_234 d_Mo_findNet_146 (by decide) (tA_83 k) rfl (Nat.le_of_ble_eq_true rfl) (Nat.le_of_ble_eq_true rfl) h (fun q5 T5 M5 h => ?_)
      obtain ⟨rfl, rfl, h⟩ := h
      obtain ⟨y6, ey6⟩ : ∃ q : Int32, q = x1 + 1 := ⟨_, rfl⟩
      replace h := h y6 ey6
      refine z_iinc (ls' := [some (.ref 83), some (.int y6), none]) y6 d_Mo_findNet_149 rfl (ey6 ▸ rfl) (Nat.le_of_ble_eq_true rfl) rfl rfl ?_
      refine z_goto 128 d_Mo_findNet_152 rfl ?_
      exact z_forget [some (.ref 83), some (.int y6), none] (And.intro rfl (And.intro rfl (trivial))) h

set_option maxRecDepth 20000 in
theorem vc_Mo_firstEnd_0 (E : ZE) (k : Nat) (M : ZM)  (Φ : Option Value → ZS → ZM → Prop)  (h : zW E m_Mo_firstEnd 3 (zSt k) M 2 [some (.ref 83), some (.int 0)] [] Φ) : zW E m_Mo_firstEnd 3 (zSt k) M 0 [some (.ref 83), none] [] Φ := by
  refine z_iconst 0 d_Mo_firstEnd_0 (by decide) ?_
  refine z_istore_n (ls' := [some (.ref 83), some (.int 0)]) d_Mo_firstEnd_1 (Nat.le_of_ble_eq_true rfl) rfl rfl ?_
  exact z_forget [some (.ref 83), some (.int 0)] (And.intro rfl (And.intro rfl (trivial))) h

set_option maxRecDepth 20000 in
theorem vc_Mo_firstEnd_2 (E : ZE) (k : Nat) (M : ZM) (x1 : Int32) (Φ : Option Value → ZS → ZM → Prop)  (h : ((M 83 21) ≤ x1 → Φ (some (.int (-6))) (zSt k) M) ∧ (¬ (M 83 21) ≤ x1 → zW E m_Mo_isEnd 2 (zSt k) M 0 [some (.ref 83), some (.int x1), none] [] (fun q2 T2 M2 => ∃ y2 : Int32, q2 = some (.int y2) ∧ (zSt k) = T2 ∧ (y2 = 0 → ∀ y4 : Int32, y4 = x1 + 1 → zW E m_Mo_firstEnd 3 (zSt k) M2 2 [some (.ref 83), some (.int y4)] [] Φ) ∧ (¬ y2 = 0 → Φ (some (.int x1)) (zSt k) M2)))) : zW E m_Mo_firstEnd 3 (zSt k) M 2 [some (.ref 83), some (.int x1)] [] Φ := by
  refine z_iload_n d_Mo_firstEnd_2 rfl ?_
  refine z_aload_n d_Mo_firstEnd_3 rfl ?_
  refine z_geti f_Mo_172 rfl d_Mo_firstEnd_4 (tA_83 k) ?_
  refine z_icmp_ge 26 d_Mo_firstEnd_7 rfl ⟨fun c1 => ?_, fun c1 => ?_⟩
  · replace h := h.1 c1
    refine z_bipush (-6) d_Mo_firstEnd_26 (by decide) ?_
    exact z_iret rfl d_Mo_firstEnd_28 h
  · replace h := h.2 c1
    refine z_aload_n d_Mo_firstEnd_10 rfl ?_
    refine z_iload_n d_Mo_firstEnd_11 rfl ?_
    refine z_callV (as := [.int x1]) (st := []) i_Mo_isEnd ⟨rfl, rfl⟩ v_Mo_isEnd w_Mo_isEnd l_Mo_231 d_Mo_firstEnd_12 (by decide) (tA_83 k) rfl (Nat.le_of_ble_eq_true rfl) (Nat.le_of_ble_eq_true rfl) h (fun q2 T2 M2 h => ?_)
    obtain ⟨y2, rfl, rfl, h⟩ := h
    refine z_if_eq 20 d_Mo_firstEnd_15 rfl ⟨fun c3 => ?_, fun c3 => ?_⟩
    · replace h := h.1 c3
      obtain ⟨y4, ey4⟩ : ∃ q : Int32, q = x1 + 1 := ⟨_, rfl⟩
      replace h := h y4 ey4
      refine z_iinc (ls' := [some (.ref 83), some (.int y4)]) y4 d_Mo_firstEnd_20 rfl (ey4 ▸ rfl) (Nat.le_of_ble_eq_true rfl) rfl rfl ?_
      refine z_goto 2 d_Mo_firstEnd_23 rfl ?_
      exact z_forget [some (.ref 83), some (.int y4)] (And.intro rfl (And.intro rfl (trivial))) h
    · replace h := h.2 c3
      refine z_iload_n d_Mo_firstEnd_18 rfl ?_
      exact z_iret rfl d_Mo_firstEnd_19 h

set_option maxRecDepth 20000 in
theorem vc_Mo_cuts_0 (E : ZE) (k : Nat) (M : ZM)  (Φ : Option Value → ZS → ZM → Prop)  (h : zW E m_Mo_cuts 0 (zSt k) M 4 [some (.ref 83), some (.int 0), some (.int 0)] [] Φ) : zW E m_Mo_cuts 0 (zSt k) M 0 [some (.ref 83), none, none] [] Φ := by
  refine z_iconst 0 d_Mo_cuts_0 (by decide) ?_
  refine z_istore_n (ls' := [some (.ref 83), some (.int 0), none]) d_Mo_cuts_1 (Nat.le_of_ble_eq_true rfl) rfl rfl ?_
  refine z_iconst 0 d_Mo_cuts_2 (by decide) ?_
  refine z_istore_n (ls' := [some (.ref 83), some (.int 0), some (.int 0)]) d_Mo_cuts_3 (Nat.le_of_ble_eq_true rfl) rfl rfl ?_
  exact z_forget [some (.ref 83), some (.int 0), some (.int 0)] (And.intro rfl (And.intro rfl (And.intro rfl (trivial)))) h

set_option maxRecDepth 20000 in
theorem vc_Mo_cuts_4 (E : ZE) (k : Nat) (M : ZM) (x1 : Int32) (x2 : Int32) (Φ : Option Value → ZS → ZM → Prop)  (h : ((M 83 21) ≤ x2 → Φ (some (.int x1)) (zSt k) M) ∧ (¬ (M 83 21) ≤ x2 → ∃ j2 : Nat, j2 < 150 ∧ x2 = nI j2 ∧ (((M 102 j2) = 0 → ∀ y4 : Int32, y4 = (x1 + 0) → ∀ y5 : Int32, y5 = x2 + 1 → zW E m_Mo_cuts 0 (zSt k) M 4 [some (.ref 83), some (.int y4), some (.int y5)] [] Φ) ∧ (¬ (M 102 j2) = 0 → ∀ y6 : Int32, y6 = (x1 + 1) → ∀ y7 : Int32, y7 = x2 + 1 → zW E m_Mo_cuts 0 (zSt k) M 4 [some (.ref 83), some (.int y6), some (.int y7)] [] Φ)))) : zW E m_Mo_cuts 0 (zSt k) M 4 [some (.ref 83), some (.int x1), some (.int x2)] [] Φ := by
  refine z_iload_n d_Mo_cuts_4 rfl ?_
  refine z_aload_n d_Mo_cuts_5 rfl ?_
  refine z_geti f_Mo_172 rfl d_Mo_cuts_6 (tA_83 k) ?_
  refine z_icmp_ge 35 d_Mo_cuts_9 rfl ⟨fun c1 => ?_, fun c1 => ?_⟩
  · replace h := h.1 c1
    refine z_iload_n d_Mo_cuts_35 rfl ?_
    exact z_iret rfl d_Mo_cuts_36 h
  · replace h := h.2 c1
    refine z_iload_n d_Mo_cuts_12 rfl ?_
    refine z_aload_n d_Mo_cuts_13 rfl ?_
    refine z_getr f_Mo_64 rfl d_Mo_cuts_14 (tA_83 k) (tr_83_20 k) ?_
    refine z_iload_n d_Mo_cuts_17 rfl ?_
    obtain ⟨j2, hj2, ej2, h⟩ := h
    refine y_baload j2 d_Mo_cuts_18 (ta_102 k) hj2 ej2 ?_
    refine z_if_eq 26 d_Mo_cuts_19 rfl ⟨fun c3 => ?_, fun c3 => ?_⟩
    · replace h := h.1 c3
      refine z_iconst 0 d_Mo_cuts_26 (by decide) ?_
      refine z_iadd d_Mo_cuts_27 ?_
      refine z_name (fun y4 ey4 => ?_)
      replace h := h y4 ey4
      refine z_istore_n (ls' := [some (.ref 83), some (.int y4), some (.int x2)]) d_Mo_cuts_28 (Nat.le_of_ble_eq_true rfl) rfl rfl ?_
      obtain ⟨y5, ey5⟩ : ∃ q : Int32, q = x2 + 1 := ⟨_, rfl⟩
      replace h := h y5 ey5
      refine z_iinc (ls' := [some (.ref 83), some (.int y4), some (.int y5)]) y5 d_Mo_cuts_29 rfl (ey5 ▸ rfl) (Nat.le_of_ble_eq_true rfl) rfl rfl ?_
      refine z_goto 4 d_Mo_cuts_32 rfl ?_
      exact z_forget [some (.ref 83), some (.int y4), some (.int y5)] (And.intro rfl (And.intro rfl (And.intro rfl (trivial)))) h
    · replace h := h.2 c3
      refine z_iconst 1 d_Mo_cuts_22 (by decide) ?_
      refine z_goto 27 d_Mo_cuts_23 rfl ?_
      refine z_iadd d_Mo_cuts_27 ?_
      refine z_name (fun y6 ey6 => ?_)
      replace h := h y6 ey6
      refine z_istore_n (ls' := [some (.ref 83), some (.int y6), some (.int x2)]) d_Mo_cuts_28 (Nat.le_of_ble_eq_true rfl) rfl rfl ?_
      obtain ⟨y7, ey7⟩ : ∃ q : Int32, q = x2 + 1 := ⟨_, rfl⟩
      replace h := h y7 ey7
      refine z_iinc (ls' := [some (.ref 83), some (.int y6), some (.int y7)]) y7 d_Mo_cuts_29 rfl (ey7 ▸ rfl) (Nat.le_of_ble_eq_true rfl) rfl rfl ?_
      refine z_goto 4 d_Mo_cuts_32 rfl ?_
      exact z_forget [some (.ref 83), some (.int y6), some (.int y7)] (And.intro rfl (And.intro rfl (And.intro rfl (trivial)))) h

set_option maxRecDepth 20000 in
theorem vc_Mo_mostOfOne_0 (E : ZE) (k : Nat) (M : ZM)  (Φ : Option Value → ZS → ZM → Prop)  (h : zW E m_Mo_mostOfOne 0 (zSt k) M 4 [some (.ref 83), some (.int 0), some (.int 0), none, none, none] [] Φ) : zW E m_Mo_mostOfOne 0 (zSt k) M 0 [some (.ref 83), none, none, none, none, none] [] Φ := by
  refine z_iconst 0 d_Mo_mostOfOne_0 (by decide) ?_
  refine z_istore_n (ls' := [some (.ref 83), some (.int 0), none, none, none, none]) d_Mo_mostOfOne_1 (Nat.le_of_ble_eq_true rfl) rfl rfl ?_
  refine z_iconst 0 d_Mo_mostOfOne_2 (by decide) ?_
  refine z_istore_n (ls' := [some (.ref 83), some (.int 0), some (.int 0), none, none, none]) d_Mo_mostOfOne_3 (Nat.le_of_ble_eq_true rfl) rfl rfl ?_
  exact z_forget [some (.ref 83), some (.int 0), some (.int 0), none, none, none] (And.intro rfl (And.intro rfl (And.intro rfl (trivial)))) h

set_option maxRecDepth 20000 in
theorem vc_Mo_mostOfOne_4 (E : ZE) (k : Nat) (M : ZM) (x1 : Int32) (x2 : Int32) (Φ : Option Value → ZS → ZM → Prop)  (h : (3 ≤ x2 → Φ (some (.int x1)) (zSt k) M) ∧ (¬ 3 ≤ x2 → zW E m_Mo_mostOfOne 0 (zSt k) M 14 [some (.ref 83), some (.int x1), some (.int x2), some (.int 0), some (.int 0), none] [] Φ)) : zW E m_Mo_mostOfOne 0 (zSt k) M 4 [some (.ref 83), some (.int x1), some (.int x2), none, none, none] [] Φ := by
  refine z_iload_n d_Mo_mostOfOne_4 rfl ?_
  refine z_iconst 3 d_Mo_mostOfOne_5 (by decide) ?_
  refine z_icmp_ge 91 d_Mo_mostOfOne_6 rfl ⟨fun c1 => ?_, fun c1 => ?_⟩
  · replace h := h.1 c1
    refine z_iload_n d_Mo_mostOfOne_91 rfl ?_
    exact z_iret rfl d_Mo_mostOfOne_92 h
  · replace h := h.2 c1
    refine z_iconst 0 d_Mo_mostOfOne_9 (by decide) ?_
    refine z_istore_n (ls' := [some (.ref 83), some (.int x1), some (.int x2), some (.int 0), none, none]) d_Mo_mostOfOne_10 (Nat.le_of_ble_eq_true rfl) rfl rfl ?_
    refine z_iconst 0 d_Mo_mostOfOne_11 (by decide) ?_
    refine z_istore (ls' := [some (.ref 83), some (.int x1), some (.int x2), some (.int 0), some (.int 0), none]) d_Mo_mostOfOne_12 (Nat.le_of_ble_eq_true rfl) rfl rfl ?_
    exact z_forget [some (.ref 83), some (.int x1), some (.int x2), some (.int 0), some (.int 0), none] (And.intro rfl (And.intro rfl (And.intro rfl (And.intro rfl (And.intro rfl (trivial)))))) h

set_option maxRecDepth 20000 in
theorem vc_Mo_mostOfOne_14 (E : ZE) (k : Nat) (M : ZM) (x1 : Int32) (x2 : Int32) (x3 : Int32) (x4 : Int32) (Φ : Option Value → ZS → ZM → Prop)  (h : (2 ≤ x4 → (x3 ≤ x1 → ∀ y3 : Int32, y3 = x2 + 1 → zW E m_Mo_mostOfOne 0 (zSt k) M 4 [some (.ref 83), some (.int x1), some (.int y3), none, none, none] [] Φ) ∧ (¬ x3 ≤ x1 → ∀ y4 : Int32, y4 = x2 + 1 → zW E m_Mo_mostOfOne 0 (zSt k) M 4 [some (.ref 83), some (.int x3), some (.int y4), none, none, none] [] Φ)) ∧ (¬ 2 ≤ x4 → zW E m_Mo_mostOfOne 0 (zSt k) M 23 [some (.ref 83), some (.int x1), some (.int x2), some (.int x3), some (.int x4), some (.int 0)] [] Φ)) : zW E m_Mo_mostOfOne 0 (zSt k) M 14 [some (.ref 83), some (.int x1), some (.int x2), some (.int x3), some (.int x4), none] [] Φ := by
  refine z_iload d_Mo_mostOfOne_14 rfl ?_
  refine z_iconst 2 d_Mo_mostOfOne_16 (by decide) ?_
  refine z_icmp_ge 74 d_Mo_mostOfOne_17 rfl ⟨fun c1 => ?_, fun c1 => ?_⟩
  · replace h := h.1 c1
    refine z_iload_n d_Mo_mostOfOne_74 rfl ?_
    refine z_iload_n d_Mo_mostOfOne_75 rfl ?_
    refine z_icmp_le 83 d_Mo_mostOfOne_76 rfl ⟨fun c2 => ?_, fun c2 => ?_⟩
    · replace h := h.1 c2
      refine z_iload_n d_Mo_mostOfOne_83 rfl ?_
      refine z_istore_n (ls' := [some (.ref 83), some (.int x1), some (.int x2), some (.int x3), some (.int x4), none]) d_Mo_mostOfOne_84 (Nat.le_of_ble_eq_true rfl) rfl rfl ?_
      obtain ⟨y3, ey3⟩ : ∃ q : Int32, q = x2 + 1 := ⟨_, rfl⟩
      replace h := h y3 ey3
      refine z_iinc (ls' := [some (.ref 83), some (.int x1), some (.int y3), some (.int x3), some (.int x4), none]) y3 d_Mo_mostOfOne_85 rfl (ey3 ▸ rfl) (Nat.le_of_ble_eq_true rfl) rfl rfl ?_
      refine z_goto 4 d_Mo_mostOfOne_88 rfl ?_
      exact z_forget [some (.ref 83), some (.int x1), some (.int y3), none, none, none] (And.intro rfl (And.intro rfl (And.intro rfl (trivial)))) h
    · replace h := h.2 c2
      refine z_iload_n d_Mo_mostOfOne_79 rfl ?_
      refine z_goto 84 d_Mo_mostOfOne_80 rfl ?_
      refine z_istore_n (ls' := [some (.ref 83), some (.int x3), some (.int x2), some (.int x3), some (.int x4), none]) d_Mo_mostOfOne_84 (Nat.le_of_ble_eq_true rfl) rfl rfl ?_
      obtain ⟨y4, ey4⟩ : ∃ q : Int32, q = x2 + 1 := ⟨_, rfl⟩
      replace h := h y4 ey4
      refine z_iinc (ls' := [some (.ref 83), some (.int x3), some (.int y4), some (.int x3), some (.int x4), none]) y4 d_Mo_mostOfOne_85 rfl (ey4 ▸ rfl) (Nat.le_of_ble_eq_true rfl) rfl rfl ?_
      refine z_goto 4 d_Mo_mostOfOne_88 rfl ?_
      exact z_forget [some (.ref 83), some (.int x3), some (.int y4), none, none, none] (And.intro rfl (And.intro rfl (And.intro rfl (trivial)))) h
  · replace h := h.2 c1
    refine z_iconst 0 d_Mo_mostOfOne_20 (by decide) ?_
    refine z_istore (ls' := [some (.ref 83), some (.int x1), some (.int x2), some (.int x3), some (.int x4), some (.int 0)]) d_Mo_mostOfOne_21 (Nat.le_of_ble_eq_true rfl) rfl rfl ?_
    exact z_forget [some (.ref 83), some (.int x1), some (.int x2), some (.int x3), some (.int x4), some (.int 0)] (And.intro rfl (And.intro rfl (And.intro rfl (And.intro rfl (And.intro rfl (And.intro rfl (trivial))))))) h

set_option maxRecDepth 20000 in
theorem vc_Mo_mostOfOne_23 (E : ZE) (k : Nat) (M : ZM) (x1 : Int32) (x2 : Int32) (x3 : Int32) (x4 : Int32) (x5 : Int32) (Φ : Option Value → ZS → ZM → Prop)  (h : ∃ j1 : Nat, j1 < 2 ∧ x4 = nI j1 ∧ (((M 85 j1) ≤ x5 → ∀ y3 : Int32, y3 = x4 + 1 → zW E m_Mo_mostOfOne 0 (zSt k) M 14 [some (.ref 83), some (.int x1), some (.int x2), some (.int x3), some (.int y3), none] [] Φ) ∧ (¬ (M 85 j1) ≤ x5 → ∃ j4 : Nat, j4 < 24 ∧ ((12 * x4) + x5) = nI j4 ∧ ((¬ (M 84 j4) = (x2 + 2) → ∀ y6 : Int32, y6 = (x3 + 0) → ∀ y7 : Int32, y7 = x5 + 1 → zW E m_Mo_mostOfOne 0 (zSt k) M 23 [some (.ref 83), some (.int x1), some (.int x2), some (.int y6), some (.int x4), some (.int y7)] [] Φ) ∧ ((M 84 j4) = (x2 + 2) → ∀ y8 : Int32, y8 = (x3 + 1) → ∀ y9 : Int32, y9 = x5 + 1 → zW E m_Mo_mostOfOne 0 (zSt k) M 23 [some (.ref 83), some (.int x1), some (.int x2), some (.int y8), some (.int x4), some (.int y9)] [] Φ))))) : zW E m_Mo_mostOfOne 0 (zSt k) M 23 [some (.ref 83), some (.int x1), some (.int x2), some (.int x3), some (.int x4), some (.int x5)] [] Φ := by
  refine z_iload d_Mo_mostOfOne_23 rfl ?_
  refine z_aload_n d_Mo_mostOfOne_25 rfl ?_
  refine z_getr f_Mo_13 rfl d_Mo_mostOfOne_26 (tA_83 k) (tr_83_1 k) ?_
  refine z_iload d_Mo_mostOfOne_29 rfl ?_
  obtain ⟨j1, hj1, ej1, h⟩ := h
  refine y_iaload j1 d_Mo_mostOfOne_31 (ta_85 k) hj1 ej1 ?_
  refine z_icmp_ge 68 d_Mo_mostOfOne_32 rfl ⟨fun c2 => ?_, fun c2 => ?_⟩
  · replace h := h.1 c2
    obtain ⟨y3, ey3⟩ : ∃ q : Int32, q = x4 + 1 := ⟨_, rfl⟩
    replace h := h y3 ey3
    refine z_iinc (ls' := [some (.ref 83), some (.int x1), some (.int x2), some (.int x3), some (.int y3), some (.int x5)]) y3 d_Mo_mostOfOne_68 rfl (ey3 ▸ rfl) (Nat.le_of_ble_eq_true rfl) rfl rfl ?_
    refine z_goto 14 d_Mo_mostOfOne_71 rfl ?_
    exact z_forget [some (.ref 83), some (.int x1), some (.int x2), some (.int x3), some (.int y3), none] (And.intro rfl (And.intro rfl (And.intro rfl (And.intro rfl (And.intro rfl (trivial)))))) h
  · replace h := h.2 c2
    refine z_iload_n d_Mo_mostOfOne_35 rfl ?_
    refine z_aload_n d_Mo_mostOfOne_36 rfl ?_
    refine z_getr f_Mo_7 rfl d_Mo_mostOfOne_37 (tA_83 k) (tr_83_0 k) ?_
    refine z_bipush 12 d_Mo_mostOfOne_40 (by decide) ?_
    refine z_iload d_Mo_mostOfOne_42 rfl ?_
    refine z_imul d_Mo_mostOfOne_44 ?_
    refine z_iload d_Mo_mostOfOne_45 rfl ?_
    refine z_iadd d_Mo_mostOfOne_47 ?_
    obtain ⟨j4, hj4, ej4, h⟩ := h
    refine y_iaload j4 d_Mo_mostOfOne_48 (ta_84 k) hj4 ej4 ?_
    refine z_iload_n d_Mo_mostOfOne_49 rfl ?_
    refine z_iconst 2 d_Mo_mostOfOne_50 (by decide) ?_
    refine z_iadd d_Mo_mostOfOne_51 ?_
    refine z_icmp_ne 59 d_Mo_mostOfOne_52 rfl ⟨fun c5 => ?_, fun c5 => ?_⟩
    · replace h := h.1 c5
      refine z_iconst 0 d_Mo_mostOfOne_59 (by decide) ?_
      refine z_iadd d_Mo_mostOfOne_60 ?_
      refine z_name (fun y6 ey6 => ?_)
      replace h := h y6 ey6
      refine z_istore_n (ls' := [some (.ref 83), some (.int x1), some (.int x2), some (.int y6), some (.int x4), some (.int x5)]) d_Mo_mostOfOne_61 (Nat.le_of_ble_eq_true rfl) rfl rfl ?_
      obtain ⟨y7, ey7⟩ : ∃ q : Int32, q = x5 + 1 := ⟨_, rfl⟩
      replace h := h y7 ey7
      refine z_iinc (ls' := [some (.ref 83), some (.int x1), some (.int x2), some (.int y6), some (.int x4), some (.int y7)]) y7 d_Mo_mostOfOne_62 rfl (ey7 ▸ rfl) (Nat.le_of_ble_eq_true rfl) rfl rfl ?_
      refine z_goto 23 d_Mo_mostOfOne_65 rfl ?_
      exact z_forget [some (.ref 83), some (.int x1), some (.int x2), some (.int y6), some (.int x4), some (.int y7)] (And.intro rfl (And.intro rfl (And.intro rfl (And.intro rfl (And.intro rfl (And.intro rfl (trivial))))))) h
    · replace h := h.2 c5
      refine z_iconst 1 d_Mo_mostOfOne_55 (by decide) ?_
      refine z_goto 60 d_Mo_mostOfOne_56 rfl ?_
      refine z_iadd d_Mo_mostOfOne_60 ?_
      refine z_name (fun y8 ey8 => ?_)
      replace h := h y8 ey8
      refine z_istore_n (ls' := [some (.ref 83), some (.int x1), some (.int x2), some (.int y8), some (.int x4), some (.int x5)]) d_Mo_mostOfOne_61 (Nat.le_of_ble_eq_true rfl) rfl rfl ?_
      obtain ⟨y9, ey9⟩ : ∃ q : Int32, q = x5 + 1 := ⟨_, rfl⟩
      replace h := h y9 ey9
      refine z_iinc (ls' := [some (.ref 83), some (.int x1), some (.int x2), some (.int y8), some (.int x4), some (.int y9)]) y9 d_Mo_mostOfOne_62 rfl (ey9 ▸ rfl) (Nat.le_of_ble_eq_true rfl) rfl rfl ?_
      refine z_goto 23 d_Mo_mostOfOne_65 rfl ?_
      exact z_forget [some (.ref 83), some (.int x1), some (.int x2), some (.int y8), some (.int x4), some (.int y9)] (And.intro rfl (And.intro rfl (And.intro rfl (And.intro rfl (And.intro rfl (And.intro rfl (trivial))))))) h

set_option maxRecDepth 20000 in
theorem vc_Mo_net_0 (E : ZE) (k : Nat) (M : ZM) (x1 : Int32) (Φ : Option Value → ZS → ZM → Prop)  (h : zW E m_Mo_in 0 (zSt k) M 0 [some (.long (Int32.toInt64 x1)), none, some (.long 0), none, some (.long 5), none] [] (fun q1 T1 M1 => ∃ y1 : Int32, q1 = some (.int y1) ∧ (zSt k) = T1 ∧ (¬ y1 = 0 → zW E m_Mo_findNet 5 (zSt k) M1 0 [some (.ref 83), none, none] [] (fun q3 T3 M3 => q3 = none ∧ (zSt k) = T3 ∧ (Int32.toInt x1 < 0 ∨ 4 < Int32.toInt x1 → zW E m_Mo_mostOfOne 0 (zSt k) M3 0 [some (.ref 83), none, none, none, none, none] [] (fun q5 T5 M5 => ∃ y5 : Int32, q5 = some (.int y5) ∧ (zSt k) = T5 ∧ Φ (some (.int y5)) (zSt k) M5)) ∧ (Int32.toInt x1 = 0 → Φ (some (.int (M3 83 21))) (zSt k) M3) ∧ (Int32.toInt x1 = 1 → zW E m_Mo_firstEnd 3 (zSt k) M3 0 [some (.ref 83), none] [] (fun q6 T6 M6 => ∃ y6 : Int32, q6 = some (.int y6) ∧ (zSt k) = T6 ∧ (y6 < 0 → zW E m_Mo_cuts 0 (zSt k) M6 0 [some (.ref 83), none, none] [] (fun q8 T8 M8 => ∃ y8 : Int32, q8 = some (.int y8) ∧ (zSt k) = T8 ∧ (¬ y8 = 0 → Φ (some (.int 2)) (zSt k) M8) ∧ (y8 = 0 → Φ (some (.int 0)) (zSt k) M8))) ∧ (¬ y6 < 0 → Φ (some (.int 1)) (zSt k) M6))) ∧ (Int32.toInt x1 = 2 → zW E m_Mo_firstEnd 3 (zSt k) M3 0 [some (.ref 83), none] [] (fun q10 T10 M10 => ∃ y10 : Int32, q10 = some (.int y10) ∧ (zSt k) = T10 ∧ Φ (some (.int y10)) (zSt k) M10)) ∧ (Int32.toInt x1 = 3 → ∃ j11 : Nat, j11 < 150 ∧ ((M3 83 21) - 1) = nI j11 ∧ (Φ (some (.int (M3 99 j11))) (zSt k) M3)) ∧ (Int32.toInt x1 = 4 → zW E m_Mo_cuts 0 (zSt k) M3 0 [some (.ref 83), none, none] [] (fun q12 T12 M12 => ∃ y12 : Int32, q12 = some (.int y12) ∧ (zSt k) = T12 ∧ Φ (some (.int y12)) (zSt k) M12)))) ∧ (y1 = 0 → Φ (some (.int (-2))) (zSt k) M1))) : zW E m_Mo_net 6 (zSt k) M 0 [some (.ref 83), some (.int x1)] [] Φ := by
  refine z_iload_n d_Mo_net_0 rfl ?_
  refine z_i2l d_Mo_net_1 ?_
  refine z_lconst 0 d_Mo_net_2 (by decide) ?_
  refine z_ldc2 5 d_Mo_net_3 k_Mo_237 ?_
  refine z_callS (as := [.long (Int32.toInt64 x1), .long 0, .long 5]) (st := []) i_Mo_in s_Mo_in l_Mo_109 d_Mo_net_6 (by decide) rfl (Nat.le_of_ble_eq_true rfl) (Nat.le_of_ble_eq_true rfl) h (fun q1 T1 M1 h => ?_)
  obtain ⟨y1, rfl, rfl, h⟩ := h
  refine z_if_ne 15 d_Mo_net_9 rfl ⟨fun c2 => ?_, fun c2 => ?_⟩
  · replace h := h.1 c2
    refine z_aload_n d_Mo_net_15 rfl ?_
    refine z_callV (as := []) (st := []) i_Mo_findNet ⟨rfl, rfl⟩ v_Mo_findNet w_Mo_findNet l_Mo_239 d_Mo_net_16 (by decide) (tA_83 k) rfl (Nat.le_of_ble_eq_true rfl) (Nat.le_of_ble_eq_true rfl) h (fun q3 T3 M3 h => ?_)
    obtain ⟨rfl, rfl, h⟩ := h
    refine z_iload_n d_Mo_net_19 rfl ?_
    by_cases c4 : Int32.toInt x1 < 0 ∨ 4 < Int32.toInt x1
    · replace h := h.1 c4
      refine z_tswOut 107 d_Mo_net_20 c4 rfl ?_
      refine z_aload_n d_Mo_net_107 rfl ?_
      refine z_callV (as := []) (st := []) i_Mo_mostOfOne ⟨rfl, rfl⟩ v_Mo_mostOfOne w_Mo_mostOfOne l_Mo_248 d_Mo_net_108 (by decide) (tA_83 k) rfl (Nat.le_of_ble_eq_true rfl) (Nat.le_of_ble_eq_true rfl) h (fun q5 T5 M5 h => ?_)
      obtain ⟨y5, rfl, rfl, h⟩ := h
      exact z_iret rfl d_Mo_net_111 h
    · replace h := h.2
      rcases (show Int32.toInt x1 = 0 ∨ Int32.toInt x1 = 1 ∨ Int32.toInt x1 = 2 ∨ Int32.toInt x1 = 3 ∨ Int32.toInt x1 = 4 by omega) with c4e | c4e | c4e | c4e | c4e
      · replace h := h.1 c4e
        refine z_tswIn 56 d_Mo_net_20 (by omega) (by omega) (by rw [c4e]; rfl) rfl ?_
        refine z_aload_n d_Mo_net_56 rfl ?_
        refine z_geti f_Mo_172 rfl d_Mo_net_57 (tA_83 k) ?_
        exact z_iret rfl d_Mo_net_60 h
      · replace h := h.2.1 c4e
        refine z_tswIn 61 d_Mo_net_20 (by omega) (by omega) (by rw [c4e]; rfl) rfl ?_
        refine z_aload_n d_Mo_net_61 rfl ?_
        refine z_callV (as := []) (st := []) i_Mo_firstEnd ⟨rfl, rfl⟩ v_Mo_firstEnd w_Mo_firstEnd l_Mo_242 d_Mo_net_62 (by decide) (tA_83 k) rfl (Nat.le_of_ble_eq_true rfl) (Nat.le_of_ble_eq_true rfl) h (fun q6 T6 M6 h => ?_)
        obtain ⟨y6, rfl, rfl, h⟩ := h
        refine z_if_lt 72 d_Mo_net_65 rfl ⟨fun c7 => ?_, fun c7 => ?_⟩
        · replace h := h.1 c7
          refine z_aload_n d_Mo_net_72 rfl ?_
          refine z_callV (as := []) (st := []) i_Mo_cuts ⟨rfl, rfl⟩ v_Mo_cuts w_Mo_cuts l_Mo_245 d_Mo_net_73 (by decide) (tA_83 k) rfl (Nat.le_of_ble_eq_true rfl) (Nat.le_of_ble_eq_true rfl) h (fun q8 T8 M8 h => ?_)
          obtain ⟨y8, rfl, rfl, h⟩ := h
          refine z_if_ne 83 d_Mo_net_76 rfl ⟨fun c9 => ?_, fun c9 => ?_⟩
          · replace h := h.1 c9
            refine z_iconst 2 d_Mo_net_83 (by decide) ?_
            exact z_iret rfl d_Mo_net_84 h
          · replace h := h.2 c9
            refine z_iconst 0 d_Mo_net_79 (by decide) ?_
            refine z_goto 84 d_Mo_net_80 rfl ?_
            exact z_iret rfl d_Mo_net_84 h
        · replace h := h.2 c7
          refine z_iconst 1 d_Mo_net_68 (by decide) ?_
          refine z_goto 84 d_Mo_net_69 rfl ?_
          exact z_iret rfl d_Mo_net_84 h
      · replace h := h.2.2.1 c4e
        refine z_tswIn 85 d_Mo_net_20 (by omega) (by omega) (by rw [c4e]; rfl) rfl ?_
        refine z_aload_n d_Mo_net_85 rfl ?_
        refine z_callV (as := []) (st := []) i_Mo_firstEnd ⟨rfl, rfl⟩ v_Mo_firstEnd w_Mo_firstEnd l_Mo_242 d_Mo_net_86 (by decide) (tA_83 k) rfl (Nat.le_of_ble_eq_true rfl) (Nat.le_of_ble_eq_true rfl) h (fun q10 T10 M10 h => ?_)
        obtain ⟨y10, rfl, rfl, h⟩ := h
        exact z_iret rfl d_Mo_net_89 h
      · replace h := h.2.2.2.1 c4e
        refine z_tswIn 90 d_Mo_net_20 (by omega) (by omega) (by rw [c4e]; rfl) rfl ?_
        refine z_aload_n d_Mo_net_90 rfl ?_
        refine z_getr f_Mo_55 rfl d_Mo_net_91 (tA_83 k) (tr_83_17 k) ?_
        refine z_aload_n d_Mo_net_94 rfl ?_
        refine z_geti f_Mo_172 rfl d_Mo_net_95 (tA_83 k) ?_
        refine z_iconst 1 d_Mo_net_98 (by decide) ?_
        refine z_isub d_Mo_net_99 ?_
        obtain ⟨j11, hj11, ej11, h⟩ := h
        refine y_iaload j11 d_Mo_net_100 (ta_99 k) hj11 ej11 ?_
        exact z_iret rfl d_Mo_net_101 h
      · replace h := h.2.2.2.2 c4e
        refine z_tswIn 102 d_Mo_net_20 (by omega) (by omega) (by rw [c4e]; rfl) rfl ?_
        refine z_aload_n d_Mo_net_102 rfl ?_
        refine z_callV (as := []) (st := []) i_Mo_cuts ⟨rfl, rfl⟩ v_Mo_cuts w_Mo_cuts l_Mo_245 d_Mo_net_103 (by decide) (tA_83 k) rfl (Nat.le_of_ble_eq_true rfl) (Nat.le_of_ble_eq_true rfl) h (fun q12 T12 M12 h => ?_)
        obtain ⟨y12, rfl, rfl, h⟩ := h
        exact z_iret rfl d_Mo_net_106 h
  · replace h := h.2 c2
    refine z_bipush (-2) d_Mo_net_12 (by decide) ?_
    exact z_iret rfl d_Mo_net_14 h

set_option maxRecDepth 20000 in
theorem vc_Mo_isNode_0 (E : ZE) (k : Nat) (M : ZM) (x1 : Int32) (Φ : Option Value → ZS → ZM → Prop)  (h : zW E m_Mo_findNet 5 (zSt k) M 0 [some (.ref 83), none, none] [] (fun q1 T1 M1 => q1 = none ∧ (zSt k) = T1 ∧ zW E m_Mo_in 0 (zSt k) M1 0 [some (.long (Int32.toInt64 x1)), none, some (.long 0), none, some (.long (Int32.toInt64 ((M1 83 21) - 1))), none] [] (fun q2 T2 M2 => ∃ y2 : Int32, q2 = some (.int y2) ∧ (zSt k) = T2 ∧ (y2 = 0 ∨ y2 = 1) ∧ Φ (some (.int y2)) (zSt k) M2))) : zW E m_Mo_isNode 6 (zSt k) M 0 [some (.ref 83), some (.int x1)] [] Φ := by
  refine z_aload_n d_Mo_isNode_0 rfl ?_
  refine z_callV (as := []) (st := []) i_Mo_findNet ⟨rfl, rfl⟩ v_Mo_findNet w_Mo_findNet l_Mo_239 d_Mo_isNode_1 (by decide) (tA_83 k) rfl (Nat.le_of_ble_eq_true rfl) (Nat.le_of_ble_eq_true rfl) h (fun q1 T1 M1 h => ?_)
  obtain ⟨rfl, rfl, h⟩ := h
  refine z_iload_n d_Mo_isNode_4 rfl ?_
  refine z_i2l d_Mo_isNode_5 ?_
  refine z_lconst 0 d_Mo_isNode_6 (by decide) ?_
  refine z_aload_n d_Mo_isNode_7 rfl ?_
  refine z_geti f_Mo_172 rfl d_Mo_isNode_8 (tA_83 k) ?_
  refine z_iconst 1 d_Mo_isNode_11 (by decide) ?_
  refine z_isub d_Mo_isNode_12 ?_
  refine z_i2l d_Mo_isNode_13 ?_
  refine z_callS (as := [.long (Int32.toInt64 x1), .long 0, .long (Int32.toInt64 ((M1 83 21) - 1))]) (st := []) i_Mo_in s_Mo_in l_Mo_109 d_Mo_isNode_14 (by decide) rfl (Nat.le_of_ble_eq_true rfl) (Nat.le_of_ble_eq_true rfl) h (fun q2 T2 M2 h => ?_)
  obtain ⟨y2, rfl, rfl, h⟩ := h
  exact z_zret rfl d_Mo_isNode_17 (zbool h.1).1 h.2

set_option maxRecDepth 20000 in
theorem vc_Mo_findLeading_0 (E : ZE) (k : Nat) (M : ZM) (x1 : Int32) (x2 : Int32) (Φ : Option Value → ZS → ZM → Prop)  (h : ∀ M1 : ZM, M1 = zms M 83 28 0 → ∀ M2 : ZM, M2 = zms M1 83 29 (-6) → ∀ M3 : ZM, M3 = zms M2 83 30 (-6) → ∀ M4 : ZM, M4 = zms M3 83 27 0 → zW E m_Mo_isEnd 2 (zSt k) M4 0 [some (.ref 83), some (.int x1), none] [] (fun q5 T5 M5 => ∃ y5 : Int32, q5 = some (.int y5) ∧ (zSt k) = T5 ∧ (¬ y5 = 0 → zW E m_Mo_findLeading 4 (zSt k) M5 37 [some (.ref 83), some (.int x1), some (.int x2), some (.int 0), none] [] Φ) ∧ (y5 = 0 → zW E m_Mo_findMoves 3 (zSt k) M5 0 [some (.ref 83), some (.int x1), none, none] [] (fun q7 T7 M7 => q7 = none ∧ (zSt k) = T7 ∧ zW E m_Mo_findLeading 4 (zSt k) M7 37 [some (.ref 83), some (.int x1), some (.int x2), some (.int 0), none] [] Φ)))) : zW E m_Mo_findLeading 4 (zSt k) M 0 [some (.ref 83), some (.int x1), some (.int x2), none, none] [] Φ := by
  refine z_aload_n d_Mo_findLeading_0 rfl ?_
  refine z_iconst 0 d_Mo_findLeading_1 (by decide) ?_
  refine z_puti (p_Mo_251 rfl) rfl d_Mo_findLeading_2 (tA_83 k) rfl rfl ?_
  refine z_mem (fun M1 eM1 => ?_)
  replace h := h M1 eM1
  refine z_aload_n d_Mo_findLeading_5 rfl ?_
  refine z_bipush (-6) d_Mo_findLeading_6 (by decide) ?_
  refine z_puti (p_Mo_254 rfl) rfl d_Mo_findLeading_8 (tA_83 k) rfl rfl ?_
  refine z_mem (fun M2 eM2 => ?_)
  replace h := h M2 eM2
  refine z_aload_n d_Mo_findLeading_11 rfl ?_
  refine z_bipush (-6) d_Mo_findLeading_12 (by decide) ?_
  refine z_puti (p_Mo_257 rfl) rfl d_Mo_findLeading_14 (tA_83 k) rfl rfl ?_
  refine z_mem (fun M3 eM3 => ?_)
  replace h := h M3 eM3
  refine z_aload_n d_Mo_findLeading_17 rfl ?_
  refine z_iconst 0 d_Mo_findLeading_18 (by decide) ?_
  refine z_puti (p_Mo_178 rfl) rfl d_Mo_findLeading_19 (tA_83 k) rfl rfl ?_
  refine z_mem (fun M4 eM4 => ?_)
  replace h := h M4 eM4
  refine z_aload_n d_Mo_findLeading_22 rfl ?_
  refine z_iload_n d_Mo_findLeading_23 rfl ?_
  refine z_callV (as := [.int x1]) (st := []) i_Mo_isEnd ⟨rfl, rfl⟩ v_Mo_isEnd w_Mo_isEnd l_Mo_231 d_Mo_findLeading_24 (by decide) (tA_83 k) rfl (Nat.le_of_ble_eq_true rfl) (Nat.le_of_ble_eq_true rfl) h (fun q5 T5 M5 h => ?_)
  obtain ⟨y5, rfl, rfl, h⟩ := h
  refine z_if_ne 35 d_Mo_findLeading_27 rfl ⟨fun c6 => ?_, fun c6 => ?_⟩
  · replace h := h.1 c6
    refine z_iconst 0 d_Mo_findLeading_35 (by decide) ?_
    refine z_istore_n (ls' := [some (.ref 83), some (.int x1), some (.int x2), some (.int 0), none]) d_Mo_findLeading_36 (Nat.le_of_ble_eq_true rfl) rfl rfl ?_
    exact z_forget [some (.ref 83), some (.int x1), some (.int x2), some (.int 0), none] (And.intro rfl (And.intro rfl (And.intro rfl (And.intro rfl (trivial))))) h
  · replace h := h.2 c6
    refine z_aload_n d_Mo_findLeading_30 rfl ?_
    refine z_iload_n d_Mo_findLeading_31 rfl ?_
    refine z_callV (as := [.int x1]) (st := []) i_Mo_findMoves ⟨rfl, rfl⟩ v_Mo_findMoves w_Mo_findMoves l_Mo_218 d_Mo_findLeading_32 (by decide) (tA_83 k) rfl (Nat.le_of_ble_eq_true rfl) (Nat.le_of_ble_eq_true rfl) h (fun q7 T7 M7 h => ?_)
    obtain ⟨rfl, rfl, h⟩ := h
    refine z_iconst 0 d_Mo_findLeading_35 (by decide) ?_
    refine z_istore_n (ls' := [some (.ref 83), some (.int x1), some (.int x2), some (.int 0), none]) d_Mo_findLeading_36 (Nat.le_of_ble_eq_true rfl) rfl rfl ?_
    exact z_forget [some (.ref 83), some (.int x1), some (.int x2), some (.int 0), none] (And.intro rfl (And.intro rfl (And.intro rfl (And.intro rfl (trivial))))) h

set_option maxRecDepth 20000 in
theorem vc_Mo_findLeading_37 (E : ZE) (k : Nat) (M : ZM) (x1 : Int32) (x2 : Int32) (x3 : Int32) (Φ : Option Value → ZS → ZM → Prop)  (h : ((M 83 27) ≤ x3 → Φ none (zSt k) M) ∧ (¬ (M 83 27) ≤ x3 → ∃ j2 : Nat, j2 < 60 ∧ x3 = nI j2 ∧ (zW E m_Mo_makeMove 3 (zSt k) M 0 [some (.ref 83), some (.int x1), some (.int (M 106 j2)), none, none, none, none] [] (fun q3 T3 M3 => ∃ y3 : Int32, q3 = some (.int y3) ∧ (zSt k) = T3 ∧ (¬ y3 = 1 → ∀ y5 : Int32, y5 = x3 + 1 → zW E m_Mo_findLeading 4 (zSt k) M3 37 [some (.ref 83), some (.int x1), some (.int x2), some (.int y5), none] [] Φ) ∧ (y3 = 1 → zW E m_Mo_lookFor 1 (zSt k) M3 0 [some (.ref 83), none] [] (fun q6 T6 M6 => ∃ y6 : Int32, q6 = some (.int y6) ∧ (zSt k) = T6 ∧ (y6 < 0 → ∀ y8 : Int32, y8 = x3 + 1 → zW E m_Mo_findLeading 4 (zSt k) M6 37 [some (.ref 83), some (.int x1), some (.int x2), some (.int y8), none] [] Φ) ∧ (¬ y6 < 0 → (¬ (M6 83 28) = x2 → ∀ M10 : ZM, M10 = zms M6 83 29 (M6 83 29) → (¬ (M10 83 28) = x2 → ∀ M12 : ZM, M12 = zms M10 83 30 (M10 83 30) → ∀ M13 : ZM, M13 = zms M12 83 28 ((M12 83 28) + 1) → ∀ y14 : Int32, y14 = x3 + 1 → zW E m_Mo_findLeading 4 (zSt k) M13 37 [some (.ref 83), some (.int x1), some (.int x2), some (.int y14), none] [] Φ) ∧ ((M10 83 28) = x2 → ∀ M15 : ZM, M15 = zms M10 83 30 y6 → ∀ M16 : ZM, M16 = zms M15 83 28 ((M15 83 28) + 1) → ∀ y17 : Int32, y17 = x3 + 1 → zW E m_Mo_findLeading 4 (zSt k) M16 37 [some (.ref 83), some (.int x1), some (.int x2), some (.int y17), none] [] Φ)) ∧ ((M6 83 28) = x2 → ∃ j18 : Nat, j18 < 60 ∧ x3 = nI j18 ∧ (∀ M19 : ZM, M19 = zms M6 83 29 (M6 106 j18) → (¬ (M19 83 28) = x2 → ∀ M21 : ZM, M21 = zms M19 83 30 (M19 83 30) → ∀ M22 : ZM, M22 = zms M21 83 28 ((M21 83 28) + 1) → ∀ y23 : Int32, y23 = x3 + 1 → zW E m_Mo_findLeading 4 (zSt k) M22 37 [some (.ref 83), some (.int x1), some (.int x2), some (.int y23), none] [] Φ) ∧ ((M19 83 28) = x2 → ∀ M24 : ZM, M24 = zms M19 83 30 y6 → ∀ M25 : ZM, M25 = zms M24 83 28 ((M24 83 28) + 1) → ∀ y26 : Int32, y26 = x3 + 1 → zW E m_Mo_findLeading 4 (zSt k) M25 37 [some (.ref 83), some (.int x1), some (.int x2), some (.int y26), none] [] Φ)))))))))) : zW E m_Mo_findLeading 4 (zSt k) M 37 [some (.ref 83), some (.int x1), some (.int x2), some (.int x3), none] [] Φ := by
  refine z_iload_n d_Mo_findLeading_37 rfl ?_
  refine z_aload_n d_Mo_findLeading_38 rfl ?_
  refine z_geti f_Mo_178 rfl d_Mo_findLeading_39 (tA_83 k) ?_
  refine z_icmp_ge 138 d_Mo_findLeading_42 rfl ⟨fun c1 => ?_, fun c1 => ?_⟩
  · replace h := h.1 c1
    exact z_vret rfl d_Mo_findLeading_138 h
  · replace h := h.2 c1
    refine z_aload_n d_Mo_findLeading_45 rfl ?_
    refine z_iload_n d_Mo_findLeading_46 rfl ?_
    refine z_aload_n d_Mo_findLeading_47 rfl ?_
    refine z_getr f_Mo_77 rfl d_Mo_findLeading_48 (tA_83 k) (tr_83_26 k) ?_
    refine z_iload_n d_Mo_findLeading_51 rfl ?_
    obtain ⟨j2, hj2, ej2, h⟩ := h
    refine y_iaload j2 d_Mo_findLeading_52 (ta_106 k) hj2 ej2 ?_
    refine z_callV (as := [.int x1, .int (M 106 j2)]) (st := []) i_Mo_makeMove ⟨rfl, rfl⟩ v_Mo_makeMove w_Mo_makeMove l_Mo_222 d_Mo_findLeading_53 (by decide) (tA_83 k) rfl (Nat.le_of_ble_eq_true rfl) (Nat.le_of_ble_eq_true rfl) h (fun q3 T3 M3 h => ?_)
    obtain ⟨y3, rfl, rfl, h⟩ := h
    refine z_iconst 1 d_Mo_findLeading_56 (by decide) ?_
    refine z_icmp_ne 67 d_Mo_findLeading_57 rfl ⟨fun c4 => ?_, fun c4 => ?_⟩
    · replace h := h.1 c4
      refine z_bipush (-6) d_Mo_findLeading_67 (by decide) ?_
      refine z_istore (ls' := [some (.ref 83), some (.int x1), some (.int x2), some (.int x3), some (.int (-6))]) d_Mo_findLeading_69 (Nat.le_of_ble_eq_true rfl) rfl rfl ?_
      refine z_iload d_Mo_findLeading_71 rfl ?_
      refine z_if_lt 132 d_Mo_findLeading_73 rfl ⟨fun _ => ?_, fun q => absurd (by decide) q⟩
      obtain ⟨y5, ey5⟩ : ∃ q : Int32, q = x3 + 1 := ⟨_, rfl⟩
      replace h := h y5 ey5
      refine z_iinc (ls' := [some (.ref 83), some (.int x1), some (.int x2), some (.int y5), some (.int (-6))]) y5 d_Mo_findLeading_132 rfl (ey5 ▸ rfl) (Nat.le_of_ble_eq_true rfl) rfl rfl ?_
      refine z_goto 37 d_Mo_findLeading_135 rfl ?_
      exact z_forget [some (.ref 83), some (.int x1), some (.int x2), some (.int y5), none] (And.intro rfl (And.intro rfl (And.intro rfl (And.intro rfl (trivial))))) h
    · replace h := h.2 c4
      refine z_aload_n d_Mo_findLeading_60 rfl ?_
      refine z_callV (as := []) (st := []) i_Mo_lookFor ⟨rfl, rfl⟩ v_Mo_lookFor w_Mo_lookFor l_Mo_225 d_Mo_findLeading_61 (by decide) (tA_83 k) rfl (Nat.le_of_ble_eq_true rfl) (Nat.le_of_ble_eq_true rfl) h (fun q6 T6 M6 h => ?_)
      obtain ⟨y6, rfl, rfl, h⟩ := h
      refine z_goto 69 d_Mo_findLeading_64 rfl ?_
      refine z_istore (ls' := [some (.ref 83), some (.int x1), some (.int x2), some (.int x3), some (.int y6)]) d_Mo_findLeading_69 (Nat.le_of_ble_eq_true rfl) rfl rfl ?_
      refine z_iload d_Mo_findLeading_71 rfl ?_
      refine z_if_lt 132 d_Mo_findLeading_73 rfl ⟨fun c7 => ?_, fun c7 => ?_⟩
      · replace h := h.1 c7
        obtain ⟨y8, ey8⟩ : ∃ q : Int32, q = x3 + 1 := ⟨_, rfl⟩
        replace h := h y8 ey8
        refine z_iinc (ls' := [some (.ref 83), some (.int x1), some (.int x2), some (.int y8), some (.int y6)]) y8 d_Mo_findLeading_132 rfl (ey8 ▸ rfl) (Nat.le_of_ble_eq_true rfl) rfl rfl ?_
        refine z_goto 37 d_Mo_findLeading_135 rfl ?_
        exact z_forget [some (.ref 83), some (.int x1), some (.int x2), some (.int y8), none] (And.intro rfl (And.intro rfl (And.intro rfl (And.intro rfl (trivial))))) h
      · replace h := h.2 c7
        refine z_aload_n d_Mo_findLeading_76 rfl ?_
        refine z_aload_n d_Mo_findLeading_77 rfl ?_
        refine z_geti f_Mo_251 rfl d_Mo_findLeading_78 (tA_83 k) ?_
        refine z_iload_n d_Mo_findLeading_81 rfl ?_
        refine z_icmp_ne 94 d_Mo_findLeading_82 rfl ⟨fun c9 => ?_, fun c9 => ?_⟩
        · replace h := h.1 c9
          refine z_aload_n d_Mo_findLeading_94 rfl ?_
          refine z_geti f_Mo_254 rfl d_Mo_findLeading_95 (tA_83 k) ?_
          refine z_puti (p_Mo_254 rfl) rfl d_Mo_findLeading_98 (tA_83 k) rfl rfl ?_
          refine z_mem (fun M10 eM10 => ?_)
          replace h := h M10 eM10
          refine z_aload_n d_Mo_findLeading_101 rfl ?_
          refine z_aload_n d_Mo_findLeading_102 rfl ?_
          refine z_geti f_Mo_251 rfl d_Mo_findLeading_103 (tA_83 k) ?_
          refine z_iload_n d_Mo_findLeading_106 rfl ?_
          refine z_icmp_ne 115 d_Mo_findLeading_107 rfl ⟨fun c11 => ?_, fun c11 => ?_⟩
          · replace h := h.1 c11
            refine z_aload_n d_Mo_findLeading_115 rfl ?_
            refine z_geti f_Mo_257 rfl d_Mo_findLeading_116 (tA_83 k) ?_
            refine z_puti (p_Mo_257 rfl) rfl d_Mo_findLeading_119 (tA_83 k) rfl rfl ?_
            refine z_mem (fun M12 eM12 => ?_)
            replace h := h M12 eM12
            refine z_aload_n d_Mo_findLeading_122 rfl ?_
            refine z_dup d_Mo_findLeading_123 rfl ?_
            refine z_geti f_Mo_251 rfl d_Mo_findLeading_124 (tA_83 k) ?_
            refine z_iconst 1 d_Mo_findLeading_127 (by decide) ?_
            refine z_iadd d_Mo_findLeading_128 ?_
            refine z_puti (p_Mo_251 rfl) rfl d_Mo_findLeading_129 (tA_83 k) rfl rfl ?_
            refine z_mem (fun M13 eM13 => ?_)
            replace h := h M13 eM13
            obtain ⟨y14, ey14⟩ : ∃ q : Int32, q = x3 + 1 := ⟨_, rfl⟩
            replace h := h y14 ey14
            refine z_iinc (ls' := [some (.ref 83), some (.int x1), some (.int x2), some (.int y14), some (.int y6)]) y14 d_Mo_findLeading_132 rfl (ey14 ▸ rfl) (Nat.le_of_ble_eq_true rfl) rfl rfl ?_
            refine z_goto 37 d_Mo_findLeading_135 rfl ?_
            exact z_forget [some (.ref 83), some (.int x1), some (.int x2), some (.int y14), none] (And.intro rfl (And.intro rfl (And.intro rfl (And.intro rfl (trivial))))) h
          · replace h := h.2 c11
            refine z_iload d_Mo_findLeading_110 rfl ?_
            refine z_goto 119 d_Mo_findLeading_112 rfl ?_
            refine z_puti (p_Mo_257 rfl) rfl d_Mo_findLeading_119 (tA_83 k) rfl rfl ?_
            refine z_mem (fun M15 eM15 => ?_)
            replace h := h M15 eM15
            refine z_aload_n d_Mo_findLeading_122 rfl ?_
            refine z_dup d_Mo_findLeading_123 rfl ?_
            refine z_geti f_Mo_251 rfl d_Mo_findLeading_124 (tA_83 k) ?_
            refine z_iconst 1 d_Mo_findLeading_127 (by decide) ?_
            refine z_iadd d_Mo_findLeading_128 ?_
            refine z_puti (p_Mo_251 rfl) rfl d_Mo_findLeading_129 (tA_83 k) rfl rfl ?_
            refine z_mem (fun M16 eM16 => ?_)
            replace h := h M16 eM16
            obtain ⟨y17, ey17⟩ : ∃ q : Int32, q = x3 + 1 := ⟨_, rfl⟩
            replace h := h y17 ey17
            refine z_iinc (ls' := [some (.ref 83), some (.int x1), some (.int x2), some (.int y17), some (.int y6)]) y17 d_Mo_findLeading_132 rfl (ey17 ▸ rfl) (Nat.le_of_ble_eq_true rfl) rfl rfl ?_
            refine z_goto 37 d_Mo_findLeading_135 rfl ?_
            exact z_forget [some (.ref 83), some (.int x1), some (.int x2), some (.int y17), none] (And.intro rfl (And.intro rfl (And.intro rfl (And.intro rfl (trivial))))) h
        · replace h := h.2 c9
          refine z_aload_n d_Mo_findLeading_85 rfl ?_
          refine z_getr f_Mo_77 rfl d_Mo_findLeading_86 (tA_83 k) (tr_83_26 k) ?_
          refine z_iload_n d_Mo_findLeading_89 rfl ?_
          obtain ⟨j18, hj18, ej18, h⟩ := h
          refine y_iaload j18 d_Mo_findLeading_90 (ta_106 k) hj18 ej18 ?_
          refine z_goto 98 d_Mo_findLeading_91 rfl ?_
          refine z_puti (p_Mo_254 rfl) rfl d_Mo_findLeading_98 (tA_83 k) rfl rfl ?_
          refine z_mem (fun M19 eM19 => ?_)
          replace h := h M19 eM19
          refine z_aload_n d_Mo_findLeading_101 rfl ?_
          refine z_aload_n d_Mo_findLeading_102 rfl ?_
          refine z_geti f_Mo_251 rfl d_Mo_findLeading_103 (tA_83 k) ?_
          refine z_iload_n d_Mo_findLeading_106 rfl ?_
          refine z_icmp_ne 115 d_Mo_findLeading_107 rfl ⟨fun c20 => ?_, fun c20 => ?_⟩
          · replace h := h.1 c20
            refine z_aload_n d_Mo_findLeading_115 rfl ?_
            refine z_geti f_Mo_257 rfl d_Mo_findLeading_116 (tA_83 k) ?_
            refine z_puti (p_Mo_257 rfl) rfl d_Mo_findLeading_119 (tA_83 k) rfl rfl ?_
            refine z_mem (fun M21 eM21 => ?_)
            replace h := h M21 eM21
            refine z_aload_n d_Mo_findLeading_122 rfl ?_
            refine z_dup d_Mo_findLeading_123 rfl ?_
            refine z_geti f_Mo_251 rfl d_Mo_findLeading_124 (tA_83 k) ?_
            refine z_iconst 1 d_Mo_findLeading_127 (by decide) ?_
            refine z_iadd d_Mo_findLeading_128 ?_
            refine z_puti (p_Mo_251 rfl) rfl d_Mo_findLeading_129 (tA_83 k) rfl rfl ?_
            refine z_mem (fun M22 eM22 => ?_)
            replace h := h M22 eM22
            obtain ⟨y23, ey23⟩ : ∃ q : Int32, q = x3 + 1 := ⟨_, rfl⟩
            replace h := h y23 ey23
            refine z_iinc (ls' := [some (.ref 83), some (.int x1), some (.int x2), some (.int y23), some (.int y6)]) y23 d_Mo_findLeading_132 rfl (ey23 ▸ rfl) (Nat.le_of_ble_eq_true rfl) rfl rfl ?_
            refine z_goto 37 d_Mo_findLeading_135 rfl ?_
            exact z_forget [some (.ref 83), some (.int x1), some (.int x2), some (.int y23), none] (And.intro rfl (And.intro rfl (And.intro rfl (And.intro rfl (trivial))))) h
          · replace h := h.2 c20
            refine z_iload d_Mo_findLeading_110 rfl ?_
            refine z_goto 119 d_Mo_findLeading_112 rfl ?_
            refine z_puti (p_Mo_257 rfl) rfl d_Mo_findLeading_119 (tA_83 k) rfl rfl ?_
            refine z_mem (fun M24 eM24 => ?_)
            replace h := h M24 eM24
            refine z_aload_n d_Mo_findLeading_122 rfl ?_
            refine z_dup d_Mo_findLeading_123 rfl ?_
            refine z_geti f_Mo_251 rfl d_Mo_findLeading_124 (tA_83 k) ?_
            refine z_iconst 1 d_Mo_findLeading_127 (by decide) ?_
            refine z_iadd d_Mo_findLeading_128 ?_
            refine z_puti (p_Mo_251 rfl) rfl d_Mo_findLeading_129 (tA_83 k) rfl rfl ?_
            refine z_mem (fun M25 eM25 => ?_)
            replace h := h M25 eM25
            obtain ⟨y26, ey26⟩ : ∃ q : Int32, q = x3 + 1 := ⟨_, rfl⟩
            replace h := h y26 ey26
            refine z_iinc (ls' := [some (.ref 83), some (.int x1), some (.int x2), some (.int y26), some (.int y6)]) y26 d_Mo_findLeading_132 rfl (ey26 ▸ rfl) (Nat.le_of_ble_eq_true rfl) rfl rfl ?_
            refine z_goto 37 d_Mo_findLeading_135 rfl ?_
            exact z_forget [some (.ref 83), some (.int x1), some (.int x2), some (.int y26), none] (And.intro rfl (And.intro rfl (And.intro rfl (And.intro rfl (trivial))))) h

set_option maxRecDepth 20000 in
theorem vc_Mo_node_0 (E : ZE) (k : Nat) (M : ZM) (x1 : Int32) (x2 : Int32) (Φ : Option Value → ZS → ZM → Prop)  (h : zW E m_Mo_isNode 6 (zSt k) M 0 [some (.ref 83), some (.int x1)] [] (fun q1 T1 M1 => ∃ y1 : Int32, q1 = some (.int y1) ∧ (zSt k) = T1 ∧ (¬ y1 = 0 → (Int32.toInt x2 < 0 ∨ 6 < Int32.toInt x2 → Φ (some (.int (-2))) (zSt k) M1) ∧ (Int32.toInt x2 = 0 → ∃ j4 : Nat, j4 < 300 ∧ ((2 * x1) + x2) = nI j4 ∧ (Φ (some (.int (M1 97 j4))) (zSt k) M1)) ∧ (Int32.toInt x2 = 1 → ∃ j5 : Nat, j5 < 300 ∧ ((2 * x1) + x2) = nI j5 ∧ (Φ (some (.int (M1 97 j5))) (zSt k) M1)) ∧ (Int32.toInt x2 = 2 → ∃ j6 : Nat, j6 < 150 ∧ x1 = nI j6 ∧ (Φ (some (.int (M1 99 j6))) (zSt k) M1)) ∧ (Int32.toInt x2 = 3 → ∃ j7 : Nat, j7 < 150 ∧ x1 = nI j7 ∧ (Φ (some (.int (M1 100 j7))) (zSt k) M1)) ∧ (Int32.toInt x2 = 4 → ∃ j8 : Nat, j8 < 150 ∧ x1 = nI j8 ∧ (Φ (some (.int (M1 101 j8))) (zSt k) M1)) ∧ (Int32.toInt x2 = 5 → zW E m_Mo_findLeading 4 (zSt k) M1 0 [some (.ref 83), some (.int x1), some (.int (-6)), none, none] [] (fun q9 T9 M9 => q9 = none ∧ (zSt k) = T9 ∧ Φ (some (.int (M9 83 28))) (zSt k) M9)) ∧ (Int32.toInt x2 = 6 → ∃ j10 : Nat, j10 < 150 ∧ x1 = nI j10 ∧ (((M1 102 j10) = 0 → Φ (some (.int 0)) (zSt k) M1) ∧ (¬ (M1 102 j10) = 0 → Φ (some (.int 1)) (zSt k) M1)))) ∧ (y1 = 0 → Φ (some (.int (-1))) (zSt k) M1))) : zW E m_Mo_node 7 (zSt k) M 0 [some (.ref 83), some (.int x1), some (.int x2)] [] Φ := by
  refine z_aload_n d_Mo_node_0 rfl ?_
  refine z_iload_n d_Mo_node_1 rfl ?_
  refine z_callV (as := [.int x1]) (st := []) i_Mo_isNode ⟨rfl, rfl⟩ v_Mo_isNode w_Mo_isNode l_Mo_260 d_Mo_node_2 (by decide) (tA_83 k) rfl (Nat.le_of_ble_eq_true rfl) (Nat.le_of_ble_eq_true rfl) h (fun q1 T1 M1 h => ?_)
  obtain ⟨y1, rfl, rfl, h⟩ := h
  refine z_if_ne 10 d_Mo_node_5 rfl ⟨fun c2 => ?_, fun c2 => ?_⟩
  · replace h := h.1 c2
    refine z_iload_n d_Mo_node_10 rfl ?_
    by_cases c3 : Int32.toInt x2 < 0 ∨ 6 < Int32.toInt x2
    · replace h := h.1 c3
      refine z_tswOut 111 d_Mo_node_11 c3 rfl ?_
      refine z_bipush (-2) d_Mo_node_111 (by decide) ?_
      exact z_iret rfl d_Mo_node_113 h
    · replace h := h.2
      rcases (show Int32.toInt x2 = 0 ∨ Int32.toInt x2 = 1 ∨ Int32.toInt x2 = 2 ∨ Int32.toInt x2 = 3 ∨ Int32.toInt x2 = 4 ∨ Int32.toInt x2 = 5 ∨ Int32.toInt x2 = 6 by omega) with c3e | c3e | c3e | c3e | c3e | c3e | c3e
      · replace h := h.1 c3e
        refine z_tswIn 52 d_Mo_node_11 (by omega) (by omega) (by rw [c3e]; rfl) rfl ?_
        refine z_aload_n d_Mo_node_52 rfl ?_
        refine z_getr f_Mo_49 rfl d_Mo_node_53 (tA_83 k) (tr_83_15 k) ?_
        refine z_iconst 2 d_Mo_node_56 (by decide) ?_
        refine z_iload_n d_Mo_node_57 rfl ?_
        refine z_imul d_Mo_node_58 ?_
        refine z_iload_n d_Mo_node_59 rfl ?_
        refine z_iadd d_Mo_node_60 ?_
        obtain ⟨j4, hj4, ej4, h⟩ := h
        refine y_iaload j4 d_Mo_node_61 (ta_97 k) hj4 ej4 ?_
        exact z_iret rfl d_Mo_node_62 h
      · replace h := h.2.1 c3e
        refine z_tswIn 52 d_Mo_node_11 (by omega) (by omega) (by rw [c3e]; rfl) rfl ?_
        refine z_aload_n d_Mo_node_52 rfl ?_
        refine z_getr f_Mo_49 rfl d_Mo_node_53 (tA_83 k) (tr_83_15 k) ?_
        refine z_iconst 2 d_Mo_node_56 (by decide) ?_
        refine z_iload_n d_Mo_node_57 rfl ?_
        refine z_imul d_Mo_node_58 ?_
        refine z_iload_n d_Mo_node_59 rfl ?_
        refine z_iadd d_Mo_node_60 ?_
        obtain ⟨j5, hj5, ej5, h⟩ := h
        refine y_iaload j5 d_Mo_node_61 (ta_97 k) hj5 ej5 ?_
        exact z_iret rfl d_Mo_node_62 h
      · replace h := h.2.2.1 c3e
        refine z_tswIn 63 d_Mo_node_11 (by omega) (by omega) (by rw [c3e]; rfl) rfl ?_
        refine z_aload_n d_Mo_node_63 rfl ?_
        refine z_getr f_Mo_55 rfl d_Mo_node_64 (tA_83 k) (tr_83_17 k) ?_
        refine z_iload_n d_Mo_node_67 rfl ?_
        obtain ⟨j6, hj6, ej6, h⟩ := h
        refine y_iaload j6 d_Mo_node_68 (ta_99 k) hj6 ej6 ?_
        exact z_iret rfl d_Mo_node_69 h
      · replace h := h.2.2.2.1 c3e
        refine z_tswIn 70 d_Mo_node_11 (by omega) (by omega) (by rw [c3e]; rfl) rfl ?_
        refine z_aload_n d_Mo_node_70 rfl ?_
        refine z_getr f_Mo_58 rfl d_Mo_node_71 (tA_83 k) (tr_83_18 k) ?_
        refine z_iload_n d_Mo_node_74 rfl ?_
        obtain ⟨j7, hj7, ej7, h⟩ := h
        refine y_iaload j7 d_Mo_node_75 (ta_100 k) hj7 ej7 ?_
        exact z_iret rfl d_Mo_node_76 h
      · replace h := h.2.2.2.2.1 c3e
        refine z_tswIn 77 d_Mo_node_11 (by omega) (by omega) (by rw [c3e]; rfl) rfl ?_
        refine z_aload_n d_Mo_node_77 rfl ?_
        refine z_getr f_Mo_61 rfl d_Mo_node_78 (tA_83 k) (tr_83_19 k) ?_
        refine z_iload_n d_Mo_node_81 rfl ?_
        obtain ⟨j8, hj8, ej8, h⟩ := h
        refine y_iaload j8 d_Mo_node_82 (ta_101 k) hj8 ej8 ?_
        exact z_iret rfl d_Mo_node_83 h
      · replace h := h.2.2.2.2.2.1 c3e
        refine z_tswIn 84 d_Mo_node_11 (by omega) (by omega) (by rw [c3e]; rfl) rfl ?_
        refine z_aload_n d_Mo_node_84 rfl ?_
        refine z_iload_n d_Mo_node_85 rfl ?_
        refine z_bipush (-6) d_Mo_node_86 (by decide) ?_
        refine z_callV (as := [.int x1, .int (-6)]) (st := []) i_Mo_findLeading ⟨rfl, rfl⟩ v_Mo_findLeading w_Mo_findLeading l_Mo_263 d_Mo_node_88 (by decide) (tA_83 k) rfl (Nat.le_of_ble_eq_true rfl) (Nat.le_of_ble_eq_true rfl) h (fun q9 T9 M9 h => ?_)
        obtain ⟨rfl, rfl, h⟩ := h
        refine z_aload_n d_Mo_node_91 rfl ?_
        refine z_geti f_Mo_251 rfl d_Mo_node_92 (tA_83 k) ?_
        exact z_iret rfl d_Mo_node_95 h
      · replace h := h.2.2.2.2.2.2 c3e
        refine z_tswIn 96 d_Mo_node_11 (by omega) (by omega) (by rw [c3e]; rfl) rfl ?_
        refine z_aload_n d_Mo_node_96 rfl ?_
        refine z_getr f_Mo_64 rfl d_Mo_node_97 (tA_83 k) (tr_83_20 k) ?_
        refine z_iload_n d_Mo_node_100 rfl ?_
        obtain ⟨j10, hj10, ej10, h⟩ := h
        refine y_baload j10 d_Mo_node_101 (ta_102 k) hj10 ej10 ?_
        refine z_if_eq 109 d_Mo_node_102 rfl ⟨fun c11 => ?_, fun c11 => ?_⟩
        · replace h := h.1 c11
          refine z_iconst 0 d_Mo_node_109 (by decide) ?_
          exact z_iret rfl d_Mo_node_110 h
        · replace h := h.2 c11
          refine z_iconst 1 d_Mo_node_105 (by decide) ?_
          refine z_goto 110 d_Mo_node_106 rfl ?_
          exact z_iret rfl d_Mo_node_110 h
  · replace h := h.2 c2
    refine z_iconst (-1) d_Mo_node_8 (by decide) ?_
    exact z_iret rfl d_Mo_node_9 h

set_option maxRecDepth 20000 in
theorem vc_Mo_symbol_0 (E : ZE) (k : Nat) (M : ZM) (x1 : Int32) (x2 : Int32) (x3 : Int32) (Φ : Option Value → ZS → ZM → Prop)  (h : zW E m_Mo_isNode 6 (zSt k) M 0 [some (.ref 83), some (.int x1)] [] (fun q1 T1 M1 => ∃ y1 : Int32, q1 = some (.int y1) ∧ (zSt k) = T1 ∧ (¬ y1 = 0 → zW E m_Mo_in 0 (zSt k) M1 0 [some (.long (Int32.toInt64 x2)), none, some (.long 0), none, some (.long 1), none] [] (fun q3 T3 M3 => ∃ y3 : Int32, q3 = some (.int y3) ∧ (zSt k) = T3 ∧ (¬ y3 = 0 → ∃ j5 : Nat, j5 < 300 ∧ ((2 * x1) + x2) = nI j5 ∧ (zW E m_Mo_in 0 (zSt k) M3 0 [some (.long (Int32.toInt64 x3)), none, some (.long 0), none, some (.long (Int32.toInt64 ((M3 97 j5) - 1))), none] [] (fun q6 T6 M6 => ∃ y6 : Int32, q6 = some (.int y6) ∧ (zSt k) = T6 ∧ (y6 = 0 → Φ (some (.int (-6))) (zSt k) M6) ∧ (¬ y6 = 0 → ∃ j8 : Nat, j8 < 7200 ∧ (((48 * x1) + (24 * x2)) + x3) = nI j8 ∧ (Φ (some (.int (M6 96 j8))) (zSt k) M6))))) ∧ (y3 = 0 → Φ (some (.int (-2))) (zSt k) M3))) ∧ (y1 = 0 → Φ (some (.int (-1))) (zSt k) M1))) : zW E m_Mo_symbol 7 (zSt k) M 0 [some (.ref 83), some (.int x1), some (.int x2), some (.int x3)] [] Φ := by
  refine z_aload_n d_Mo_symbol_0 rfl ?_
  refine z_iload_n d_Mo_symbol_1 rfl ?_
  refine z_callV (as := [.int x1]) (st := []) i_Mo_isNode ⟨rfl, rfl⟩ v_Mo_isNode w_Mo_isNode l_Mo_260 d_Mo_symbol_2 (by decide) (tA_83 k) rfl (Nat.le_of_ble_eq_true rfl) (Nat.le_of_ble_eq_true rfl) h (fun q1 T1 M1 h => ?_)
  obtain ⟨y1, rfl, rfl, h⟩ := h
  refine z_if_ne 10 d_Mo_symbol_5 rfl ⟨fun c2 => ?_, fun c2 => ?_⟩
  · replace h := h.1 c2
    refine z_iload_n d_Mo_symbol_10 rfl ?_
    refine z_i2l d_Mo_symbol_11 ?_
    refine z_lconst 0 d_Mo_symbol_12 (by decide) ?_
    refine z_lconst 1 d_Mo_symbol_13 (by decide) ?_
    refine z_callS (as := [.long (Int32.toInt64 x2), .long 0, .long 1]) (st := []) i_Mo_in s_Mo_in l_Mo_109 d_Mo_symbol_14 (by decide) rfl (Nat.le_of_ble_eq_true rfl) (Nat.le_of_ble_eq_true rfl) h (fun q3 T3 M3 h => ?_)
    obtain ⟨y3, rfl, rfl, h⟩ := h
    refine z_if_ne 23 d_Mo_symbol_17 rfl ⟨fun c4 => ?_, fun c4 => ?_⟩
    · replace h := h.1 c4
      refine z_iload_n d_Mo_symbol_23 rfl ?_
      refine z_i2l d_Mo_symbol_24 ?_
      refine z_lconst 0 d_Mo_symbol_25 (by decide) ?_
      refine z_aload_n d_Mo_symbol_26 rfl ?_
      refine z_getr f_Mo_49 rfl d_Mo_symbol_27 (tA_83 k) (tr_83_15 k) ?_
      refine z_iconst 2 d_Mo_symbol_30 (by decide) ?_
      refine z_iload_n d_Mo_symbol_31 rfl ?_
      refine z_imul d_Mo_symbol_32 ?_
      refine z_iload_n d_Mo_symbol_33 rfl ?_
      refine z_iadd d_Mo_symbol_34 ?_
      obtain ⟨j5, hj5, ej5, h⟩ := h
      refine y_iaload j5 d_Mo_symbol_35 (ta_97 k) hj5 ej5 ?_
      refine z_iconst 1 d_Mo_symbol_36 (by decide) ?_
      refine z_isub d_Mo_symbol_37 ?_
      refine z_i2l d_Mo_symbol_38 ?_
      refine z_callS (as := [.long (Int32.toInt64 x3), .long 0, .long (Int32.toInt64 ((M3 97 j5) - 1))]) (st := []) i_Mo_in s_Mo_in l_Mo_109 d_Mo_symbol_39 (by decide) rfl (Nat.le_of_ble_eq_true rfl) (Nat.le_of_ble_eq_true rfl) h (fun q6 T6 M6 h => ?_)
      obtain ⟨y6, rfl, rfl, h⟩ := h
      refine z_if_eq 64 d_Mo_symbol_42 rfl ⟨fun c7 => ?_, fun c7 => ?_⟩
      · replace h := h.1 c7
        refine z_bipush (-6) d_Mo_symbol_64 (by decide) ?_
        exact z_iret rfl d_Mo_symbol_66 h
      · replace h := h.2 c7
        refine z_aload_n d_Mo_symbol_45 rfl ?_
        refine z_getr f_Mo_46 rfl d_Mo_symbol_46 (tA_83 k) (tr_83_14 k) ?_
        refine z_bipush 48 d_Mo_symbol_49 (by decide) ?_
        refine z_iload_n d_Mo_symbol_51 rfl ?_
        refine z_imul d_Mo_symbol_52 ?_
        refine z_bipush 24 d_Mo_symbol_53 (by decide) ?_
        refine z_iload_n d_Mo_symbol_55 rfl ?_
        refine z_imul d_Mo_symbol_56 ?_
        refine z_iadd d_Mo_symbol_57 ?_
        refine z_iload_n d_Mo_symbol_58 rfl ?_
        refine z_iadd d_Mo_symbol_59 ?_
        obtain ⟨j8, hj8, ej8, h⟩ := h
        refine y_iaload j8 d_Mo_symbol_60 (ta_96 k) hj8 ej8 ?_
        refine z_goto 66 d_Mo_symbol_61 rfl ?_
        exact z_iret rfl d_Mo_symbol_66 h
    · replace h := h.2 c4
      refine z_bipush (-2) d_Mo_symbol_20 (by decide) ?_
      exact z_iret rfl d_Mo_symbol_22 h
  · replace h := h.2 c2
    refine z_iconst (-1) d_Mo_symbol_8 (by decide) ?_
    exact z_iret rfl d_Mo_symbol_9 h

set_option maxRecDepth 20000 in
theorem vc_Mo_needs_0 (E : ZE) (k : Nat) (M : ZM) (x1 : Int32) (x2 : Int32) (x3 : Int32) (Φ : Option Value → ZS → ZM → Prop)  (h : zW E m_Mo_isNode 6 (zSt k) M 0 [some (.ref 83), some (.int x1)] [] (fun q1 T1 M1 => ∃ y1 : Int32, q1 = some (.int y1) ∧ (zSt k) = T1 ∧ (y1 = 0 → Φ (some (.int (-1))) (zSt k) M1) ∧ (¬ y1 = 0 → zW E m_Mo_isThird 1 (zSt k) M1 0 [some (.int x2)] [] (fun q3 T3 M3 => ∃ y3 : Int32, q3 = some (.int y3) ∧ (zSt k) = T3 ∧ (y3 = 0 → Φ (some (.int (-1))) (zSt k) M3) ∧ (¬ y3 = 0 → zW E m_Mo_isThird 1 (zSt k) M3 0 [some (.int x3)] [] (fun q5 T5 M5 => ∃ y5 : Int32, q5 = some (.int y5) ∧ (zSt k) = T5 ∧ (y5 = 0 → Φ (some (.int (-1))) (zSt k) M5) ∧ (¬ y5 = 0 → ∃ j7 : Nat, j7 < 1350 ∧ (((9 * x1) + (3 * x2)) + x3) = nI j7 ∧ (Φ (some (.int (M5 98 j7))) (zSt k) M5)))))))) : zW E m_Mo_needs 7 (zSt k) M 0 [some (.ref 83), some (.int x1), some (.int x2), some (.int x3)] [] Φ := by
  refine z_aload_n d_Mo_needs_0 rfl ?_
  refine z_iload_n d_Mo_needs_1 rfl ?_
  refine z_callV (as := [.int x1]) (st := []) i_Mo_isNode ⟨rfl, rfl⟩ v_Mo_isNode w_Mo_isNode l_Mo_260 d_Mo_needs_2 (by decide) (tA_83 k) rfl (Nat.le_of_ble_eq_true rfl) (Nat.le_of_ble_eq_true rfl) h (fun q1 T1 M1 h => ?_)
  obtain ⟨y1, rfl, rfl, h⟩ := h
  refine z_if_eq 40 d_Mo_needs_5 rfl ⟨fun c2 => ?_, fun c2 => ?_⟩
  · replace h := h.1 c2
    refine z_iconst (-1) d_Mo_needs_40 (by decide) ?_
    exact z_iret rfl d_Mo_needs_41 h
  · replace h := h.2 c2
    refine z_iload_n d_Mo_needs_8 rfl ?_
    refine z_callS (as := [.int x2]) (st := []) i_Mo_isThird s_Mo_isThird l_Mo_141 d_Mo_needs_9 (by decide) rfl (Nat.le_of_ble_eq_true rfl) (Nat.le_of_ble_eq_true rfl) h (fun q3 T3 M3 h => ?_)
    obtain ⟨y3, rfl, rfl, h⟩ := h
    refine z_if_eq 40 d_Mo_needs_12 rfl ⟨fun c4 => ?_, fun c4 => ?_⟩
    · replace h := h.1 c4
      refine z_iconst (-1) d_Mo_needs_40 (by decide) ?_
      exact z_iret rfl d_Mo_needs_41 h
    · replace h := h.2 c4
      refine z_iload_n d_Mo_needs_15 rfl ?_
      refine z_callS (as := [.int x3]) (st := []) i_Mo_isThird s_Mo_isThird l_Mo_141 d_Mo_needs_16 (by decide) rfl (Nat.le_of_ble_eq_true rfl) (Nat.le_of_ble_eq_true rfl) h (fun q5 T5 M5 h => ?_)
      obtain ⟨y5, rfl, rfl, h⟩ := h
      refine z_if_eq 40 d_Mo_needs_19 rfl ⟨fun c6 => ?_, fun c6 => ?_⟩
      · replace h := h.1 c6
        refine z_iconst (-1) d_Mo_needs_40 (by decide) ?_
        exact z_iret rfl d_Mo_needs_41 h
      · replace h := h.2 c6
        refine z_aload_n d_Mo_needs_22 rfl ?_
        refine z_getr f_Mo_52 rfl d_Mo_needs_23 (tA_83 k) (tr_83_16 k) ?_
        refine z_bipush 9 d_Mo_needs_26 (by decide) ?_
        refine z_iload_n d_Mo_needs_28 rfl ?_
        refine z_imul d_Mo_needs_29 ?_
        refine z_iconst 3 d_Mo_needs_30 (by decide) ?_
        refine z_iload_n d_Mo_needs_31 rfl ?_
        refine z_imul d_Mo_needs_32 ?_
        refine z_iadd d_Mo_needs_33 ?_
        refine z_iload_n d_Mo_needs_34 rfl ?_
        refine z_iadd d_Mo_needs_35 ?_
        obtain ⟨j7, hj7, ej7, h⟩ := h
        refine y_iaload j7 d_Mo_needs_36 (ta_98 k) hj7 ej7 ?_
        refine z_goto 41 d_Mo_needs_37 rfl ?_
        exact z_iret rfl d_Mo_needs_41 h

set_option maxRecDepth 20000 in
theorem vc_Mo_move_0 (E : ZE) (k : Nat) (M : ZM) (x1 : Int32) (x2 : Int32) (x3 : Int32) (Φ : Option Value → ZS → ZM → Prop)  (h : zW E m_Mo_isNode 6 (zSt k) M 0 [some (.ref 83), some (.int x1)] [] (fun q1 T1 M1 => ∃ y1 : Int32, q1 = some (.int y1) ∧ (zSt k) = T1 ∧ (¬ y1 = 0 → zW E m_Mo_in 0 (zSt k) M1 0 [some (.long (Int32.toInt64 x3)), none, some (.long 0), none, some (.long 1), none] [] (fun q3 T3 M3 => ∃ y3 : Int32, q3 = some (.int y3) ∧ (zSt k) = T3 ∧ (¬ y3 = 0 → (0 ≤ x2 → zW E m_Mo_findLeading 4 (zSt k) M3 0 [some (.ref 83), some (.int x1), some (.int x2), none, none] [] (fun q6 T6 M6 => q6 = none ∧ (zSt k) = T6 ∧ (¬ x3 = 0 → Φ (some (.int (M6 83 29))) (zSt k) M6) ∧ (x3 = 0 → Φ (some (.int (M6 83 30))) (zSt k) M6))) ∧ (¬ 0 ≤ x2 → zW E m_Mo_findLeading 4 (zSt k) M3 0 [some (.ref 83), some (.int x1), some (.int (-6)), none, none] [] (fun q8 T8 M8 => q8 = none ∧ (zSt k) = T8 ∧ (¬ x3 = 0 → Φ (some (.int (M8 83 29))) (zSt k) M8) ∧ (x3 = 0 → Φ (some (.int (M8 83 30))) (zSt k) M8)))) ∧ (y3 = 0 → Φ (some (.int (-2))) (zSt k) M3))) ∧ (y1 = 0 → Φ (some (.int (-1))) (zSt k) M1))) : zW E m_Mo_move 7 (zSt k) M 0 [some (.ref 83), some (.int x1), some (.int x2), some (.int x3)] [] Φ := by
  refine z_aload_n d_Mo_move_0 rfl ?_
  refine z_iload_n d_Mo_move_1 rfl ?_
  refine z_callV (as := [.int x1]) (st := []) i_Mo_isNode ⟨rfl, rfl⟩ v_Mo_isNode w_Mo_isNode l_Mo_260 d_Mo_move_2 (by decide) (tA_83 k) rfl (Nat.le_of_ble_eq_true rfl) (Nat.le_of_ble_eq_true rfl) h (fun q1 T1 M1 h => ?_)
  obtain ⟨y1, rfl, rfl, h⟩ := h
  refine z_if_ne 10 d_Mo_move_5 rfl ⟨fun c2 => ?_, fun c2 => ?_⟩
  · replace h := h.1 c2
    refine z_iload_n d_Mo_move_10 rfl ?_
    refine z_i2l d_Mo_move_11 ?_
    refine z_lconst 0 d_Mo_move_12 (by decide) ?_
    refine z_lconst 1 d_Mo_move_13 (by decide) ?_
    refine z_callS (as := [.long (Int32.toInt64 x3), .long 0, .long 1]) (st := []) i_Mo_in s_Mo_in l_Mo_109 d_Mo_move_14 (by decide) rfl (Nat.le_of_ble_eq_true rfl) (Nat.le_of_ble_eq_true rfl) h (fun q3 T3 M3 h => ?_)
    obtain ⟨y3, rfl, rfl, h⟩ := h
    refine z_if_ne 23 d_Mo_move_17 rfl ⟨fun c4 => ?_, fun c4 => ?_⟩
    · replace h := h.1 c4
      refine z_aload_n d_Mo_move_23 rfl ?_
      refine z_iload_n d_Mo_move_24 rfl ?_
      refine z_iload_n d_Mo_move_25 rfl ?_
      refine z_if_ge 34 d_Mo_move_26 rfl ⟨fun c5 => ?_, fun c5 => ?_⟩
      · replace h := h.1 c5
        refine z_iload_n d_Mo_move_34 rfl ?_
        refine z_callV (as := [.int x1, .int x2]) (st := []) i_Mo_findLeading ⟨rfl, rfl⟩ v_Mo_findLeading w_Mo_findLeading l_Mo_263 d_Mo_move_35 (by decide) (tA_83 k) rfl (Nat.le_of_ble_eq_true rfl) (Nat.le_of_ble_eq_true rfl) h (fun q6 T6 M6 h => ?_)
        obtain ⟨rfl, rfl, h⟩ := h
        refine z_iload_n d_Mo_move_38 rfl ?_
        refine z_if_ne 49 d_Mo_move_39 rfl ⟨fun c7 => ?_, fun c7 => ?_⟩
        · replace h := h.1 c7
          refine z_aload_n d_Mo_move_49 rfl ?_
          refine z_geti f_Mo_254 rfl d_Mo_move_50 (tA_83 k) ?_
          exact z_iret rfl d_Mo_move_53 h
        · replace h := h.2 c7
          refine z_aload_n d_Mo_move_42 rfl ?_
          refine z_geti f_Mo_257 rfl d_Mo_move_43 (tA_83 k) ?_
          refine z_goto 53 d_Mo_move_46 rfl ?_
          exact z_iret rfl d_Mo_move_53 h
      · replace h := h.2 c5
        refine z_bipush (-6) d_Mo_move_29 (by decide) ?_
        refine z_goto 35 d_Mo_move_31 rfl ?_
        refine z_callV (as := [.int x1, .int (-6)]) (st := []) i_Mo_findLeading ⟨rfl, rfl⟩ v_Mo_findLeading w_Mo_findLeading l_Mo_263 d_Mo_move_35 (by decide) (tA_83 k) rfl (Nat.le_of_ble_eq_true rfl) (Nat.le_of_ble_eq_true rfl) h (fun q8 T8 M8 h => ?_)
        obtain ⟨rfl, rfl, h⟩ := h
        refine z_iload_n d_Mo_move_38 rfl ?_
        refine z_if_ne 49 d_Mo_move_39 rfl ⟨fun c9 => ?_, fun c9 => ?_⟩
        · replace h := h.1 c9
          refine z_aload_n d_Mo_move_49 rfl ?_
          refine z_geti f_Mo_254 rfl d_Mo_move_50 (tA_83 k) ?_
          exact z_iret rfl d_Mo_move_53 h
        · replace h := h.2 c9
          refine z_aload_n d_Mo_move_42 rfl ?_
          refine z_geti f_Mo_257 rfl d_Mo_move_43 (tA_83 k) ?_
          refine z_goto 53 d_Mo_move_46 rfl ?_
          exact z_iret rfl d_Mo_move_53 h
    · replace h := h.2 c4
      refine z_bipush (-2) d_Mo_move_20 (by decide) ?_
      exact z_iret rfl d_Mo_move_22 h
  · replace h := h.2 c2
    refine z_iconst (-1) d_Mo_move_8 (by decide) ?_
    exact z_iret rfl d_Mo_move_9 h

set_option maxRecDepth 20000 in
theorem vc_Mo_ahead_0 (E : ZE) (k : Nat) (M : ZM) (x1 : Int32) (x2 : Int32) (Φ : Option Value → ZS → ZM → Prop)  (h : ∃ j1 : Nat, j1 < 3 ∧ x1 = nI j1 ∧ ((¬ (M 108 j1) = 60 → ∃ j3 : Nat, j3 < 3 ∧ x1 = nI j3 ∧ (∀ y4 : Int32, y4 = (M 108 j3) → zW E m_Mo_ahead 0 (zSt k) M 24 [some (.ref 83), some (.int x1), some (.int x2), some (.int y4)] [] Φ)) ∧ ((M 108 j1) = 60 → ∀ M5 : ZM, M5 = zms M 83 33 1 → Φ none (zSt k) M5))) : zW E m_Mo_ahead 0 (zSt k) M 0 [some (.ref 83), some (.int x1), some (.int x2), none] [] Φ := by
  refine z_aload_n d_Mo_ahead_0 rfl ?_
  refine z_getr f_Mo_83 rfl d_Mo_ahead_1 (tA_83 k) (tr_83_32 k) ?_
  refine z_iload_n d_Mo_ahead_4 rfl ?_
  obtain ⟨j1, hj1, ej1, h⟩ := h
  refine y_iaload j1 d_Mo_ahead_5 (ta_108 k) hj1 ej1 ?_
  refine z_bipush 60 d_Mo_ahead_6 (by decide) ?_
  refine z_icmp_ne 17 d_Mo_ahead_8 rfl ⟨fun c2 => ?_, fun c2 => ?_⟩
  · replace h := h.1 c2
    refine z_aload_n d_Mo_ahead_17 rfl ?_
    refine z_getr f_Mo_83 rfl d_Mo_ahead_18 (tA_83 k) (tr_83_32 k) ?_
    refine z_iload_n d_Mo_ahead_21 rfl ?_
    obtain ⟨j3, hj3, ej3, h⟩ := h
    refine y_iaload j3 d_Mo_ahead_22 (ta_108 k) hj3 ej3 ?_
    refine z_name (fun y4 ey4 => ?_)
    replace h := h y4 ey4
    refine z_istore_n (ls' := [some (.ref 83), some (.int x1), some (.int x2), some (.int y4)]) d_Mo_ahead_23 (Nat.le_of_ble_eq_true rfl) rfl rfl ?_
    exact z_forget [some (.ref 83), some (.int x1), some (.int x2), some (.int y4)] (And.intro rfl (And.intro rfl (And.intro rfl (And.intro rfl (trivial))))) h
  · replace h := h.2 c2
    refine z_aload_n d_Mo_ahead_11 rfl ?_
    refine z_iconst 1 d_Mo_ahead_12 (by decide) ?_
    refine z_puti (p_Mo_267 rfl) rfl d_Mo_ahead_13 (tA_83 k) rfl rfl ?_
    refine z_mem (fun M5 eM5 => ?_)
    replace h := h M5 eM5
    exact z_vret rfl d_Mo_ahead_16 h

set_option maxRecDepth 20000 in
theorem vc_Mo_ahead_24 (E : ZE) (k : Nat) (M : ZM) (x1 : Int32) (x2 : Int32) (x3 : Int32) (Φ : Option Value → ZS → ZM → Prop)  (h : (x3 ≤ 0 → ∃ j2 : Nat, j2 < 183 ∧ (61 * x1) = nI j2 ∧ (∀ M3 : ZM, M3 = zms M 107 j2 x2 → ∃ j4 : Nat, j4 < 3 ∧ x1 = nI j4 ∧ (∃ j5 : Nat, j5 < 3 ∧ x1 = nI j5 ∧ (∀ M6 : ZM, M6 = zms M3 108 j5 ((M3 108 j4) + 1) → Φ none (zSt k) M6)))) ∧ (¬ x3 ≤ 0 → ∃ j7 : Nat, j7 < 183 ∧ (((61 * x1) + x3) - 1) = nI j7 ∧ (∃ j8 : Nat, j8 < 183 ∧ ((61 * x1) + x3) = nI j8 ∧ (∀ M9 : ZM, M9 = zms M 107 j8 (M 107 j7) → ∀ y10 : Int32, y10 = x3 + (-1) → zW E m_Mo_ahead 0 (zSt k) M9 24 [some (.ref 83), some (.int x1), some (.int x2), some (.int y10)] [] Φ)))) : zW E m_Mo_ahead 0 (zSt k) M 24 [some (.ref 83), some (.int x1), some (.int x2), some (.int x3)] [] Φ := by
  refine z_iload_n d_Mo_ahead_24 rfl ?_
  refine z_if_le 58 d_Mo_ahead_25 rfl ⟨fun c1 => ?_, fun c1 => ?_⟩
  · replace h := h.1 c1
    refine z_aload_n d_Mo_ahead_58 rfl ?_
    refine z_getr f_Mo_80 rfl d_Mo_ahead_59 (tA_83 k) (tr_83_31 k) ?_
    refine z_bipush 61 d_Mo_ahead_62 (by decide) ?_
    refine z_iload_n d_Mo_ahead_64 rfl ?_
    refine z_imul d_Mo_ahead_65 ?_
    refine z_iload_n d_Mo_ahead_66 rfl ?_
    obtain ⟨j2, hj2, ej2, h⟩ := h
    refine y_iastore j2 d_Mo_ahead_67 (ta_107 k) hj2 ej2 ?_
    refine z_mem (fun M3 eM3 => ?_)
    replace h := h M3 eM3
    refine z_aload_n d_Mo_ahead_68 rfl ?_
    refine z_getr f_Mo_83 rfl d_Mo_ahead_69 (tA_83 k) (tr_83_32 k) ?_
    refine z_iload_n d_Mo_ahead_72 rfl ?_
    refine z_dup2 d_Mo_ahead_73 rfl rfl ?_
    obtain ⟨j4, hj4, ej4, h⟩ := h
    refine y_iaload j4 d_Mo_ahead_74 (ta_108 k) hj4 ej4 ?_
    refine z_iconst 1 d_Mo_ahead_75 (by decide) ?_
    refine z_iadd d_Mo_ahead_76 ?_
    obtain ⟨j5, hj5, ej5, h⟩ := h
    refine y_iastore j5 d_Mo_ahead_77 (ta_108 k) hj5 ej5 ?_
    refine z_mem (fun M6 eM6 => ?_)
    replace h := h M6 eM6
    exact z_vret rfl d_Mo_ahead_78 h
  · replace h := h.2 c1
    refine z_aload_n d_Mo_ahead_28 rfl ?_
    refine z_getr f_Mo_80 rfl d_Mo_ahead_29 (tA_83 k) (tr_83_31 k) ?_
    refine z_bipush 61 d_Mo_ahead_32 (by decide) ?_
    refine z_iload_n d_Mo_ahead_34 rfl ?_
    refine z_imul d_Mo_ahead_35 ?_
    refine z_iload_n d_Mo_ahead_36 rfl ?_
    refine z_iadd d_Mo_ahead_37 ?_
    refine z_aload_n d_Mo_ahead_38 rfl ?_
    refine z_getr f_Mo_80 rfl d_Mo_ahead_39 (tA_83 k) (tr_83_31 k) ?_
    refine z_bipush 61 d_Mo_ahead_42 (by decide) ?_
    refine z_iload_n d_Mo_ahead_44 rfl ?_
    refine z_imul d_Mo_ahead_45 ?_
    refine z_iload_n d_Mo_ahead_46 rfl ?_
    refine z_iadd d_Mo_ahead_47 ?_
    refine z_iconst 1 d_Mo_ahead_48 (by decide) ?_
    refine z_isub d_Mo_ahead_49 ?_
    obtain ⟨j7, hj7, ej7, h⟩ := h
    refine y_iaload j7 d_Mo_ahead_50 (ta_107 k) hj7 ej7 ?_
    obtain ⟨j8, hj8, ej8, h⟩ := h
    refine y_iastore j8 d_Mo_ahead_51 (ta_107 k) hj8 ej8 ?_
    refine z_mem (fun M9 eM9 => ?_)
    replace h := h M9 eM9
    obtain ⟨y10, ey10⟩ : ∃ q : Int32, q = x3 + (-1) := ⟨_, rfl⟩
    replace h := h y10 ey10
    refine z_iinc (ls' := [some (.ref 83), some (.int x1), some (.int x2), some (.int y10)]) y10 d_Mo_ahead_52 rfl (ey10 ▸ rfl) (Nat.le_of_ble_eq_true rfl) rfl rfl ?_
    refine z_goto 24 d_Mo_ahead_55 rfl ?_
    exact z_forget [some (.ref 83), some (.int x1), some (.int x2), some (.int y10)] (And.intro rfl (And.intro rfl (And.intro rfl (And.intro rfl (trivial))))) h

set_option maxRecDepth 20000 in
theorem vc_Mo_undoMove_0 (E : ZE) (k : Nat) (M : ZM) (x1 : Int32) (Φ : Option Value → ZS → ZM → Prop)  (h : ∃ j1 : Nat, j1 < 150 ∧ x1 = nI j1 ∧ (∀ y2 : Int32, y2 = (M 100 j1) → ∃ j3 : Nat, j3 < 150 ∧ x1 = nI j3 ∧ (∀ y4 : Int32, y4 = (((M 101 j3) / 100) - ((M 101 j3) / 100) / 10 * 10) → zW E m_Mo_firstOf 0 (zSt k) M 0 [some (.ref 83), some (.int y2), some (.int 0)] [] (fun q5 T5 M5 => ∃ y5 : Int32, q5 = some (.int y5) ∧ (zSt k) = T5 ∧ (¬ y5 = (y4 + 2) → ∃ j7 : Nat, j7 < 150 ∧ x1 = nI j7 ∧ ((1000 ≤ (M5 101 j7) → (2 ≤ y5 → ∃ j10 : Nat, j10 < 3 ∧ (y5 - 2) = nI j10 ∧ (∀ y11 : Int32, y11 = ((M5 108 j10) - 1) → zW E m_Mo_undoMove 1 (zSt k) M5 100 [some (.ref 83), none, none, some (.int y4), none, some (.int y5), some (.int y11)] [] Φ)) ∧ (¬ 2 ≤ y5 → zW E m_Mo_ahead 0 (zSt k) M5 0 [some (.ref 83), some (.int y4), some (.int y5), none] [] (fun q12 T12 M12 => q12 = none ∧ (zSt k) = T12 ∧ Φ none (zSt k) M12))) ∧ (¬ 1000 ≤ (M5 101 j7) → ∃ j13 : Nat, j13 < 3 ∧ y4 = nI j13 ∧ (∀ M14 : ZM, M14 = zms M5 108 j13 0 → Φ none (zSt k) M14)))) ∧ (y5 = (y4 + 2) → zW E m_Mo_firstOf 0 (zSt k) M5 0 [some (.ref 83), some (.int y2), some (.int 1)] [] (fun q15 T15 M15 => ∃ y15 : Int32, q15 = some (.int y15) ∧ (zSt k) = T15 ∧ ∃ j16 : Nat, j16 < 150 ∧ x1 = nI j16 ∧ ((1000 ≤ (M15 101 j16) → (2 ≤ y15 → ∃ j19 : Nat, j19 < 3 ∧ (y15 - 2) = nI j19 ∧ (∀ y20 : Int32, y20 = ((M15 108 j19) - 1) → zW E m_Mo_undoMove 1 (zSt k) M15 100 [some (.ref 83), none, none, some (.int y4), none, some (.int y15), some (.int y20)] [] Φ)) ∧ (¬ 2 ≤ y15 → zW E m_Mo_ahead 0 (zSt k) M15 0 [some (.ref 83), some (.int y4), some (.int y15), none] [] (fun q21 T21 M21 => q21 = none ∧ (zSt k) = T21 ∧ Φ none (zSt k) M21))) ∧ (¬ 1000 ≤ (M15 101 j16) → ∃ j22 : Nat, j22 < 3 ∧ y4 = nI j22 ∧ (∀ M23 : ZM, M23 = zms M15 108 j22 0 → Φ none (zSt k) M23))))))))) : zW E m_Mo_undoMove 1 (zSt k) M 0 [some (.ref 83), some (.int x1), none, none, none, none, none] [] Φ := by
  refine z_aload_n d_Mo_undoMove_0 rfl ?_
  refine z_getr f_Mo_58 rfl d_Mo_undoMove_1 (tA_83 k) (tr_83_18 k) ?_
  refine z_iload_n d_Mo_undoMove_4 rfl ?_
  obtain ⟨j1, hj1, ej1, h⟩ := h
  refine y_iaload j1 d_Mo_undoMove_5 (ta_100 k) hj1 ej1 ?_
  refine z_name (fun y2 ey2 => ?_)
  replace h := h y2 ey2
  refine z_istore_n (ls' := [some (.ref 83), some (.int x1), some (.int y2), none, none, none, none]) d_Mo_undoMove_6 (Nat.le_of_ble_eq_true rfl) rfl rfl ?_
  refine z_aload_n d_Mo_undoMove_7 rfl ?_
  refine z_getr f_Mo_61 rfl d_Mo_undoMove_8 (tA_83 k) (tr_83_19 k) ?_
  refine z_iload_n d_Mo_undoMove_11 rfl ?_
  obtain ⟨j3, hj3, ej3, h⟩ := h
  refine y_iaload j3 d_Mo_undoMove_12 (ta_101 k) hj3 ej3 ?_
  refine z_bipush 100 d_Mo_undoMove_13 (by decide) ?_
  refine z_idiv d_Mo_undoMove_15 (by decide) ?_
  refine z_bipush 10 d_Mo_undoMove_16 (by decide) ?_
  refine z_irem d_Mo_undoMove_18 (by decide) ?_
  refine z_name (fun y4 ey4 => ?_)
  replace h := h y4 ey4
  refine z_istore_n (ls' := [some (.ref 83), some (.int x1), some (.int y2), some (.int y4), none, none, none]) d_Mo_undoMove_19 (Nat.le_of_ble_eq_true rfl) rfl rfl ?_
  refine z_aload_n d_Mo_undoMove_20 rfl ?_
  refine z_iload_n d_Mo_undoMove_21 rfl ?_
  refine z_iconst 0 d_Mo_undoMove_22 (by decide) ?_
  refine z_callV (as := [.int y2, .int 0]) (st := []) i_Mo_firstOf ⟨rfl, rfl⟩ v_Mo_firstOf w_Mo_firstOf l_Mo_191 d_Mo_undoMove_23 (by decide) (tA_83 k) rfl (Nat.le_of_ble_eq_true rfl) (Nat.le_of_ble_eq_true rfl) h (fun q5 T5 M5 h => ?_)
  obtain ⟨y5, rfl, rfl, h⟩ := h
  refine z_istore (ls' := [some (.ref 83), some (.int x1), some (.int y2), some (.int y4), some (.int y5), none, none]) d_Mo_undoMove_26 (Nat.le_of_ble_eq_true rfl) rfl rfl ?_
  refine z_iload d_Mo_undoMove_28 rfl ?_
  refine z_iload_n d_Mo_undoMove_30 rfl ?_
  refine z_iconst 2 d_Mo_undoMove_31 (by decide) ?_
  refine z_iadd d_Mo_undoMove_32 ?_
  refine z_icmp_ne 45 d_Mo_undoMove_33 rfl ⟨fun c6 => ?_, fun c6 => ?_⟩
  · replace h := h.1 c6
    refine z_iload d_Mo_undoMove_45 rfl ?_
    refine z_istore (ls' := [some (.ref 83), some (.int x1), some (.int y2), some (.int y4), some (.int y5), some (.int y5), none]) d_Mo_undoMove_47 (Nat.le_of_ble_eq_true rfl) rfl rfl ?_
    refine z_aload_n d_Mo_undoMove_49 rfl ?_
    refine z_getr f_Mo_61 rfl d_Mo_undoMove_50 (tA_83 k) (tr_83_19 k) ?_
    refine z_iload_n d_Mo_undoMove_53 rfl ?_
    obtain ⟨j7, hj7, ej7, h⟩ := h
    refine y_iaload j7 d_Mo_undoMove_54 (ta_101 k) hj7 ej7 ?_
    refine z_sipush 1000 d_Mo_undoMove_55 (by decide) ?_
    refine z_icmp_ge 71 d_Mo_undoMove_58 rfl ⟨fun c8 => ?_, fun c8 => ?_⟩
    · replace h := h.1 c8
      refine z_iload d_Mo_undoMove_71 rfl ?_
      refine z_iconst 2 d_Mo_undoMove_73 (by decide) ?_
      refine z_icmp_ge 87 d_Mo_undoMove_74 rfl ⟨fun c9 => ?_, fun c9 => ?_⟩
      · replace h := h.1 c9
        refine z_aload_n d_Mo_undoMove_87 rfl ?_
        refine z_getr f_Mo_83 rfl d_Mo_undoMove_88 (tA_83 k) (tr_83_32 k) ?_
        refine z_iload d_Mo_undoMove_91 rfl ?_
        refine z_iconst 2 d_Mo_undoMove_93 (by decide) ?_
        refine z_isub d_Mo_undoMove_94 ?_
        obtain ⟨j10, hj10, ej10, h⟩ := h
        refine y_iaload j10 d_Mo_undoMove_95 (ta_108 k) hj10 ej10 ?_
        refine z_iconst 1 d_Mo_undoMove_96 (by decide) ?_
        refine z_isub d_Mo_undoMove_97 ?_
        refine z_name (fun y11 ey11 => ?_)
        replace h := h y11 ey11
        refine z_istore (ls' := [some (.ref 83), some (.int x1), some (.int y2), some (.int y4), some (.int y5), some (.int y5), some (.int y11)]) d_Mo_undoMove_98 (Nat.le_of_ble_eq_true rfl) rfl rfl ?_
        exact z_forget [some (.ref 83), none, none, some (.int y4), none, some (.int y5), some (.int y11)] (And.intro rfl (And.intro rfl (And.intro rfl (And.intro rfl (trivial))))) h
      · replace h := h.2 c9
        refine z_aload_n d_Mo_undoMove_77 rfl ?_
        refine z_iload_n d_Mo_undoMove_78 rfl ?_
        refine z_iload d_Mo_undoMove_79 rfl ?_
        refine z_callV (as := [.int y4, .int y5]) (st := []) i_Mo_ahead ⟨rfl, rfl⟩ v_Mo_ahead w_Mo_ahead l_Mo_270 d_Mo_undoMove_81 (by decide) (tA_83 k) rfl (Nat.le_of_ble_eq_true rfl) (Nat.le_of_ble_eq_true rfl) h (fun q12 T12 M12 h => ?_)
        obtain ⟨rfl, rfl, h⟩ := h
        refine z_goto 131 d_Mo_undoMove_84 rfl ?_
        exact z_vret rfl d_Mo_undoMove_131 h
    · replace h := h.2 c8
      refine z_aload_n d_Mo_undoMove_61 rfl ?_
      refine z_getr f_Mo_83 rfl d_Mo_undoMove_62 (tA_83 k) (tr_83_32 k) ?_
      refine z_iload_n d_Mo_undoMove_65 rfl ?_
      refine z_iconst 0 d_Mo_undoMove_66 (by decide) ?_
      obtain ⟨j13, hj13, ej13, h⟩ := h
      refine y_iastore j13 d_Mo_undoMove_67 (ta_108 k) hj13 ej13 ?_
      refine z_mem (fun M14 eM14 => ?_)
      replace h := h M14 eM14
      refine z_goto 131 d_Mo_undoMove_68 rfl ?_
      exact z_vret rfl d_Mo_undoMove_131 h
  · replace h := h.2 c6
    refine z_aload_n d_Mo_undoMove_36 rfl ?_
    refine z_iload_n d_Mo_undoMove_37 rfl ?_
    refine z_iconst 1 d_Mo_undoMove_38 (by decide) ?_
    refine z_callV (as := [.int y2, .int 1]) (st := []) i_Mo_firstOf ⟨rfl, rfl⟩ v_Mo_firstOf w_Mo_firstOf l_Mo_191 d_Mo_undoMove_39 (by decide) (tA_83 k) rfl (Nat.le_of_ble_eq_true rfl) (Nat.le_of_ble_eq_true rfl) h (fun q15 T15 M15 h => ?_)
    obtain ⟨y15, rfl, rfl, h⟩ := h
    refine z_goto 47 d_Mo_undoMove_42 rfl ?_
    refine z_istore (ls' := [some (.ref 83), some (.int x1), some (.int y2), some (.int y4), some (.int y5), some (.int y15), none]) d_Mo_undoMove_47 (Nat.le_of_ble_eq_true rfl) rfl rfl ?_
    refine z_aload_n d_Mo_undoMove_49 rfl ?_
    refine z_getr f_Mo_61 rfl d_Mo_undoMove_50 (tA_83 k) (tr_83_19 k) ?_
    refine z_iload_n d_Mo_undoMove_53 rfl ?_
    obtain ⟨j16, hj16, ej16, h⟩ := h
    refine y_iaload j16 d_Mo_undoMove_54 (ta_101 k) hj16 ej16 ?_
    refine z_sipush 1000 d_Mo_undoMove_55 (by decide) ?_
    refine z_icmp_ge 71 d_Mo_undoMove_58 rfl ⟨fun c17 => ?_, fun c17 => ?_⟩
    · replace h := h.1 c17
      refine z_iload d_Mo_undoMove_71 rfl ?_
      refine z_iconst 2 d_Mo_undoMove_73 (by decide) ?_
      refine z_icmp_ge 87 d_Mo_undoMove_74 rfl ⟨fun c18 => ?_, fun c18 => ?_⟩
      · replace h := h.1 c18
        refine z_aload_n d_Mo_undoMove_87 rfl ?_
        refine z_getr f_Mo_83 rfl d_Mo_undoMove_88 (tA_83 k) (tr_83_32 k) ?_
        refine z_iload d_Mo_undoMove_91 rfl ?_
        refine z_iconst 2 d_Mo_undoMove_93 (by decide) ?_
        refine z_isub d_Mo_undoMove_94 ?_
        obtain ⟨j19, hj19, ej19, h⟩ := h
        refine y_iaload j19 d_Mo_undoMove_95 (ta_108 k) hj19 ej19 ?_
        refine z_iconst 1 d_Mo_undoMove_96 (by decide) ?_
        refine z_isub d_Mo_undoMove_97 ?_
        refine z_name (fun y20 ey20 => ?_)
        replace h := h y20 ey20
        refine z_istore (ls' := [some (.ref 83), some (.int x1), some (.int y2), some (.int y4), some (.int y5), some (.int y15), some (.int y20)]) d_Mo_undoMove_98 (Nat.le_of_ble_eq_true rfl) rfl rfl ?_
        exact z_forget [some (.ref 83), none, none, some (.int y4), none, some (.int y15), some (.int y20)] (And.intro rfl (And.intro rfl (And.intro rfl (And.intro rfl (trivial))))) h
      · replace h := h.2 c18
        refine z_aload_n d_Mo_undoMove_77 rfl ?_
        refine z_iload_n d_Mo_undoMove_78 rfl ?_
        refine z_iload d_Mo_undoMove_79 rfl ?_
        refine z_callV (as := [.int y4, .int y15]) (st := []) i_Mo_ahead ⟨rfl, rfl⟩ v_Mo_ahead w_Mo_ahead l_Mo_270 d_Mo_undoMove_81 (by decide) (tA_83 k) rfl (Nat.le_of_ble_eq_true rfl) (Nat.le_of_ble_eq_true rfl) h (fun q21 T21 M21 h => ?_)
        obtain ⟨rfl, rfl, h⟩ := h
        refine z_goto 131 d_Mo_undoMove_84 rfl ?_
        exact z_vret rfl d_Mo_undoMove_131 h
    · replace h := h.2 c17
      refine z_aload_n d_Mo_undoMove_61 rfl ?_
      refine z_getr f_Mo_83 rfl d_Mo_undoMove_62 (tA_83 k) (tr_83_32 k) ?_
      refine z_iload_n d_Mo_undoMove_65 rfl ?_
      refine z_iconst 0 d_Mo_undoMove_66 (by decide) ?_
      obtain ⟨j22, hj22, ej22, h⟩ := h
      refine y_iastore j22 d_Mo_undoMove_67 (ta_108 k) hj22 ej22 ?_
      refine z_mem (fun M23 eM23 => ?_)
      replace h := h M23 eM23
      refine z_goto 131 d_Mo_undoMove_68 rfl ?_
      exact z_vret rfl d_Mo_undoMove_131 h

set_option maxRecDepth 20000 in
theorem vc_Mo_undoMove_100 (E : ZE) (k : Nat) (M : ZM) (x3 : Int32) (x5 : Int32) (x6 : Int32) (Φ : Option Value → ZS → ZM → Prop)  (h : (x6 < 0 → Φ none (zSt k) M) ∧ (¬ x6 < 0 → ∃ j2 : Nat, j2 < 183 ∧ ((61 * (x5 - 2)) + x6) = nI j2 ∧ (zW E m_Mo_ahead 0 (zSt k) M 0 [some (.ref 83), some (.int x3), some (.int (M 107 j2)), none] [] (fun q3 T3 M3 => q3 = none ∧ (zSt k) = T3 ∧ ∀ y4 : Int32, y4 = x6 + (-1) → zW E m_Mo_undoMove 1 (zSt k) M3 100 [some (.ref 83), none, none, some (.int x3), none, some (.int x5), some (.int y4)] [] Φ)))) : zW E m_Mo_undoMove 1 (zSt k) M 100 [some (.ref 83), none, none, some (.int x3), none, some (.int x5), some (.int x6)] [] Φ := by
  refine z_iload d_Mo_undoMove_100 rfl ?_
  refine z_if_lt 131 d_Mo_undoMove_102 rfl ⟨fun c1 => ?_, fun c1 => ?_⟩
  · replace h := h.1 c1
    exact z_vret rfl d_Mo_undoMove_131 h
  · replace h := h.2 c1
    refine z_aload_n d_Mo_undoMove_105 rfl ?_
    refine z_iload_n d_Mo_undoMove_106 rfl ?_
    refine z_aload_n d_Mo_undoMove_107 rfl ?_
    refine z_getr f_Mo_80 rfl d_Mo_undoMove_108 (tA_83 k) (tr_83_31 k) ?_
    refine z_bipush 61 d_Mo_undoMove_111 (by decide) ?_
    refine z_iload d_Mo_undoMove_113 rfl ?_
    refine z_iconst 2 d_Mo_undoMove_115 (by decide) ?_
    refine z_isub d_Mo_undoMove_116 ?_
    refine z_imul d_Mo_undoMove_117 ?_
    refine z_iload d_Mo_undoMove_118 rfl ?_
    refine z_iadd d_Mo_undoMove_120 ?_
    obtain ⟨j2, hj2, ej2, h⟩ := h
    refine y_iaload j2 d_Mo_undoMove_121 (ta_107 k) hj2 ej2 ?_
    refine z_callV (as := [.int x3, .int (M 107 j2)]) (st := []) i_Mo_ahead ⟨rfl, rfl⟩ v_Mo_ahead w_Mo_ahead l_Mo_270 d_Mo_undoMove_122 (by decide) (tA_83 k) rfl (Nat.le_of_ble_eq_true rfl) (Nat.le_of_ble_eq_true rfl) h (fun q3 T3 M3 h => ?_)
    obtain ⟨rfl, rfl, h⟩ := h
    obtain ⟨y4, ey4⟩ : ∃ q : Int32, q = x6 + (-1) := ⟨_, rfl⟩
    replace h := h y4 ey4
    refine z_iinc (ls' := [some (.ref 83), none, none, some (.int x3), none, some (.int x5), some (.int y4)]) y4 d_Mo_undoMove_125 rfl (ey4 ▸ rfl) (Nat.le_of_ble_eq_true rfl) rfl rfl ?_
    refine z_goto 100 d_Mo_undoMove_128 rfl ?_
    exact z_forget [some (.ref 83), none, none, some (.int x3), none, some (.int x5), some (.int y4)] (And.intro rfl (And.intro rfl (And.intro rfl (And.intro rfl (trivial))))) h

set_option maxRecDepth 20000 in
theorem vc_Mo_isAnswered_0 (E : ZE) (k : Nat) (M : ZM)  (Φ : Option Value → ZS → ZM → Prop)  (h : zW E m_Mo_findNet 5 (zSt k) M 0 [some (.ref 83), none, none] [] (fun q1 T1 M1 => q1 = none ∧ (zSt k) = T1 ∧ zW E m_Mo_firstEnd 3 (zSt k) M1 0 [some (.ref 83), none] [] (fun q2 T2 M2 => ∃ y2 : Int32, q2 = some (.int y2) ∧ (zSt k) = T2 ∧ (0 ≤ y2 → ∀ M4 : ZM, M4 = zms M2 83 33 0 → zW E m_Mo_isAnswered 6 (zSt k) M4 22 [some (.ref 83), some (.int y2), some (.int 0), none, none] [] Φ) ∧ (¬ 0 ≤ y2 → Φ (some (.int 0)) (zSt k) M2)))) : zW E m_Mo_isAnswered 6 (zSt k) M 0 [some (.ref 83), none, none, none, none] [] Φ := by
  refine z_aload_n d_Mo_isAnswered_0 rfl ?_
  refine z_callV (as := []) (st := []) i_Mo_findNet ⟨rfl, rfl⟩ v_Mo_findNet w_Mo_findNet l_Mo_239 d_Mo_isAnswered_1 (by decide) (tA_83 k) rfl (Nat.le_of_ble_eq_true rfl) (Nat.le_of_ble_eq_true rfl) h (fun q1 T1 M1 h => ?_)
  obtain ⟨rfl, rfl, h⟩ := h
  refine z_aload_n d_Mo_isAnswered_4 rfl ?_
  refine z_callV (as := []) (st := []) i_Mo_firstEnd ⟨rfl, rfl⟩ v_Mo_firstEnd w_Mo_firstEnd l_Mo_242 d_Mo_isAnswered_5 (by decide) (tA_83 k) rfl (Nat.le_of_ble_eq_true rfl) (Nat.le_of_ble_eq_true rfl) h (fun q2 T2 M2 h => ?_)
  obtain ⟨y2, rfl, rfl, h⟩ := h
  refine z_istore_n (ls' := [some (.ref 83), some (.int y2), none, none, none]) d_Mo_isAnswered_8 (Nat.le_of_ble_eq_true rfl) rfl rfl ?_
  refine z_iload_n d_Mo_isAnswered_9 rfl ?_
  refine z_if_ge 15 d_Mo_isAnswered_10 rfl ⟨fun c3 => ?_, fun c3 => ?_⟩
  · replace h := h.1 c3
    refine z_aload_n d_Mo_isAnswered_15 rfl ?_
    refine z_iconst 0 d_Mo_isAnswered_16 (by decide) ?_
    refine z_puti (p_Mo_267 rfl) rfl d_Mo_isAnswered_17 (tA_83 k) rfl rfl ?_
    refine z_mem (fun M4 eM4 => ?_)
    replace h := h M4 eM4
    refine z_iconst 0 d_Mo_isAnswered_20 (by decide) ?_
    refine z_istore_n (ls' := [some (.ref 83), some (.int y2), some (.int 0), none, none]) d_Mo_isAnswered_21 (Nat.le_of_ble_eq_true rfl) rfl rfl ?_
    exact z_forget [some (.ref 83), some (.int y2), some (.int 0), none, none] (And.intro rfl (And.intro rfl (And.intro rfl (trivial)))) h
  · replace h := h.2 c3
    refine z_iconst 0 d_Mo_isAnswered_13 (by decide) ?_
    exact z_zret rfl d_Mo_isAnswered_14 rfl h

set_option maxRecDepth 20000 in
theorem vc_Mo_isAnswered_22 (E : ZE) (k : Nat) (M : ZM) (x1 : Int32) (x2 : Int32) (Φ : Option Value → ZS → ZM → Prop)  (h : (3 ≤ x2 → zW E m_Mo_isAnswered 6 (zSt k) M 107 [some (.ref 83), none, some (.int x1), none, none] [] Φ) ∧ (¬ 3 ≤ x2 → zW E m_Mo_firstFor 1 (zSt k) M 0 [some (.ref 83), some (.ref 98), some (.int ((9 * x1) + (3 * x2))), none] [] (fun q2 T2 M2 => ∃ y2 : Int32, q2 = some (.int y2) ∧ (zSt k) = T2 ∧ ∃ j3 : Nat, j3 < 27 ∧ y2 = nI j3 ∧ (∃ j4 : Nat, j4 < 3 ∧ x2 = nI j4 ∧ (∀ M5 : ZM, M5 = zms M2 108 j4 (M2 95 j3) → zW E m_Mo_isAnswered 6 (zSt k) M5 59 [some (.ref 83), some (.int x1), some (.int x2), some (.int y2), some (.int 0)] [] Φ))))) : zW E m_Mo_isAnswered 6 (zSt k) M 22 [some (.ref 83), some (.int x1), some (.int x2), none, none] [] Φ := by
  refine z_iload_n d_Mo_isAnswered_22 rfl ?_
  refine z_iconst 3 d_Mo_isAnswered_23 (by decide) ?_
  refine z_icmp_ge 105 d_Mo_isAnswered_24 rfl ⟨fun c1 => ?_, fun c1 => ?_⟩
  · replace h := h.1 c1
    refine z_iload_n d_Mo_isAnswered_105 rfl ?_
    refine z_istore_n (ls' := [some (.ref 83), some (.int x1), some (.int x1), none, none]) d_Mo_isAnswered_106 (Nat.le_of_ble_eq_true rfl) rfl rfl ?_
    exact z_forget [some (.ref 83), none, some (.int x1), none, none] (And.intro rfl (And.intro rfl (trivial))) h
  · replace h := h.2 c1
    refine z_aload_n d_Mo_isAnswered_27 rfl ?_
    refine z_aload_n d_Mo_isAnswered_28 rfl ?_
    refine z_getr f_Mo_52 rfl d_Mo_isAnswered_29 (tA_83 k) (tr_83_16 k) ?_
    refine z_bipush 9 d_Mo_isAnswered_32 (by decide) ?_
    refine z_iload_n d_Mo_isAnswered_34 rfl ?_
    refine z_imul d_Mo_isAnswered_35 ?_
    refine z_iconst 3 d_Mo_isAnswered_36 (by decide) ?_
    refine z_iload_n d_Mo_isAnswered_37 rfl ?_
    refine z_imul d_Mo_isAnswered_38 ?_
    refine z_iadd d_Mo_isAnswered_39 ?_
    refine z_callV (as := [.ref 98, .int ((9 * x1) + (3 * x2))]) (st := []) i_Mo_firstFor ⟨rfl, rfl⟩ v_Mo_firstFor w_Mo_firstFor l_Mo_165 d_Mo_isAnswered_40 (by decide) (tA_83 k) rfl (Nat.le_of_ble_eq_true rfl) (Nat.le_of_ble_eq_true rfl) h (fun q2 T2 M2 h => ?_)
    obtain ⟨y2, rfl, rfl, h⟩ := h
    refine z_istore_n (ls' := [some (.ref 83), some (.int x1), some (.int x2), some (.int y2), none]) d_Mo_isAnswered_43 (Nat.le_of_ble_eq_true rfl) rfl rfl ?_
    refine z_aload_n d_Mo_isAnswered_44 rfl ?_
    refine z_getr f_Mo_83 rfl d_Mo_isAnswered_45 (tA_83 k) (tr_83_32 k) ?_
    refine z_iload_n d_Mo_isAnswered_48 rfl ?_
    refine z_aload_n d_Mo_isAnswered_49 rfl ?_
    refine z_getr f_Mo_43 rfl d_Mo_isAnswered_50 (tA_83 k) (tr_83_12 k) ?_
    refine z_iload_n d_Mo_isAnswered_53 rfl ?_
    obtain ⟨j3, hj3, ej3, h⟩ := h
    refine y_iaload j3 d_Mo_isAnswered_54 (ta_95 k) hj3 ej3 ?_
    obtain ⟨j4, hj4, ej4, h⟩ := h
    refine y_iastore j4 d_Mo_isAnswered_55 (ta_108 k) hj4 ej4 ?_
    refine z_mem (fun M5 eM5 => ?_)
    replace h := h M5 eM5
    refine z_iconst 0 d_Mo_isAnswered_56 (by decide) ?_
    refine z_istore (ls' := [some (.ref 83), some (.int x1), some (.int x2), some (.int y2), some (.int 0)]) d_Mo_isAnswered_57 (Nat.le_of_ble_eq_true rfl) rfl rfl ?_
    exact z_forget [some (.ref 83), some (.int x1), some (.int x2), some (.int y2), some (.int 0)] (And.intro rfl (And.intro rfl (And.intro rfl (And.intro rfl (And.intro rfl (trivial)))))) h

set_option maxRecDepth 20000 in
theorem vc_Mo_isAnswered_59 (E : ZE) (k : Nat) (M : ZM) (x1 : Int32) (x2 : Int32) (x3 : Int32) (x4 : Int32) (Φ : Option Value → ZS → ZM → Prop)  (h : ∃ j1 : Nat, j1 < 27 ∧ x3 = nI j1 ∧ (((M 95 j1) ≤ x4 → ∀ y3 : Int32, y3 = x2 + 1 → zW E m_Mo_isAnswered 6 (zSt k) M 22 [some (.ref 83), some (.int x1), some (.int y3), none, none] [] Φ) ∧ (¬ (M 95 j1) ≤ x4 → ∃ j4 : Nat, j4 < 27 ∧ x3 = nI j4 ∧ (∃ j5 : Nat, j5 < 183 ∧ ((61 * x2) + x4) = nI j5 ∧ (∀ M6 : ZM, M6 = zms M 107 j5 ((((M 94 j4) : Int32) >>> (x4 &&& 31)) &&& 1) → ∀ y7 : Int32, y7 = x4 + 1 → zW E m_Mo_isAnswered 6 (zSt k) M6 59 [some (.ref 83), some (.int x1), some (.int x2), some (.int x3), some (.int y7)] [] Φ))))) : zW E m_Mo_isAnswered 6 (zSt k) M 59 [some (.ref 83), some (.int x1), some (.int x2), some (.int x3), some (.int x4)] [] Φ := by
  refine z_iload d_Mo_isAnswered_59 rfl ?_
  refine z_aload_n d_Mo_isAnswered_61 rfl ?_
  refine z_getr f_Mo_43 rfl d_Mo_isAnswered_62 (tA_83 k) (tr_83_12 k) ?_
  refine z_iload_n d_Mo_isAnswered_65 rfl ?_
  obtain ⟨j1, hj1, ej1, h⟩ := h
  refine y_iaload j1 d_Mo_isAnswered_66 (ta_95 k) hj1 ej1 ?_
  refine z_icmp_ge 99 d_Mo_isAnswered_67 rfl ⟨fun c2 => ?_, fun c2 => ?_⟩
  · replace h := h.1 c2
    obtain ⟨y3, ey3⟩ : ∃ q : Int32, q = x2 + 1 := ⟨_, rfl⟩
    replace h := h y3 ey3
    refine z_iinc (ls' := [some (.ref 83), some (.int x1), some (.int y3), some (.int x3), some (.int x4)]) y3 d_Mo_isAnswered_99 rfl (ey3 ▸ rfl) (Nat.le_of_ble_eq_true rfl) rfl rfl ?_
    refine z_goto 22 d_Mo_isAnswered_102 rfl ?_
    exact z_forget [some (.ref 83), some (.int x1), some (.int y3), none, none] (And.intro rfl (And.intro rfl (And.intro rfl (trivial)))) h
  · replace h := h.2 c2
    refine z_aload_n d_Mo_isAnswered_70 rfl ?_
    refine z_getr f_Mo_80 rfl d_Mo_isAnswered_71 (tA_83 k) (tr_83_31 k) ?_
    refine z_bipush 61 d_Mo_isAnswered_74 (by decide) ?_
    refine z_iload_n d_Mo_isAnswered_76 rfl ?_
    refine z_imul d_Mo_isAnswered_77 ?_
    refine z_iload d_Mo_isAnswered_78 rfl ?_
    refine z_iadd d_Mo_isAnswered_80 ?_
    refine z_aload_n d_Mo_isAnswered_81 rfl ?_
    refine z_getr f_Mo_40 rfl d_Mo_isAnswered_82 (tA_83 k) (tr_83_11 k) ?_
    refine z_iload_n d_Mo_isAnswered_85 rfl ?_
    obtain ⟨j4, hj4, ej4, h⟩ := h
    refine y_iaload j4 d_Mo_isAnswered_86 (ta_94 k) hj4 ej4 ?_
    refine z_iload d_Mo_isAnswered_87 rfl ?_
    refine z_ishr d_Mo_isAnswered_89 ?_
    refine z_iconst 1 d_Mo_isAnswered_90 (by decide) ?_
    refine z_iand d_Mo_isAnswered_91 ?_
    obtain ⟨j5, hj5, ej5, h⟩ := h
    refine y_iastore j5 d_Mo_isAnswered_92 (ta_107 k) hj5 ej5 ?_
    refine z_mem (fun M6 eM6 => ?_)
    replace h := h M6 eM6
    obtain ⟨y7, ey7⟩ : ∃ q : Int32, q = x4 + 1 := ⟨_, rfl⟩
    replace h := h y7 ey7
    refine z_iinc (ls' := [some (.ref 83), some (.int x1), some (.int x2), some (.int x3), some (.int y7)]) y7 d_Mo_isAnswered_93 rfl (ey7 ▸ rfl) (Nat.le_of_ble_eq_true rfl) rfl rfl ?_
    refine z_goto 59 d_Mo_isAnswered_96 rfl ?_
    exact z_forget [some (.ref 83), some (.int x1), some (.int x2), some (.int x3), some (.int y7)] (And.intro rfl (And.intro rfl (And.intro rfl (And.intro rfl (And.intro rfl (trivial)))))) h

set_option maxRecDepth 20000 in
theorem vc_Mo_isAnswered_107 (E : ZE) (k : Nat) (M : ZM) (x2 : Int32) (Φ : Option Value → ZS → ZM → Prop)  (h : (x2 ≤ 0 → (¬ (M 83 33) = 0 → Φ (some (.int 0)) (zSt k) M) ∧ ((M 83 33) = 0 → Φ (some (.int 1)) (zSt k) M)) ∧ (¬ x2 ≤ 0 → (¬ (M 83 33) = 0 → (¬ (M 83 33) = 0 → Φ (some (.int 0)) (zSt k) M) ∧ ((M 83 33) = 0 → Φ (some (.int 1)) (zSt k) M)) ∧ ((M 83 33) = 0 → zW E m_Mo_undoMove 1 (zSt k) M 0 [some (.ref 83), some (.int x2), none, none, none, none, none] [] (fun q5 T5 M5 => q5 = none ∧ (zSt k) = T5 ∧ ∃ j6 : Nat, j6 < 150 ∧ x2 = nI j6 ∧ (∀ y7 : Int32, y7 = (M5 100 j6) → zW E m_Mo_isAnswered 6 (zSt k) M5 107 [some (.ref 83), none, some (.int y7), none, none] [] Φ))))) : zW E m_Mo_isAnswered 6 (zSt k) M 107 [some (.ref 83), none, some (.int x2), none, none] [] Φ := by
  refine z_iload_n d_Mo_isAnswered_107 rfl ?_
  refine z_if_le 133 d_Mo_isAnswered_108 rfl ⟨fun c1 => ?_, fun c1 => ?_⟩
  · replace h := h.1 c1
    refine z_aload_n d_Mo_isAnswered_133 rfl ?_
    refine z_geti f_Mo_267 rfl d_Mo_isAnswered_134 (tA_83 k) ?_
    refine z_if_ne 144 d_Mo_isAnswered_137 rfl ⟨fun c2 => ?_, fun c2 => ?_⟩
    · replace h := h.1 c2
      refine z_iconst 0 d_Mo_isAnswered_144 (by decide) ?_
      exact z_zret rfl d_Mo_isAnswered_145 rfl h
    · replace h := h.2 c2
      refine z_iconst 1 d_Mo_isAnswered_140 (by decide) ?_
      refine z_goto 145 d_Mo_isAnswered_141 rfl ?_
      exact z_zret rfl d_Mo_isAnswered_145 rfl h
  · replace h := h.2 c1
    refine z_aload_n d_Mo_isAnswered_111 rfl ?_
    refine z_geti f_Mo_267 rfl d_Mo_isAnswered_112 (tA_83 k) ?_
    refine z_if_ne 133 d_Mo_isAnswered_115 rfl ⟨fun c3 => ?_, fun c3 => ?_⟩
    · replace h := h.1 c3
      refine z_aload_n d_Mo_isAnswered_133 rfl ?_
      refine z_geti f_Mo_267 rfl d_Mo_isAnswered_134 (tA_83 k) ?_
      refine z_if_ne 144 d_Mo_isAnswered_137 rfl ⟨fun c4 => ?_, fun c4 => ?_⟩
      · replace h := h.1 c4
        refine z_iconst 0 d_Mo_isAnswered_144 (by decide) ?_
        exact z_zret rfl d_Mo_isAnswered_145 rfl h
      · replace h := h.2 c4
        refine z_iconst 1 d_Mo_isAnswered_140 (by decide) ?_
        refine z_goto 145 d_Mo_isAnswered_141 rfl ?_
        exact z_zret rfl d_Mo_isAnswered_145 rfl h
    · replace h := h.2 c3
      refine z_aload_n d_Mo_isAnswered_118 rfl ?_
      refine z_iload_n d_Mo_isAnswered_119 rfl ?_
      refine z_callV (as := [.int x2]) (st := []) i_Mo_undoMove ⟨rfl, rfl⟩ v_Mo_undoMove w_Mo_undoMove l_Mo_273 d_Mo_isAnswered_120 (by decide) (tA_83 k) rfl (Nat.le_of_ble_eq_true rfl) (Nat.le_of_ble_eq_true rfl) h (fun q5 T5 M5 h => ?_)
      obtain ⟨rfl, rfl, h⟩ := h
      refine z_aload_n d_Mo_isAnswered_123 rfl ?_
      refine z_getr f_Mo_58 rfl d_Mo_isAnswered_124 (tA_83 k) (tr_83_18 k) ?_
      refine z_iload_n d_Mo_isAnswered_127 rfl ?_
      obtain ⟨j6, hj6, ej6, h⟩ := h
      refine y_iaload j6 d_Mo_isAnswered_128 (ta_100 k) hj6 ej6 ?_
      refine z_name (fun y7 ey7 => ?_)
      replace h := h y7 ey7
      refine z_istore_n (ls' := [some (.ref 83), none, some (.int y7), none, none]) d_Mo_isAnswered_129 (Nat.le_of_ble_eq_true rfl) rfl rfl ?_
      refine z_goto 107 d_Mo_isAnswered_130 rfl ?_
      exact z_forget [some (.ref 83), none, some (.int y7), none, none] (And.intro rfl (And.intro rfl (trivial))) h

set_option maxRecDepth 20000 in
theorem vc_Mo_answer_0 (E : ZE) (k : Nat) (M : ZM) (x1 : Int32) (x2 : Int32) (Φ : Option Value → ZS → ZM → Prop)  (h : zW E m_Mo_isThird 1 (zSt k) M 0 [some (.int x1)] [] (fun q1 T1 M1 => ∃ y1 : Int32, q1 = some (.int y1) ∧ (zSt k) = T1 ∧ (¬ y1 = 0 → zW E m_Mo_isAnswered 6 (zSt k) M1 0 [some (.ref 83), none, none, none, none] [] (fun q3 T3 M3 => ∃ y3 : Int32, q3 = some (.int y3) ∧ (zSt k) = T3 ∧ (¬ y3 = 0 → (¬ x2 = (-1) → ∃ j6 : Nat, j6 < 3 ∧ x1 = nI j6 ∧ (zW E m_Mo_in 0 (zSt k) M3 0 [some (.long (Int32.toInt64 x2)), none, some (.long 0), none, some (.long (Int32.toInt64 ((M3 108 j6) - 1))), none] [] (fun q7 T7 M7 => ∃ y7 : Int32, q7 = some (.int y7) ∧ (zSt k) = T7 ∧ (y7 = 0 → Φ (some (.int (-6))) (zSt k) M7) ∧ (¬ y7 = 0 → ∃ j9 : Nat, j9 < 183 ∧ ((61 * x1) + x2) = nI j9 ∧ (Φ (some (.int (M7 107 j9))) (zSt k) M7))))) ∧ (x2 = (-1) → ∃ j10 : Nat, j10 < 3 ∧ x1 = nI j10 ∧ (Φ (some (.int (M3 108 j10))) (zSt k) M3))) ∧ (y3 = 0 → Φ (some (.int (-3))) (zSt k) M3))) ∧ (y1 = 0 → Φ (some (.int (-1))) (zSt k) M1))) : zW E m_Mo_answer 7 (zSt k) M 0 [some (.ref 83), some (.int x1), some (.int x2)] [] Φ := by
  refine z_iload_n d_Mo_answer_0 rfl ?_
  refine z_callS (as := [.int x1]) (st := []) i_Mo_isThird s_Mo_isThird l_Mo_141 d_Mo_answer_1 (by decide) rfl (Nat.le_of_ble_eq_true rfl) (Nat.le_of_ble_eq_true rfl) h (fun q1 T1 M1 h => ?_)
  obtain ⟨y1, rfl, rfl, h⟩ := h
  refine z_if_ne 9 d_Mo_answer_4 rfl ⟨fun c2 => ?_, fun c2 => ?_⟩
  · replace h := h.1 c2
    refine z_aload_n d_Mo_answer_9 rfl ?_
    refine z_callV (as := []) (st := []) i_Mo_isAnswered ⟨rfl, rfl⟩ v_Mo_isAnswered w_Mo_isAnswered l_Mo_276 d_Mo_answer_10 (by decide) (tA_83 k) rfl (Nat.le_of_ble_eq_true rfl) (Nat.le_of_ble_eq_true rfl) h (fun q3 T3 M3 h => ?_)
    obtain ⟨y3, rfl, rfl, h⟩ := h
    refine z_if_ne 19 d_Mo_answer_13 rfl ⟨fun c4 => ?_, fun c4 => ?_⟩
    · replace h := h.1 c4
      refine z_iload_n d_Mo_answer_19 rfl ?_
      refine z_iconst (-1) d_Mo_answer_20 (by decide) ?_
      refine z_icmp_ne 33 d_Mo_answer_21 rfl ⟨fun c5 => ?_, fun c5 => ?_⟩
      · replace h := h.1 c5
        refine z_iload_n d_Mo_answer_33 rfl ?_
        refine z_i2l d_Mo_answer_34 ?_
        refine z_lconst 0 d_Mo_answer_35 (by decide) ?_
        refine z_aload_n d_Mo_answer_36 rfl ?_
        refine z_getr f_Mo_83 rfl d_Mo_answer_37 (tA_83 k) (tr_83_32 k) ?_
        refine z_iload_n d_Mo_answer_40 rfl ?_
        obtain ⟨j6, hj6, ej6, h⟩ := h
        refine y_iaload j6 d_Mo_answer_41 (ta_108 k) hj6 ej6 ?_
        refine z_iconst 1 d_Mo_answer_42 (by decide) ?_
        refine z_isub d_Mo_answer_43 ?_
        refine z_i2l d_Mo_answer_44 ?_
        refine z_callS (as := [.long (Int32.toInt64 x2), .long 0, .long (Int32.toInt64 ((M3 108 j6) - 1))]) (st := []) i_Mo_in s_Mo_in l_Mo_109 d_Mo_answer_45 (by decide) rfl (Nat.le_of_ble_eq_true rfl) (Nat.le_of_ble_eq_true rfl) h (fun q7 T7 M7 h => ?_)
        obtain ⟨y7, rfl, rfl, h⟩ := h
        refine z_if_eq 65 d_Mo_answer_48 rfl ⟨fun c8 => ?_, fun c8 => ?_⟩
        · replace h := h.1 c8
          refine z_bipush (-6) d_Mo_answer_65 (by decide) ?_
          exact z_iret rfl d_Mo_answer_67 h
        · replace h := h.2 c8
          refine z_aload_n d_Mo_answer_51 rfl ?_
          refine z_getr f_Mo_80 rfl d_Mo_answer_52 (tA_83 k) (tr_83_31 k) ?_
          refine z_bipush 61 d_Mo_answer_55 (by decide) ?_
          refine z_iload_n d_Mo_answer_57 rfl ?_
          refine z_imul d_Mo_answer_58 ?_
          refine z_iload_n d_Mo_answer_59 rfl ?_
          refine z_iadd d_Mo_answer_60 ?_
          obtain ⟨j9, hj9, ej9, h⟩ := h
          refine y_iaload j9 d_Mo_answer_61 (ta_107 k) hj9 ej9 ?_
          refine z_goto 67 d_Mo_answer_62 rfl ?_
          exact z_iret rfl d_Mo_answer_67 h
      · replace h := h.2 c5
        refine z_aload_n d_Mo_answer_24 rfl ?_
        refine z_getr f_Mo_83 rfl d_Mo_answer_25 (tA_83 k) (tr_83_32 k) ?_
        refine z_iload_n d_Mo_answer_28 rfl ?_
        obtain ⟨j10, hj10, ej10, h⟩ := h
        refine y_iaload j10 d_Mo_answer_29 (ta_108 k) hj10 ej10 ?_
        refine z_goto 67 d_Mo_answer_30 rfl ?_
        exact z_iret rfl d_Mo_answer_67 h
    · replace h := h.2 c4
      refine z_bipush (-3) d_Mo_answer_16 (by decide) ?_
      exact z_iret rfl d_Mo_answer_18 h
  · replace h := h.2 c2
    refine z_iconst (-1) d_Mo_answer_7 (by decide) ?_
    exact z_iret rfl d_Mo_answer_8 h

set_option maxRecDepth 20000 in
theorem vc_Mo_spell_0 (E : ZE) (k : Nat) (M : ZM) (x1 : Int32) (x2 : Int32) (Φ : Option Value → ZS → ZM → Prop)  (h : zW E m_Mo_isThird 1 (zSt k) M 0 [some (.int x1)] [] (fun q1 T1 M1 => ∃ y1 : Int32, q1 = some (.int y1) ∧ (zSt k) = T1 ∧ (y1 = 0 → Φ (some (.int (-1))) (zSt k) M1) ∧ (¬ y1 = 0 → zW E m_Mo_in 0 (zSt k) M1 0 [some (.long (Int32.toInt64 x2)), none, some (.long 0), none, some (.long 1), none] [] (fun q3 T3 M3 => ∃ y3 : Int32, q3 = some (.int y3) ∧ (zSt k) = T3 ∧ (¬ y3 = 0 → ∃ j5 : Nat, j5 < 3 ∧ x1 = nI j5 ∧ ((¬ (M3 89 j5) = 12 → ∃ j7 : Nat, j7 < 3 ∧ x1 = nI j7 ∧ (∃ j8 : Nat, j8 < 36 ∧ ((12 * x1) + (M3 89 j7)) = nI j8 ∧ (∀ M9 : ZM, M9 = zms M3 88 j8 x2 → ∃ j10 : Nat, j10 < 3 ∧ x1 = nI j10 ∧ (∃ j11 : Nat, j11 < 3 ∧ x1 = nI j11 ∧ (∀ M12 : ZM, M12 = zms M9 89 j11 ((M9 89 j10) + 1) → ∃ j13 : Nat, j13 < 3 ∧ x1 = nI j13 ∧ (Φ (some (.int (M12 89 j13))) (zSt k) M12)))))) ∧ ((M3 89 j5) = 12 → Φ (some (.int (-4))) (zSt k) M3))) ∧ (y3 = 0 → Φ (some (.int (-1))) (zSt k) M3))))) : zW E m_Mo_spell 2 (zSt k) M 0 [some (.ref 83), some (.int x1), some (.int x2)] [] Φ := by
  refine z_iload_n d_Mo_spell_0 rfl ?_
  refine z_callS (as := [.int x1]) (st := []) i_Mo_isThird s_Mo_isThird l_Mo_141 d_Mo_spell_1 (by decide) rfl (Nat.le_of_ble_eq_true rfl) (Nat.le_of_ble_eq_true rfl) h (fun q1 T1 M1 h => ?_)
  obtain ⟨y1, rfl, rfl, h⟩ := h
  refine z_if_eq 17 d_Mo_spell_4 rfl ⟨fun c2 => ?_, fun c2 => ?_⟩
  · replace h := h.1 c2
    refine z_iconst (-1) d_Mo_spell_17 (by decide) ?_
    exact z_iret rfl d_Mo_spell_18 h
  · replace h := h.2 c2
    refine z_iload_n d_Mo_spell_7 rfl ?_
    refine z_i2l d_Mo_spell_8 ?_
    refine z_lconst 0 d_Mo_spell_9 (by decide) ?_
    refine z_lconst 1 d_Mo_spell_10 (by decide) ?_
    refine z_callS (as := [.long (Int32.toInt64 x2), .long 0, .long 1]) (st := []) i_Mo_in s_Mo_in l_Mo_109 d_Mo_spell_11 (by decide) rfl (Nat.le_of_ble_eq_true rfl) (Nat.le_of_ble_eq_true rfl) h (fun q3 T3 M3 h => ?_)
    obtain ⟨y3, rfl, rfl, h⟩ := h
    refine z_if_ne 19 d_Mo_spell_14 rfl ⟨fun c4 => ?_, fun c4 => ?_⟩
    · replace h := h.1 c4
      refine z_aload_n d_Mo_spell_19 rfl ?_
      refine z_getr f_Mo_25 rfl d_Mo_spell_20 (tA_83 k) (tr_83_5 k) ?_
      refine z_iload_n d_Mo_spell_23 rfl ?_
      obtain ⟨j5, hj5, ej5, h⟩ := h
      refine y_iaload j5 d_Mo_spell_24 (ta_89 k) hj5 ej5 ?_
      refine z_bipush 12 d_Mo_spell_25 (by decide) ?_
      refine z_icmp_ne 33 d_Mo_spell_27 rfl ⟨fun c6 => ?_, fun c6 => ?_⟩
      · replace h := h.1 c6
        refine z_aload_n d_Mo_spell_33 rfl ?_
        refine z_getr f_Mo_22 rfl d_Mo_spell_34 (tA_83 k) (tr_83_4 k) ?_
        refine z_bipush 12 d_Mo_spell_37 (by decide) ?_
        refine z_iload_n d_Mo_spell_39 rfl ?_
        refine z_imul d_Mo_spell_40 ?_
        refine z_aload_n d_Mo_spell_41 rfl ?_
        refine z_getr f_Mo_25 rfl d_Mo_spell_42 (tA_83 k) (tr_83_5 k) ?_
        refine z_iload_n d_Mo_spell_45 rfl ?_
        obtain ⟨j7, hj7, ej7, h⟩ := h
        refine y_iaload j7 d_Mo_spell_46 (ta_89 k) hj7 ej7 ?_
        refine z_iadd d_Mo_spell_47 ?_
        refine z_iload_n d_Mo_spell_48 rfl ?_
        obtain ⟨j8, hj8, ej8, h⟩ := h
        refine y_iastore j8 d_Mo_spell_49 (ta_88 k) hj8 ej8 ?_
        refine z_mem (fun M9 eM9 => ?_)
        replace h := h M9 eM9
        refine z_aload_n d_Mo_spell_50 rfl ?_
        refine z_getr f_Mo_25 rfl d_Mo_spell_51 (tA_83 k) (tr_83_5 k) ?_
        refine z_iload_n d_Mo_spell_54 rfl ?_
        refine z_dup2 d_Mo_spell_55 rfl rfl ?_
        obtain ⟨j10, hj10, ej10, h⟩ := h
        refine y_iaload j10 d_Mo_spell_56 (ta_89 k) hj10 ej10 ?_
        refine z_iconst 1 d_Mo_spell_57 (by decide) ?_
        refine z_iadd d_Mo_spell_58 ?_
        obtain ⟨j11, hj11, ej11, h⟩ := h
        refine y_iastore j11 d_Mo_spell_59 (ta_89 k) hj11 ej11 ?_
        refine z_mem (fun M12 eM12 => ?_)
        replace h := h M12 eM12
        refine z_aload_n d_Mo_spell_60 rfl ?_
        refine z_getr f_Mo_25 rfl d_Mo_spell_61 (tA_83 k) (tr_83_5 k) ?_
        refine z_iload_n d_Mo_spell_64 rfl ?_
        obtain ⟨j13, hj13, ej13, h⟩ := h
        refine y_iaload j13 d_Mo_spell_65 (ta_89 k) hj13 ej13 ?_
        exact z_iret rfl d_Mo_spell_66 h
      · replace h := h.2 c6
        refine z_bipush (-4) d_Mo_spell_30 (by decide) ?_
        exact z_iret rfl d_Mo_spell_32 h
    · replace h := h.2 c4
      refine z_iconst (-1) d_Mo_spell_17 (by decide) ?_
      exact z_iret rfl d_Mo_spell_18 h

set_option maxRecDepth 20000 in
theorem vc_Mo_clear_0 (E : ZE) (k : Nat) (M : ZM) (x1 : Int32) (Φ : Option Value → ZS → ZM → Prop)  (h : zW E m_Mo_isThird 1 (zSt k) M 0 [some (.int x1)] [] (fun q1 T1 M1 => ∃ y1 : Int32, q1 = some (.int y1) ∧ (zSt k) = T1 ∧ (¬ y1 = 0 → ∃ j3 : Nat, j3 < 3 ∧ x1 = nI j3 ∧ (∀ y4 : Int32, y4 = (M1 89 j3) → ∃ j5 : Nat, j5 < 3 ∧ x1 = nI j5 ∧ (∀ M6 : ZM, M6 = zms M1 89 j5 0 → Φ (some (.int y4)) (zSt k) M6))) ∧ (y1 = 0 → Φ (some (.int (-1))) (zSt k) M1))) : zW E m_Mo_clear 2 (zSt k) M 0 [some (.ref 83), some (.int x1), none] [] Φ := by
  refine z_iload_n d_Mo_clear_0 rfl ?_
  refine z_callS (as := [.int x1]) (st := []) i_Mo_isThird s_Mo_isThird l_Mo_141 d_Mo_clear_1 (by decide) rfl (Nat.le_of_ble_eq_true rfl) (Nat.le_of_ble_eq_true rfl) h (fun q1 T1 M1 h => ?_)
  obtain ⟨y1, rfl, rfl, h⟩ := h
  refine z_if_ne 9 d_Mo_clear_4 rfl ⟨fun c2 => ?_, fun c2 => ?_⟩
  · replace h := h.1 c2
    refine z_aload_n d_Mo_clear_9 rfl ?_
    refine z_getr f_Mo_25 rfl d_Mo_clear_10 (tA_83 k) (tr_83_5 k) ?_
    refine z_iload_n d_Mo_clear_13 rfl ?_
    obtain ⟨j3, hj3, ej3, h⟩ := h
    refine y_iaload j3 d_Mo_clear_14 (ta_89 k) hj3 ej3 ?_
    refine z_name (fun y4 ey4 => ?_)
    replace h := h y4 ey4
    refine z_istore_n (ls' := [some (.ref 83), some (.int x1), some (.int y4)]) d_Mo_clear_15 (Nat.le_of_ble_eq_true rfl) rfl rfl ?_
    refine z_aload_n d_Mo_clear_16 rfl ?_
    refine z_getr f_Mo_25 rfl d_Mo_clear_17 (tA_83 k) (tr_83_5 k) ?_
    refine z_iload_n d_Mo_clear_20 rfl ?_
    refine z_iconst 0 d_Mo_clear_21 (by decide) ?_
    obtain ⟨j5, hj5, ej5, h⟩ := h
    refine y_iastore j5 d_Mo_clear_22 (ta_89 k) hj5 ej5 ?_
    refine z_mem (fun M6 eM6 => ?_)
    replace h := h M6 eM6
    refine z_iload_n d_Mo_clear_23 rfl ?_
    exact z_iret rfl d_Mo_clear_24 h
  · replace h := h.2 c2
    refine z_iconst (-1) d_Mo_clear_7 (by decide) ?_
    exact z_iret rfl d_Mo_clear_8 h

set_option maxRecDepth 20000 in
theorem vc_Mo_take_0 (E : ZE) (k : Nat) (M : ZM)  (Φ : Option Value → ZS → ZM → Prop)  (h : zW E m_Mo_isAnswered 6 (zSt k) M 0 [some (.ref 83), none, none, none, none] [] (fun q1 T1 M1 => ∃ y1 : Int32, q1 = some (.int y1) ∧ (zSt k) = T1 ∧ (¬ y1 = 0 → (12 < (M1 108 0) → Φ (some (.int (-4))) (zSt k) M1) ∧ (¬ 12 < (M1 108 0) → (12 < (M1 108 1) → Φ (some (.int (-4))) (zSt k) M1) ∧ (¬ 12 < (M1 108 1) → ((M1 108 2) ≤ 12 → zW E m_Mo_take 7 (zSt k) M1 48 [some (.ref 83), some (.int 0), none] [] Φ) ∧ (¬ (M1 108 2) ≤ 12 → Φ (some (.int (-4))) (zSt k) M1)))) ∧ (y1 = 0 → Φ (some (.int (-3))) (zSt k) M1))) : zW E m_Mo_take 7 (zSt k) M 0 [some (.ref 83), none, none] [] Φ := by
  refine z_aload_n d_Mo_take_0 rfl ?_
  refine z_callV (as := []) (st := []) i_Mo_isAnswered ⟨rfl, rfl⟩ v_Mo_isAnswered w_Mo_isAnswered l_Mo_276 d_Mo_take_1 (by decide) (tA_83 k) rfl (Nat.le_of_ble_eq_true rfl) (Nat.le_of_ble_eq_true rfl) h (fun q1 T1 M1 h => ?_)
  obtain ⟨y1, rfl, rfl, h⟩ := h
  refine z_if_ne 10 d_Mo_take_4 rfl ⟨fun c2 => ?_, fun c2 => ?_⟩
  · replace h := h.1 c2
    refine z_aload_n d_Mo_take_10 rfl ?_
    refine z_getr f_Mo_83 rfl d_Mo_take_11 (tA_83 k) (tr_83_32 k) ?_
    refine z_iconst 0 d_Mo_take_14 (by decide) ?_
    refine y_iaload 0 d_Mo_take_15 (ta_108 k) (by decide) (by decide) ?_
    refine z_bipush 12 d_Mo_take_16 (by decide) ?_
    refine z_icmp_gt 43 d_Mo_take_18 rfl ⟨fun c3 => ?_, fun c3 => ?_⟩
    · replace h := h.1 c3
      refine z_bipush (-4) d_Mo_take_43 (by decide) ?_
      exact z_iret rfl d_Mo_take_45 h
    · replace h := h.2 c3
      refine z_aload_n d_Mo_take_21 rfl ?_
      refine z_getr f_Mo_83 rfl d_Mo_take_22 (tA_83 k) (tr_83_32 k) ?_
      refine z_iconst 1 d_Mo_take_25 (by decide) ?_
      refine y_iaload 1 d_Mo_take_26 (ta_108 k) (by decide) (by decide) ?_
      refine z_bipush 12 d_Mo_take_27 (by decide) ?_
      refine z_icmp_gt 43 d_Mo_take_29 rfl ⟨fun c4 => ?_, fun c4 => ?_⟩
      · replace h := h.1 c4
        refine z_bipush (-4) d_Mo_take_43 (by decide) ?_
        exact z_iret rfl d_Mo_take_45 h
      · replace h := h.2 c4
        refine z_aload_n d_Mo_take_32 rfl ?_
        refine z_getr f_Mo_83 rfl d_Mo_take_33 (tA_83 k) (tr_83_32 k) ?_
        refine z_iconst 2 d_Mo_take_36 (by decide) ?_
        refine y_iaload 2 d_Mo_take_37 (ta_108 k) (by decide) (by decide) ?_
        refine z_bipush 12 d_Mo_take_38 (by decide) ?_
        refine z_icmp_le 46 d_Mo_take_40 rfl ⟨fun c5 => ?_, fun c5 => ?_⟩
        · replace h := h.1 c5
          refine z_iconst 0 d_Mo_take_46 (by decide) ?_
          refine z_istore_n (ls' := [some (.ref 83), some (.int 0), none]) d_Mo_take_47 (Nat.le_of_ble_eq_true rfl) rfl rfl ?_
          exact z_forget [some (.ref 83), some (.int 0), none] (And.intro rfl (And.intro rfl (trivial))) h
        · replace h := h.2 c5
          refine z_bipush (-4) d_Mo_take_43 (by decide) ?_
          exact z_iret rfl d_Mo_take_45 h
  · replace h := h.2 c2
    refine z_bipush (-3) d_Mo_take_7 (by decide) ?_
    exact z_iret rfl d_Mo_take_9 h

set_option maxRecDepth 20000 in
theorem vc_Mo_take_48 (E : ZE) (k : Nat) (M : ZM) (x1 : Int32) (Φ : Option Value → ZS → ZM → Prop)  (h : (3 ≤ x1 → Φ (some (.int (((M 108 0) + (M 108 1)) + (M 108 2)))) (zSt k) M) ∧ (¬ 3 ≤ x1 → ∃ j2 : Nat, j2 < 3 ∧ x1 = nI j2 ∧ (∃ j3 : Nat, j3 < 3 ∧ x1 = nI j3 ∧ (∀ M4 : ZM, M4 = zms M 89 j3 (M 108 j2) → zW E m_Mo_take 7 (zSt k) M4 67 [some (.ref 83), some (.int x1), some (.int 0)] [] Φ)))) : zW E m_Mo_take 7 (zSt k) M 48 [some (.ref 83), some (.int x1), none] [] Φ := by
  refine z_iload_n d_Mo_take_48 rfl ?_
  refine z_iconst 3 d_Mo_take_49 (by decide) ?_
  refine z_icmp_ge 111 d_Mo_take_50 rfl ⟨fun c1 => ?_, fun c1 => ?_⟩
  · replace h := h.1 c1
    refine z_aload_n d_Mo_take_111 rfl ?_
    refine z_getr f_Mo_83 rfl d_Mo_take_112 (tA_83 k) (tr_83_32 k) ?_
    refine z_iconst 0 d_Mo_take_115 (by decide) ?_
    refine y_iaload 0 d_Mo_take_116 (ta_108 k) (by decide) (by decide) ?_
    refine z_aload_n d_Mo_take_117 rfl ?_
    refine z_getr f_Mo_83 rfl d_Mo_take_118 (tA_83 k) (tr_83_32 k) ?_
    refine z_iconst 1 d_Mo_take_121 (by decide) ?_
    refine y_iaload 1 d_Mo_take_122 (ta_108 k) (by decide) (by decide) ?_
    refine z_iadd d_Mo_take_123 ?_
    refine z_aload_n d_Mo_take_124 rfl ?_
    refine z_getr f_Mo_83 rfl d_Mo_take_125 (tA_83 k) (tr_83_32 k) ?_
    refine z_iconst 2 d_Mo_take_128 (by decide) ?_
    refine y_iaload 2 d_Mo_take_129 (ta_108 k) (by decide) (by decide) ?_
    refine z_iadd d_Mo_take_130 ?_
    exact z_iret rfl d_Mo_take_131 h
  · replace h := h.2 c1
    refine z_aload_n d_Mo_take_53 rfl ?_
    refine z_getr f_Mo_25 rfl d_Mo_take_54 (tA_83 k) (tr_83_5 k) ?_
    refine z_iload_n d_Mo_take_57 rfl ?_
    refine z_aload_n d_Mo_take_58 rfl ?_
    refine z_getr f_Mo_83 rfl d_Mo_take_59 (tA_83 k) (tr_83_32 k) ?_
    refine z_iload_n d_Mo_take_62 rfl ?_
    obtain ⟨j2, hj2, ej2, h⟩ := h
    refine y_iaload j2 d_Mo_take_63 (ta_108 k) hj2 ej2 ?_
    obtain ⟨j3, hj3, ej3, h⟩ := h
    refine y_iastore j3 d_Mo_take_64 (ta_89 k) hj3 ej3 ?_
    refine z_mem (fun M4 eM4 => ?_)
    replace h := h M4 eM4
    refine z_iconst 0 d_Mo_take_65 (by decide) ?_
    refine z_istore_n (ls' := [some (.ref 83), some (.int x1), some (.int 0)]) d_Mo_take_66 (Nat.le_of_ble_eq_true rfl) rfl rfl ?_
    exact z_forget [some (.ref 83), some (.int x1), some (.int 0)] (And.intro rfl (And.intro rfl (And.intro rfl (trivial)))) h

set_option maxRecDepth 20000 in
theorem vc_Mo_take_67 (E : ZE) (k : Nat) (M : ZM) (x1 : Int32) (x2 : Int32) (Φ : Option Value → ZS → ZM → Prop)  (h : ∃ j1 : Nat, j1 < 3 ∧ x1 = nI j1 ∧ (((M 108 j1) ≤ x2 → ∀ y3 : Int32, y3 = x1 + 1 → zW E m_Mo_take 7 (zSt k) M 48 [some (.ref 83), some (.int y3), none] [] Φ) ∧ (¬ (M 108 j1) ≤ x2 → ∃ j4 : Nat, j4 < 183 ∧ ((61 * x1) + x2) = nI j4 ∧ (∃ j5 : Nat, j5 < 36 ∧ ((12 * x1) + x2) = nI j5 ∧ (∀ M6 : ZM, M6 = zms M 88 j5 (M 107 j4) → ∀ y7 : Int32, y7 = x2 + 1 → zW E m_Mo_take 7 (zSt k) M6 67 [some (.ref 83), some (.int x1), some (.int y7)] [] Φ))))) : zW E m_Mo_take 7 (zSt k) M 67 [some (.ref 83), some (.int x1), some (.int x2)] [] Φ := by
  refine z_iload_n d_Mo_take_67 rfl ?_
  refine z_aload_n d_Mo_take_68 rfl ?_
  refine z_getr f_Mo_83 rfl d_Mo_take_69 (tA_83 k) (tr_83_32 k) ?_
  refine z_iload_n d_Mo_take_72 rfl ?_
  obtain ⟨j1, hj1, ej1, h⟩ := h
  refine y_iaload j1 d_Mo_take_73 (ta_108 k) hj1 ej1 ?_
  refine z_icmp_ge 105 d_Mo_take_74 rfl ⟨fun c2 => ?_, fun c2 => ?_⟩
  · replace h := h.1 c2
    obtain ⟨y3, ey3⟩ : ∃ q : Int32, q = x1 + 1 := ⟨_, rfl⟩
    replace h := h y3 ey3
    refine z_iinc (ls' := [some (.ref 83), some (.int y3), some (.int x2)]) y3 d_Mo_take_105 rfl (ey3 ▸ rfl) (Nat.le_of_ble_eq_true rfl) rfl rfl ?_
    refine z_goto 48 d_Mo_take_108 rfl ?_
    exact z_forget [some (.ref 83), some (.int y3), none] (And.intro rfl (And.intro rfl (trivial))) h
  · replace h := h.2 c2
    refine z_aload_n d_Mo_take_77 rfl ?_
    refine z_getr f_Mo_22 rfl d_Mo_take_78 (tA_83 k) (tr_83_4 k) ?_
    refine z_bipush 12 d_Mo_take_81 (by decide) ?_
    refine z_iload_n d_Mo_take_83 rfl ?_
    refine z_imul d_Mo_take_84 ?_
    refine z_iload_n d_Mo_take_85 rfl ?_
    refine z_iadd d_Mo_take_86 ?_
    refine z_aload_n d_Mo_take_87 rfl ?_
    refine z_getr f_Mo_80 rfl d_Mo_take_88 (tA_83 k) (tr_83_31 k) ?_
    refine z_bipush 61 d_Mo_take_91 (by decide) ?_
    refine z_iload_n d_Mo_take_93 rfl ?_
    refine z_imul d_Mo_take_94 ?_
    refine z_iload_n d_Mo_take_95 rfl ?_
    refine z_iadd d_Mo_take_96 ?_
    obtain ⟨j4, hj4, ej4, h⟩ := h
    refine y_iaload j4 d_Mo_take_97 (ta_107 k) hj4 ej4 ?_
    obtain ⟨j5, hj5, ej5, h⟩ := h
    refine y_iastore j5 d_Mo_take_98 (ta_88 k) hj5 ej5 ?_
    refine z_mem (fun M6 eM6 => ?_)
    replace h := h M6 eM6
    obtain ⟨y7, ey7⟩ : ∃ q : Int32, q = x2 + 1 := ⟨_, rfl⟩
    replace h := h y7 ey7
    refine z_iinc (ls' := [some (.ref 83), some (.int x1), some (.int y7)]) y7 d_Mo_take_99 rfl (ey7 ▸ rfl) (Nat.le_of_ble_eq_true rfl) rfl rfl ?_
    refine z_goto 67 d_Mo_take_102 rfl ?_
    exact z_forget [some (.ref 83), some (.int x1), some (.int y7)] (And.intro rfl (And.intro rfl (And.intro rfl (trivial)))) h

set_option maxRecDepth 20000 in
theorem vc_Mo_addWhole_0 (E : ZE) (k : Nat) (M : ZM) (x1 : Int32) (x2 : Int32) (Φ : Option Value → ZS → ZM → Prop)  (h : ∃ j1 : Nat, j1 < 2 ∧ x1 = nI j1 ∧ (∃ j2 : Nat, j2 < 288 ∧ ((144 * x1) + (M 112 j1)) = nI j2 ∧ (∀ M3 : ZM, M3 = zms M 111 j2 x2 → ∃ j4 : Nat, j4 < 2 ∧ x1 = nI j4 ∧ (∃ j5 : Nat, j5 < 2 ∧ x1 = nI j5 ∧ (∀ M6 : ZM, M6 = zms M3 112 j5 ((M3 112 j4) + 1) → Φ none (zSt k) M6))))) : zW E m_Mo_addWhole 0 (zSt k) M 0 [some (.ref 83), some (.int x1), some (.int x2)] [] Φ := by
  refine z_aload_n d_Mo_addWhole_0 rfl ?_
  refine z_getr f_Mo_92 rfl d_Mo_addWhole_1 (tA_83 k) (tr_83_36 k) ?_
  refine z_sipush 144 d_Mo_addWhole_4 (by decide) ?_
  refine z_iload_n d_Mo_addWhole_7 rfl ?_
  refine z_imul d_Mo_addWhole_8 ?_
  refine z_aload_n d_Mo_addWhole_9 rfl ?_
  refine z_getr f_Mo_95 rfl d_Mo_addWhole_10 (tA_83 k) (tr_83_37 k) ?_
  refine z_iload_n d_Mo_addWhole_13 rfl ?_
  obtain ⟨j1, hj1, ej1, h⟩ := h
  refine y_iaload j1 d_Mo_addWhole_14 (ta_112 k) hj1 ej1 ?_
  refine z_iadd d_Mo_addWhole_15 ?_
  refine z_iload_n d_Mo_addWhole_16 rfl ?_
  obtain ⟨j2, hj2, ej2, h⟩ := h
  refine y_iastore j2 d_Mo_addWhole_17 (ta_111 k) hj2 ej2 ?_
  refine z_mem (fun M3 eM3 => ?_)
  replace h := h M3 eM3
  refine z_aload_n d_Mo_addWhole_18 rfl ?_
  refine z_getr f_Mo_95 rfl d_Mo_addWhole_19 (tA_83 k) (tr_83_37 k) ?_
  refine z_iload_n d_Mo_addWhole_22 rfl ?_
  refine z_dup2 d_Mo_addWhole_23 rfl rfl ?_
  obtain ⟨j4, hj4, ej4, h⟩ := h
  refine y_iaload j4 d_Mo_addWhole_24 (ta_112 k) hj4 ej4 ?_
  refine z_iconst 1 d_Mo_addWhole_25 (by decide) ?_
  refine z_iadd d_Mo_addWhole_26 ?_
  obtain ⟨j5, hj5, ej5, h⟩ := h
  refine y_iastore j5 d_Mo_addWhole_27 (ta_112 k) hj5 ej5 ?_
  refine z_mem (fun M6 eM6 => ?_)
  replace h := h M6 eM6
  exact z_vret rfl d_Mo_addWhole_28 h

set_option maxRecDepth 20000 in
theorem vc_Mo_layWhole_0 (E : ZE) (k : Nat) (M : ZM) (x1 : Int32) (Φ : Option Value → ZS → ZM → Prop)  (h : ∃ j1 : Nat, j1 < 2 ∧ x1 = nI j1 ∧ (∀ M2 : ZM, M2 = zms M 112 j1 0 → zW E m_Mo_layWhole 1 (zSt k) M2 9 [some (.ref 83), some (.int x1), some (.int 0), none, none] [] Φ)) : zW E m_Mo_layWhole 1 (zSt k) M 0 [some (.ref 83), some (.int x1), none, none, none] [] Φ := by
  refine z_aload_n d_Mo_layWhole_0 rfl ?_
  refine z_getr f_Mo_95 rfl d_Mo_layWhole_1 (tA_83 k) (tr_83_37 k) ?_
  refine z_iload_n d_Mo_layWhole_4 rfl ?_
  refine z_iconst 0 d_Mo_layWhole_5 (by decide) ?_
  obtain ⟨j1, hj1, ej1, h⟩ := h
  refine y_iastore j1 d_Mo_layWhole_6 (ta_112 k) hj1 ej1 ?_
  refine z_mem (fun M2 eM2 => ?_)
  replace h := h M2 eM2
  refine z_iconst 0 d_Mo_layWhole_7 (by decide) ?_
  refine z_istore_n (ls' := [some (.ref 83), some (.int x1), some (.int 0), none, none]) d_Mo_layWhole_8 (Nat.le_of_ble_eq_true rfl) rfl rfl ?_
  exact z_forget [some (.ref 83), some (.int x1), some (.int 0), none, none] (And.intro rfl (And.intro rfl (And.intro rfl (trivial)))) h

set_option maxRecDepth 20000 in
theorem vc_Mo_layWhole_9 (E : ZE) (k : Nat) (M : ZM) (x1 : Int32) (x2 : Int32) (Φ : Option Value → ZS → ZM → Prop)  (h : ∃ j1 : Nat, j1 < 2 ∧ x1 = nI j1 ∧ (((M 85 j1) ≤ x2 → Φ none (zSt k) M) ∧ (¬ (M 85 j1) ≤ x2 → ∃ j3 : Nat, j3 < 24 ∧ ((12 * x1) + x2) = nI j3 ∧ (∀ y4 : Int32, y4 = (M 84 j3) → (2 ≤ y4 → zW E m_Mo_layWhole 1 (zSt k) M 45 [some (.ref 83), some (.int x1), some (.int x2), some (.int y4), some (.int 0)] [] Φ) ∧ (¬ 2 ≤ y4 → zW E m_Mo_addWhole 0 (zSt k) M 0 [some (.ref 83), some (.int x1), some (.int y4)] [] (fun q6 T6 M6 => q6 = none ∧ (zSt k) = T6 ∧ zW E m_Mo_layWhole 1 (zSt k) M6 45 [some (.ref 83), some (.int x1), some (.int x2), some (.int y4), some (.int 0)] [] Φ)))))) : zW E m_Mo_layWhole 1 (zSt k) M 9 [some (.ref 83), some (.int x1), some (.int x2), none, none] [] Φ := by
  refine z_iload_n d_Mo_layWhole_9 rfl ?_
  refine z_aload_n d_Mo_layWhole_10 rfl ?_
  refine z_getr f_Mo_13 rfl d_Mo_layWhole_11 (tA_83 k) (tr_83_1 k) ?_
  refine z_iload_n d_Mo_layWhole_14 rfl ?_
  obtain ⟨j1, hj1, ej1, h⟩ := h
  refine y_iaload j1 d_Mo_layWhole_15 (ta_85 k) hj1 ej1 ?_
  refine z_icmp_ge 94 d_Mo_layWhole_16 rfl ⟨fun c2 => ?_, fun c2 => ?_⟩
  · replace h := h.1 c2
    exact z_vret rfl d_Mo_layWhole_94 h
  · replace h := h.2 c2
    refine z_aload_n d_Mo_layWhole_19 rfl ?_
    refine z_getr f_Mo_7 rfl d_Mo_layWhole_20 (tA_83 k) (tr_83_0 k) ?_
    refine z_bipush 12 d_Mo_layWhole_23 (by decide) ?_
    refine z_iload_n d_Mo_layWhole_25 rfl ?_
    refine z_imul d_Mo_layWhole_26 ?_
    refine z_iload_n d_Mo_layWhole_27 rfl ?_
    refine z_iadd d_Mo_layWhole_28 ?_
    obtain ⟨j3, hj3, ej3, h⟩ := h
    refine y_iaload j3 d_Mo_layWhole_29 (ta_84 k) hj3 ej3 ?_
    refine z_name (fun y4 ey4 => ?_)
    replace h := h y4 ey4
    refine z_istore_n (ls' := [some (.ref 83), some (.int x1), some (.int x2), some (.int y4), none]) d_Mo_layWhole_30 (Nat.le_of_ble_eq_true rfl) rfl rfl ?_
    refine z_iload_n d_Mo_layWhole_31 rfl ?_
    refine z_iconst 2 d_Mo_layWhole_32 (by decide) ?_
    refine z_icmp_ge 42 d_Mo_layWhole_33 rfl ⟨fun c5 => ?_, fun c5 => ?_⟩
    · replace h := h.1 c5
      refine z_iconst 0 d_Mo_layWhole_42 (by decide) ?_
      refine z_istore (ls' := [some (.ref 83), some (.int x1), some (.int x2), some (.int y4), some (.int 0)]) d_Mo_layWhole_43 (Nat.le_of_ble_eq_true rfl) rfl rfl ?_
      exact z_forget [some (.ref 83), some (.int x1), some (.int x2), some (.int y4), some (.int 0)] (And.intro rfl (And.intro rfl (And.intro rfl (And.intro rfl (And.intro rfl (trivial)))))) h
    · replace h := h.2 c5
      refine z_aload_n d_Mo_layWhole_36 rfl ?_
      refine z_iload_n d_Mo_layWhole_37 rfl ?_
      refine z_iload_n d_Mo_layWhole_38 rfl ?_
      refine z_callV (as := [.int x1, .int y4]) (st := []) i_Mo_addWhole ⟨rfl, rfl⟩ v_Mo_addWhole w_Mo_addWhole l_Mo_279 d_Mo_layWhole_39 (by decide) (tA_83 k) rfl (Nat.le_of_ble_eq_true rfl) (Nat.le_of_ble_eq_true rfl) h (fun q6 T6 M6 h => ?_)
      obtain ⟨rfl, rfl, h⟩ := h
      refine z_iconst 0 d_Mo_layWhole_42 (by decide) ?_
      refine z_istore (ls' := [some (.ref 83), some (.int x1), some (.int x2), some (.int y4), some (.int 0)]) d_Mo_layWhole_43 (Nat.le_of_ble_eq_true rfl) rfl rfl ?_
      exact z_forget [some (.ref 83), some (.int x1), some (.int x2), some (.int y4), some (.int 0)] (And.intro rfl (And.intro rfl (And.intro rfl (And.intro rfl (And.intro rfl (trivial)))))) h

set_option maxRecDepth 20000 in
theorem vc_Mo_layWhole_45 (E : ZE) (k : Nat) (M : ZM) (x1 : Int32) (x2 : Int32) (x3 : Int32) (x4 : Int32) (Φ : Option Value → ZS → ZM → Prop)  (h : (x3 < 2 → ∀ y2 : Int32, y2 = x2 + 1 → zW E m_Mo_layWhole 1 (zSt k) M 9 [some (.ref 83), some (.int x1), some (.int y2), none, none] [] Φ) ∧ (¬ x3 < 2 → ∃ j3 : Nat, j3 < 3 ∧ (x3 - 2) = nI j3 ∧ (((M 110 j3) ≤ x4 → ∀ y5 : Int32, y5 = x2 + 1 → zW E m_Mo_layWhole 1 (zSt k) M 9 [some (.ref 83), some (.int x1), some (.int y5), none, none] [] Φ) ∧ (¬ (M 110 j3) ≤ x4 → ∃ j6 : Nat, j6 < 36 ∧ ((12 * (x3 - 2)) + x4) = nI j6 ∧ (zW E m_Mo_addWhole 0 (zSt k) M 0 [some (.ref 83), some (.int x1), some (.int (M 109 j6))] [] (fun q7 T7 M7 => q7 = none ∧ (zSt k) = T7 ∧ ∀ y8 : Int32, y8 = x4 + 1 → zW E m_Mo_layWhole 1 (zSt k) M7 45 [some (.ref 83), some (.int x1), some (.int x2), some (.int x3), some (.int y8)] [] Φ)))))) : zW E m_Mo_layWhole 1 (zSt k) M 45 [some (.ref 83), some (.int x1), some (.int x2), some (.int x3), some (.int x4)] [] Φ := by
  refine z_iload_n d_Mo_layWhole_45 rfl ?_
  refine z_iconst 2 d_Mo_layWhole_46 (by decide) ?_
  refine z_icmp_lt 88 d_Mo_layWhole_47 rfl ⟨fun c1 => ?_, fun c1 => ?_⟩
  · replace h := h.1 c1
    obtain ⟨y2, ey2⟩ : ∃ q : Int32, q = x2 + 1 := ⟨_, rfl⟩
    replace h := h y2 ey2
    refine z_iinc (ls' := [some (.ref 83), some (.int x1), some (.int y2), some (.int x3), some (.int x4)]) y2 d_Mo_layWhole_88 rfl (ey2 ▸ rfl) (Nat.le_of_ble_eq_true rfl) rfl rfl ?_
    refine z_goto 9 d_Mo_layWhole_91 rfl ?_
    exact z_forget [some (.ref 83), some (.int x1), some (.int y2), none, none] (And.intro rfl (And.intro rfl (And.intro rfl (trivial)))) h
  · replace h := h.2 c1
    refine z_iload d_Mo_layWhole_50 rfl ?_
    refine z_aload_n d_Mo_layWhole_52 rfl ?_
    refine z_getr f_Mo_89 rfl d_Mo_layWhole_53 (tA_83 k) (tr_83_35 k) ?_
    refine z_iload_n d_Mo_layWhole_56 rfl ?_
    refine z_iconst 2 d_Mo_layWhole_57 (by decide) ?_
    refine z_isub d_Mo_layWhole_58 ?_
    obtain ⟨j3, hj3, ej3, h⟩ := h
    refine y_iaload j3 d_Mo_layWhole_59 (ta_110 k) hj3 ej3 ?_
    refine z_icmp_ge 88 d_Mo_layWhole_60 rfl ⟨fun c4 => ?_, fun c4 => ?_⟩
    · replace h := h.1 c4
      obtain ⟨y5, ey5⟩ : ∃ q : Int32, q = x2 + 1 := ⟨_, rfl⟩
      replace h := h y5 ey5
      refine z_iinc (ls' := [some (.ref 83), some (.int x1), some (.int y5), some (.int x3), some (.int x4)]) y5 d_Mo_layWhole_88 rfl (ey5 ▸ rfl) (Nat.le_of_ble_eq_true rfl) rfl rfl ?_
      refine z_goto 9 d_Mo_layWhole_91 rfl ?_
      exact z_forget [some (.ref 83), some (.int x1), some (.int y5), none, none] (And.intro rfl (And.intro rfl (And.intro rfl (trivial)))) h
    · replace h := h.2 c4
      refine z_aload_n d_Mo_layWhole_63 rfl ?_
      refine z_iload_n d_Mo_layWhole_64 rfl ?_
      refine z_aload_n d_Mo_layWhole_65 rfl ?_
      refine z_getr f_Mo_86 rfl d_Mo_layWhole_66 (tA_83 k) (tr_83_34 k) ?_
      refine z_bipush 12 d_Mo_layWhole_69 (by decide) ?_
      refine z_iload_n d_Mo_layWhole_71 rfl ?_
      refine z_iconst 2 d_Mo_layWhole_72 (by decide) ?_
      refine z_isub d_Mo_layWhole_73 ?_
      refine z_imul d_Mo_layWhole_74 ?_
      refine z_iload d_Mo_layWhole_75 rfl ?_
      refine z_iadd d_Mo_layWhole_77 ?_
      obtain ⟨j6, hj6, ej6, h⟩ := h
      refine y_iaload j6 d_Mo_layWhole_78 (ta_109 k) hj6 ej6 ?_
      refine z_callV (as := [.int x1, .int (M 109 j6)]) (st := []) i_Mo_addWhole ⟨rfl, rfl⟩ v_Mo_addWhole w_Mo_addWhole l_Mo_279 d_Mo_layWhole_79 (by decide) (tA_83 k) rfl (Nat.le_of_ble_eq_true rfl) (Nat.le_of_ble_eq_true rfl) h (fun q7 T7 M7 h => ?_)
      obtain ⟨rfl, rfl, h⟩ := h
      obtain ⟨y8, ey8⟩ : ∃ q : Int32, q = x4 + 1 := ⟨_, rfl⟩
      replace h := h y8 ey8
      refine z_iinc (ls' := [some (.ref 83), some (.int x1), some (.int x2), some (.int x3), some (.int y8)]) y8 d_Mo_layWhole_82 rfl (ey8 ▸ rfl) (Nat.le_of_ble_eq_true rfl) rfl rfl ?_
      refine z_goto 45 d_Mo_layWhole_85 rfl ?_
      exact z_forget [some (.ref 83), some (.int x1), some (.int x2), some (.int x3), some (.int y8)] (And.intro rfl (And.intro rfl (And.intro rfl (And.intro rfl (And.intro rfl (trivial)))))) h

set_option maxRecDepth 20000 in
theorem vc_Mo_isOne_0 (E : ZE) (k : Nat) (M : ZM)  (Φ : Option Value → ZS → ZM → Prop)  (h : zW E m_Mo_layWhole 1 (zSt k) M 0 [some (.ref 83), some (.int 0), none, none, none] [] (fun q1 T1 M1 => q1 = none ∧ (zSt k) = T1 ∧ zW E m_Mo_layWhole 1 (zSt k) M1 0 [some (.ref 83), some (.int 1), none, none, none] [] (fun q2 T2 M2 => q2 = none ∧ (zSt k) = T2 ∧ (¬ (M2 112 0) = (M2 112 1) → zW E m_Mo_isOne 2 (zSt k) M2 33 [some (.ref 83), some (.int 0), some (.int 0)] [] Φ) ∧ ((M2 112 0) = (M2 112 1) → zW E m_Mo_isOne 2 (zSt k) M2 33 [some (.ref 83), some (.int 1), some (.int 0)] [] Φ)))) : zW E m_Mo_isOne 2 (zSt k) M 0 [some (.ref 83), none, none] [] Φ := by
  refine z_aload_n d_Mo_isOne_0 rfl ?_
  refine z_iconst 0 d_Mo_isOne_1 (by decide) ?_
  refine z_callV (as := [.int 0]) (st := []) i_Mo_layWhole ⟨rfl, rfl⟩ v_Mo_layWhole w_Mo_layWhole l_Mo_282 d_Mo_isOne_2 (by decide) (tA_83 k) rfl (Nat.le_of_ble_eq_true rfl) (Nat.le_of_ble_eq_true rfl) h (fun q1 T1 M1 h => ?_)
  obtain ⟨rfl, rfl, h⟩ := h
  refine z_aload_n d_Mo_isOne_5 rfl ?_
  refine z_iconst 1 d_Mo_isOne_6 (by decide) ?_
  refine z_callV (as := [.int 1]) (st := []) i_Mo_layWhole ⟨rfl, rfl⟩ v_Mo_layWhole w_Mo_layWhole l_Mo_282 d_Mo_isOne_7 (by decide) (tA_83 k) rfl (Nat.le_of_ble_eq_true rfl) (Nat.le_of_ble_eq_true rfl) h (fun q2 T2 M2 h => ?_)
  obtain ⟨rfl, rfl, h⟩ := h
  refine z_aload_n d_Mo_isOne_10 rfl ?_
  refine z_getr f_Mo_95 rfl d_Mo_isOne_11 (tA_83 k) (tr_83_37 k) ?_
  refine z_iconst 0 d_Mo_isOne_14 (by decide) ?_
  refine y_iaload 0 d_Mo_isOne_15 (ta_112 k) (by decide) (by decide) ?_
  refine z_aload_n d_Mo_isOne_16 rfl ?_
  refine z_getr f_Mo_95 rfl d_Mo_isOne_17 (tA_83 k) (tr_83_37 k) ?_
  refine z_iconst 1 d_Mo_isOne_20 (by decide) ?_
  refine y_iaload 1 d_Mo_isOne_21 (ta_112 k) (by decide) (by decide) ?_
  refine z_icmp_ne 29 d_Mo_isOne_22 rfl ⟨fun c3 => ?_, fun c3 => ?_⟩
  · replace h := h.1 c3
    refine z_iconst 0 d_Mo_isOne_29 (by decide) ?_
    refine z_istore_n (ls' := [some (.ref 83), some (.int 0), none]) d_Mo_isOne_30 (Nat.le_of_ble_eq_true rfl) rfl rfl ?_
    refine z_iconst 0 d_Mo_isOne_31 (by decide) ?_
    refine z_istore_n (ls' := [some (.ref 83), some (.int 0), some (.int 0)]) d_Mo_isOne_32 (Nat.le_of_ble_eq_true rfl) rfl rfl ?_
    exact z_forget [some (.ref 83), some (.int 0), some (.int 0)] (And.intro rfl (And.intro rfl (And.intro rfl (trivial)))) h
  · replace h := h.2 c3
    refine z_iconst 1 d_Mo_isOne_25 (by decide) ?_
    refine z_goto 30 d_Mo_isOne_26 rfl ?_
    refine z_istore_n (ls' := [some (.ref 83), some (.int 1), none]) d_Mo_isOne_30 (Nat.le_of_ble_eq_true rfl) rfl rfl ?_
    refine z_iconst 0 d_Mo_isOne_31 (by decide) ?_
    refine z_istore_n (ls' := [some (.ref 83), some (.int 1), some (.int 0)]) d_Mo_isOne_32 (Nat.le_of_ble_eq_true rfl) rfl rfl ?_
    exact z_forget [some (.ref 83), some (.int 1), some (.int 0)] (And.intro rfl (And.intro rfl (And.intro rfl (trivial)))) h

set_option maxRecDepth 20000 in
theorem vc_Mo_isOne_33 (E : ZE) (k : Nat) (M : ZM) (x1 : Int32) (x2 : Int32) (Φ : Option Value → ZS → ZM → Prop)  (h : ((M 112 0) ≤ x2 → (x1 = 0 ∨ x1 = 1) ∧ Φ (some (.int x1)) (zSt k) M) ∧ (¬ (M 112 0) ≤ x2 → (x1 = 0 → (x1 = 0 ∨ x1 = 1) ∧ Φ (some (.int x1)) (zSt k) M) ∧ (¬ x1 = 0 → ∃ j3 : Nat, j3 < 288 ∧ x2 = nI j3 ∧ (∃ j4 : Nat, j4 < 288 ∧ (144 + x2) = nI j4 ∧ ((¬ (M 111 j3) = (M 111 j4) → ∀ y6 : Int32, y6 = x2 + 1 → zW E m_Mo_isOne 2 (zSt k) M 33 [some (.ref 83), some (.int 0), some (.int y6)] [] Φ) ∧ ((M 111 j3) = (M 111 j4) → ∀ y7 : Int32, y7 = x2 + 1 → zW E m_Mo_isOne 2 (zSt k) M 33 [some (.ref 83), some (.int 1), some (.int y7)] [] Φ)))))) : zW E m_Mo_isOne 2 (zSt k) M 33 [some (.ref 83), some (.int x1), some (.int x2)] [] Φ := by
  refine z_iload_n d_Mo_isOne_33 rfl ?_
  refine z_aload_n d_Mo_isOne_34 rfl ?_
  refine z_getr f_Mo_95 rfl d_Mo_isOne_35 (tA_83 k) (tr_83_37 k) ?_
  refine z_iconst 0 d_Mo_isOne_38 (by decide) ?_
  refine y_iaload 0 d_Mo_isOne_39 (ta_112 k) (by decide) (by decide) ?_
  refine z_icmp_ge 78 d_Mo_isOne_40 rfl ⟨fun c1 => ?_, fun c1 => ?_⟩
  · replace h := h.1 c1
    refine z_iload_n d_Mo_isOne_78 rfl ?_
    exact z_zret rfl d_Mo_isOne_79 (zbool h.1).1 h.2
  · replace h := h.2 c1
    refine z_iload_n d_Mo_isOne_43 rfl ?_
    refine z_if_eq 78 d_Mo_isOne_44 rfl ⟨fun c2 => ?_, fun c2 => ?_⟩
    · replace h := h.1 c2
      refine z_iload_n d_Mo_isOne_78 rfl ?_
      exact z_zret rfl d_Mo_isOne_79 (zbool h.1).1 h.2
    · replace h := h.2 c2
      refine z_aload_n d_Mo_isOne_47 rfl ?_
      refine z_getr f_Mo_92 rfl d_Mo_isOne_48 (tA_83 k) (tr_83_36 k) ?_
      refine z_iload_n d_Mo_isOne_51 rfl ?_
      obtain ⟨j3, hj3, ej3, h⟩ := h
      refine y_iaload j3 d_Mo_isOne_52 (ta_111 k) hj3 ej3 ?_
      refine z_aload_n d_Mo_isOne_53 rfl ?_
      refine z_getr f_Mo_92 rfl d_Mo_isOne_54 (tA_83 k) (tr_83_36 k) ?_
      refine z_sipush 144 d_Mo_isOne_57 (by decide) ?_
      refine z_iload_n d_Mo_isOne_60 rfl ?_
      refine z_iadd d_Mo_isOne_61 ?_
      obtain ⟨j4, hj4, ej4, h⟩ := h
      refine y_iaload j4 d_Mo_isOne_62 (ta_111 k) hj4 ej4 ?_
      refine z_icmp_ne 70 d_Mo_isOne_63 rfl ⟨fun c5 => ?_, fun c5 => ?_⟩
      · replace h := h.1 c5
        refine z_iconst 0 d_Mo_isOne_70 (by decide) ?_
        refine z_istore_n (ls' := [some (.ref 83), some (.int 0), some (.int x2)]) d_Mo_isOne_71 (Nat.le_of_ble_eq_true rfl) rfl rfl ?_
        obtain ⟨y6, ey6⟩ : ∃ q : Int32, q = x2 + 1 := ⟨_, rfl⟩
        replace h := h y6 ey6
        refine z_iinc (ls' := [some (.ref 83), some (.int 0), some (.int y6)]) y6 d_Mo_isOne_72 rfl (ey6 ▸ rfl) (Nat.le_of_ble_eq_true rfl) rfl rfl ?_
        refine z_goto 33 d_Mo_isOne_75 rfl ?_
        exact z_forget [some (.ref 83), some (.int 0), some (.int y6)] (And.intro rfl (And.intro rfl (And.intro rfl (trivial)))) h
      · replace h := h.2 c5
        refine z_iconst 1 d_Mo_isOne_66 (by decide) ?_
        refine z_goto 71 d_Mo_isOne_67 rfl ?_
        refine z_istore_n (ls' := [some (.ref 83), some (.int 1), some (.int x2)]) d_Mo_isOne_71 (Nat.le_of_ble_eq_true rfl) rfl rfl ?_
        obtain ⟨y7, ey7⟩ : ∃ q : Int32, q = x2 + 1 := ⟨_, rfl⟩
        replace h := h y7 ey7
        refine z_iinc (ls' := [some (.ref 83), some (.int 1), some (.int y7)]) y7 d_Mo_isOne_72 rfl (ey7 ▸ rfl) (Nat.le_of_ble_eq_true rfl) rfl rfl ?_
        refine z_goto 33 d_Mo_isOne_75 rfl ?_
        exact z_forget [some (.ref 83), some (.int 1), some (.int y7)] (And.intro rfl (And.intro rfl (And.intro rfl (trivial)))) h

set_option maxRecDepth 20000 in
theorem vc_Mo_isNeeded_0 (E : ZE) (k : Nat) (M : ZM) (x1 : Int32) (Φ : Option Value → ZS → ZM → Prop)  (h : zW E m_Mo_isNeeded 1 (zSt k) M 4 [some (.ref 83), some (.int x1), some (.int 1), some (.int 0), none, none] [] Φ) : zW E m_Mo_isNeeded 1 (zSt k) M 0 [some (.ref 83), some (.int x1), none, none, none, none] [] Φ := by
  refine z_iconst 1 d_Mo_isNeeded_0 (by decide) ?_
  refine z_istore_n (ls' := [some (.ref 83), some (.int x1), some (.int 1), none, none, none]) d_Mo_isNeeded_1 (Nat.le_of_ble_eq_true rfl) rfl rfl ?_
  refine z_iconst 0 d_Mo_isNeeded_2 (by decide) ?_
  refine z_istore_n (ls' := [some (.ref 83), some (.int x1), some (.int 1), some (.int 0), none, none]) d_Mo_isNeeded_3 (Nat.le_of_ble_eq_true rfl) rfl rfl ?_
  exact z_forget [some (.ref 83), some (.int x1), some (.int 1), some (.int 0), none, none] (And.intro rfl (And.intro rfl (And.intro rfl (And.intro rfl (trivial))))) h

set_option maxRecDepth 20000 in
theorem vc_Mo_isNeeded_4 (E : ZE) (k : Nat) (M : ZM) (x1 : Int32) (x2 : Int32) (x3 : Int32) (Φ : Option Value → ZS → ZM → Prop)  (h : (3 ≤ x3 → (x2 = 0 ∨ x2 = 1) ∧ Φ (some (.int x2)) (zSt k) M) ∧ (¬ 3 ≤ x3 → zW E m_Mo_isNeeded 1 (zSt k) M 15 [some (.ref 83), some (.int x1), some (.int x2), some (.int x3), some (.int x3), some (.int 0)] [] Φ)) : zW E m_Mo_isNeeded 1 (zSt k) M 4 [some (.ref 83), some (.int x1), some (.int x2), some (.int x3), none, none] [] Φ := by
  refine z_iload_n d_Mo_isNeeded_4 rfl ?_
  refine z_iconst 3 d_Mo_isNeeded_5 (by decide) ?_
  refine z_icmp_ge 90 d_Mo_isNeeded_6 rfl ⟨fun c1 => ?_, fun c1 => ?_⟩
  · replace h := h.1 c1
    refine z_iload_n d_Mo_isNeeded_90 rfl ?_
    exact z_zret rfl d_Mo_isNeeded_91 (zbool h.1).1 h.2
  · replace h := h.2 c1
    refine z_iload_n d_Mo_isNeeded_9 rfl ?_
    refine z_istore (ls' := [some (.ref 83), some (.int x1), some (.int x2), some (.int x3), some (.int x3), none]) d_Mo_isNeeded_10 (Nat.le_of_ble_eq_true rfl) rfl rfl ?_
    refine z_iconst 0 d_Mo_isNeeded_12 (by decide) ?_
    refine z_istore (ls' := [some (.ref 83), some (.int x1), some (.int x2), some (.int x3), some (.int x3), some (.int 0)]) d_Mo_isNeeded_13 (Nat.le_of_ble_eq_true rfl) rfl rfl ?_
    exact z_forget [some (.ref 83), some (.int x1), some (.int x2), some (.int x3), some (.int x3), some (.int 0)] (And.intro rfl (And.intro rfl (And.intro rfl (And.intro rfl (And.intro rfl (And.intro rfl (trivial))))))) h

set_option maxRecDepth 20000 in
theorem vc_Mo_isNeeded_15 (E : ZE) (k : Nat) (M : ZM) (x1 : Int32) (x2 : Int32) (x3 : Int32) (x4 : Int32) (x5 : Int32) (Φ : Option Value → ZS → ZM → Prop)  (h : ∃ j1 : Nat, j1 < 3 ∧ x1 = nI j1 ∧ (((M 110 j1) ≤ x5 → (x2 = 0 → ∀ y4 : Int32, y4 = x3 + 1 → zW E m_Mo_isNeeded 1 (zSt k) M 4 [some (.ref 83), some (.int x1), some (.int 0), some (.int y4), none, none] [] Φ) ∧ (¬ x2 = 0 → ∃ j5 : Nat, j5 < 9 ∧ ((3 * x1) + x3) = nI j5 ∧ (zW E m_Mo_has 0 (zSt k) M 0 [some (.int (M 87 j5)), some (.int x4)] [] (fun q6 T6 M6 => ∃ y6 : Int32, q6 = some (.int y6) ∧ (zSt k) = T6 ∧ (y6 = 0 → ∀ y8 : Int32, y8 = x3 + 1 → zW E m_Mo_isNeeded 1 (zSt k) M6 4 [some (.ref 83), some (.int x1), some (.int 0), some (.int y8), none, none] [] Φ) ∧ (¬ y6 = 0 → ∀ y9 : Int32, y9 = x3 + 1 → zW E m_Mo_isNeeded 1 (zSt k) M6 4 [some (.ref 83), some (.int x1), some (.int 1), some (.int y9), none, none] [] Φ))))) ∧ (¬ (M 110 j1) ≤ x5 → ∃ j10 : Nat, j10 < 36 ∧ ((12 * x1) + x5) = nI j10 ∧ (∃ j11 : Nat, j11 < 6 ∧ ((3 * (M 109 j10)) + x4) = nI j11 ∧ (∀ y12 : Int32, y12 = (M 86 j11) → ∀ y13 : Int32, y13 = x5 + 1 → zW E m_Mo_isNeeded 1 (zSt k) M 15 [some (.ref 83), some (.int x1), some (.int x2), some (.int x3), some (.int y12), some (.int y13)] [] Φ))))) : zW E m_Mo_isNeeded 1 (zSt k) M 15 [some (.ref 83), some (.int x1), some (.int x2), some (.int x3), some (.int x4), some (.int x5)] [] Φ := by
  refine z_iload d_Mo_isNeeded_15 rfl ?_
  refine z_aload_n d_Mo_isNeeded_17 rfl ?_
  refine z_getr f_Mo_89 rfl d_Mo_isNeeded_18 (tA_83 k) (tr_83_35 k) ?_
  refine z_iload_n d_Mo_isNeeded_21 rfl ?_
  obtain ⟨j1, hj1, ej1, h⟩ := h
  refine y_iaload j1 d_Mo_isNeeded_22 (ta_110 k) hj1 ej1 ?_
  refine z_icmp_ge 56 d_Mo_isNeeded_23 rfl ⟨fun c2 => ?_, fun c2 => ?_⟩
  · replace h := h.1 c2
    refine z_iload_n d_Mo_isNeeded_56 rfl ?_
    refine z_if_eq 82 d_Mo_isNeeded_57 rfl ⟨fun c3 => ?_, fun c3 => ?_⟩
    · replace h := h.1 c3
      refine z_iconst 0 d_Mo_isNeeded_82 (by decide) ?_
      refine z_istore_n (ls' := [some (.ref 83), some (.int x1), some (.int 0), some (.int x3), some (.int x4), some (.int x5)]) d_Mo_isNeeded_83 (Nat.le_of_ble_eq_true rfl) rfl rfl ?_
      obtain ⟨y4, ey4⟩ : ∃ q : Int32, q = x3 + 1 := ⟨_, rfl⟩
      replace h := h y4 ey4
      refine z_iinc (ls' := [some (.ref 83), some (.int x1), some (.int 0), some (.int y4), some (.int x4), some (.int x5)]) y4 d_Mo_isNeeded_84 rfl (ey4 ▸ rfl) (Nat.le_of_ble_eq_true rfl) rfl rfl ?_
      refine z_goto 4 d_Mo_isNeeded_87 rfl ?_
      exact z_forget [some (.ref 83), some (.int x1), some (.int 0), some (.int y4), none, none] (And.intro rfl (And.intro rfl (And.intro rfl (And.intro rfl (trivial))))) h
    · replace h := h.2 c3
      refine z_aload_n d_Mo_isNeeded_60 rfl ?_
      refine z_getr f_Mo_19 rfl d_Mo_isNeeded_61 (tA_83 k) (tr_83_3 k) ?_
      refine z_iconst 3 d_Mo_isNeeded_64 (by decide) ?_
      refine z_iload_n d_Mo_isNeeded_65 rfl ?_
      refine z_imul d_Mo_isNeeded_66 ?_
      refine z_iload_n d_Mo_isNeeded_67 rfl ?_
      refine z_iadd d_Mo_isNeeded_68 ?_
      obtain ⟨j5, hj5, ej5, h⟩ := h
      refine y_iaload j5 d_Mo_isNeeded_69 (ta_87 k) hj5 ej5 ?_
      refine z_iload d_Mo_isNeeded_70 rfl ?_
      refine z_callS (as := [.int (M 87 j5), .int x4]) (st := []) i_Mo_has s_Mo_has l_Mo_158 d_Mo_isNeeded_72 (by decide) rfl (Nat.le_of_ble_eq_true rfl) (Nat.le_of_ble_eq_true rfl) h (fun q6 T6 M6 h => ?_)
      obtain ⟨y6, rfl, rfl, h⟩ := h
      refine z_if_eq 82 d_Mo_isNeeded_75 rfl ⟨fun c7 => ?_, fun c7 => ?_⟩
      · replace h := h.1 c7
        refine z_iconst 0 d_Mo_isNeeded_82 (by decide) ?_
        refine z_istore_n (ls' := [some (.ref 83), some (.int x1), some (.int 0), some (.int x3), some (.int x4), some (.int x5)]) d_Mo_isNeeded_83 (Nat.le_of_ble_eq_true rfl) rfl rfl ?_
        obtain ⟨y8, ey8⟩ : ∃ q : Int32, q = x3 + 1 := ⟨_, rfl⟩
        replace h := h y8 ey8
        refine z_iinc (ls' := [some (.ref 83), some (.int x1), some (.int 0), some (.int y8), some (.int x4), some (.int x5)]) y8 d_Mo_isNeeded_84 rfl (ey8 ▸ rfl) (Nat.le_of_ble_eq_true rfl) rfl rfl ?_
        refine z_goto 4 d_Mo_isNeeded_87 rfl ?_
        exact z_forget [some (.ref 83), some (.int x1), some (.int 0), some (.int y8), none, none] (And.intro rfl (And.intro rfl (And.intro rfl (And.intro rfl (trivial))))) h
      · replace h := h.2 c7
        refine z_iconst 1 d_Mo_isNeeded_78 (by decide) ?_
        refine z_goto 83 d_Mo_isNeeded_79 rfl ?_
        refine z_istore_n (ls' := [some (.ref 83), some (.int x1), some (.int 1), some (.int x3), some (.int x4), some (.int x5)]) d_Mo_isNeeded_83 (Nat.le_of_ble_eq_true rfl) rfl rfl ?_
        obtain ⟨y9, ey9⟩ : ∃ q : Int32, q = x3 + 1 := ⟨_, rfl⟩
        replace h := h y9 ey9
        refine z_iinc (ls' := [some (.ref 83), some (.int x1), some (.int 1), some (.int y9), some (.int x4), some (.int x5)]) y9 d_Mo_isNeeded_84 rfl (ey9 ▸ rfl) (Nat.le_of_ble_eq_true rfl) rfl rfl ?_
        refine z_goto 4 d_Mo_isNeeded_87 rfl ?_
        exact z_forget [some (.ref 83), some (.int x1), some (.int 1), some (.int y9), none, none] (And.intro rfl (And.intro rfl (And.intro rfl (And.intro rfl (trivial))))) h
  · replace h := h.2 c2
    refine z_aload_n d_Mo_isNeeded_26 rfl ?_
    refine z_getr f_Mo_16 rfl d_Mo_isNeeded_27 (tA_83 k) (tr_83_2 k) ?_
    refine z_iconst 3 d_Mo_isNeeded_30 (by decide) ?_
    refine z_aload_n d_Mo_isNeeded_31 rfl ?_
    refine z_getr f_Mo_86 rfl d_Mo_isNeeded_32 (tA_83 k) (tr_83_34 k) ?_
    refine z_bipush 12 d_Mo_isNeeded_35 (by decide) ?_
    refine z_iload_n d_Mo_isNeeded_37 rfl ?_
    refine z_imul d_Mo_isNeeded_38 ?_
    refine z_iload d_Mo_isNeeded_39 rfl ?_
    refine z_iadd d_Mo_isNeeded_41 ?_
    obtain ⟨j10, hj10, ej10, h⟩ := h
    refine y_iaload j10 d_Mo_isNeeded_42 (ta_109 k) hj10 ej10 ?_
    refine z_imul d_Mo_isNeeded_43 ?_
    refine z_iload d_Mo_isNeeded_44 rfl ?_
    refine z_iadd d_Mo_isNeeded_46 ?_
    obtain ⟨j11, hj11, ej11, h⟩ := h
    refine y_iaload j11 d_Mo_isNeeded_47 (ta_86 k) hj11 ej11 ?_
    refine z_name (fun y12 ey12 => ?_)
    replace h := h y12 ey12
    refine z_istore (ls' := [some (.ref 83), some (.int x1), some (.int x2), some (.int x3), some (.int y12), some (.int x5)]) d_Mo_isNeeded_48 (Nat.le_of_ble_eq_true rfl) rfl rfl ?_
    obtain ⟨y13, ey13⟩ : ∃ q : Int32, q = x5 + 1 := ⟨_, rfl⟩
    replace h := h y13 ey13
    refine z_iinc (ls' := [some (.ref 83), some (.int x1), some (.int x2), some (.int x3), some (.int y12), some (.int y13)]) y13 d_Mo_isNeeded_50 rfl (ey13 ▸ rfl) (Nat.le_of_ble_eq_true rfl) rfl rfl ?_
    refine z_goto 15 d_Mo_isNeeded_53 rfl ?_
    exact z_forget [some (.ref 83), some (.int x1), some (.int x2), some (.int x3), some (.int y12), some (.int y13)] (And.intro rfl (And.intro rfl (And.intro rfl (And.intro rfl (And.intro rfl (And.intro rfl (trivial))))))) h

set_option maxRecDepth 20000 in
theorem vc_Mo_fits_0 (E : ZE) (k : Nat) (M : ZM)  (Φ : Option Value → ZS → ZM → Prop)  (h : zW E m_Mo_fits 3 (zSt k) M 2 [some (.ref 83), some (.int 0), none] [] Φ) : zW E m_Mo_fits 3 (zSt k) M 0 [some (.ref 83), none, none] [] Φ := by
  refine z_iconst 0 d_Mo_fits_0 (by decide) ?_
  refine z_istore_n (ls' := [some (.ref 83), some (.int 0), none]) d_Mo_fits_1 (Nat.le_of_ble_eq_true rfl) rfl rfl ?_
  exact z_forget [some (.ref 83), some (.int 0), none] (And.intro rfl (And.intro rfl (trivial))) h

set_option maxRecDepth 20000 in
theorem vc_Mo_fits_2 (E : ZE) (k : Nat) (M : ZM) (x1 : Int32) (Φ : Option Value → ZS → ZM → Prop)  (h : (3 ≤ x1 → zW E m_Mo_isNeeded 1 (zSt k) M 0 [some (.ref 83), some (.int 0), none, none, none, none] [] (fun q2 T2 M2 => ∃ y2 : Int32, q2 = some (.int y2) ∧ (zSt k) = T2 ∧ (y2 = 0 → zW E m_Mo_isOne 2 (zSt k) M2 0 [some (.ref 83), none, none] [] (fun q4 T4 M4 => ∃ y4 : Int32, q4 = some (.int y4) ∧ (zSt k) = T4 ∧ (y4 = 0 → Φ (some (.int 3)) (zSt k) M4) ∧ (¬ y4 = 0 → Φ (some (.int 1)) (zSt k) M4))) ∧ (¬ y2 = 0 → zW E m_Mo_isNeeded 1 (zSt k) M2 0 [some (.ref 83), some (.int 1), none, none, none, none] [] (fun q6 T6 M6 => ∃ y6 : Int32, q6 = some (.int y6) ∧ (zSt k) = T6 ∧ (y6 = 0 → zW E m_Mo_isOne 2 (zSt k) M6 0 [some (.ref 83), none, none] [] (fun q8 T8 M8 => ∃ y8 : Int32, q8 = some (.int y8) ∧ (zSt k) = T8 ∧ (y8 = 0 → Φ (some (.int 3)) (zSt k) M8) ∧ (¬ y8 = 0 → Φ (some (.int 1)) (zSt k) M8))) ∧ (¬ y6 = 0 → zW E m_Mo_isNeeded 1 (zSt k) M6 0 [some (.ref 83), some (.int 2), none, none, none, none] [] (fun q10 T10 M10 => ∃ y10 : Int32, q10 = some (.int y10) ∧ (zSt k) = T10 ∧ (y10 = 0 → zW E m_Mo_isOne 2 (zSt k) M10 0 [some (.ref 83), none, none] [] (fun q12 T12 M12 => ∃ y12 : Int32, q12 = some (.int y12) ∧ (zSt k) = T12 ∧ (y12 = 0 → Φ (some (.int 3)) (zSt k) M12) ∧ (¬ y12 = 0 → Φ (some (.int 1)) (zSt k) M12))) ∧ (¬ y10 = 0 → zW E m_Mo_isOne 2 (zSt k) M10 0 [some (.ref 83), none, none] [] (fun q14 T14 M14 => ∃ y14 : Int32, q14 = some (.int y14) ∧ (zSt k) = T14 ∧ (y14 = 0 → Φ (some (.int 2)) (zSt k) M14) ∧ (¬ y14 = 0 → Φ (some (.int 0)) (zSt k) M14))))))))) ∧ (¬ 3 ≤ x1 → ∃ j16 : Nat, j16 < 3 ∧ x1 = nI j16 ∧ (∃ j17 : Nat, j17 < 3 ∧ x1 = nI j17 ∧ (∀ M18 : ZM, M18 = zms M 110 j17 (M 89 j16) → zW E m_Mo_fits 3 (zSt k) M18 21 [some (.ref 83), some (.int x1), some (.int 0)] [] Φ)))) : zW E m_Mo_fits 3 (zSt k) M 2 [some (.ref 83), some (.int x1), none] [] Φ := by
  refine z_iload_n d_Mo_fits_2 rfl ?_
  refine z_iconst 3 d_Mo_fits_3 (by decide) ?_
  refine z_icmp_ge 65 d_Mo_fits_4 rfl ⟨fun c1 => ?_, fun c1 => ?_⟩
  · replace h := h.1 c1
    refine z_aload_n d_Mo_fits_65 rfl ?_
    refine z_iconst 0 d_Mo_fits_66 (by decide) ?_
    refine z_callV (as := [.int 0]) (st := []) i_Mo_isNeeded ⟨rfl, rfl⟩ v_Mo_isNeeded w_Mo_isNeeded l_Mo_285 d_Mo_fits_67 (by decide) (tA_83 k) rfl (Nat.le_of_ble_eq_true rfl) (Nat.le_of_ble_eq_true rfl) h (fun q2 T2 M2 h => ?_)
    obtain ⟨y2, rfl, rfl, h⟩ := h
    refine z_if_eq 93 d_Mo_fits_70 rfl ⟨fun c3 => ?_, fun c3 => ?_⟩
    · replace h := h.1 c3
      refine z_iconst 0 d_Mo_fits_93 (by decide) ?_
      refine z_istore_n (ls' := [some (.ref 83), some (.int 0), none]) d_Mo_fits_94 (Nat.le_of_ble_eq_true rfl) rfl rfl ?_
      refine z_aload_n d_Mo_fits_95 rfl ?_
      refine z_callV (as := []) (st := []) i_Mo_isOne ⟨rfl, rfl⟩ v_Mo_isOne w_Mo_isOne l_Mo_288 d_Mo_fits_96 (by decide) (tA_83 k) rfl (Nat.le_of_ble_eq_true rfl) (Nat.le_of_ble_eq_true rfl) h (fun q4 T4 M4 h => ?_)
      obtain ⟨y4, rfl, rfl, h⟩ := h
      refine z_if_eq 114 d_Mo_fits_99 rfl ⟨fun c5 => ?_, fun c5 => ?_⟩
      · replace h := h.1 c5
        refine z_iload_n d_Mo_fits_114 rfl ?_
        refine z_if_eq 122 d_Mo_fits_115 rfl ⟨fun _ => ?_, fun q => absurd (by decide) q⟩
        refine z_iconst 3 d_Mo_fits_122 (by decide) ?_
        exact z_iret rfl d_Mo_fits_123 h
      · replace h := h.2 c5
        refine z_iload_n d_Mo_fits_102 rfl ?_
        refine z_if_eq 110 d_Mo_fits_103 rfl ⟨fun _ => ?_, fun q => absurd (by decide) q⟩
        refine z_iconst 1 d_Mo_fits_110 (by decide) ?_
        refine z_goto 123 d_Mo_fits_111 rfl ?_
        exact z_iret rfl d_Mo_fits_123 h
    · replace h := h.2 c3
      refine z_aload_n d_Mo_fits_73 rfl ?_
      refine z_iconst 1 d_Mo_fits_74 (by decide) ?_
      refine z_callV (as := [.int 1]) (st := []) i_Mo_isNeeded ⟨rfl, rfl⟩ v_Mo_isNeeded w_Mo_isNeeded l_Mo_285 d_Mo_fits_75 (by decide) (tA_83 k) rfl (Nat.le_of_ble_eq_true rfl) (Nat.le_of_ble_eq_true rfl) h (fun q6 T6 M6 h => ?_)
      obtain ⟨y6, rfl, rfl, h⟩ := h
      refine z_if_eq 93 d_Mo_fits_78 rfl ⟨fun c7 => ?_, fun c7 => ?_⟩
      · replace h := h.1 c7
        refine z_iconst 0 d_Mo_fits_93 (by decide) ?_
        refine z_istore_n (ls' := [some (.ref 83), some (.int 0), none]) d_Mo_fits_94 (Nat.le_of_ble_eq_true rfl) rfl rfl ?_
        refine z_aload_n d_Mo_fits_95 rfl ?_
        refine z_callV (as := []) (st := []) i_Mo_isOne ⟨rfl, rfl⟩ v_Mo_isOne w_Mo_isOne l_Mo_288 d_Mo_fits_96 (by decide) (tA_83 k) rfl (Nat.le_of_ble_eq_true rfl) (Nat.le_of_ble_eq_true rfl) h (fun q8 T8 M8 h => ?_)
        obtain ⟨y8, rfl, rfl, h⟩ := h
        refine z_if_eq 114 d_Mo_fits_99 rfl ⟨fun c9 => ?_, fun c9 => ?_⟩
        · replace h := h.1 c9
          refine z_iload_n d_Mo_fits_114 rfl ?_
          refine z_if_eq 122 d_Mo_fits_115 rfl ⟨fun _ => ?_, fun q => absurd (by decide) q⟩
          refine z_iconst 3 d_Mo_fits_122 (by decide) ?_
          exact z_iret rfl d_Mo_fits_123 h
        · replace h := h.2 c9
          refine z_iload_n d_Mo_fits_102 rfl ?_
          refine z_if_eq 110 d_Mo_fits_103 rfl ⟨fun _ => ?_, fun q => absurd (by decide) q⟩
          refine z_iconst 1 d_Mo_fits_110 (by decide) ?_
          refine z_goto 123 d_Mo_fits_111 rfl ?_
          exact z_iret rfl d_Mo_fits_123 h
      · replace h := h.2 c7
        refine z_aload_n d_Mo_fits_81 rfl ?_
        refine z_iconst 2 d_Mo_fits_82 (by decide) ?_
        refine z_callV (as := [.int 2]) (st := []) i_Mo_isNeeded ⟨rfl, rfl⟩ v_Mo_isNeeded w_Mo_isNeeded l_Mo_285 d_Mo_fits_83 (by decide) (tA_83 k) rfl (Nat.le_of_ble_eq_true rfl) (Nat.le_of_ble_eq_true rfl) h (fun q10 T10 M10 h => ?_)
        obtain ⟨y10, rfl, rfl, h⟩ := h
        refine z_if_eq 93 d_Mo_fits_86 rfl ⟨fun c11 => ?_, fun c11 => ?_⟩
        · replace h := h.1 c11
          refine z_iconst 0 d_Mo_fits_93 (by decide) ?_
          refine z_istore_n (ls' := [some (.ref 83), some (.int 0), none]) d_Mo_fits_94 (Nat.le_of_ble_eq_true rfl) rfl rfl ?_
          refine z_aload_n d_Mo_fits_95 rfl ?_
          refine z_callV (as := []) (st := []) i_Mo_isOne ⟨rfl, rfl⟩ v_Mo_isOne w_Mo_isOne l_Mo_288 d_Mo_fits_96 (by decide) (tA_83 k) rfl (Nat.le_of_ble_eq_true rfl) (Nat.le_of_ble_eq_true rfl) h (fun q12 T12 M12 h => ?_)
          obtain ⟨y12, rfl, rfl, h⟩ := h
          refine z_if_eq 114 d_Mo_fits_99 rfl ⟨fun c13 => ?_, fun c13 => ?_⟩
          · replace h := h.1 c13
            refine z_iload_n d_Mo_fits_114 rfl ?_
            refine z_if_eq 122 d_Mo_fits_115 rfl ⟨fun _ => ?_, fun q => absurd (by decide) q⟩
            refine z_iconst 3 d_Mo_fits_122 (by decide) ?_
            exact z_iret rfl d_Mo_fits_123 h
          · replace h := h.2 c13
            refine z_iload_n d_Mo_fits_102 rfl ?_
            refine z_if_eq 110 d_Mo_fits_103 rfl ⟨fun _ => ?_, fun q => absurd (by decide) q⟩
            refine z_iconst 1 d_Mo_fits_110 (by decide) ?_
            refine z_goto 123 d_Mo_fits_111 rfl ?_
            exact z_iret rfl d_Mo_fits_123 h
        · replace h := h.2 c11
          refine z_iconst 1 d_Mo_fits_89 (by decide) ?_
          refine z_goto 94 d_Mo_fits_90 rfl ?_
          refine z_istore_n (ls' := [some (.ref 83), some (.int 1), none]) d_Mo_fits_94 (Nat.le_of_ble_eq_true rfl) rfl rfl ?_
          refine z_aload_n d_Mo_fits_95 rfl ?_
          refine z_callV (as := []) (st := []) i_Mo_isOne ⟨rfl, rfl⟩ v_Mo_isOne w_Mo_isOne l_Mo_288 d_Mo_fits_96 (by decide) (tA_83 k) rfl (Nat.le_of_ble_eq_true rfl) (Nat.le_of_ble_eq_true rfl) h (fun q14 T14 M14 h => ?_)
          obtain ⟨y14, rfl, rfl, h⟩ := h
          refine z_if_eq 114 d_Mo_fits_99 rfl ⟨fun c15 => ?_, fun c15 => ?_⟩
          · replace h := h.1 c15
            refine z_iload_n d_Mo_fits_114 rfl ?_
            refine z_if_eq 122 d_Mo_fits_115 rfl ⟨fun q => absurd q (by decide), fun _ => ?_⟩
            refine z_iconst 2 d_Mo_fits_118 (by decide) ?_
            refine z_goto 123 d_Mo_fits_119 rfl ?_
            exact z_iret rfl d_Mo_fits_123 h
          · replace h := h.2 c15
            refine z_iload_n d_Mo_fits_102 rfl ?_
            refine z_if_eq 110 d_Mo_fits_103 rfl ⟨fun q => absurd q (by decide), fun _ => ?_⟩
            refine z_iconst 0 d_Mo_fits_106 (by decide) ?_
            refine z_goto 123 d_Mo_fits_107 rfl ?_
            exact z_iret rfl d_Mo_fits_123 h
  · replace h := h.2 c1
    refine z_aload_n d_Mo_fits_7 rfl ?_
    refine z_getr f_Mo_89 rfl d_Mo_fits_8 (tA_83 k) (tr_83_35 k) ?_
    refine z_iload_n d_Mo_fits_11 rfl ?_
    refine z_aload_n d_Mo_fits_12 rfl ?_
    refine z_getr f_Mo_25 rfl d_Mo_fits_13 (tA_83 k) (tr_83_5 k) ?_
    refine z_iload_n d_Mo_fits_16 rfl ?_
    obtain ⟨j16, hj16, ej16, h⟩ := h
    refine y_iaload j16 d_Mo_fits_17 (ta_89 k) hj16 ej16 ?_
    obtain ⟨j17, hj17, ej17, h⟩ := h
    refine y_iastore j17 d_Mo_fits_18 (ta_110 k) hj17 ej17 ?_
    refine z_mem (fun M18 eM18 => ?_)
    replace h := h M18 eM18
    refine z_iconst 0 d_Mo_fits_19 (by decide) ?_
    refine z_istore_n (ls' := [some (.ref 83), some (.int x1), some (.int 0)]) d_Mo_fits_20 (Nat.le_of_ble_eq_true rfl) rfl rfl ?_
    exact z_forget [some (.ref 83), some (.int x1), some (.int 0)] (And.intro rfl (And.intro rfl (And.intro rfl (trivial)))) h

set_option maxRecDepth 20000 in
theorem vc_Mo_fits_21 (E : ZE) (k : Nat) (M : ZM) (x1 : Int32) (x2 : Int32) (Φ : Option Value → ZS → ZM → Prop)  (h : ∃ j1 : Nat, j1 < 3 ∧ x1 = nI j1 ∧ (((M 89 j1) ≤ x2 → ∀ y3 : Int32, y3 = x1 + 1 → zW E m_Mo_fits 3 (zSt k) M 2 [some (.ref 83), some (.int y3), none] [] Φ) ∧ (¬ (M 89 j1) ≤ x2 → ∃ j4 : Nat, j4 < 36 ∧ ((12 * x1) + x2) = nI j4 ∧ (∃ j5 : Nat, j5 < 36 ∧ ((12 * x1) + x2) = nI j5 ∧ (∀ M6 : ZM, M6 = zms M 109 j5 (M 88 j4) → ∀ y7 : Int32, y7 = x2 + 1 → zW E m_Mo_fits 3 (zSt k) M6 21 [some (.ref 83), some (.int x1), some (.int y7)] [] Φ))))) : zW E m_Mo_fits 3 (zSt k) M 21 [some (.ref 83), some (.int x1), some (.int x2)] [] Φ := by
  refine z_iload_n d_Mo_fits_21 rfl ?_
  refine z_aload_n d_Mo_fits_22 rfl ?_
  refine z_getr f_Mo_25 rfl d_Mo_fits_23 (tA_83 k) (tr_83_5 k) ?_
  refine z_iload_n d_Mo_fits_26 rfl ?_
  obtain ⟨j1, hj1, ej1, h⟩ := h
  refine y_iaload j1 d_Mo_fits_27 (ta_89 k) hj1 ej1 ?_
  refine z_icmp_ge 59 d_Mo_fits_28 rfl ⟨fun c2 => ?_, fun c2 => ?_⟩
  · replace h := h.1 c2
    obtain ⟨y3, ey3⟩ : ∃ q : Int32, q = x1 + 1 := ⟨_, rfl⟩
    replace h := h y3 ey3
    refine z_iinc (ls' := [some (.ref 83), some (.int y3), some (.int x2)]) y3 d_Mo_fits_59 rfl (ey3 ▸ rfl) (Nat.le_of_ble_eq_true rfl) rfl rfl ?_
    refine z_goto 2 d_Mo_fits_62 rfl ?_
    exact z_forget [some (.ref 83), some (.int y3), none] (And.intro rfl (And.intro rfl (trivial))) h
  · replace h := h.2 c2
    refine z_aload_n d_Mo_fits_31 rfl ?_
    refine z_getr f_Mo_86 rfl d_Mo_fits_32 (tA_83 k) (tr_83_34 k) ?_
    refine z_bipush 12 d_Mo_fits_35 (by decide) ?_
    refine z_iload_n d_Mo_fits_37 rfl ?_
    refine z_imul d_Mo_fits_38 ?_
    refine z_iload_n d_Mo_fits_39 rfl ?_
    refine z_iadd d_Mo_fits_40 ?_
    refine z_aload_n d_Mo_fits_41 rfl ?_
    refine z_getr f_Mo_22 rfl d_Mo_fits_42 (tA_83 k) (tr_83_4 k) ?_
    refine z_bipush 12 d_Mo_fits_45 (by decide) ?_
    refine z_iload_n d_Mo_fits_47 rfl ?_
    refine z_imul d_Mo_fits_48 ?_
    refine z_iload_n d_Mo_fits_49 rfl ?_
    refine z_iadd d_Mo_fits_50 ?_
    obtain ⟨j4, hj4, ej4, h⟩ := h
    refine y_iaload j4 d_Mo_fits_51 (ta_88 k) hj4 ej4 ?_
    obtain ⟨j5, hj5, ej5, h⟩ := h
    refine y_iastore j5 d_Mo_fits_52 (ta_109 k) hj5 ej5 ?_
    refine z_mem (fun M6 eM6 => ?_)
    replace h := h M6 eM6
    obtain ⟨y7, ey7⟩ : ∃ q : Int32, q = x2 + 1 := ⟨_, rfl⟩
    replace h := h y7 ey7
    refine z_iinc (ls' := [some (.ref 83), some (.int x1), some (.int y7)]) y7 d_Mo_fits_53 rfl (ey7 ▸ rfl) (Nat.le_of_ble_eq_true rfl) rfl rfl ?_
    refine z_goto 21 d_Mo_fits_56 rfl ?_
    exact z_forget [some (.ref 83), some (.int x1), some (.int y7)] (And.intro rfl (And.intro rfl (And.intro rfl (trivial)))) h

set_option maxRecDepth 20000 in
theorem vc_Mo_timesIn_0 (E : ZE) (k : Nat) (M : ZM) (x1 : Int32) (x2 : Int32) (Φ : Option Value → ZS → ZM → Prop)  (h : zW E m_Mo_timesIn 0 (zSt k) M 5 [some (.ref 83), some (.int x1), some (.int x2), some (.int 0), some (.int 0)] [] Φ) : zW E m_Mo_timesIn 0 (zSt k) M 0 [some (.ref 83), some (.int x1), some (.int x2), none, none] [] Φ := by
  refine z_iconst 0 d_Mo_timesIn_0 (by decide) ?_
  refine z_istore_n (ls' := [some (.ref 83), some (.int x1), some (.int x2), some (.int 0), none]) d_Mo_timesIn_1 (Nat.le_of_ble_eq_true rfl) rfl rfl ?_
  refine z_iconst 0 d_Mo_timesIn_2 (by decide) ?_
  refine z_istore (ls' := [some (.ref 83), some (.int x1), some (.int x2), some (.int 0), some (.int 0)]) d_Mo_timesIn_3 (Nat.le_of_ble_eq_true rfl) rfl rfl ?_
  exact z_forget [some (.ref 83), some (.int x1), some (.int x2), some (.int 0), some (.int 0)] (And.intro rfl (And.intro rfl (And.intro rfl (And.intro rfl (And.intro rfl (trivial)))))) h

set_option maxRecDepth 20000 in
theorem vc_Mo_timesIn_5 (E : ZE) (k : Nat) (M : ZM) (x1 : Int32) (x2 : Int32) (x3 : Int32) (x4 : Int32) (Φ : Option Value → ZS → ZM → Prop)  (h : ∃ j1 : Nat, j1 < 2 ∧ x1 = nI j1 ∧ (((M 85 j1) ≤ x4 → Φ (some (.int x3)) (zSt k) M) ∧ (¬ (M 85 j1) ≤ x4 → ∃ j3 : Nat, j3 < 24 ∧ ((12 * x1) + x4) = nI j3 ∧ ((¬ (M 84 j3) = x2 → ∀ y5 : Int32, y5 = (x3 + 0) → ∀ y6 : Int32, y6 = x4 + 1 → zW E m_Mo_timesIn 0 (zSt k) M 5 [some (.ref 83), some (.int x1), some (.int x2), some (.int y5), some (.int y6)] [] Φ) ∧ ((M 84 j3) = x2 → ∀ y7 : Int32, y7 = (x3 + 1) → ∀ y8 : Int32, y8 = x4 + 1 → zW E m_Mo_timesIn 0 (zSt k) M 5 [some (.ref 83), some (.int x1), some (.int x2), some (.int y7), some (.int y8)] [] Φ))))) : zW E m_Mo_timesIn 0 (zSt k) M 5 [some (.ref 83), some (.int x1), some (.int x2), some (.int x3), some (.int x4)] [] Φ := by
  refine z_iload d_Mo_timesIn_5 rfl ?_
  refine z_aload_n d_Mo_timesIn_7 rfl ?_
  refine z_getr f_Mo_13 rfl d_Mo_timesIn_8 (tA_83 k) (tr_83_1 k) ?_
  refine z_iload_n d_Mo_timesIn_11 rfl ?_
  obtain ⟨j1, hj1, ej1, h⟩ := h
  refine y_iaload j1 d_Mo_timesIn_12 (ta_85 k) hj1 ej1 ?_
  refine z_icmp_ge 46 d_Mo_timesIn_13 rfl ⟨fun c2 => ?_, fun c2 => ?_⟩
  · replace h := h.1 c2
    refine z_iload_n d_Mo_timesIn_46 rfl ?_
    exact z_iret rfl d_Mo_timesIn_47 h
  · replace h := h.2 c2
    refine z_iload_n d_Mo_timesIn_16 rfl ?_
    refine z_aload_n d_Mo_timesIn_17 rfl ?_
    refine z_getr f_Mo_7 rfl d_Mo_timesIn_18 (tA_83 k) (tr_83_0 k) ?_
    refine z_bipush 12 d_Mo_timesIn_21 (by decide) ?_
    refine z_iload_n d_Mo_timesIn_23 rfl ?_
    refine z_imul d_Mo_timesIn_24 ?_
    refine z_iload d_Mo_timesIn_25 rfl ?_
    refine z_iadd d_Mo_timesIn_27 ?_
    obtain ⟨j3, hj3, ej3, h⟩ := h
    refine y_iaload j3 d_Mo_timesIn_28 (ta_84 k) hj3 ej3 ?_
    refine z_iload_n d_Mo_timesIn_29 rfl ?_
    refine z_icmp_ne 37 d_Mo_timesIn_30 rfl ⟨fun c4 => ?_, fun c4 => ?_⟩
    · replace h := h.1 c4
      refine z_iconst 0 d_Mo_timesIn_37 (by decide) ?_
      refine z_iadd d_Mo_timesIn_38 ?_
      refine z_name (fun y5 ey5 => ?_)
      replace h := h y5 ey5
      refine z_istore_n (ls' := [some (.ref 83), some (.int x1), some (.int x2), some (.int y5), some (.int x4)]) d_Mo_timesIn_39 (Nat.le_of_ble_eq_true rfl) rfl rfl ?_
      obtain ⟨y6, ey6⟩ : ∃ q : Int32, q = x4 + 1 := ⟨_, rfl⟩
      replace h := h y6 ey6
      refine z_iinc (ls' := [some (.ref 83), some (.int x1), some (.int x2), some (.int y5), some (.int y6)]) y6 d_Mo_timesIn_40 rfl (ey6 ▸ rfl) (Nat.le_of_ble_eq_true rfl) rfl rfl ?_
      refine z_goto 5 d_Mo_timesIn_43 rfl ?_
      exact z_forget [some (.ref 83), some (.int x1), some (.int x2), some (.int y5), some (.int y6)] (And.intro rfl (And.intro rfl (And.intro rfl (And.intro rfl (And.intro rfl (trivial)))))) h
    · replace h := h.2 c4
      refine z_iconst 1 d_Mo_timesIn_33 (by decide) ?_
      refine z_goto 38 d_Mo_timesIn_34 rfl ?_
      refine z_iadd d_Mo_timesIn_38 ?_
      refine z_name (fun y7 ey7 => ?_)
      replace h := h y7 ey7
      refine z_istore_n (ls' := [some (.ref 83), some (.int x1), some (.int x2), some (.int y7), some (.int x4)]) d_Mo_timesIn_39 (Nat.le_of_ble_eq_true rfl) rfl rfl ?_
      obtain ⟨y8, ey8⟩ : ∃ q : Int32, q = x4 + 1 := ⟨_, rfl⟩
      replace h := h y8 ey8
      refine z_iinc (ls' := [some (.ref 83), some (.int x1), some (.int x2), some (.int y7), some (.int y8)]) y8 d_Mo_timesIn_40 rfl (ey8 ▸ rfl) (Nat.le_of_ble_eq_true rfl) rfl rfl ?_
      refine z_goto 5 d_Mo_timesIn_43 rfl ?_
      exact z_forget [some (.ref 83), some (.int x1), some (.int x2), some (.int y7), some (.int y8)] (And.intro rfl (And.intro rfl (And.intro rfl (And.intro rfl (And.intro rfl (trivial)))))) h

set_option maxRecDepth 20000 in
theorem vc_Mo_isLengths_0 (E : ZE) (k : Nat) (M : ZM) (x1 : Int32) (x2 : Int32) (Φ : Option Value → ZS → ZM → Prop)  (h : zW E m_Mo_isLengths 1 (zSt k) M 5 [some (.ref 83), some (.int x1), some (.int x2), some (.int 0), some (.int 0), none] [] Φ) : zW E m_Mo_isLengths 1 (zSt k) M 0 [some (.ref 83), some (.int x1), some (.int x2), none, none, none] [] Φ := by
  refine z_iconst 0 d_Mo_isLengths_0 (by decide) ?_
  refine z_istore_n (ls' := [some (.ref 83), some (.int x1), some (.int x2), some (.int 0), none, none]) d_Mo_isLengths_1 (Nat.le_of_ble_eq_true rfl) rfl rfl ?_
  refine z_iconst 0 d_Mo_isLengths_2 (by decide) ?_
  refine z_istore (ls' := [some (.ref 83), some (.int x1), some (.int x2), some (.int 0), some (.int 0), none]) d_Mo_isLengths_3 (Nat.le_of_ble_eq_true rfl) rfl rfl ?_
  exact z_forget [some (.ref 83), some (.int x1), some (.int x2), some (.int 0), some (.int 0), none] (And.intro rfl (And.intro rfl (And.intro rfl (And.intro rfl (And.intro rfl (trivial)))))) h

set_option maxRecDepth 20000 in
theorem vc_Mo_isLengths_5 (E : ZE) (k : Nat) (M : ZM) (x1 : Int32) (x2 : Int32) (x3 : Int32) (x4 : Int32) (Φ : Option Value → ZS → ZM → Prop)  (h : (3 ≤ x4 → zW E m_Mo_timesIn 0 (zSt k) M 0 [some (.ref 83), some (.int 0), some (.int 0), none, none] [] (fun q2 T2 M2 => ∃ y2 : Int32, q2 = some (.int y2) ∧ (zSt k) = T2 ∧ zW E m_Mo_timesIn 0 (zSt k) M2 0 [some (.ref 83), some (.int 1), some (.int 0), none, none] [] (fun q3 T3 M3 => ∃ y3 : Int32, q3 = some (.int y3) ∧ (zSt k) = T3 ∧ ∀ y4 : Int32, y4 = (y2 - y3) → zW E m_Mo_timesIn 0 (zSt k) M3 0 [some (.ref 83), some (.int 0), some (.int 1), none, none] [] (fun q5 T5 M5 => ∃ y5 : Int32, q5 = some (.int y5) ∧ (zSt k) = T5 ∧ zW E m_Mo_timesIn 0 (zSt k) M5 0 [some (.ref 83), some (.int 1), some (.int 1), none, none] [] (fun q6 T6 M6 => ∃ y6 : Int32, q6 = some (.int y6) ∧ (zSt k) = T6 ∧ ∀ y7 : Int32, y7 = (y5 - y6) → (¬ x1 = 0 → (¬ x1 = 1 → (¬ y4 = 0 → Φ (some (.int 0)) (zSt k) M6) ∧ (y4 = 0 → (¬ (y7 + x3) = 0 → Φ (some (.int 0)) (zSt k) M6) ∧ ((y7 + x3) = 0 → Φ (some (.int 1)) (zSt k) M6))) ∧ (x1 = 1 → (¬ (y4 + x3) = 0 → Φ (some (.int 0)) (zSt k) M6) ∧ ((y4 + x3) = 0 → (¬ y7 = 0 → Φ (some (.int 0)) (zSt k) M6) ∧ (y7 = 0 → Φ (some (.int 1)) (zSt k) M6)))) ∧ (x1 = 0 → (¬ ((y4 + y7) + x3) = 0 → Φ (some (.int 0)) (zSt k) M6) ∧ (((y4 + y7) + x3) = 0 → Φ (some (.int 1)) (zSt k) M6))))))) ∧ (¬ 3 ≤ x4 → (¬ x4 = 0 → (¬ x4 = 1 → ∀ y17 : Int32, y17 = (x2 - x2 / 10 * 10) → zW E m_Mo_timesIn 0 (zSt k) M 0 [some (.ref 83), some (.int 0), some (.int (x4 + 2)), none, none] [] (fun q18 T18 M18 => ∃ y18 : Int32, q18 = some (.int y18) ∧ (zSt k) = T18 ∧ zW E m_Mo_timesIn 0 (zSt k) M18 0 [some (.ref 83), some (.int 1), some (.int (x4 + 2)), none, none] [] (fun q19 T19 M19 => ∃ y19 : Int32, q19 = some (.int y19) ∧ (zSt k) = T19 ∧ ∀ y20 : Int32, y20 = (x3 + (y17 * (y18 - y19))) → ∀ y21 : Int32, y21 = x4 + 1 → zW E m_Mo_isLengths 1 (zSt k) M19 5 [some (.ref 83), some (.int x1), some (.int x2), some (.int y20), some (.int y21), none] [] Φ))) ∧ (x4 = 1 → ∀ y22 : Int32, y22 = ((x2 / 10) - (x2 / 10) / 10 * 10) → zW E m_Mo_timesIn 0 (zSt k) M 0 [some (.ref 83), some (.int 0), some (.int (x4 + 2)), none, none] [] (fun q23 T23 M23 => ∃ y23 : Int32, q23 = some (.int y23) ∧ (zSt k) = T23 ∧ zW E m_Mo_timesIn 0 (zSt k) M23 0 [some (.ref 83), some (.int 1), some (.int (x4 + 2)), none, none] [] (fun q24 T24 M24 => ∃ y24 : Int32, q24 = some (.int y24) ∧ (zSt k) = T24 ∧ ∀ y25 : Int32, y25 = (x3 + (y22 * (y23 - y24))) → ∀ y26 : Int32, y26 = x4 + 1 → zW E m_Mo_isLengths 1 (zSt k) M24 5 [some (.ref 83), some (.int x1), some (.int x2), some (.int y25), some (.int y26), none] [] Φ)))) ∧ (x4 = 0 → ∀ y27 : Int32, y27 = (x2 / 100) → zW E m_Mo_timesIn 0 (zSt k) M 0 [some (.ref 83), some (.int 0), some (.int (x4 + 2)), none, none] [] (fun q28 T28 M28 => ∃ y28 : Int32, q28 = some (.int y28) ∧ (zSt k) = T28 ∧ zW E m_Mo_timesIn 0 (zSt k) M28 0 [some (.ref 83), some (.int 1), some (.int (x4 + 2)), none, none] [] (fun q29 T29 M29 => ∃ y29 : Int32, q29 = some (.int y29) ∧ (zSt k) = T29 ∧ ∀ y30 : Int32, y30 = (x3 + (y27 * (y28 - y29))) → ∀ y31 : Int32, y31 = x4 + 1 → zW E m_Mo_isLengths 1 (zSt k) M29 5 [some (.ref 83), some (.int x1), some (.int x2), some (.int y30), some (.int y31), none] [] Φ))))) : zW E m_Mo_isLengths 1 (zSt k) M 5 [some (.ref 83), some (.int x1), some (.int x2), some (.int x3), some (.int x4), none] [] Φ := by
  refine z_iload d_Mo_isLengths_5 rfl ?_
  refine z_iconst 3 d_Mo_isLengths_7 (by decide) ?_
  refine z_icmp_ge 76 d_Mo_isLengths_8 rfl ⟨fun c1 => ?_, fun c1 => ?_⟩
  · replace h := h.1 c1
    refine z_aload_n d_Mo_isLengths_76 rfl ?_
    refine z_iconst 0 d_Mo_isLengths_77 (by decide) ?_
    refine z_iconst 0 d_Mo_isLengths_78 (by decide) ?_
    refine z_callV (as := [.int 0, .int 0]) (st := []) i_Mo_timesIn ⟨rfl, rfl⟩ v_Mo_timesIn w_Mo_timesIn l_Mo_291 d_Mo_isLengths_79 (by decide) (tA_83 k) rfl (Nat.le_of_ble_eq_true rfl) (Nat.le_of_ble_eq_true rfl) h (fun q2 T2 M2 h => ?_)
    obtain ⟨y2, rfl, rfl, h⟩ := h
    refine z_aload_n d_Mo_isLengths_82 rfl ?_
    refine z_iconst 1 d_Mo_isLengths_83 (by decide) ?_
    refine z_iconst 0 d_Mo_isLengths_84 (by decide) ?_
    refine z_callV (as := [.int 1, .int 0]) (st := [.int y2]) i_Mo_timesIn ⟨rfl, rfl⟩ v_Mo_timesIn w_Mo_timesIn l_Mo_291 d_Mo_isLengths_85 (by decide) (tA_83 k) rfl (Nat.le_of_ble_eq_true rfl) (Nat.le_of_ble_eq_true rfl) h (fun q3 T3 M3 h => ?_)
    obtain ⟨y3, rfl, rfl, h⟩ := h
    refine z_isub d_Mo_isLengths_88 ?_
    refine z_name (fun y4 ey4 => ?_)
    replace h := h y4 ey4
    refine z_istore (ls' := [some (.ref 83), some (.int x1), some (.int x2), some (.int x3), some (.int y4), none]) d_Mo_isLengths_89 (Nat.le_of_ble_eq_true rfl) rfl rfl ?_
    refine z_aload_n d_Mo_isLengths_91 rfl ?_
    refine z_iconst 0 d_Mo_isLengths_92 (by decide) ?_
    refine z_iconst 1 d_Mo_isLengths_93 (by decide) ?_
    refine z_callV (as := [.int 0, .int 1]) (st := []) i_Mo_timesIn ⟨rfl, rfl⟩ v_Mo_timesIn w_Mo_timesIn l_Mo_291 d_Mo_isLengths_94 (by decide) (tA_83 k) rfl (Nat.le_of_ble_eq_true rfl) (Nat.le_of_ble_eq_true rfl) h (fun q5 T5 M5 h => ?_)
    obtain ⟨y5, rfl, rfl, h⟩ := h
    refine z_aload_n d_Mo_isLengths_97 rfl ?_
    refine z_iconst 1 d_Mo_isLengths_98 (by decide) ?_
    refine z_iconst 1 d_Mo_isLengths_99 (by decide) ?_
    refine z_callV (as := [.int 1, .int 1]) (st := [.int y5]) i_Mo_timesIn ⟨rfl, rfl⟩ v_Mo_timesIn w_Mo_timesIn l_Mo_291 d_Mo_isLengths_100 (by decide) (tA_83 k) rfl (Nat.le_of_ble_eq_true rfl) (Nat.le_of_ble_eq_true rfl) h (fun q6 T6 M6 h => ?_)
    obtain ⟨y6, rfl, rfl, h⟩ := h
    refine z_isub d_Mo_isLengths_103 ?_
    refine z_name (fun y7 ey7 => ?_)
    replace h := h y7 ey7
    refine z_istore (ls' := [some (.ref 83), some (.int x1), some (.int x2), some (.int x3), some (.int y4), some (.int y7)]) d_Mo_isLengths_104 (Nat.le_of_ble_eq_true rfl) rfl rfl ?_
    refine z_iload_n d_Mo_isLengths_106 rfl ?_
    refine z_if_ne 128 d_Mo_isLengths_107 rfl ⟨fun c8 => ?_, fun c8 => ?_⟩
    · replace h := h.1 c8
      refine z_iload_n d_Mo_isLengths_128 rfl ?_
      refine z_iconst 1 d_Mo_isLengths_129 (by decide) ?_
      refine z_icmp_ne 153 d_Mo_isLengths_130 rfl ⟨fun c9 => ?_, fun c9 => ?_⟩
      · replace h := h.1 c9
        refine z_iload d_Mo_isLengths_153 rfl ?_
        refine z_if_ne 169 d_Mo_isLengths_155 rfl ⟨fun c10 => ?_, fun c10 => ?_⟩
        · replace h := h.1 c10
          refine z_iconst 0 d_Mo_isLengths_169 (by decide) ?_
          exact z_zret rfl d_Mo_isLengths_170 rfl h
        · replace h := h.2 c10
          refine z_iload d_Mo_isLengths_158 rfl ?_
          refine z_iload_n d_Mo_isLengths_160 rfl ?_
          refine z_iadd d_Mo_isLengths_161 ?_
          refine z_if_ne 169 d_Mo_isLengths_162 rfl ⟨fun c11 => ?_, fun c11 => ?_⟩
          · replace h := h.1 c11
            refine z_iconst 0 d_Mo_isLengths_169 (by decide) ?_
            exact z_zret rfl d_Mo_isLengths_170 rfl h
          · replace h := h.2 c11
            refine z_iconst 1 d_Mo_isLengths_165 (by decide) ?_
            refine z_goto 170 d_Mo_isLengths_166 rfl ?_
            exact z_zret rfl d_Mo_isLengths_170 rfl h
      · replace h := h.2 c9
        refine z_iload d_Mo_isLengths_133 rfl ?_
        refine z_iload_n d_Mo_isLengths_135 rfl ?_
        refine z_iadd d_Mo_isLengths_136 ?_
        refine z_if_ne 149 d_Mo_isLengths_137 rfl ⟨fun c12 => ?_, fun c12 => ?_⟩
        · replace h := h.1 c12
          refine z_iconst 0 d_Mo_isLengths_149 (by decide) ?_
          refine z_goto 170 d_Mo_isLengths_150 rfl ?_
          exact z_zret rfl d_Mo_isLengths_170 rfl h
        · replace h := h.2 c12
          refine z_iload d_Mo_isLengths_140 rfl ?_
          refine z_if_ne 149 d_Mo_isLengths_142 rfl ⟨fun c13 => ?_, fun c13 => ?_⟩
          · replace h := h.1 c13
            refine z_iconst 0 d_Mo_isLengths_149 (by decide) ?_
            refine z_goto 170 d_Mo_isLengths_150 rfl ?_
            exact z_zret rfl d_Mo_isLengths_170 rfl h
          · replace h := h.2 c13
            refine z_iconst 1 d_Mo_isLengths_145 (by decide) ?_
            refine z_goto 170 d_Mo_isLengths_146 rfl ?_
            exact z_zret rfl d_Mo_isLengths_170 rfl h
    · replace h := h.2 c8
      refine z_iload d_Mo_isLengths_110 rfl ?_
      refine z_iload d_Mo_isLengths_112 rfl ?_
      refine z_iadd d_Mo_isLengths_114 ?_
      refine z_iload_n d_Mo_isLengths_115 rfl ?_
      refine z_iadd d_Mo_isLengths_116 ?_
      refine z_if_ne 124 d_Mo_isLengths_117 rfl ⟨fun c14 => ?_, fun c14 => ?_⟩
      · replace h := h.1 c14
        refine z_iconst 0 d_Mo_isLengths_124 (by decide) ?_
        refine z_goto 170 d_Mo_isLengths_125 rfl ?_
        exact z_zret rfl d_Mo_isLengths_170 rfl h
      · replace h := h.2 c14
        refine z_iconst 1 d_Mo_isLengths_120 (by decide) ?_
        refine z_goto 170 d_Mo_isLengths_121 rfl ?_
        exact z_zret rfl d_Mo_isLengths_170 rfl h
  · replace h := h.2 c1
    refine z_iload d_Mo_isLengths_11 rfl ?_
    refine z_if_ne 23 d_Mo_isLengths_13 rfl ⟨fun c15 => ?_, fun c15 => ?_⟩
    · replace h := h.1 c15
      refine z_iload d_Mo_isLengths_23 rfl ?_
      refine z_iconst 1 d_Mo_isLengths_25 (by decide) ?_
      refine z_icmp_ne 39 d_Mo_isLengths_26 rfl ⟨fun c16 => ?_, fun c16 => ?_⟩
      · replace h := h.1 c16
        refine z_iload_n d_Mo_isLengths_39 rfl ?_
        refine z_bipush 10 d_Mo_isLengths_40 (by decide) ?_
        refine z_irem d_Mo_isLengths_42 (by decide) ?_
        refine z_name (fun y17 ey17 => ?_)
        replace h := h y17 ey17
        refine z_istore (ls' := [some (.ref 83), some (.int x1), some (.int x2), some (.int x3), some (.int x4), some (.int y17)]) d_Mo_isLengths_43 (Nat.le_of_ble_eq_true rfl) rfl rfl ?_
        refine z_iload_n d_Mo_isLengths_45 rfl ?_
        refine z_iload d_Mo_isLengths_46 rfl ?_
        refine z_aload_n d_Mo_isLengths_48 rfl ?_
        refine z_iconst 0 d_Mo_isLengths_49 (by decide) ?_
        refine z_iload d_Mo_isLengths_50 rfl ?_
        refine z_iconst 2 d_Mo_isLengths_52 (by decide) ?_
        refine z_iadd d_Mo_isLengths_53 ?_
        refine z_callV (as := [.int 0, .int (x4 + 2)]) (st := [.int y17, .int x3]) i_Mo_timesIn ⟨rfl, rfl⟩ v_Mo_timesIn w_Mo_timesIn l_Mo_291 d_Mo_isLengths_54 (by decide) (tA_83 k) rfl (Nat.le_of_ble_eq_true rfl) (Nat.le_of_ble_eq_true rfl) h (fun q18 T18 M18 h => ?_)
        obtain ⟨y18, rfl, rfl, h⟩ := h
        refine z_aload_n d_Mo_isLengths_57 rfl ?_
        refine z_iconst 1 d_Mo_isLengths_58 (by decide) ?_
        refine z_iload d_Mo_isLengths_59 rfl ?_
        refine z_iconst 2 d_Mo_isLengths_61 (by decide) ?_
        refine z_iadd d_Mo_isLengths_62 ?_
        refine z_callV (as := [.int 1, .int (x4 + 2)]) (st := [.int y18, .int y17, .int x3]) i_Mo_timesIn ⟨rfl, rfl⟩ v_Mo_timesIn w_Mo_timesIn l_Mo_291 d_Mo_isLengths_63 (by decide) (tA_83 k) rfl (Nat.le_of_ble_eq_true rfl) (Nat.le_of_ble_eq_true rfl) h (fun q19 T19 M19 h => ?_)
        obtain ⟨y19, rfl, rfl, h⟩ := h
        refine z_isub d_Mo_isLengths_66 ?_
        refine z_imul d_Mo_isLengths_67 ?_
        refine z_iadd d_Mo_isLengths_68 ?_
        refine z_name (fun y20 ey20 => ?_)
        replace h := h y20 ey20
        refine z_istore_n (ls' := [some (.ref 83), some (.int x1), some (.int x2), some (.int y20), some (.int x4), some (.int y17)]) d_Mo_isLengths_69 (Nat.le_of_ble_eq_true rfl) rfl rfl ?_
        obtain ⟨y21, ey21⟩ : ∃ q : Int32, q = x4 + 1 := ⟨_, rfl⟩
        replace h := h y21 ey21
        refine z_iinc (ls' := [some (.ref 83), some (.int x1), some (.int x2), some (.int y20), some (.int y21), some (.int y17)]) y21 d_Mo_isLengths_70 rfl (ey21 ▸ rfl) (Nat.le_of_ble_eq_true rfl) rfl rfl ?_
        refine z_goto 5 d_Mo_isLengths_73 rfl ?_
        exact z_forget [some (.ref 83), some (.int x1), some (.int x2), some (.int y20), some (.int y21), none] (And.intro rfl (And.intro rfl (And.intro rfl (And.intro rfl (And.intro rfl (trivial)))))) h
      · replace h := h.2 c16
        refine z_iload_n d_Mo_isLengths_29 rfl ?_
        refine z_bipush 10 d_Mo_isLengths_30 (by decide) ?_
        refine z_idiv d_Mo_isLengths_32 (by decide) ?_
        refine z_bipush 10 d_Mo_isLengths_33 (by decide) ?_
        refine z_irem d_Mo_isLengths_35 (by decide) ?_
        refine z_goto 43 d_Mo_isLengths_36 rfl ?_
        refine z_name (fun y22 ey22 => ?_)
        replace h := h y22 ey22
        refine z_istore (ls' := [some (.ref 83), some (.int x1), some (.int x2), some (.int x3), some (.int x4), some (.int y22)]) d_Mo_isLengths_43 (Nat.le_of_ble_eq_true rfl) rfl rfl ?_
        refine z_iload_n d_Mo_isLengths_45 rfl ?_
        refine z_iload d_Mo_isLengths_46 rfl ?_
        refine z_aload_n d_Mo_isLengths_48 rfl ?_
        refine z_iconst 0 d_Mo_isLengths_49 (by decide) ?_
        refine z_iload d_Mo_isLengths_50 rfl ?_
        refine z_iconst 2 d_Mo_isLengths_52 (by decide) ?_
        refine z_iadd d_Mo_isLengths_53 ?_
        refine z_callV (as := [.int 0, .int (x4 + 2)]) (st := [.int y22, .int x3]) i_Mo_timesIn ⟨rfl, rfl⟩ v_Mo_timesIn w_Mo_timesIn l_Mo_291 d_Mo_isLengths_54 (by decide) (tA_83 k) rfl (Nat.le_of_ble_eq_true rfl) (Nat.le_of_ble_eq_true rfl) h (fun q23 T23 M23 h => ?_)
        obtain ⟨y23, rfl, rfl, h⟩ := h
        refine z_aload_n d_Mo_isLengths_57 rfl ?_
        refine z_iconst 1 d_Mo_isLengths_58 (by decide) ?_
        refine z_iload d_Mo_isLengths_59 rfl ?_
        refine z_iconst 2 d_Mo_isLengths_61 (by decide) ?_
        refine z_iadd d_Mo_isLengths_62 ?_
        refine z_callV (as := [.int 1, .int (x4 + 2)]) (st := [.int y23, .int y22, .int x3]) i_Mo_timesIn ⟨rfl, rfl⟩ v_Mo_timesIn w_Mo_timesIn l_Mo_291 d_Mo_isLengths_63 (by decide) (tA_83 k) rfl (Nat.le_of_ble_eq_true rfl) (Nat.le_of_ble_eq_true rfl) h (fun q24 T24 M24 h => ?_)
        obtain ⟨y24, rfl, rfl, h⟩ := h
        refine z_isub d_Mo_isLengths_66 ?_
        refine z_imul d_Mo_isLengths_67 ?_
        refine z_iadd d_Mo_isLengths_68 ?_
        refine z_name (fun y25 ey25 => ?_)
        replace h := h y25 ey25
        refine z_istore_n (ls' := [some (.ref 83), some (.int x1), some (.int x2), some (.int y25), some (.int x4), some (.int y22)]) d_Mo_isLengths_69 (Nat.le_of_ble_eq_true rfl) rfl rfl ?_
        obtain ⟨y26, ey26⟩ : ∃ q : Int32, q = x4 + 1 := ⟨_, rfl⟩
        replace h := h y26 ey26
        refine z_iinc (ls' := [some (.ref 83), some (.int x1), some (.int x2), some (.int y25), some (.int y26), some (.int y22)]) y26 d_Mo_isLengths_70 rfl (ey26 ▸ rfl) (Nat.le_of_ble_eq_true rfl) rfl rfl ?_
        refine z_goto 5 d_Mo_isLengths_73 rfl ?_
        exact z_forget [some (.ref 83), some (.int x1), some (.int x2), some (.int y25), some (.int y26), none] (And.intro rfl (And.intro rfl (And.intro rfl (And.intro rfl (And.intro rfl (trivial)))))) h
    · replace h := h.2 c15
      refine z_iload_n d_Mo_isLengths_16 rfl ?_
      refine z_bipush 100 d_Mo_isLengths_17 (by decide) ?_
      refine z_idiv d_Mo_isLengths_19 (by decide) ?_
      refine z_goto 43 d_Mo_isLengths_20 rfl ?_
      refine z_name (fun y27 ey27 => ?_)
      replace h := h y27 ey27
      refine z_istore (ls' := [some (.ref 83), some (.int x1), some (.int x2), some (.int x3), some (.int x4), some (.int y27)]) d_Mo_isLengths_43 (Nat.le_of_ble_eq_true rfl) rfl rfl ?_
      refine z_iload_n d_Mo_isLengths_45 rfl ?_
      refine z_iload d_Mo_isLengths_46 rfl ?_
      refine z_aload_n d_Mo_isLengths_48 rfl ?_
      refine z_iconst 0 d_Mo_isLengths_49 (by decide) ?_
      refine z_iload d_Mo_isLengths_50 rfl ?_
      refine z_iconst 2 d_Mo_isLengths_52 (by decide) ?_
      refine z_iadd d_Mo_isLengths_53 ?_
      refine z_callV (as := [.int 0, .int (x4 + 2)]) (st := [.int y27, .int x3]) i_Mo_timesIn ⟨rfl, rfl⟩ v_Mo_timesIn w_Mo_timesIn l_Mo_291 d_Mo_isLengths_54 (by decide) (tA_83 k) rfl (Nat.le_of_ble_eq_true rfl) (Nat.le_of_ble_eq_true rfl) h (fun q28 T28 M28 h => ?_)
      obtain ⟨y28, rfl, rfl, h⟩ := h
      refine z_aload_n d_Mo_isLengths_57 rfl ?_
      refine z_iconst 1 d_Mo_isLengths_58 (by decide) ?_
      refine z_iload d_Mo_isLengths_59 rfl ?_
      refine z_iconst 2 d_Mo_isLengths_61 (by decide) ?_
      refine z_iadd d_Mo_isLengths_62 ?_
      refine z_callV (as := [.int 1, .int (x4 + 2)]) (st := [.int y28, .int y27, .int x3]) i_Mo_timesIn ⟨rfl, rfl⟩ v_Mo_timesIn w_Mo_timesIn l_Mo_291 d_Mo_isLengths_63 (by decide) (tA_83 k) rfl (Nat.le_of_ble_eq_true rfl) (Nat.le_of_ble_eq_true rfl) h (fun q29 T29 M29 h => ?_)
      obtain ⟨y29, rfl, rfl, h⟩ := h
      refine z_isub d_Mo_isLengths_66 ?_
      refine z_imul d_Mo_isLengths_67 ?_
      refine z_iadd d_Mo_isLengths_68 ?_
      refine z_name (fun y30 ey30 => ?_)
      replace h := h y30 ey30
      refine z_istore_n (ls' := [some (.ref 83), some (.int x1), some (.int x2), some (.int y30), some (.int x4), some (.int y27)]) d_Mo_isLengths_69 (Nat.le_of_ble_eq_true rfl) rfl rfl ?_
      obtain ⟨y31, ey31⟩ : ∃ q : Int32, q = x4 + 1 := ⟨_, rfl⟩
      replace h := h y31 ey31
      refine z_iinc (ls' := [some (.ref 83), some (.int x1), some (.int x2), some (.int y30), some (.int y31), some (.int y27)]) y31 d_Mo_isLengths_70 rfl (ey31 ▸ rfl) (Nat.le_of_ble_eq_true rfl) rfl rfl ?_
      refine z_goto 5 d_Mo_isLengths_73 rfl ?_
      exact z_forget [some (.ref 83), some (.int x1), some (.int x2), some (.int y30), some (.int y31), none] (And.intro rfl (And.intro rfl (And.intro rfl (And.intro rfl (And.intro rfl (trivial)))))) h

set_option maxRecDepth 20000 in
theorem vc_Mo_lengths_0 (E : ZE) (k : Nat) (M : ZM) (x1 : Int32) (x2 : Int32) (Φ : Option Value → ZS → ZM → Prop)  (h : zW E m_Mo_in 0 (zSt k) M 0 [some (.long (Int32.toInt64 x1)), none, some (.long 0), none, some (.long 2), none] [] (fun q1 T1 M1 => ∃ y1 : Int32, q1 = some (.int y1) ∧ (zSt k) = T1 ∧ (¬ y1 = 0 → zW E m_Mo_lengths 2 (zSt k) M1 20 [some (.ref 83), some (.int x1), some (.int x2), some (.int 0), some (.int 0)] [] Φ) ∧ (y1 = 0 → Φ (some (.int (-2))) (zSt k) M1))) : zW E m_Mo_lengths 2 (zSt k) M 0 [some (.ref 83), some (.int x1), some (.int x2), none, none] [] Φ := by
  refine z_iload_n d_Mo_lengths_0 rfl ?_
  refine z_i2l d_Mo_lengths_1 ?_
  refine z_lconst 0 d_Mo_lengths_2 (by decide) ?_
  refine z_ldc2 2 d_Mo_lengths_3 k_Mo_107 ?_
  refine z_callS (as := [.long (Int32.toInt64 x1), .long 0, .long 2]) (st := []) i_Mo_in s_Mo_in l_Mo_109 d_Mo_lengths_6 (by decide) rfl (Nat.le_of_ble_eq_true rfl) (Nat.le_of_ble_eq_true rfl) h (fun q1 T1 M1 h => ?_)
  obtain ⟨y1, rfl, rfl, h⟩ := h
  refine z_if_ne 15 d_Mo_lengths_9 rfl ⟨fun c2 => ?_, fun c2 => ?_⟩
  · replace h := h.1 c2
    refine z_iconst 0 d_Mo_lengths_15 (by decide) ?_
    refine z_istore_n (ls' := [some (.ref 83), some (.int x1), some (.int x2), some (.int 0), none]) d_Mo_lengths_16 (Nat.le_of_ble_eq_true rfl) rfl rfl ?_
    refine z_iconst 0 d_Mo_lengths_17 (by decide) ?_
    refine z_istore (ls' := [some (.ref 83), some (.int x1), some (.int x2), some (.int 0), some (.int 0)]) d_Mo_lengths_18 (Nat.le_of_ble_eq_true rfl) rfl rfl ?_
    exact z_forget [some (.ref 83), some (.int x1), some (.int x2), some (.int 0), some (.int 0)] (And.intro rfl (And.intro rfl (And.intro rfl (And.intro rfl (And.intro rfl (trivial)))))) h
  · replace h := h.2 c2
    refine z_bipush (-2) d_Mo_lengths_12 (by decide) ?_
    exact z_iret rfl d_Mo_lengths_14 h

set_option maxRecDepth 20000 in
theorem vc_Mo_lengths_20 (E : ZE) (k : Nat) (M : ZM) (x1 : Int32) (x2 : Int32) (x3 : Int32) (x4 : Int32) (Φ : Option Value → ZS → ZM → Prop)  (h : (1000 ≤ x4 → (¬ x2 = (-1) → Φ (some (.int (-6))) (zSt k) M) ∧ (x2 = (-1) → Φ (some (.int x3)) (zSt k) M)) ∧ (¬ 1000 ≤ x4 → zW E m_Mo_isLengths 1 (zSt k) M 0 [some (.ref 83), some (.int x1), some (.int x4), none, none, none] [] (fun q3 T3 M3 => ∃ y3 : Int32, q3 = some (.int y3) ∧ (zSt k) = T3 ∧ (y3 = 0 → ∀ y5 : Int32, y5 = x4 + 1 → zW E m_Mo_lengths 2 (zSt k) M3 20 [some (.ref 83), some (.int x1), some (.int x2), some (.int x3), some (.int y5)] [] Φ) ∧ (¬ y3 = 0 → (¬ x3 = x2 → ∀ y7 : Int32, y7 = x3 + 1 → ∀ y8 : Int32, y8 = x4 + 1 → zW E m_Mo_lengths 2 (zSt k) M3 20 [some (.ref 83), some (.int x1), some (.int x2), some (.int y7), some (.int y8)] [] Φ) ∧ (x3 = x2 → Φ (some (.int x4)) (zSt k) M3))))) : zW E m_Mo_lengths 2 (zSt k) M 20 [some (.ref 83), some (.int x1), some (.int x2), some (.int x3), some (.int x4)] [] Φ := by
  refine z_iload d_Mo_lengths_20 rfl ?_
  refine z_sipush 1000 d_Mo_lengths_22 (by decide) ?_
  refine z_icmp_ge 55 d_Mo_lengths_25 rfl ⟨fun c1 => ?_, fun c1 => ?_⟩
  · replace h := h.1 c1
    refine z_iload_n d_Mo_lengths_55 rfl ?_
    refine z_iconst (-1) d_Mo_lengths_56 (by decide) ?_
    refine z_icmp_ne 64 d_Mo_lengths_57 rfl ⟨fun c2 => ?_, fun c2 => ?_⟩
    · replace h := h.1 c2
      refine z_bipush (-6) d_Mo_lengths_64 (by decide) ?_
      exact z_iret rfl d_Mo_lengths_66 h
    · replace h := h.2 c2
      refine z_iload_n d_Mo_lengths_60 rfl ?_
      refine z_goto 66 d_Mo_lengths_61 rfl ?_
      exact z_iret rfl d_Mo_lengths_66 h
  · replace h := h.2 c1
    refine z_aload_n d_Mo_lengths_28 rfl ?_
    refine z_iload_n d_Mo_lengths_29 rfl ?_
    refine z_iload d_Mo_lengths_30 rfl ?_
    refine z_callV (as := [.int x1, .int x4]) (st := []) i_Mo_isLengths ⟨rfl, rfl⟩ v_Mo_isLengths w_Mo_isLengths l_Mo_294 d_Mo_lengths_32 (by decide) (tA_83 k) rfl (Nat.le_of_ble_eq_true rfl) (Nat.le_of_ble_eq_true rfl) h (fun q3 T3 M3 h => ?_)
    obtain ⟨y3, rfl, rfl, h⟩ := h
    refine z_if_eq 49 d_Mo_lengths_35 rfl ⟨fun c4 => ?_, fun c4 => ?_⟩
    · replace h := h.1 c4
      obtain ⟨y5, ey5⟩ : ∃ q : Int32, q = x4 + 1 := ⟨_, rfl⟩
      replace h := h y5 ey5
      refine z_iinc (ls' := [some (.ref 83), some (.int x1), some (.int x2), some (.int x3), some (.int y5)]) y5 d_Mo_lengths_49 rfl (ey5 ▸ rfl) (Nat.le_of_ble_eq_true rfl) rfl rfl ?_
      refine z_goto 20 d_Mo_lengths_52 rfl ?_
      exact z_forget [some (.ref 83), some (.int x1), some (.int x2), some (.int x3), some (.int y5)] (And.intro rfl (And.intro rfl (And.intro rfl (And.intro rfl (And.intro rfl (trivial)))))) h
    · replace h := h.2 c4
      refine z_iload_n d_Mo_lengths_38 rfl ?_
      refine z_iload_n d_Mo_lengths_39 rfl ?_
      refine z_icmp_ne 46 d_Mo_lengths_40 rfl ⟨fun c6 => ?_, fun c6 => ?_⟩
      · replace h := h.1 c6
        obtain ⟨y7, ey7⟩ : ∃ q : Int32, q = x3 + 1 := ⟨_, rfl⟩
        replace h := h y7 ey7
        refine z_iinc (ls' := [some (.ref 83), some (.int x1), some (.int x2), some (.int y7), some (.int x4)]) y7 d_Mo_lengths_46 rfl (ey7 ▸ rfl) (Nat.le_of_ble_eq_true rfl) rfl rfl ?_
        obtain ⟨y8, ey8⟩ : ∃ q : Int32, q = x4 + 1 := ⟨_, rfl⟩
        replace h := h y8 ey8
        refine z_iinc (ls' := [some (.ref 83), some (.int x1), some (.int x2), some (.int y7), some (.int y8)]) y8 d_Mo_lengths_49 rfl (ey8 ▸ rfl) (Nat.le_of_ble_eq_true rfl) rfl rfl ?_
        refine z_goto 20 d_Mo_lengths_52 rfl ?_
        exact z_forget [some (.ref 83), some (.int x1), some (.int x2), some (.int y7), some (.int y8)] (And.intro rfl (And.intro rfl (And.intro rfl (And.intro rfl (And.intro rfl (trivial)))))) h
      · replace h := h.2 c6
        refine z_iload d_Mo_lengths_43 rfl ?_
        exact z_iret rfl d_Mo_lengths_45 h

set_option maxRecDepth 20000 in
theorem vc_Mo_tryWord_0 (E : ZE) (k : Nat) (M : ZM) (x1 : Int32) (x2 : Int32) (Φ : Option Value → ZS → ZM → Prop)  (h : (¬ x2 = 0 → (3 ≤ x2 → (7 ≤ x2 → ∀ y4 : Int32, y4 = ((x2 - ((1 : Int32) <<< (3 &&& 31))) + 1) → ∃ j5 : Nat, j5 < 3 ∧ x1 = nI j5 ∧ (∀ M6 : ZM, M6 = zms M 110 j5 3 → zW E m_Mo_tryWord 0 (zSt k) M6 48 [some (.ref 83), some (.int x1), none, some (.int 3), some (.int y4), some (.int 0)] [] Φ)) ∧ (¬ 7 ≤ x2 → ∀ y7 : Int32, y7 = ((x2 - ((1 : Int32) <<< (2 &&& 31))) + 1) → ∃ j8 : Nat, j8 < 3 ∧ x1 = nI j8 ∧ (∀ M9 : ZM, M9 = zms M 110 j8 2 → zW E m_Mo_tryWord 0 (zSt k) M9 48 [some (.ref 83), some (.int x1), none, some (.int 2), some (.int y7), some (.int 0)] [] Φ))) ∧ (¬ 3 ≤ x2 → ∀ y10 : Int32, y10 = ((x2 - ((1 : Int32) <<< (1 &&& 31))) + 1) → ∃ j11 : Nat, j11 < 3 ∧ x1 = nI j11 ∧ (∀ M12 : ZM, M12 = zms M 110 j11 1 → zW E m_Mo_tryWord 0 (zSt k) M12 48 [some (.ref 83), some (.int x1), none, some (.int 1), some (.int y10), some (.int 0)] [] Φ))) ∧ (x2 = 0 → ∀ y13 : Int32, y13 = ((x2 - ((1 : Int32) <<< (0 &&& 31))) + 1) → ∃ j14 : Nat, j14 < 3 ∧ x1 = nI j14 ∧ (∀ M15 : ZM, M15 = zms M 110 j14 0 → zW E m_Mo_tryWord 0 (zSt k) M15 48 [some (.ref 83), some (.int x1), none, some (.int 0), some (.int y13), some (.int 0)] [] Φ))) : zW E m_Mo_tryWord 0 (zSt k) M 0 [some (.ref 83), some (.int x1), some (.int x2), none, none, none] [] Φ := by
  refine z_iload_n d_Mo_tryWord_0 rfl ?_
  refine z_if_ne 8 d_Mo_tryWord_1 rfl ⟨fun c1 => ?_, fun c1 => ?_⟩
  · replace h := h.1 c1
    refine z_iload_n d_Mo_tryWord_8 rfl ?_
    refine z_iconst 3 d_Mo_tryWord_9 (by decide) ?_
    refine z_icmp_ge 17 d_Mo_tryWord_10 rfl ⟨fun c2 => ?_, fun c2 => ?_⟩
    · replace h := h.1 c2
      refine z_iload_n d_Mo_tryWord_17 rfl ?_
      refine z_bipush 7 d_Mo_tryWord_18 (by decide) ?_
      refine z_icmp_ge 27 d_Mo_tryWord_20 rfl ⟨fun c3 => ?_, fun c3 => ?_⟩
      · replace h := h.1 c3
        refine z_iconst 3 d_Mo_tryWord_27 (by decide) ?_
        refine z_istore_n (ls' := [some (.ref 83), some (.int x1), some (.int x2), some (.int 3), none, none]) d_Mo_tryWord_28 (Nat.le_of_ble_eq_true rfl) rfl rfl ?_
        refine z_iload_n d_Mo_tryWord_29 rfl ?_
        refine z_iconst 1 d_Mo_tryWord_30 (by decide) ?_
        refine z_iload_n d_Mo_tryWord_31 rfl ?_
        refine z_ishl d_Mo_tryWord_32 ?_
        refine z_isub d_Mo_tryWord_33 ?_
        refine z_iconst 1 d_Mo_tryWord_34 (by decide) ?_
        refine z_iadd d_Mo_tryWord_35 ?_
        refine z_name (fun y4 ey4 => ?_)
        replace h := h y4 ey4
        refine z_istore (ls' := [some (.ref 83), some (.int x1), some (.int x2), some (.int 3), some (.int y4), none]) d_Mo_tryWord_36 (Nat.le_of_ble_eq_true rfl) rfl rfl ?_
        refine z_aload_n d_Mo_tryWord_38 rfl ?_
        refine z_getr f_Mo_89 rfl d_Mo_tryWord_39 (tA_83 k) (tr_83_35 k) ?_
        refine z_iload_n d_Mo_tryWord_42 rfl ?_
        refine z_iload_n d_Mo_tryWord_43 rfl ?_
        obtain ⟨j5, hj5, ej5, h⟩ := h
        refine y_iastore j5 d_Mo_tryWord_44 (ta_110 k) hj5 ej5 ?_
        refine z_mem (fun M6 eM6 => ?_)
        replace h := h M6 eM6
        refine z_iconst 0 d_Mo_tryWord_45 (by decide) ?_
        refine z_istore (ls' := [some (.ref 83), some (.int x1), some (.int x2), some (.int 3), some (.int y4), some (.int 0)]) d_Mo_tryWord_46 (Nat.le_of_ble_eq_true rfl) rfl rfl ?_
        exact z_forget [some (.ref 83), some (.int x1), none, some (.int 3), some (.int y4), some (.int 0)] (And.intro rfl (And.intro rfl (And.intro rfl (And.intro rfl (And.intro rfl (trivial)))))) h
      · replace h := h.2 c3
        refine z_iconst 2 d_Mo_tryWord_23 (by decide) ?_
        refine z_goto 28 d_Mo_tryWord_24 rfl ?_
        refine z_istore_n (ls' := [some (.ref 83), some (.int x1), some (.int x2), some (.int 2), none, none]) d_Mo_tryWord_28 (Nat.le_of_ble_eq_true rfl) rfl rfl ?_
        refine z_iload_n d_Mo_tryWord_29 rfl ?_
        refine z_iconst 1 d_Mo_tryWord_30 (by decide) ?_
        refine z_iload_n d_Mo_tryWord_31 rfl ?_
        refine z_ishl d_Mo_tryWord_32 ?_
        refine z_isub d_Mo_tryWord_33 ?_
        refine z_iconst 1 d_Mo_tryWord_34 (by decide) ?_
        refine z_iadd d_Mo_tryWord_35 ?_
        refine z_name (fun y7 ey7 => ?_)
        replace h := h y7 ey7
        refine z_istore (ls' := [some (.ref 83), some (.int x1), some (.int x2), some (.int 2), some (.int y7), none]) d_Mo_tryWord_36 (Nat.le_of_ble_eq_true rfl) rfl rfl ?_
        refine z_aload_n d_Mo_tryWord_38 rfl ?_
        refine z_getr f_Mo_89 rfl d_Mo_tryWord_39 (tA_83 k) (tr_83_35 k) ?_
        refine z_iload_n d_Mo_tryWord_42 rfl ?_
        refine z_iload_n d_Mo_tryWord_43 rfl ?_
        obtain ⟨j8, hj8, ej8, h⟩ := h
        refine y_iastore j8 d_Mo_tryWord_44 (ta_110 k) hj8 ej8 ?_
        refine z_mem (fun M9 eM9 => ?_)
        replace h := h M9 eM9
        refine z_iconst 0 d_Mo_tryWord_45 (by decide) ?_
        refine z_istore (ls' := [some (.ref 83), some (.int x1), some (.int x2), some (.int 2), some (.int y7), some (.int 0)]) d_Mo_tryWord_46 (Nat.le_of_ble_eq_true rfl) rfl rfl ?_
        exact z_forget [some (.ref 83), some (.int x1), none, some (.int 2), some (.int y7), some (.int 0)] (And.intro rfl (And.intro rfl (And.intro rfl (And.intro rfl (And.intro rfl (trivial)))))) h
    · replace h := h.2 c2
      refine z_iconst 1 d_Mo_tryWord_13 (by decide) ?_
      refine z_goto 28 d_Mo_tryWord_14 rfl ?_
      refine z_istore_n (ls' := [some (.ref 83), some (.int x1), some (.int x2), some (.int 1), none, none]) d_Mo_tryWord_28 (Nat.le_of_ble_eq_true rfl) rfl rfl ?_
      refine z_iload_n d_Mo_tryWord_29 rfl ?_
      refine z_iconst 1 d_Mo_tryWord_30 (by decide) ?_
      refine z_iload_n d_Mo_tryWord_31 rfl ?_
      refine z_ishl d_Mo_tryWord_32 ?_
      refine z_isub d_Mo_tryWord_33 ?_
      refine z_iconst 1 d_Mo_tryWord_34 (by decide) ?_
      refine z_iadd d_Mo_tryWord_35 ?_
      refine z_name (fun y10 ey10 => ?_)
      replace h := h y10 ey10
      refine z_istore (ls' := [some (.ref 83), some (.int x1), some (.int x2), some (.int 1), some (.int y10), none]) d_Mo_tryWord_36 (Nat.le_of_ble_eq_true rfl) rfl rfl ?_
      refine z_aload_n d_Mo_tryWord_38 rfl ?_
      refine z_getr f_Mo_89 rfl d_Mo_tryWord_39 (tA_83 k) (tr_83_35 k) ?_
      refine z_iload_n d_Mo_tryWord_42 rfl ?_
      refine z_iload_n d_Mo_tryWord_43 rfl ?_
      obtain ⟨j11, hj11, ej11, h⟩ := h
      refine y_iastore j11 d_Mo_tryWord_44 (ta_110 k) hj11 ej11 ?_
      refine z_mem (fun M12 eM12 => ?_)
      replace h := h M12 eM12
      refine z_iconst 0 d_Mo_tryWord_45 (by decide) ?_
      refine z_istore (ls' := [some (.ref 83), some (.int x1), some (.int x2), some (.int 1), some (.int y10), some (.int 0)]) d_Mo_tryWord_46 (Nat.le_of_ble_eq_true rfl) rfl rfl ?_
      exact z_forget [some (.ref 83), some (.int x1), none, some (.int 1), some (.int y10), some (.int 0)] (And.intro rfl (And.intro rfl (And.intro rfl (And.intro rfl (And.intro rfl (trivial)))))) h
  · replace h := h.2 c1
    refine z_iconst 0 d_Mo_tryWord_4 (by decide) ?_
    refine z_goto 28 d_Mo_tryWord_5 rfl ?_
    refine z_istore_n (ls' := [some (.ref 83), some (.int x1), some (.int x2), some (.int 0), none, none]) d_Mo_tryWord_28 (Nat.le_of_ble_eq_true rfl) rfl rfl ?_
    refine z_iload_n d_Mo_tryWord_29 rfl ?_
    refine z_iconst 1 d_Mo_tryWord_30 (by decide) ?_
    refine z_iload_n d_Mo_tryWord_31 rfl ?_
    refine z_ishl d_Mo_tryWord_32 ?_
    refine z_isub d_Mo_tryWord_33 ?_
    refine z_iconst 1 d_Mo_tryWord_34 (by decide) ?_
    refine z_iadd d_Mo_tryWord_35 ?_
    refine z_name (fun y13 ey13 => ?_)
    replace h := h y13 ey13
    refine z_istore (ls' := [some (.ref 83), some (.int x1), some (.int x2), some (.int 0), some (.int y13), none]) d_Mo_tryWord_36 (Nat.le_of_ble_eq_true rfl) rfl rfl ?_
    refine z_aload_n d_Mo_tryWord_38 rfl ?_
    refine z_getr f_Mo_89 rfl d_Mo_tryWord_39 (tA_83 k) (tr_83_35 k) ?_
    refine z_iload_n d_Mo_tryWord_42 rfl ?_
    refine z_iload_n d_Mo_tryWord_43 rfl ?_
    obtain ⟨j14, hj14, ej14, h⟩ := h
    refine y_iastore j14 d_Mo_tryWord_44 (ta_110 k) hj14 ej14 ?_
    refine z_mem (fun M15 eM15 => ?_)
    replace h := h M15 eM15
    refine z_iconst 0 d_Mo_tryWord_45 (by decide) ?_
    refine z_istore (ls' := [some (.ref 83), some (.int x1), some (.int x2), some (.int 0), some (.int y13), some (.int 0)]) d_Mo_tryWord_46 (Nat.le_of_ble_eq_true rfl) rfl rfl ?_
    exact z_forget [some (.ref 83), some (.int x1), none, some (.int 0), some (.int y13), some (.int 0)] (And.intro rfl (And.intro rfl (And.intro rfl (And.intro rfl (And.intro rfl (trivial)))))) h

set_option maxRecDepth 20000 in
theorem vc_Mo_tryWord_48 (E : ZE) (k : Nat) (M : ZM) (x1 : Int32) (x3 : Int32) (x4 : Int32) (x5 : Int32) (Φ : Option Value → ZS → ZM → Prop)  (h : (x3 ≤ x5 → Φ none (zSt k) M) ∧ (¬ x3 ≤ x5 → ∃ j2 : Nat, j2 < 36 ∧ ((12 * x1) + x5) = nI j2 ∧ (∀ M3 : ZM, M3 = zms M 109 j2 (((x4 : Int32) >>> (((x3 - 1) - x5) &&& 31)) &&& 1) → ∀ y4 : Int32, y4 = x5 + 1 → zW E m_Mo_tryWord 0 (zSt k) M3 48 [some (.ref 83), some (.int x1), none, some (.int x3), some (.int x4), some (.int y4)] [] Φ))) : zW E m_Mo_tryWord 0 (zSt k) M 48 [some (.ref 83), some (.int x1), none, some (.int x3), some (.int x4), some (.int x5)] [] Φ := by
  refine z_iload d_Mo_tryWord_48 rfl ?_
  refine z_iload_n d_Mo_tryWord_50 rfl ?_
  refine z_icmp_ge 83 d_Mo_tryWord_51 rfl ⟨fun c1 => ?_, fun c1 => ?_⟩
  · replace h := h.1 c1
    exact z_vret rfl d_Mo_tryWord_83 h
  · replace h := h.2 c1
    refine z_aload_n d_Mo_tryWord_54 rfl ?_
    refine z_getr f_Mo_86 rfl d_Mo_tryWord_55 (tA_83 k) (tr_83_34 k) ?_
    refine z_bipush 12 d_Mo_tryWord_58 (by decide) ?_
    refine z_iload_n d_Mo_tryWord_60 rfl ?_
    refine z_imul d_Mo_tryWord_61 ?_
    refine z_iload d_Mo_tryWord_62 rfl ?_
    refine z_iadd d_Mo_tryWord_64 ?_
    refine z_iload d_Mo_tryWord_65 rfl ?_
    refine z_iload_n d_Mo_tryWord_67 rfl ?_
    refine z_iconst 1 d_Mo_tryWord_68 (by decide) ?_
    refine z_isub d_Mo_tryWord_69 ?_
    refine z_iload d_Mo_tryWord_70 rfl ?_
    refine z_isub d_Mo_tryWord_72 ?_
    refine z_ishr d_Mo_tryWord_73 ?_
    refine z_iconst 1 d_Mo_tryWord_74 (by decide) ?_
    refine z_iand d_Mo_tryWord_75 ?_
    obtain ⟨j2, hj2, ej2, h⟩ := h
    refine y_iastore j2 d_Mo_tryWord_76 (ta_109 k) hj2 ej2 ?_
    refine z_mem (fun M3 eM3 => ?_)
    replace h := h M3 eM3
    obtain ⟨y4, ey4⟩ : ∃ q : Int32, q = x5 + 1 := ⟨_, rfl⟩
    replace h := h y4 ey4
    refine z_iinc (ls' := [some (.ref 83), some (.int x1), none, some (.int x3), some (.int x4), some (.int y4)]) y4 d_Mo_tryWord_77 rfl (ey4 ▸ rfl) (Nat.le_of_ble_eq_true rfl) rfl rfl ?_
    refine z_goto 48 d_Mo_tryWord_80 rfl ?_
    exact z_forget [some (.ref 83), some (.int x1), none, some (.int x3), some (.int x4), some (.int y4)] (And.intro rfl (And.intro rfl (And.intro rfl (And.intro rfl (And.intro rfl (trivial)))))) h

set_option maxRecDepth 20000 in
theorem vc_Mo_findShortest_0 (E : ZE) (k : Nat) (M : ZM)  (Φ : Option Value → ZS → ZM → Prop)  (h : zW E m_Mo_findShortest 3 (zSt k) M 5 [some (.ref 83), some (.int (-6)), some (.int 0), none] [] Φ) : zW E m_Mo_findShortest 3 (zSt k) M 0 [some (.ref 83), none, none, none] [] Φ := by
  refine z_bipush (-6) d_Mo_findShortest_0 (by decide) ?_
  refine z_istore_n (ls' := [some (.ref 83), some (.int (-6)), none, none]) d_Mo_findShortest_2 (Nat.le_of_ble_eq_true rfl) rfl rfl ?_
  refine z_iconst 0 d_Mo_findShortest_3 (by decide) ?_
  refine z_istore_n (ls' := [some (.ref 83), some (.int (-6)), some (.int 0), none]) d_Mo_findShortest_4 (Nat.le_of_ble_eq_true rfl) rfl rfl ?_
  exact z_forget [some (.ref 83), some (.int (-6)), some (.int 0), none] (And.intro rfl (And.intro rfl (And.intro rfl (trivial)))) h

set_option maxRecDepth 20000 in
theorem vc_Mo_findShortest_5 (E : ZE) (k : Nat) (M : ZM) (x1 : Int32) (x2 : Int32) (Φ : Option Value → ZS → ZM → Prop)  (h : (3375 ≤ x2 → Φ (some (.int x1)) (zSt k) M) ∧ (¬ 3375 ≤ x2 → zW E m_Mo_tryWord 0 (zSt k) M 0 [some (.ref 83), some (.int 0), some (.int (x2 / 225)), none, none, none] [] (fun q2 T2 M2 => q2 = none ∧ (zSt k) = T2 ∧ zW E m_Mo_tryWord 0 (zSt k) M2 0 [some (.ref 83), some (.int 1), some (.int ((x2 / 15) - (x2 / 15) / 15 * 15)), none, none, none] [] (fun q3 T3 M3 => q3 = none ∧ (zSt k) = T3 ∧ zW E m_Mo_tryWord 0 (zSt k) M3 0 [some (.ref 83), some (.int 2), some (.int (x2 - x2 / 15 * 15)), none, none, none] [] (fun q4 T4 M4 => q4 = none ∧ (zSt k) = T4 ∧ ∀ y5 : Int32, y5 = (((M4 110 0) + (M4 110 1)) + (M4 110 2)) → (x1 < 0 → zW E m_Mo_isOne 2 (zSt k) M4 0 [some (.ref 83), none, none] [] (fun q7 T7 M7 => ∃ y7 : Int32, q7 = some (.int y7) ∧ (zSt k) = T7 ∧ (y7 = 0 → ∀ y9 : Int32, y9 = x2 + 1 → zW E m_Mo_findShortest 3 (zSt k) M7 5 [some (.ref 83), some (.int x1), some (.int y9), none] [] Φ) ∧ (¬ y7 = 0 → zW E m_Mo_isNeeded 1 (zSt k) M7 0 [some (.ref 83), some (.int 0), none, none, none, none] [] (fun q10 T10 M10 => ∃ y10 : Int32, q10 = some (.int y10) ∧ (zSt k) = T10 ∧ (y10 = 0 → ∀ y12 : Int32, y12 = x2 + 1 → zW E m_Mo_findShortest 3 (zSt k) M10 5 [some (.ref 83), some (.int x1), some (.int y12), none] [] Φ) ∧ (¬ y10 = 0 → zW E m_Mo_isNeeded 1 (zSt k) M10 0 [some (.ref 83), some (.int 1), none, none, none, none] [] (fun q13 T13 M13 => ∃ y13 : Int32, q13 = some (.int y13) ∧ (zSt k) = T13 ∧ (y13 = 0 → ∀ y15 : Int32, y15 = x2 + 1 → zW E m_Mo_findShortest 3 (zSt k) M13 5 [some (.ref 83), some (.int x1), some (.int y15), none] [] Φ) ∧ (¬ y13 = 0 → zW E m_Mo_isNeeded 1 (zSt k) M13 0 [some (.ref 83), some (.int 2), none, none, none, none] [] (fun q16 T16 M16 => ∃ y16 : Int32, q16 = some (.int y16) ∧ (zSt k) = T16 ∧ (y16 = 0 → ∀ y18 : Int32, y18 = x2 + 1 → zW E m_Mo_findShortest 3 (zSt k) M16 5 [some (.ref 83), some (.int x1), some (.int y18), none] [] Φ) ∧ (¬ y16 = 0 → ∀ M19 : ZM, M19 = zms M16 113 0 (x2 / 225) → ∀ M20 : ZM, M20 = zms M19 113 1 ((x2 / 15) - (x2 / 15) / 15 * 15) → ∀ M21 : ZM, M21 = zms M20 113 2 (x2 - x2 / 15 * 15) → ∀ y22 : Int32, y22 = x2 + 1 → zW E m_Mo_findShortest 3 (zSt k) M21 5 [some (.ref 83), some (.int y5), some (.int y22), none] [] Φ))))))))) ∧ (¬ x1 < 0 → (x1 ≤ y5 → ∀ y24 : Int32, y24 = x2 + 1 → zW E m_Mo_findShortest 3 (zSt k) M4 5 [some (.ref 83), some (.int x1), some (.int y24), none] [] Φ) ∧ (¬ x1 ≤ y5 → zW E m_Mo_isOne 2 (zSt k) M4 0 [some (.ref 83), none, none] [] (fun q25 T25 M25 => ∃ y25 : Int32, q25 = some (.int y25) ∧ (zSt k) = T25 ∧ (y25 = 0 → ∀ y27 : Int32, y27 = x2 + 1 → zW E m_Mo_findShortest 3 (zSt k) M25 5 [some (.ref 83), some (.int x1), some (.int y27), none] [] Φ) ∧ (¬ y25 = 0 → zW E m_Mo_isNeeded 1 (zSt k) M25 0 [some (.ref 83), some (.int 0), none, none, none, none] [] (fun q28 T28 M28 => ∃ y28 : Int32, q28 = some (.int y28) ∧ (zSt k) = T28 ∧ (y28 = 0 → ∀ y30 : Int32, y30 = x2 + 1 → zW E m_Mo_findShortest 3 (zSt k) M28 5 [some (.ref 83), some (.int x1), some (.int y30), none] [] Φ) ∧ (¬ y28 = 0 → zW E m_Mo_isNeeded 1 (zSt k) M28 0 [some (.ref 83), some (.int 1), none, none, none, none] [] (fun q31 T31 M31 => ∃ y31 : Int32, q31 = some (.int y31) ∧ (zSt k) = T31 ∧ (y31 = 0 → ∀ y33 : Int32, y33 = x2 + 1 → zW E m_Mo_findShortest 3 (zSt k) M31 5 [some (.ref 83), some (.int x1), some (.int y33), none] [] Φ) ∧ (¬ y31 = 0 → zW E m_Mo_isNeeded 1 (zSt k) M31 0 [some (.ref 83), some (.int 2), none, none, none, none] [] (fun q34 T34 M34 => ∃ y34 : Int32, q34 = some (.int y34) ∧ (zSt k) = T34 ∧ (y34 = 0 → ∀ y36 : Int32, y36 = x2 + 1 → zW E m_Mo_findShortest 3 (zSt k) M34 5 [some (.ref 83), some (.int x1), some (.int y36), none] [] Φ) ∧ (¬ y34 = 0 → ∀ M37 : ZM, M37 = zms M34 113 0 (x2 / 225) → ∀ M38 : ZM, M38 = zms M37 113 1 ((x2 / 15) - (x2 / 15) / 15 * 15) → ∀ M39 : ZM, M39 = zms M38 113 2 (x2 - x2 / 15 * 15) → ∀ y40 : Int32, y40 = x2 + 1 → zW E m_Mo_findShortest 3 (zSt k) M39 5 [some (.ref 83), some (.int y5), some (.int y40), none] [] Φ))))))))))))))) : zW E m_Mo_findShortest 3 (zSt k) M 5 [some (.ref 83), some (.int x1), some (.int x2), none] [] Φ := by
  refine z_iload_n d_Mo_findShortest_5 rfl ?_
  refine z_sipush 3375 d_Mo_findShortest_6 (by decide) ?_
  refine z_icmp_ge 146 d_Mo_findShortest_9 rfl ⟨fun c1 => ?_, fun c1 => ?_⟩
  · replace h := h.1 c1
    refine z_iload_n d_Mo_findShortest_146 rfl ?_
    exact z_iret rfl d_Mo_findShortest_147 h
  · replace h := h.2 c1
    refine z_aload_n d_Mo_findShortest_12 rfl ?_
    refine z_iconst 0 d_Mo_findShortest_13 (by decide) ?_
    refine z_iload_n d_Mo_findShortest_14 rfl ?_
    refine z_sipush 225 d_Mo_findShortest_15 (by decide) ?_
    refine z_idiv d_Mo_findShortest_18 (by decide) ?_
    refine z_callV (as := [.int 0, .int (x2 / 225)]) (st := []) i_Mo_tryWord ⟨rfl, rfl⟩ v_Mo_tryWord w_Mo_tryWord l_Mo_297 d_Mo_findShortest_19 (by decide) (tA_83 k) rfl (Nat.le_of_ble_eq_true rfl) (Nat.le_of_ble_eq_true rfl) h (fun q2 T2 M2 h => ?_)
    obtain ⟨rfl, rfl, h⟩ := h
    refine z_aload_n d_Mo_findShortest_22 rfl ?_
    refine z_iconst 1 d_Mo_findShortest_23 (by decide) ?_
    refine z_iload_n d_Mo_findShortest_24 rfl ?_
    refine z_bipush 15 d_Mo_findShortest_25 (by decide) ?_
    refine z_idiv d_Mo_findShortest_27 (by decide) ?_
    refine z_bipush 15 d_Mo_findShortest_28 (by decide) ?_
    refine z_irem d_Mo_findShortest_30 (by decide) ?_
    refine z_callV (as := [.int 1, .int ((x2 / 15) - (x2 / 15) / 15 * 15)]) (st := []) i_Mo_tryWord ⟨rfl, rfl⟩ v_Mo_tryWord w_Mo_tryWord l_Mo_297 d_Mo_findShortest_31 (by decide) (tA_83 k) rfl (Nat.le_of_ble_eq_true rfl) (Nat.le_of_ble_eq_true rfl) h (fun q3 T3 M3 h => ?_)
    obtain ⟨rfl, rfl, h⟩ := h
    refine z_aload_n d_Mo_findShortest_34 rfl ?_
    refine z_iconst 2 d_Mo_findShortest_35 (by decide) ?_
    refine z_iload_n d_Mo_findShortest_36 rfl ?_
    refine z_bipush 15 d_Mo_findShortest_37 (by decide) ?_
    refine z_irem d_Mo_findShortest_39 (by decide) ?_
    refine z_callV (as := [.int 2, .int (x2 - x2 / 15 * 15)]) (st := []) i_Mo_tryWord ⟨rfl, rfl⟩ v_Mo_tryWord w_Mo_tryWord l_Mo_297 d_Mo_findShortest_40 (by decide) (tA_83 k) rfl (Nat.le_of_ble_eq_true rfl) (Nat.le_of_ble_eq_true rfl) h (fun q4 T4 M4 h => ?_)
    obtain ⟨rfl, rfl, h⟩ := h
    refine z_aload_n d_Mo_findShortest_43 rfl ?_
    refine z_getr f_Mo_89 rfl d_Mo_findShortest_44 (tA_83 k) (tr_83_35 k) ?_
    refine z_iconst 0 d_Mo_findShortest_47 (by decide) ?_
    refine y_iaload 0 d_Mo_findShortest_48 (ta_110 k) (by decide) (by decide) ?_
    refine z_aload_n d_Mo_findShortest_49 rfl ?_
    refine z_getr f_Mo_89 rfl d_Mo_findShortest_50 (tA_83 k) (tr_83_35 k) ?_
    refine z_iconst 1 d_Mo_findShortest_53 (by decide) ?_
    refine y_iaload 1 d_Mo_findShortest_54 (ta_110 k) (by decide) (by decide) ?_
    refine z_iadd d_Mo_findShortest_55 ?_
    refine z_aload_n d_Mo_findShortest_56 rfl ?_
    refine z_getr f_Mo_89 rfl d_Mo_findShortest_57 (tA_83 k) (tr_83_35 k) ?_
    refine z_iconst 2 d_Mo_findShortest_60 (by decide) ?_
    refine y_iaload 2 d_Mo_findShortest_61 (ta_110 k) (by decide) (by decide) ?_
    refine z_iadd d_Mo_findShortest_62 ?_
    refine z_name (fun y5 ey5 => ?_)
    replace h := h y5 ey5
    refine z_istore_n (ls' := [some (.ref 83), some (.int x1), some (.int x2), some (.int y5)]) d_Mo_findShortest_63 (Nat.le_of_ble_eq_true rfl) rfl rfl ?_
    refine z_iload_n d_Mo_findShortest_64 rfl ?_
    refine z_if_lt 73 d_Mo_findShortest_65 rfl ⟨fun c6 => ?_, fun c6 => ?_⟩
    · replace h := h.1 c6
      refine z_aload_n d_Mo_findShortest_73 rfl ?_
      refine z_callV (as := []) (st := []) i_Mo_isOne ⟨rfl, rfl⟩ v_Mo_isOne w_Mo_isOne l_Mo_288 d_Mo_findShortest_74 (by decide) (tA_83 k) rfl (Nat.le_of_ble_eq_true rfl) (Nat.le_of_ble_eq_true rfl) h (fun q7 T7 M7 h => ?_)
      obtain ⟨y7, rfl, rfl, h⟩ := h
      refine z_if_eq 140 d_Mo_findShortest_77 rfl ⟨fun c8 => ?_, fun c8 => ?_⟩
      · replace h := h.1 c8
        obtain ⟨y9, ey9⟩ : ∃ q : Int32, q = x2 + 1 := ⟨_, rfl⟩
        replace h := h y9 ey9
        refine z_iinc (ls' := [some (.ref 83), some (.int x1), some (.int y9), some (.int y5)]) y9 d_Mo_findShortest_140 rfl (ey9 ▸ rfl) (Nat.le_of_ble_eq_true rfl) rfl rfl ?_
        refine z_goto 5 d_Mo_findShortest_143 rfl ?_
        exact z_forget [some (.ref 83), some (.int x1), some (.int y9), none] (And.intro rfl (And.intro rfl (And.intro rfl (trivial)))) h
      · replace h := h.2 c8
        refine z_aload_n d_Mo_findShortest_80 rfl ?_
        refine z_iconst 0 d_Mo_findShortest_81 (by decide) ?_
        refine z_callV (as := [.int 0]) (st := []) i_Mo_isNeeded ⟨rfl, rfl⟩ v_Mo_isNeeded w_Mo_isNeeded l_Mo_285 d_Mo_findShortest_82 (by decide) (tA_83 k) rfl (Nat.le_of_ble_eq_true rfl) (Nat.le_of_ble_eq_true rfl) h (fun q10 T10 M10 h => ?_)
        obtain ⟨y10, rfl, rfl, h⟩ := h
        refine z_if_eq 140 d_Mo_findShortest_85 rfl ⟨fun c11 => ?_, fun c11 => ?_⟩
        · replace h := h.1 c11
          obtain ⟨y12, ey12⟩ : ∃ q : Int32, q = x2 + 1 := ⟨_, rfl⟩
          replace h := h y12 ey12
          refine z_iinc (ls' := [some (.ref 83), some (.int x1), some (.int y12), some (.int y5)]) y12 d_Mo_findShortest_140 rfl (ey12 ▸ rfl) (Nat.le_of_ble_eq_true rfl) rfl rfl ?_
          refine z_goto 5 d_Mo_findShortest_143 rfl ?_
          exact z_forget [some (.ref 83), some (.int x1), some (.int y12), none] (And.intro rfl (And.intro rfl (And.intro rfl (trivial)))) h
        · replace h := h.2 c11
          refine z_aload_n d_Mo_findShortest_88 rfl ?_
          refine z_iconst 1 d_Mo_findShortest_89 (by decide) ?_
          refine z_callV (as := [.int 1]) (st := []) i_Mo_isNeeded ⟨rfl, rfl⟩ v_Mo_isNeeded w_Mo_isNeeded l_Mo_285 d_Mo_findShortest_90 (by decide) (tA_83 k) rfl (Nat.le_of_ble_eq_true rfl) (Nat.le_of_ble_eq_true rfl) h (fun q13 T13 M13 h => ?_)
          obtain ⟨y13, rfl, rfl, h⟩ := h
          refine z_if_eq 140 d_Mo_findShortest_93 rfl ⟨fun c14 => ?_, fun c14 => ?_⟩
          · replace h := h.1 c14
            obtain ⟨y15, ey15⟩ : ∃ q : Int32, q = x2 + 1 := ⟨_, rfl⟩
            replace h := h y15 ey15
            refine z_iinc (ls' := [some (.ref 83), some (.int x1), some (.int y15), some (.int y5)]) y15 d_Mo_findShortest_140 rfl (ey15 ▸ rfl) (Nat.le_of_ble_eq_true rfl) rfl rfl ?_
            refine z_goto 5 d_Mo_findShortest_143 rfl ?_
            exact z_forget [some (.ref 83), some (.int x1), some (.int y15), none] (And.intro rfl (And.intro rfl (And.intro rfl (trivial)))) h
          · replace h := h.2 c14
            refine z_aload_n d_Mo_findShortest_96 rfl ?_
            refine z_iconst 2 d_Mo_findShortest_97 (by decide) ?_
            refine z_callV (as := [.int 2]) (st := []) i_Mo_isNeeded ⟨rfl, rfl⟩ v_Mo_isNeeded w_Mo_isNeeded l_Mo_285 d_Mo_findShortest_98 (by decide) (tA_83 k) rfl (Nat.le_of_ble_eq_true rfl) (Nat.le_of_ble_eq_true rfl) h (fun q16 T16 M16 h => ?_)
            obtain ⟨y16, rfl, rfl, h⟩ := h
            refine z_if_eq 140 d_Mo_findShortest_101 rfl ⟨fun c17 => ?_, fun c17 => ?_⟩
            · replace h := h.1 c17
              obtain ⟨y18, ey18⟩ : ∃ q : Int32, q = x2 + 1 := ⟨_, rfl⟩
              replace h := h y18 ey18
              refine z_iinc (ls' := [some (.ref 83), some (.int x1), some (.int y18), some (.int y5)]) y18 d_Mo_findShortest_140 rfl (ey18 ▸ rfl) (Nat.le_of_ble_eq_true rfl) rfl rfl ?_
              refine z_goto 5 d_Mo_findShortest_143 rfl ?_
              exact z_forget [some (.ref 83), some (.int x1), some (.int y18), none] (And.intro rfl (And.intro rfl (And.intro rfl (trivial)))) h
            · replace h := h.2 c17
              refine z_iload_n d_Mo_findShortest_104 rfl ?_
              refine z_istore_n (ls' := [some (.ref 83), some (.int y5), some (.int x2), some (.int y5)]) d_Mo_findShortest_105 (Nat.le_of_ble_eq_true rfl) rfl rfl ?_
              refine z_aload_n d_Mo_findShortest_106 rfl ?_
              refine z_getr f_Mo_98 rfl d_Mo_findShortest_107 (tA_83 k) (tr_83_38 k) ?_
              refine z_iconst 0 d_Mo_findShortest_110 (by decide) ?_
              refine z_iload_n d_Mo_findShortest_111 rfl ?_
              refine z_sipush 225 d_Mo_findShortest_112 (by decide) ?_
              refine z_idiv d_Mo_findShortest_115 (by decide) ?_
              refine y_iastore 0 d_Mo_findShortest_116 (ta_113 k) (by decide) (by decide) ?_
              refine z_mem (fun M19 eM19 => ?_)
              replace h := h M19 eM19
              refine z_aload_n d_Mo_findShortest_117 rfl ?_
              refine z_getr f_Mo_98 rfl d_Mo_findShortest_118 (tA_83 k) (tr_83_38 k) ?_
              refine z_iconst 1 d_Mo_findShortest_121 (by decide) ?_
              refine z_iload_n d_Mo_findShortest_122 rfl ?_
              refine z_bipush 15 d_Mo_findShortest_123 (by decide) ?_
              refine z_idiv d_Mo_findShortest_125 (by decide) ?_
              refine z_bipush 15 d_Mo_findShortest_126 (by decide) ?_
              refine z_irem d_Mo_findShortest_128 (by decide) ?_
              refine y_iastore 1 d_Mo_findShortest_129 (ta_113 k) (by decide) (by decide) ?_
              refine z_mem (fun M20 eM20 => ?_)
              replace h := h M20 eM20
              refine z_aload_n d_Mo_findShortest_130 rfl ?_
              refine z_getr f_Mo_98 rfl d_Mo_findShortest_131 (tA_83 k) (tr_83_38 k) ?_
              refine z_iconst 2 d_Mo_findShortest_134 (by decide) ?_
              refine z_iload_n d_Mo_findShortest_135 rfl ?_
              refine z_bipush 15 d_Mo_findShortest_136 (by decide) ?_
              refine z_irem d_Mo_findShortest_138 (by decide) ?_
              refine y_iastore 2 d_Mo_findShortest_139 (ta_113 k) (by decide) (by decide) ?_
              refine z_mem (fun M21 eM21 => ?_)
              replace h := h M21 eM21
              obtain ⟨y22, ey22⟩ : ∃ q : Int32, q = x2 + 1 := ⟨_, rfl⟩
              replace h := h y22 ey22
              refine z_iinc (ls' := [some (.ref 83), some (.int y5), some (.int y22), some (.int y5)]) y22 d_Mo_findShortest_140 rfl (ey22 ▸ rfl) (Nat.le_of_ble_eq_true rfl) rfl rfl ?_
              refine z_goto 5 d_Mo_findShortest_143 rfl ?_
              exact z_forget [some (.ref 83), some (.int y5), some (.int y22), none] (And.intro rfl (And.intro rfl (And.intro rfl (trivial)))) h
    · replace h := h.2 c6
      refine z_iload_n d_Mo_findShortest_68 rfl ?_
      refine z_iload_n d_Mo_findShortest_69 rfl ?_
      refine z_icmp_ge 140 d_Mo_findShortest_70 rfl ⟨fun c23 => ?_, fun c23 => ?_⟩
      · replace h := h.1 c23
        obtain ⟨y24, ey24⟩ : ∃ q : Int32, q = x2 + 1 := ⟨_, rfl⟩
        replace h := h y24 ey24
        refine z_iinc (ls' := [some (.ref 83), some (.int x1), some (.int y24), some (.int y5)]) y24 d_Mo_findShortest_140 rfl (ey24 ▸ rfl) (Nat.le_of_ble_eq_true rfl) rfl rfl ?_
        refine z_goto 5 d_Mo_findShortest_143 rfl ?_
        exact z_forget [some (.ref 83), some (.int x1), some (.int y24), none] (And.intro rfl (And.intro rfl (And.intro rfl (trivial)))) h
      · replace h := h.2 c23
        refine z_aload_n d_Mo_findShortest_73 rfl ?_
        refine z_callV (as := []) (st := []) i_Mo_isOne ⟨rfl, rfl⟩ v_Mo_isOne w_Mo_isOne l_Mo_288 d_Mo_findShortest_74 (by decide) (tA_83 k) rfl (Nat.le_of_ble_eq_true rfl) (Nat.le_of_ble_eq_true rfl) h (fun q25 T25 M25 h => ?_)
        obtain ⟨y25, rfl, rfl, h⟩ := h
        refine z_if_eq 140 d_Mo_findShortest_77 rfl ⟨fun c26 => ?_, fun c26 => ?_⟩
        · replace h := h.1 c26
          obtain ⟨y27, ey27⟩ : ∃ q : Int32, q = x2 + 1 := ⟨_, rfl⟩
          replace h := h y27 ey27
          refine z_iinc (ls' := [some (.ref 83), some (.int x1), some (.int y27), some (.int y5)]) y27 d_Mo_findShortest_140 rfl (ey27 ▸ rfl) (Nat.le_of_ble_eq_true rfl) rfl rfl ?_
          refine z_goto 5 d_Mo_findShortest_143 rfl ?_
          exact z_forget [some (.ref 83), some (.int x1), some (.int y27), none] (And.intro rfl (And.intro rfl (And.intro rfl (trivial)))) h
        · replace h := h.2 c26
          refine z_aload_n d_Mo_findShortest_80 rfl ?_
          refine z_iconst 0 d_Mo_findShortest_81 (by decide) ?_
          refine z_callV (as := [.int 0]) (st := []) i_Mo_isNeeded ⟨rfl, rfl⟩ v_Mo_isNeeded w_Mo_isNeeded l_Mo_285 d_Mo_findShortest_82 (by decide) (tA_83 k) rfl (Nat.le_of_ble_eq_true rfl) (Nat.le_of_ble_eq_true rfl) h (fun q28 T28 M28 h => ?_)
          obtain ⟨y28, rfl, rfl, h⟩ := h
          refine z_if_eq 140 d_Mo_findShortest_85 rfl ⟨fun c29 => ?_, fun c29 => ?_⟩
          · replace h := h.1 c29
            obtain ⟨y30, ey30⟩ : ∃ q : Int32, q = x2 + 1 := ⟨_, rfl⟩
            replace h := h y30 ey30
            refine z_iinc (ls' := [some (.ref 83), some (.int x1), some (.int y30), some (.int y5)]) y30 d_Mo_findShortest_140 rfl (ey30 ▸ rfl) (Nat.le_of_ble_eq_true rfl) rfl rfl ?_
            refine z_goto 5 d_Mo_findShortest_143 rfl ?_
            exact z_forget [some (.ref 83), some (.int x1), some (.int y30), none] (And.intro rfl (And.intro rfl (And.intro rfl (trivial)))) h
          · replace h := h.2 c29
            refine z_aload_n d_Mo_findShortest_88 rfl ?_
            refine z_iconst 1 d_Mo_findShortest_89 (by decide) ?_
            refine z_callV (as := [.int 1]) (st := []) i_Mo_isNeeded ⟨rfl, rfl⟩ v_Mo_isNeeded w_Mo_isNeeded l_Mo_285 d_Mo_findShortest_90 (by decide) (tA_83 k) rfl (Nat.le_of_ble_eq_true rfl) (Nat.le_of_ble_eq_true rfl) h (fun q31 T31 M31 h => ?_)
            obtain ⟨y31, rfl, rfl, h⟩ := h
            refine z_if_eq 140 d_Mo_findShortest_93 rfl ⟨fun c32 => ?_, fun c32 => ?_⟩
            · replace h := h.1 c32
              obtain ⟨y33, ey33⟩ : ∃ q : Int32, q = x2 + 1 := ⟨_, rfl⟩
              replace h := h y33 ey33
              refine z_iinc (ls' := [some (.ref 83), some (.int x1), some (.int y33), some (.int y5)]) y33 d_Mo_findShortest_140 rfl (ey33 ▸ rfl) (Nat.le_of_ble_eq_true rfl) rfl rfl ?_
              refine z_goto 5 d_Mo_findShortest_143 rfl ?_
              exact z_forget [some (.ref 83), some (.int x1), some (.int y33), none] (And.intro rfl (And.intro rfl (And.intro rfl (trivial)))) h
            · replace h := h.2 c32
              refine z_aload_n d_Mo_findShortest_96 rfl ?_
              refine z_iconst 2 d_Mo_findShortest_97 (by decide) ?_
              refine z_callV (as := [.int 2]) (st := []) i_Mo_isNeeded ⟨rfl, rfl⟩ v_Mo_isNeeded w_Mo_isNeeded l_Mo_285 d_Mo_findShortest_98 (by decide) (tA_83 k) rfl (Nat.le_of_ble_eq_true rfl) (Nat.le_of_ble_eq_true rfl) h (fun q34 T34 M34 h => ?_)
              obtain ⟨y34, rfl, rfl, h⟩ := h
              refine z_if_eq 140 d_Mo_findShortest_101 rfl ⟨fun c35 => ?_, fun c35 => ?_⟩
              · replace h := h.1 c35
                obtain ⟨y36, ey36⟩ : ∃ q : Int32, q = x2 + 1 := ⟨_, rfl⟩
                replace h := h y36 ey36
                refine z_iinc (ls' := [some (.ref 83), some (.int x1), some (.int y36), some (.int y5)]) y36 d_Mo_findShortest_140 rfl (ey36 ▸ rfl) (Nat.le_of_ble_eq_true rfl) rfl rfl ?_
                refine z_goto 5 d_Mo_findShortest_143 rfl ?_
                exact z_forget [some (.ref 83), some (.int x1), some (.int y36), none] (And.intro rfl (And.intro rfl (And.intro rfl (trivial)))) h
              · replace h := h.2 c35
                refine z_iload_n d_Mo_findShortest_104 rfl ?_
                refine z_istore_n (ls' := [some (.ref 83), some (.int y5), some (.int x2), some (.int y5)]) d_Mo_findShortest_105 (Nat.le_of_ble_eq_true rfl) rfl rfl ?_
                refine z_aload_n d_Mo_findShortest_106 rfl ?_
                refine z_getr f_Mo_98 rfl d_Mo_findShortest_107 (tA_83 k) (tr_83_38 k) ?_
                refine z_iconst 0 d_Mo_findShortest_110 (by decide) ?_
                refine z_iload_n d_Mo_findShortest_111 rfl ?_
                refine z_sipush 225 d_Mo_findShortest_112 (by decide) ?_
                refine z_idiv d_Mo_findShortest_115 (by decide) ?_
                refine y_iastore 0 d_Mo_findShortest_116 (ta_113 k) (by decide) (by decide) ?_
                refine z_mem (fun M37 eM37 => ?_)
                replace h := h M37 eM37
                refine z_aload_n d_Mo_findShortest_117 rfl ?_
                refine z_getr f_Mo_98 rfl d_Mo_findShortest_118 (tA_83 k) (tr_83_38 k) ?_
                refine z_iconst 1 d_Mo_findShortest_121 (by decide) ?_
                refine z_iload_n d_Mo_findShortest_122 rfl ?_
                refine z_bipush 15 d_Mo_findShortest_123 (by decide) ?_
                refine z_idiv d_Mo_findShortest_125 (by decide) ?_
                refine z_bipush 15 d_Mo_findShortest_126 (by decide) ?_
                refine z_irem d_Mo_findShortest_128 (by decide) ?_
                refine y_iastore 1 d_Mo_findShortest_129 (ta_113 k) (by decide) (by decide) ?_
                refine z_mem (fun M38 eM38 => ?_)
                replace h := h M38 eM38
                refine z_aload_n d_Mo_findShortest_130 rfl ?_
                refine z_getr f_Mo_98 rfl d_Mo_findShortest_131 (tA_83 k) (tr_83_38 k) ?_
                refine z_iconst 2 d_Mo_findShortest_134 (by decide) ?_
                refine z_iload_n d_Mo_findShortest_135 rfl ?_
                refine z_bipush 15 d_Mo_findShortest_136 (by decide) ?_
                refine z_irem d_Mo_findShortest_138 (by decide) ?_
                refine y_iastore 2 d_Mo_findShortest_139 (ta_113 k) (by decide) (by decide) ?_
                refine z_mem (fun M39 eM39 => ?_)
                replace h := h M39 eM39
                obtain ⟨y40, ey40⟩ : ∃ q : Int32, q = x2 + 1 := ⟨_, rfl⟩
                replace h := h y40 ey40
                refine z_iinc (ls' := [some (.ref 83), some (.int y5), some (.int y40), some (.int y5)]) y40 d_Mo_findShortest_140 rfl (ey40 ▸ rfl) (Nat.le_of_ble_eq_true rfl) rfl rfl ?_
                refine z_goto 5 d_Mo_findShortest_143 rfl ?_
                exact z_forget [some (.ref 83), some (.int y5), some (.int y40), none] (And.intro rfl (And.intro rfl (And.intro rfl (trivial)))) h

set_option maxRecDepth 20000 in
theorem vc_Mo_shortest_0 (E : ZE) (k : Nat) (M : ZM) (x1 : Int32) (Φ : Option Value → ZS → ZM → Prop)  (h : zW E m_Mo_in 0 (zSt k) M 0 [some (.long (Int32.toInt64 x1)), none, some (.long (-1)), none, some (.long 2), none] [] (fun q1 T1 M1 => ∃ y1 : Int32, q1 = some (.int y1) ∧ (zSt k) = T1 ∧ (¬ y1 = 0 → zW E m_Mo_findShortest 3 (zSt k) M1 0 [some (.ref 83), none, none, none] [] (fun q3 T3 M3 => ∃ y3 : Int32, q3 = some (.int y3) ∧ (zSt k) = T3 ∧ (y3 < 0 → Φ (some (.int y3)) (zSt k) M3) ∧ (¬ y3 < 0 → (¬ x1 = (-1) → ∃ j6 : Nat, j6 < 3 ∧ x1 = nI j6 ∧ (zW E m_Mo_tryWord 0 (zSt k) M3 0 [some (.ref 83), some (.int x1), some (.int (M3 113 j6)), none, none, none] [] (fun q7 T7 M7 => q7 = none ∧ (zSt k) = T7 ∧ zW E m_Mo_shortest 4 (zSt k) M7 48 [some (.ref 83), some (.int x1), none, some (.int 0), some (.int 0)] [] Φ))) ∧ (x1 = (-1) → Φ (some (.int y3)) (zSt k) M3)))) ∧ (y1 = 0 → Φ (some (.int (-1))) (zSt k) M1))) : zW E m_Mo_shortest 4 (zSt k) M 0 [some (.ref 83), some (.int x1), none, none, none] [] Φ := by
  refine z_iload_n d_Mo_shortest_0 rfl ?_
  refine z_i2l d_Mo_shortest_1 ?_
  refine z_ldc2 (-1) d_Mo_shortest_2 k_Mo_300 ?_
  refine z_ldc2 2 d_Mo_shortest_5 k_Mo_107 ?_
  refine z_callS (as := [.long (Int32.toInt64 x1), .long (-1), .long 2]) (st := []) i_Mo_in s_Mo_in l_Mo_109 d_Mo_shortest_8 (by decide) rfl (Nat.le_of_ble_eq_true rfl) (Nat.le_of_ble_eq_true rfl) h (fun q1 T1 M1 h => ?_)
  obtain ⟨y1, rfl, rfl, h⟩ := h
  refine z_if_ne 16 d_Mo_shortest_11 rfl ⟨fun c2 => ?_, fun c2 => ?_⟩
  · replace h := h.1 c2
    refine z_aload_n d_Mo_shortest_16 rfl ?_
    refine z_callV (as := []) (st := []) i_Mo_findShortest ⟨rfl, rfl⟩ v_Mo_findShortest w_Mo_findShortest l_Mo_302 d_Mo_shortest_17 (by decide) (tA_83 k) rfl (Nat.le_of_ble_eq_true rfl) (Nat.le_of_ble_eq_true rfl) h (fun q3 T3 M3 h => ?_)
    obtain ⟨y3, rfl, rfl, h⟩ := h
    refine z_istore_n (ls' := [some (.ref 83), some (.int x1), some (.int y3), none, none]) d_Mo_shortest_20 (Nat.le_of_ble_eq_true rfl) rfl rfl ?_
    refine z_iload_n d_Mo_shortest_21 rfl ?_
    refine z_if_lt 30 d_Mo_shortest_22 rfl ⟨fun c4 => ?_, fun c4 => ?_⟩
    · replace h := h.1 c4
      refine z_iload_n d_Mo_shortest_30 rfl ?_
      exact z_iret rfl d_Mo_shortest_31 h
    · replace h := h.2 c4
      refine z_iload_n d_Mo_shortest_25 rfl ?_
      refine z_iconst (-1) d_Mo_shortest_26 (by decide) ?_
      refine z_icmp_ne 32 d_Mo_shortest_27 rfl ⟨fun c5 => ?_, fun c5 => ?_⟩
      · replace h := h.1 c5
        refine z_aload_n d_Mo_shortest_32 rfl ?_
        refine z_iload_n d_Mo_shortest_33 rfl ?_
        refine z_aload_n d_Mo_shortest_34 rfl ?_
        refine z_getr f_Mo_98 rfl d_Mo_shortest_35 (tA_83 k) (tr_83_38 k) ?_
        refine z_iload_n d_Mo_shortest_38 rfl ?_
        obtain ⟨j6, hj6, ej6, h⟩ := h
        refine y_iaload j6 d_Mo_shortest_39 (ta_113 k) hj6 ej6 ?_
        refine z_callV (as := [.int x1, .int (M3 113 j6)]) (st := []) i_Mo_tryWord ⟨rfl, rfl⟩ v_Mo_tryWord w_Mo_tryWord l_Mo_297 d_Mo_shortest_40 (by decide) (tA_83 k) rfl (Nat.le_of_ble_eq_true rfl) (Nat.le_of_ble_eq_true rfl) h (fun q7 T7 M7 h => ?_)
        obtain ⟨rfl, rfl, h⟩ := h
        refine z_iconst 0 d_Mo_shortest_43 (by decide) ?_
        refine z_istore_n (ls' := [some (.ref 83), some (.int x1), some (.int y3), some (.int 0), none]) d_Mo_shortest_44 (Nat.le_of_ble_eq_true rfl) rfl rfl ?_
        refine z_iconst 0 d_Mo_shortest_45 (by decide) ?_
        refine z_istore (ls' := [some (.ref 83), some (.int x1), some (.int y3), some (.int 0), some (.int 0)]) d_Mo_shortest_46 (Nat.le_of_ble_eq_true rfl) rfl rfl ?_
        exact z_forget [some (.ref 83), some (.int x1), none, some (.int 0), some (.int 0)] (And.intro rfl (And.intro rfl (And.intro rfl (And.intro rfl (trivial))))) h
      · replace h := h.2 c5
        refine z_iload_n d_Mo_shortest_30 rfl ?_
        exact z_iret rfl d_Mo_shortest_31 h
  · replace h := h.2 c2
    refine z_iconst (-1) d_Mo_shortest_14 (by decide) ?_
    exact z_iret rfl d_Mo_shortest_15 h

set_option maxRecDepth 20000 in
theorem vc_Mo_shortest_48 (E : ZE) (k : Nat) (M : ZM) (x1 : Int32) (x3 : Int32) (x4 : Int32) (Φ : Option Value → ZS → ZM → Prop)  (h : ∃ j1 : Nat, j1 < 3 ∧ x1 = nI j1 ∧ (((M 110 j1) ≤ x4 → ∃ j3 : Nat, j3 < 3 ∧ x1 = nI j3 ∧ (Φ (some (.int ((100 * (M 110 j3)) + x3))) (zSt k) M)) ∧ (¬ (M 110 j1) ≤ x4 → ∃ j4 : Nat, j4 < 36 ∧ ((12 * x1) + x4) = nI j4 ∧ (∀ y5 : Int32, y5 = (x3 ||| (((M 109 j4) : Int32) <<< (x4 &&& 31))) → ∀ y6 : Int32, y6 = x4 + 1 → zW E m_Mo_shortest 4 (zSt k) M 48 [some (.ref 83), some (.int x1), none, some (.int y5), some (.int y6)] [] Φ)))) : zW E m_Mo_shortest 4 (zSt k) M 48 [some (.ref 83), some (.int x1), none, some (.int x3), some (.int x4)] [] Φ := by
  refine z_iload d_Mo_shortest_48 rfl ?_
  refine z_aload_n d_Mo_shortest_50 rfl ?_
  refine z_getr f_Mo_89 rfl d_Mo_shortest_51 (tA_83 k) (tr_83_35 k) ?_
  refine z_iload_n d_Mo_shortest_54 rfl ?_
  obtain ⟨j1, hj1, ej1, h⟩ := h
  refine y_iaload j1 d_Mo_shortest_55 (ta_110 k) hj1 ej1 ?_
  refine z_icmp_ge 83 d_Mo_shortest_56 rfl ⟨fun c2 => ?_, fun c2 => ?_⟩
  · replace h := h.1 c2
    refine z_bipush 100 d_Mo_shortest_83 (by decide) ?_
    refine z_aload_n d_Mo_shortest_85 rfl ?_
    refine z_getr f_Mo_89 rfl d_Mo_shortest_86 (tA_83 k) (tr_83_35 k) ?_
    refine z_iload_n d_Mo_shortest_89 rfl ?_
    obtain ⟨j3, hj3, ej3, h⟩ := h
    refine y_iaload j3 d_Mo_shortest_90 (ta_110 k) hj3 ej3 ?_
    refine z_imul d_Mo_shortest_91 ?_
    refine z_iload_n d_Mo_shortest_92 rfl ?_
    refine z_iadd d_Mo_shortest_93 ?_
    exact z_iret rfl d_Mo_shortest_94 h
  · replace h := h.2 c2
    refine z_iload_n d_Mo_shortest_59 rfl ?_
    refine z_aload_n d_Mo_shortest_60 rfl ?_
    refine z_getr f_Mo_86 rfl d_Mo_shortest_61 (tA_83 k) (tr_83_34 k) ?_
    refine z_bipush 12 d_Mo_shortest_64 (by decide) ?_
    refine z_iload_n d_Mo_shortest_66 rfl ?_
    refine z_imul d_Mo_shortest_67 ?_
    refine z_iload d_Mo_shortest_68 rfl ?_
    refine z_iadd d_Mo_shortest_70 ?_
    obtain ⟨j4, hj4, ej4, h⟩ := h
    refine y_iaload j4 d_Mo_shortest_71 (ta_109 k) hj4 ej4 ?_
    refine z_iload d_Mo_shortest_72 rfl ?_
    refine z_ishl d_Mo_shortest_74 ?_
    refine z_ior d_Mo_shortest_75 ?_
    refine z_name (fun y5 ey5 => ?_)
    replace h := h y5 ey5
    refine z_istore_n (ls' := [some (.ref 83), some (.int x1), none, some (.int y5), some (.int x4)]) d_Mo_shortest_76 (Nat.le_of_ble_eq_true rfl) rfl rfl ?_
    obtain ⟨y6, ey6⟩ : ∃ q : Int32, q = x4 + 1 := ⟨_, rfl⟩
    replace h := h y6 ey6
    refine z_iinc (ls' := [some (.ref 83), some (.int x1), none, some (.int y5), some (.int y6)]) y6 d_Mo_shortest_77 rfl (ey6 ▸ rfl) (Nat.le_of_ble_eq_true rfl) rfl rfl ?_
    refine z_goto 48 d_Mo_shortest_80 rfl ?_
    exact z_forget [some (.ref 83), some (.int x1), none, some (.int y5), some (.int y6)] (And.intro rfl (And.intro rfl (And.intro rfl (And.intro rfl (trivial))))) h

set_option maxRecDepth 20000 in
theorem vc_Mo_passRow_0 (E : ZE) (k : Nat) (M : ZM) (r1 L1 : Nat) (x2 : Int32) (Φ : Option Value → ZS → ZM → Prop) (h1 : zArr (zSt k) r1 L1) (h : zW E m_Mo_passRow 0 (zSt k) M 2 [some (.ref 83), some (.ref r1), some (.int x2), some (.int 0)] [] Φ) : zW E m_Mo_passRow 0 (zSt k) M 0 [some (.ref 83), some (.ref r1), some (.int x2), none] [] Φ := by
  refine z_iconst 0 d_Mo_passRow_0 (by decide) ?_
  refine z_istore_n (ls' := [some (.ref 83), some (.ref r1), some (.int x2), some (.int 0)]) d_Mo_passRow_1 (Nat.le_of_ble_eq_true rfl) rfl rfl ?_
  exact z_forget [some (.ref 83), some (.ref r1), some (.int x2), some (.int 0)] (And.intro rfl (And.intro rfl (And.intro rfl (And.intro rfl (trivial))))) h

set_option maxRecDepth 20000 in
theorem vc_Mo_passRow_2 (E : ZE) (k : Nat) (M : ZM) (r1 L1 : Nat) (x2 : Int32) (x3 : Int32) (Φ : Option Value → ZS → ZM → Prop) (h1 : zArr (zSt k) r1 L1) (h : (x2 ≤ x3 → Φ none (zSt k) M) ∧ (¬ x2 ≤ x3 → ((M 83 42) = 0 → ∃ j3 : Nat, j3 < 180 ∧ (M 83 41) = nI j3 ∧ (∃ j4 : Nat, j4 < L1 ∧ x3 = nI j4 ∧ (∀ M5 : ZM, M5 = zms M r1 j4 (M 114 j3) → ∃ j6 : Nat, j6 < L1 ∧ x3 = nI j6 ∧ (∃ j7 : Nat, j7 < 180 ∧ (M5 83 41) = nI j7 ∧ (∀ M8 : ZM, M8 = zms M5 114 j7 (M5 r1 j6) → ∀ M9 : ZM, M9 = zms M8 83 41 ((M8 83 41) + 1) → ∀ y10 : Int32, y10 = x3 + 1 → zW E m_Mo_passRow 0 (zSt k) M9 2 [some (.ref 83), some (.ref r1), some (.int x2), some (.int y10)] [] Φ))))) ∧ (¬ (M 83 42) = 0 → ∃ j11 : Nat, j11 < L1 ∧ x3 = nI j11 ∧ (∃ j12 : Nat, j12 < L1 ∧ x3 = nI j12 ∧ (∀ M13 : ZM, M13 = zms M r1 j12 (M r1 j11) → ∃ j14 : Nat, j14 < L1 ∧ x3 = nI j14 ∧ (∃ j15 : Nat, j15 < 180 ∧ (M13 83 41) = nI j15 ∧ (∀ M16 : ZM, M16 = zms M13 114 j15 (M13 r1 j14) → ∀ M17 : ZM, M17 = zms M16 83 41 ((M16 83 41) + 1) → ∀ y18 : Int32, y18 = x3 + 1 → zW E m_Mo_passRow 0 (zSt k) M17 2 [some (.ref 83), some (.ref r1), some (.int x2), some (.int y18)] [] Φ))))))) : zW E m_Mo_passRow 0 (zSt k) M 2 [some (.ref 83), some (.ref r1), some (.int x2), some (.int x3)] [] Φ := by
  refine z_iload_n d_Mo_passRow_2 rfl ?_
  refine z_iload_n d_Mo_passRow_3 rfl ?_
  refine z_icmp_ge 60 d_Mo_passRow_4 rfl ⟨fun c1 => ?_, fun c1 => ?_⟩
  · replace h := h.1 c1
    exact z_vret rfl d_Mo_passRow_60 h
  · replace h := h.2 c1
    refine z_aload_n d_Mo_passRow_7 rfl ?_
    refine z_iload_n d_Mo_passRow_8 rfl ?_
    refine z_aload_n d_Mo_passRow_9 rfl ?_
    refine z_geti f_Mo_305 rfl d_Mo_passRow_10 (tA_83 k) ?_
    refine z_if_eq 22 d_Mo_passRow_13 rfl ⟨fun c2 => ?_, fun c2 => ?_⟩
    · replace h := h.1 c2
      refine z_aload_n d_Mo_passRow_22 rfl ?_
      refine z_getr f_Mo_101 rfl d_Mo_passRow_23 (tA_83 k) (tr_83_39 k) ?_
      refine z_aload_n d_Mo_passRow_26 rfl ?_
      refine z_geti f_Mo_308 rfl d_Mo_passRow_27 (tA_83 k) ?_
      obtain ⟨j3, hj3, ej3, h⟩ := h
      refine y_iaload j3 d_Mo_passRow_30 (ta_114 k) hj3 ej3 ?_
      obtain ⟨j4, hj4, ej4, h⟩ := h
      refine y_iastore j4 d_Mo_passRow_31 h1 hj4 ej4 ?_
      refine z_mem (fun M5 eM5 => ?_)
      replace h := h M5 eM5
      refine z_aload_n d_Mo_passRow_32 rfl ?_
      refine z_getr f_Mo_101 rfl d_Mo_passRow_33 (tA_83 k) (tr_83_39 k) ?_
      refine z_aload_n d_Mo_passRow_36 rfl ?_
      refine z_geti f_Mo_308 rfl d_Mo_passRow_37 (tA_83 k) ?_
      refine z_aload_n d_Mo_passRow_40 rfl ?_
      refine z_iload_n d_Mo_passRow_41 rfl ?_
      obtain ⟨j6, hj6, ej6, h⟩ := h
      refine y_iaload j6 d_Mo_passRow_42 h1 hj6 ej6 ?_
      obtain ⟨j7, hj7, ej7, h⟩ := h
      refine y_iastore j7 d_Mo_passRow_43 (ta_114 k) hj7 ej7 ?_
      refine z_mem (fun M8 eM8 => ?_)
      replace h := h M8 eM8
      refine z_aload_n d_Mo_passRow_44 rfl ?_
      refine z_dup d_Mo_passRow_45 rfl ?_
      refine z_geti f_Mo_308 rfl d_Mo_passRow_46 (tA_83 k) ?_
      refine z_iconst 1 d_Mo_passRow_49 (by decide) ?_
      refine z_iadd d_Mo_passRow_50 ?_
      refine z_puti (p_Mo_308 rfl) rfl d_Mo_passRow_51 (tA_83 k) rfl rfl ?_
      refine z_mem (fun M9 eM9 => ?_)
      replace h := h M9 eM9
      obtain ⟨y10, ey10⟩ : ∃ q : Int32, q = x3 + 1 := ⟨_, rfl⟩
      replace h := h y10 ey10
      refine z_iinc (ls' := [some (.ref 83), some (.ref r1), some (.int x2), some (.int y10)]) y10 d_Mo_passRow_54 rfl (ey10 ▸ rfl) (Nat.le_of_ble_eq_true rfl) rfl rfl ?_
      refine z_goto 2 d_Mo_passRow_57 rfl ?_
      exact z_forget [some (.ref 83), some (.ref r1), some (.int x2), some (.int y10)] (And.intro rfl (And.intro rfl (And.intro rfl (And.intro rfl (trivial))))) h
    · replace h := h.2 c2
      refine z_aload_n d_Mo_passRow_16 rfl ?_
      refine z_iload_n d_Mo_passRow_17 rfl ?_
      obtain ⟨j11, hj11, ej11, h⟩ := h
      refine y_iaload j11 d_Mo_passRow_18 h1 hj11 ej11 ?_
      refine z_goto 31 d_Mo_passRow_19 rfl ?_
      obtain ⟨j12, hj12, ej12, h⟩ := h
      refine y_iastore j12 d_Mo_passRow_31 h1 hj12 ej12 ?_
      refine z_mem (fun M13 eM13 => ?_)
      replace h := h M13 eM13
      refine z_aload_n d_Mo_passRow_32 rfl ?_
      refine z_getr f_Mo_101 rfl d_Mo_passRow_33 (tA_83 k) (tr_83_39 k) ?_
      refine z_aload_n d_Mo_passRow_36 rfl ?_
      refine z_geti f_Mo_308 rfl d_Mo_passRow_37 (tA_83 k) ?_
      refine z_aload_n d_Mo_passRow_40 rfl ?_
      refine z_iload_n d_Mo_passRow_41 rfl ?_
      obtain ⟨j14, hj14, ej14, h⟩ := h
      refine y_iaload j14 d_Mo_passRow_42 h1 hj14 ej14 ?_
      obtain ⟨j15, hj15, ej15, h⟩ := h
      refine y_iastore j15 d_Mo_passRow_43 (ta_114 k) hj15 ej15 ?_
      refine z_mem (fun M16 eM16 => ?_)
      replace h := h M16 eM16
      refine z_aload_n d_Mo_passRow_44 rfl ?_
      refine z_dup d_Mo_passRow_45 rfl ?_
      refine z_geti f_Mo_308 rfl d_Mo_passRow_46 (tA_83 k) ?_
      refine z_iconst 1 d_Mo_passRow_49 (by decide) ?_
      refine z_iadd d_Mo_passRow_50 ?_
      refine z_puti (p_Mo_308 rfl) rfl d_Mo_passRow_51 (tA_83 k) rfl rfl ?_
      refine z_mem (fun M17 eM17 => ?_)
      replace h := h M17 eM17
      obtain ⟨y18, ey18⟩ : ∃ q : Int32, q = x3 + 1 := ⟨_, rfl⟩
      replace h := h y18 ey18
      refine z_iinc (ls' := [some (.ref 83), some (.ref r1), some (.int x2), some (.int y18)]) y18 d_Mo_passRow_54 rfl (ey18 ▸ rfl) (Nat.le_of_ble_eq_true rfl) rfl rfl ?_
      refine z_goto 2 d_Mo_passRow_57 rfl ?_
      exact z_forget [some (.ref 83), some (.ref r1), some (.int x2), some (.int y18)] (And.intro rfl (And.intro rfl (And.intro rfl (And.intro rfl (trivial))))) h

set_option maxRecDepth 20000 in
theorem vc_Mo_passAll_0 (E : ZE) (k : Nat) (M : ZM)  (Φ : Option Value → ZS → ZM → Prop)  (h : zW E m_Mo_passRow 0 (zSt k) M 0 [some (.ref 83), some (.ref 84), some (.int 24), none] [] (fun q1 T1 M1 => q1 = none ∧ (zSt k) = T1 ∧ zW E m_Mo_passRow 0 (zSt k) M1 0 [some (.ref 83), some (.ref 85), some (.int 2), none] [] (fun q2 T2 M2 => q2 = none ∧ (zSt k) = T2 ∧ zW E m_Mo_passRow 0 (zSt k) M2 0 [some (.ref 83), some (.ref 86), some (.int 6), none] [] (fun q3 T3 M3 => q3 = none ∧ (zSt k) = T3 ∧ zW E m_Mo_passRow 0 (zSt k) M3 0 [some (.ref 83), some (.ref 87), some (.int 9), none] [] (fun q4 T4 M4 => q4 = none ∧ (zSt k) = T4 ∧ zW E m_Mo_passRow 0 (zSt k) M4 0 [some (.ref 83), some (.ref 88), some (.int 36), none] [] (fun q5 T5 M5 => q5 = none ∧ (zSt k) = T5 ∧ zW E m_Mo_passRow 0 (zSt k) M5 0 [some (.ref 83), some (.ref 89), some (.int 3), none] [] (fun q6 T6 M6 => q6 = none ∧ (zSt k) = T6 ∧ Φ none (zSt k) M6))))))) : zW E m_Mo_passAll 1 (zSt k) M 0 [some (.ref 83)] [] Φ := by
  refine z_aload_n d_Mo_passAll_0 rfl ?_
  refine z_aload_n d_Mo_passAll_1 rfl ?_
  refine z_getr f_Mo_7 rfl d_Mo_passAll_2 (tA_83 k) (tr_83_0 k) ?_
  refine z_bipush 24 d_Mo_passAll_5 (by decide) ?_
  refine z_callV (as := [.ref 84, .int 24]) (st := []) i_Mo_passRow ⟨rfl, rfl⟩ v_Mo_passRow w_Mo_passRow l_Mo_311 d_Mo_passAll_7 (by decide) (tA_83 k) rfl (Nat.le_of_ble_eq_true rfl) (Nat.le_of_ble_eq_true rfl) h (fun q1 T1 M1 h => ?_)
  obtain ⟨rfl, rfl, h⟩ := h
  refine z_aload_n d_Mo_passAll_10 rfl ?_
  refine z_aload_n d_Mo_passAll_11 rfl ?_
  refine z_getr f_Mo_13 rfl d_Mo_passAll_12 (tA_83 k) (tr_83_1 k) ?_
  refine z_iconst 2 d_Mo_passAll_15 (by decide) ?_
  refine z_callV (as := [.ref 85, .int 2]) (st := []) i_Mo_passRow ⟨rfl, rfl⟩ v_Mo_passRow w_Mo_passRow l_Mo_311 d_Mo_passAll_16 (by decide) (tA_83 k) rfl (Nat.le_of_ble_eq_true rfl) (Nat.le_of_ble_eq_true rfl) h (fun q2 T2 M2 h => ?_)
  obtain ⟨rfl, rfl, h⟩ := h
  refine z_aload_n d_Mo_passAll_19 rfl ?_
  refine z_aload_n d_Mo_passAll_20 rfl ?_
  refine z_getr f_Mo_16 rfl d_Mo_passAll_21 (tA_83 k) (tr_83_2 k) ?_
  refine z_bipush 6 d_Mo_passAll_24 (by decide) ?_
  refine z_callV (as := [.ref 86, .int 6]) (st := []) i_Mo_passRow ⟨rfl, rfl⟩ v_Mo_passRow w_Mo_passRow l_Mo_311 d_Mo_passAll_26 (by decide) (tA_83 k) rfl (Nat.le_of_ble_eq_true rfl) (Nat.le_of_ble_eq_true rfl) h (fun q3 T3 M3 h => ?_)
  obtain ⟨rfl, rfl, h⟩ := h
  refine z_aload_n d_Mo_passAll_29 rfl ?_
  refine z_aload_n d_Mo_passAll_30 rfl ?_
  refine z_getr f_Mo_19 rfl d_Mo_passAll_31 (tA_83 k) (tr_83_3 k) ?_
  refine z_bipush 9 d_Mo_passAll_34 (by decide) ?_
  refine z_callV (as := [.ref 87, .int 9]) (st := []) i_Mo_passRow ⟨rfl, rfl⟩ v_Mo_passRow w_Mo_passRow l_Mo_311 d_Mo_passAll_36 (by decide) (tA_83 k) rfl (Nat.le_of_ble_eq_true rfl) (Nat.le_of_ble_eq_true rfl) h (fun q4 T4 M4 h => ?_)
  obtain ⟨rfl, rfl, h⟩ := h
  refine z_aload_n d_Mo_passAll_39 rfl ?_
  refine z_aload_n d_Mo_passAll_40 rfl ?_
  refine z_getr f_Mo_22 rfl d_Mo_passAll_41 (tA_83 k) (tr_83_4 k) ?_
  refine z_bipush 36 d_Mo_passAll_44 (by decide) ?_
  refine z_callV (as := [.ref 88, .int 36]) (st := []) i_Mo_passRow ⟨rfl, rfl⟩ v_Mo_passRow w_Mo_passRow l_Mo_311 d_Mo_passAll_46 (by decide) (tA_83 k) rfl (Nat.le_of_ble_eq_true rfl) (Nat.le_of_ble_eq_true rfl) h (fun q5 T5 M5 h => ?_)
  obtain ⟨rfl, rfl, h⟩ := h
  refine z_aload_n d_Mo_passAll_49 rfl ?_
  refine z_aload_n d_Mo_passAll_50 rfl ?_
  refine z_getr f_Mo_25 rfl d_Mo_passAll_51 (tA_83 k) (tr_83_5 k) ?_
  refine z_iconst 3 d_Mo_passAll_54 (by decide) ?_
  refine z_callV (as := [.ref 89, .int 3]) (st := []) i_Mo_passRow ⟨rfl, rfl⟩ v_Mo_passRow w_Mo_passRow l_Mo_311 d_Mo_passAll_55 (by decide) (tA_83 k) rfl (Nat.le_of_ble_eq_true rfl) (Nat.le_of_ble_eq_true rfl) h (fun q6 T6 M6 h => ?_)
  obtain ⟨rfl, rfl, h⟩ := h
  exact z_vret rfl d_Mo_passAll_58 h

set_option maxRecDepth 20000 in
theorem vc_Mo_image_0 (E : ZE) (k : Nat) (M : ZM) (x1 : Int32) (Φ : Option Value → ZS → ZM → Prop)  (h : zW E m_Mo_in 0 (zSt k) M 0 [some (.long (Int32.toInt64 x1)), none, some (.long 0), none, some (.long 1), none] [] (fun q1 T1 M1 => ∃ y1 : Int32, q1 = some (.int y1) ∧ (zSt k) = T1 ∧ (¬ y1 = 0 → ∀ M3 : ZM, M3 = zms M1 83 41 (90 * x1) → ∀ M4 : ZM, M4 = zms M3 83 42 1 → zW E m_Mo_passAll 1 (zSt k) M4 0 [some (.ref 83)] [] (fun q5 T5 M5 => q5 = none ∧ (zSt k) = T5 ∧ ∃ j6 : Nat, j6 < 2 ∧ x1 = nI j6 ∧ (∀ M7 : ZM, M7 = zms M5 115 j6 1 → Φ (some (.int 1)) (zSt k) M7))) ∧ (y1 = 0 → Φ (some (.int (-2))) (zSt k) M1))) : zW E m_Mo_image 2 (zSt k) M 0 [some (.ref 83), some (.int x1)] [] Φ := by
  refine z_iload_n d_Mo_image_0 rfl ?_
  refine z_i2l d_Mo_image_1 ?_
  refine z_lconst 0 d_Mo_image_2 (by decide) ?_
  refine z_lconst 1 d_Mo_image_3 (by decide) ?_
  refine z_callS (as := [.long (Int32.toInt64 x1), .long 0, .long 1]) (st := []) i_Mo_in s_Mo_in l_Mo_109 d_Mo_image_4 (by decide) rfl (Nat.le_of_ble_eq_true rfl) (Nat.le_of_ble_eq_true rfl) h (fun q1 T1 M1 h => ?_)
  obtain ⟨y1, rfl, rfl, h⟩ := h
  refine z_if_ne 13 d_Mo_image_7 rfl ⟨fun c2 => ?_, fun c2 => ?_⟩
  · replace h := h.1 c2
    refine z_aload_n d_Mo_image_13 rfl ?_
    refine z_bipush 90 d_Mo_image_14 (by decide) ?_
    refine z_iload_n d_Mo_image_16 rfl ?_
    refine z_imul d_Mo_image_17 ?_
    refine z_puti (p_Mo_308 rfl) rfl d_Mo_image_18 (tA_83 k) rfl rfl ?_
    refine z_mem (fun M3 eM3 => ?_)
    replace h := h M3 eM3
    refine z_aload_n d_Mo_image_21 rfl ?_
    refine z_iconst 1 d_Mo_image_22 (by decide) ?_
    refine z_puti (p_Mo_305 rfl) rfl d_Mo_image_23 (tA_83 k) rfl rfl ?_
    refine z_mem (fun M4 eM4 => ?_)
    replace h := h M4 eM4
    refine z_aload_n d_Mo_image_26 rfl ?_
    refine z_callV (as := []) (st := []) i_Mo_passAll ⟨rfl, rfl⟩ v_Mo_passAll w_Mo_passAll l_Mo_315 d_Mo_image_27 (by decide) (tA_83 k) rfl (Nat.le_of_ble_eq_true rfl) (Nat.le_of_ble_eq_true rfl) h (fun q5 T5 M5 h => ?_)
    obtain ⟨rfl, rfl, h⟩ := h
    refine z_aload_n d_Mo_image_30 rfl ?_
    refine z_getr f_Mo_104 rfl d_Mo_image_31 (tA_83 k) (tr_83_40 k) ?_
    refine z_iload_n d_Mo_image_34 rfl ?_
    refine z_iconst 1 d_Mo_image_35 (by decide) ?_
    obtain ⟨j6, hj6, ej6, h⟩ := h
    refine y_bastore j6 d_Mo_image_36 (ta_115 k) hj6 ej6 rfl ?_
    refine z_mem (fun M7 eM7 => ?_)
    replace h := h M7 eM7
    refine z_iconst 1 d_Mo_image_37 (by decide) ?_
    exact z_iret rfl d_Mo_image_38 h
  · replace h := h.2 c2
    refine z_bipush (-2) d_Mo_image_10 (by decide) ?_
    exact z_iret rfl d_Mo_image_12 h

set_option maxRecDepth 20000 in
theorem vc_Mo_restore_0 (E : ZE) (k : Nat) (M : ZM) (x1 : Int32) (Φ : Option Value → ZS → ZM → Prop)  (h : zW E m_Mo_in 0 (zSt k) M 0 [some (.long (Int32.toInt64 x1)), none, some (.long 0), none, some (.long 1), none] [] (fun q1 T1 M1 => ∃ y1 : Int32, q1 = some (.int y1) ∧ (zSt k) = T1 ∧ (¬ y1 = 0 → ∃ j3 : Nat, j3 < 2 ∧ x1 = nI j3 ∧ ((¬ (M1 115 j3) = 0 → ∀ M5 : ZM, M5 = zms M1 83 41 (90 * x1) → ∀ M6 : ZM, M6 = zms M5 83 42 0 → zW E m_Mo_passAll 1 (zSt k) M6 0 [some (.ref 83)] [] (fun q7 T7 M7 => q7 = none ∧ (zSt k) = T7 ∧ ∀ M8 : ZM, M8 = zms M7 83 22 0 → Φ (some (.int 1)) (zSt k) M8)) ∧ ((M1 115 j3) = 0 → Φ (some (.int (-3))) (zSt k) M1))) ∧ (y1 = 0 → Φ (some (.int (-2))) (zSt k) M1))) : zW E m_Mo_restore 2 (zSt k) M 0 [some (.ref 83), some (.int x1)] [] Φ := by
  refine z_iload_n d_Mo_restore_0 rfl ?_
  refine z_i2l d_Mo_restore_1 ?_
  refine z_lconst 0 d_Mo_restore_2 (by decide) ?_
  refine z_lconst 1 d_Mo_restore_3 (by decide) ?_
  refine z_callS (as := [.long (Int32.toInt64 x1), .long 0, .long 1]) (st := []) i_Mo_in s_Mo_in l_Mo_109 d_Mo_restore_4 (by decide) rfl (Nat.le_of_ble_eq_true rfl) (Nat.le_of_ble_eq_true rfl) h (fun q1 T1 M1 h => ?_)
  obtain ⟨y1, rfl, rfl, h⟩ := h
  refine z_if_ne 13 d_Mo_restore_7 rfl ⟨fun c2 => ?_, fun c2 => ?_⟩
  · replace h := h.1 c2
    refine z_aload_n d_Mo_restore_13 rfl ?_
    refine z_getr f_Mo_104 rfl d_Mo_restore_14 (tA_83 k) (tr_83_40 k) ?_
    refine z_iload_n d_Mo_restore_17 rfl ?_
    obtain ⟨j3, hj3, ej3, h⟩ := h
    refine y_baload j3 d_Mo_restore_18 (ta_115 k) hj3 ej3 ?_
    refine z_if_ne 25 d_Mo_restore_19 rfl ⟨fun c4 => ?_, fun c4 => ?_⟩
    · replace h := h.1 c4
      refine z_aload_n d_Mo_restore_25 rfl ?_
      refine z_bipush 90 d_Mo_restore_26 (by decide) ?_
      refine z_iload_n d_Mo_restore_28 rfl ?_
      refine z_imul d_Mo_restore_29 ?_
      refine z_puti (p_Mo_308 rfl) rfl d_Mo_restore_30 (tA_83 k) rfl rfl ?_
      refine z_mem (fun M5 eM5 => ?_)
      replace h := h M5 eM5
      refine z_aload_n d_Mo_restore_33 rfl ?_
      refine z_iconst 0 d_Mo_restore_34 (by decide) ?_
      refine z_puti (p_Mo_305 rfl) rfl d_Mo_restore_35 (tA_83 k) rfl rfl ?_
      refine z_mem (fun M6 eM6 => ?_)
      replace h := h M6 eM6
      refine z_aload_n d_Mo_restore_38 rfl ?_
      refine z_callV (as := []) (st := []) i_Mo_passAll ⟨rfl, rfl⟩ v_Mo_passAll w_Mo_passAll l_Mo_315 d_Mo_restore_39 (by decide) (tA_83 k) rfl (Nat.le_of_ble_eq_true rfl) (Nat.le_of_ble_eq_true rfl) h (fun q7 T7 M7 h => ?_)
      obtain ⟨rfl, rfl, h⟩ := h
      refine z_aload_n d_Mo_restore_42 rfl ?_
      refine z_iconst 0 d_Mo_restore_43 (by decide) ?_
      refine z_puti (p_Mo_137 rfl) rfl d_Mo_restore_44 (tA_83 k) rfl rfl ?_
      refine z_mem (fun M8 eM8 => ?_)
      replace h := h M8 eM8
      refine z_iconst 1 d_Mo_restore_47 (by decide) ?_
      exact z_iret rfl d_Mo_restore_48 h
    · replace h := h.2 c4
      refine z_bipush (-3) d_Mo_restore_22 (by decide) ?_
      exact z_iret rfl d_Mo_restore_24 h
  · replace h := h.2 c2
    refine z_bipush (-2) d_Mo_restore_10 (by decide) ?_
    exact z_iret rfl d_Mo_restore_12 h

set_option maxRecDepth 20000 in
theorem vc_Mo_told_0 (E : ZE) (k : Nat) (M : ZM) (x1 : Int32) (Φ : Option Value → ZS → ZM → Prop)  (h : zW E m_Mo_in 0 (zSt k) M 0 [some (.long (Int32.toInt64 x1)), none, some (.long 100), none, some (.long 399), none] [] (fun q1 T1 M1 => ∃ y1 : Int32, q1 = some (.int y1) ∧ (zSt k) = T1 ∧ (y1 = 0 → zW E m_Mo_in 0 (zSt k) M1 0 [some (.long (Int32.toInt64 x1)), none, some (.long 10), none, some (.long 15), none] [] (fun q3 T3 M3 => ∃ y3 : Int32, q3 = some (.int y3) ∧ (zSt k) = T3 ∧ (y3 = 0 → zW E m_Mo_in 0 (zSt k) M3 0 [some (.long (Int32.toInt64 x1)), none, some (.long 20), none, some (.long 28), none] [] (fun q5 T5 M5 => ∃ y5 : Int32, q5 = some (.int y5) ∧ (zSt k) = T5 ∧ (y5 = 0 → zW E m_Mo_in 0 (zSt k) M5 0 [some (.long (Int32.toInt64 x1)), none, some (.long 30), none, some (.long 32), none] [] (fun q7 T7 M7 => ∃ y7 : Int32, q7 = some (.int y7) ∧ (zSt k) = T7 ∧ (y7 = 0 → (¬ x1 = 0 → (x1 = 1 → ∃ j11 : Nat, j11 < 2 ∧ (x1 - 1) = nI j11 ∧ (Φ (some (.int (M7 85 j11))) (zSt k) M7)) ∧ (¬ x1 = 1 → (¬ x1 = 2 → Φ (some (.int (-2))) (zSt k) M7) ∧ (x1 = 2 → ∃ j13 : Nat, j13 < 2 ∧ (x1 - 1) = nI j13 ∧ (Φ (some (.int (M7 85 j13))) (zSt k) M7)))) ∧ (x1 = 0 → Φ (some (.int (M7 83 7))) (zSt k) M7)) ∧ (¬ y7 = 0 → ∃ j14 : Nat, j14 < 3 ∧ (x1 - 30) = nI j14 ∧ (Φ (some (.int (M7 89 j14))) (zSt k) M7)))) ∧ (¬ y5 = 0 → ∃ j15 : Nat, j15 < 9 ∧ (x1 - 20) = nI j15 ∧ (Φ (some (.int (M5 87 j15))) (zSt k) M5)))) ∧ (¬ y3 = 0 → ∃ j16 : Nat, j16 < 6 ∧ (x1 - 10) = nI j16 ∧ (Φ (some (.int (M3 86 j16))) (zSt k) M3)))) ∧ (¬ y1 = 0 → ∀ y17 : Int32, y17 = ((x1 / 100) - 1) → ∃ j18 : Nat, j18 < 3 ∧ y17 = nI j18 ∧ (((M1 89 j18) ≤ (x1 - x1 / 100 * 100) → Φ (some (.int (-2))) (zSt k) M1) ∧ (¬ (M1 89 j18) ≤ (x1 - x1 / 100 * 100) → ∃ j20 : Nat, j20 < 36 ∧ ((12 * y17) + (x1 - x1 / 100 * 100)) = nI j20 ∧ (Φ (some (.int (M1 88 j20))) (zSt k) M1)))))) : zW E m_Mo_told 1 (zSt k) M 0 [some (.ref 83), some (.int x1), none] [] Φ := by
  refine z_iload_n d_Mo_told_0 rfl ?_
  refine z_i2l d_Mo_told_1 ?_
  refine z_ldc2 100 d_Mo_told_2 k_Mo_318 ?_
  refine z_ldc2 399 d_Mo_told_5 k_Mo_320 ?_
  refine z_callS (as := [.long (Int32.toInt64 x1), .long 100, .long 399]) (st := []) i_Mo_in s_Mo_in l_Mo_109 d_Mo_told_8 (by decide) rfl (Nat.le_of_ble_eq_true rfl) (Nat.le_of_ble_eq_true rfl) h (fun q1 T1 M1 h => ?_)
  obtain ⟨y1, rfl, rfl, h⟩ := h
  refine z_if_eq 54 d_Mo_told_11 rfl ⟨fun c2 => ?_, fun c2 => ?_⟩
  · replace h := h.1 c2
    refine z_iload_n d_Mo_told_54 rfl ?_
    refine z_i2l d_Mo_told_55 ?_
    refine z_ldc2 10 d_Mo_told_56 k_Mo_322 ?_
    refine z_ldc2 15 d_Mo_told_59 k_Mo_324 ?_
    refine z_callS (as := [.long (Int32.toInt64 x1), .long 10, .long 15]) (st := []) i_Mo_in s_Mo_in l_Mo_109 d_Mo_told_62 (by decide) rfl (Nat.le_of_ble_eq_true rfl) (Nat.le_of_ble_eq_true rfl) h (fun q3 T3 M3 h => ?_)
    obtain ⟨y3, rfl, rfl, h⟩ := h
    refine z_if_eq 78 d_Mo_told_65 rfl ⟨fun c4 => ?_, fun c4 => ?_⟩
    · replace h := h.1 c4
      refine z_iload_n d_Mo_told_78 rfl ?_
      refine z_i2l d_Mo_told_79 ?_
      refine z_ldc2 20 d_Mo_told_80 k_Mo_326 ?_
      refine z_ldc2 28 d_Mo_told_83 k_Mo_328 ?_
      refine z_callS (as := [.long (Int32.toInt64 x1), .long 20, .long 28]) (st := []) i_Mo_in s_Mo_in l_Mo_109 d_Mo_told_86 (by decide) rfl (Nat.le_of_ble_eq_true rfl) (Nat.le_of_ble_eq_true rfl) h (fun q5 T5 M5 h => ?_)
      obtain ⟨y5, rfl, rfl, h⟩ := h
      refine z_if_eq 102 d_Mo_told_89 rfl ⟨fun c6 => ?_, fun c6 => ?_⟩
      · replace h := h.1 c6
        refine z_iload_n d_Mo_told_102 rfl ?_
        refine z_i2l d_Mo_told_103 ?_
        refine z_ldc2 30 d_Mo_told_104 k_Mo_330 ?_
        refine z_ldc2 32 d_Mo_told_107 k_Mo_332 ?_
        refine z_callS (as := [.long (Int32.toInt64 x1), .long 30, .long 32]) (st := []) i_Mo_in s_Mo_in l_Mo_109 d_Mo_told_110 (by decide) rfl (Nat.le_of_ble_eq_true rfl) (Nat.le_of_ble_eq_true rfl) h (fun q7 T7 M7 h => ?_)
        obtain ⟨y7, rfl, rfl, h⟩ := h
        refine z_if_eq 126 d_Mo_told_113 rfl ⟨fun c8 => ?_, fun c8 => ?_⟩
        · replace h := h.1 c8
          refine z_iload_n d_Mo_told_126 rfl ?_
          refine z_if_ne 137 d_Mo_told_127 rfl ⟨fun c9 => ?_, fun c9 => ?_⟩
          · replace h := h.1 c9
            refine z_iload_n d_Mo_told_137 rfl ?_
            refine z_iconst 1 d_Mo_told_138 (by decide) ?_
            refine z_icmp_eq 147 d_Mo_told_139 rfl ⟨fun c10 => ?_, fun c10 => ?_⟩
            · replace h := h.1 c10
              refine z_aload_n d_Mo_told_147 rfl ?_
              refine z_getr f_Mo_13 rfl d_Mo_told_148 (tA_83 k) (tr_83_1 k) ?_
              refine z_iload_n d_Mo_told_151 rfl ?_
              refine z_iconst 1 d_Mo_told_152 (by decide) ?_
              refine z_isub d_Mo_told_153 ?_
              obtain ⟨j11, hj11, ej11, h⟩ := h
              refine y_iaload j11 d_Mo_told_154 (ta_85 k) hj11 ej11 ?_
              refine z_goto 160 d_Mo_told_155 rfl ?_
              exact z_iret rfl d_Mo_told_160 h
            · replace h := h.2 c10
              refine z_iload_n d_Mo_told_142 rfl ?_
              refine z_iconst 2 d_Mo_told_143 (by decide) ?_
              refine z_icmp_ne 158 d_Mo_told_144 rfl ⟨fun c12 => ?_, fun c12 => ?_⟩
              · replace h := h.1 c12
                refine z_bipush (-2) d_Mo_told_158 (by decide) ?_
                exact z_iret rfl d_Mo_told_160 h
              · replace h := h.2 c12
                refine z_aload_n d_Mo_told_147 rfl ?_
                refine z_getr f_Mo_13 rfl d_Mo_told_148 (tA_83 k) (tr_83_1 k) ?_
                refine z_iload_n d_Mo_told_151 rfl ?_
                refine z_iconst 1 d_Mo_told_152 (by decide) ?_
                refine z_isub d_Mo_told_153 ?_
                obtain ⟨j13, hj13, ej13, h⟩ := h
                refine y_iaload j13 d_Mo_told_154 (ta_85 k) hj13 ej13 ?_
                refine z_goto 160 d_Mo_told_155 rfl ?_
                exact z_iret rfl d_Mo_told_160 h
          · replace h := h.2 c9
            refine z_aload_n d_Mo_told_130 rfl ?_
            refine z_geti f_Mo_117 rfl d_Mo_told_131 (tA_83 k) ?_
            refine z_goto 160 d_Mo_told_134 rfl ?_
            exact z_iret rfl d_Mo_told_160 h
        · replace h := h.2 c8
          refine z_aload_n d_Mo_told_116 rfl ?_
          refine z_getr f_Mo_25 rfl d_Mo_told_117 (tA_83 k) (tr_83_5 k) ?_
          refine z_iload_n d_Mo_told_120 rfl ?_
          refine z_bipush 30 d_Mo_told_121 (by decide) ?_
          refine z_isub d_Mo_told_123 ?_
          obtain ⟨j14, hj14, ej14, h⟩ := h
          refine y_iaload j14 d_Mo_told_124 (ta_89 k) hj14 ej14 ?_
          exact z_iret rfl d_Mo_told_125 h
      · replace h := h.2 c6
        refine z_aload_n d_Mo_told_92 rfl ?_
        refine z_getr f_Mo_19 rfl d_Mo_told_93 (tA_83 k) (tr_83_3 k) ?_
        refine z_iload_n d_Mo_told_96 rfl ?_
        refine z_bipush 20 d_Mo_told_97 (by decide) ?_
        refine z_isub d_Mo_told_99 ?_
        obtain ⟨j15, hj15, ej15, h⟩ := h
        refine y_iaload j15 d_Mo_told_100 (ta_87 k) hj15 ej15 ?_
        exact z_iret rfl d_Mo_told_101 h
    · replace h := h.2 c4
      refine z_aload_n d_Mo_told_68 rfl ?_
      refine z_getr f_Mo_16 rfl d_Mo_told_69 (tA_83 k) (tr_83_2 k) ?_
      refine z_iload_n d_Mo_told_72 rfl ?_
      refine z_bipush 10 d_Mo_told_73 (by decide) ?_
      refine z_isub d_Mo_told_75 ?_
      obtain ⟨j16, hj16, ej16, h⟩ := h
      refine y_iaload j16 d_Mo_told_76 (ta_86 k) hj16 ej16 ?_
      exact z_iret rfl d_Mo_told_77 h
  · replace h := h.2 c2
    refine z_iload_n d_Mo_told_14 rfl ?_
    refine z_bipush 100 d_Mo_told_15 (by decide) ?_
    refine z_idiv d_Mo_told_17 (by decide) ?_
    refine z_iconst 1 d_Mo_told_18 (by decide) ?_
    refine z_isub d_Mo_told_19 ?_
    refine z_name (fun y17 ey17 => ?_)
    replace h := h y17 ey17
    refine z_istore_n (ls' := [some (.ref 83), some (.int x1), some (.int y17)]) d_Mo_told_20 (Nat.le_of_ble_eq_true rfl) rfl rfl ?_
    refine z_iload_n d_Mo_told_21 rfl ?_
    refine z_bipush 100 d_Mo_told_22 (by decide) ?_
    refine z_irem d_Mo_told_24 (by decide) ?_
    refine z_aload_n d_Mo_told_25 rfl ?_
    refine z_getr f_Mo_25 rfl d_Mo_told_26 (tA_83 k) (tr_83_5 k) ?_
    refine z_iload_n d_Mo_told_29 rfl ?_
    obtain ⟨j18, hj18, ej18, h⟩ := h
    refine y_iaload j18 d_Mo_told_30 (ta_89 k) hj18 ej18 ?_
    refine z_icmp_ge 51 d_Mo_told_31 rfl ⟨fun c19 => ?_, fun c19 => ?_⟩
    · replace h := h.1 c19
      refine z_bipush (-2) d_Mo_told_51 (by decide) ?_
      exact z_iret rfl d_Mo_told_53 h
    · replace h := h.2 c19
      refine z_aload_n d_Mo_told_34 rfl ?_
      refine z_getr f_Mo_22 rfl d_Mo_told_35 (tA_83 k) (tr_83_4 k) ?_
      refine z_bipush 12 d_Mo_told_38 (by decide) ?_
      refine z_iload_n d_Mo_told_40 rfl ?_
      refine z_imul d_Mo_told_41 ?_
      refine z_iload_n d_Mo_told_42 rfl ?_
      refine z_bipush 100 d_Mo_told_43 (by decide) ?_
      refine z_irem d_Mo_told_45 (by decide) ?_
      refine z_iadd d_Mo_told_46 ?_
      obtain ⟨j20, hj20, ej20, h⟩ := h
      refine y_iaload j20 d_Mo_told_47 (ta_88 k) hj20 ej20 ?_
      refine z_goto 53 d_Mo_told_48 rfl ?_
      exact z_iret rfl d_Mo_told_53 h
