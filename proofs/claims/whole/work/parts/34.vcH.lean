set_option maxRecDepth 20000 in
theorem vc_H_say_0 (E : ZE) (k : Nat) (M : ZM) (x1 : Int32) (Φ : Option Value → ZS → ZM → Prop)  (h : (x1 < 33 → Φ (some (.int (-2))) (zSt k) M) ∧ (¬ x1 < 33 → (x1 ≤ 126 → zW E m_Row_push 0 (zSt k) M 0 [some (.ref 1), some (.int x1)] [] (fun q3 T3 M3 => ∃ y3 : Int32, q3 = some (.int y3) ∧ (zSt k) = T3 ∧ (y3 = 0 → Φ (some (.int (-4))) (zSt k) M3) ∧ (¬ y3 = 0 → zW E m_Row_size 0 (zSt k) M3 0 [some (.ref 1)] [] (fun q5 T5 M5 => ∃ y5 : Int32, q5 = some (.int y5) ∧ (zSt k) = T5 ∧ Φ (some (.int y5)) (zSt k) M5)))) ∧ (¬ x1 ≤ 126 → Φ (some (.int (-2))) (zSt k) M))) : zW E m_H_say 1 (zSt k) M 0 [some (.ref 0), some (.int x1)] [] Φ := by
  refine z_iload_n d_H_say_0 rfl ?_
  refine z_bipush 33 d_H_say_1 (by decide) ?_
  refine z_icmp_lt 12 d_H_say_3 rfl ⟨fun c1 => ?_, fun c1 => ?_⟩
  · replace h := h.1 c1
    refine z_bipush (-2) d_H_say_12 (by decide) ?_
    exact z_iret rfl d_H_say_14 h
  · replace h := h.2 c1
    refine z_iload_n d_H_say_6 rfl ?_
    refine z_bipush 126 d_H_say_7 (by decide) ?_
    refine z_icmp_le 15 d_H_say_9 rfl ⟨fun c2 => ?_, fun c2 => ?_⟩
    · replace h := h.1 c2
      refine z_aload_n d_H_say_15 rfl ?_
      refine z_getr f_H_14 rfl d_H_say_16 (tA_0 k) (tr_0_0 k) ?_
      refine z_iload_n d_H_say_19 rfl ?_
      refine z_callV (as := [.int x1]) (st := []) i_Row_push ⟨rfl, rfl⟩ v_Row_push w_Row_push l_H_85 d_H_say_20 (by decide) (ts_1 k).1 rfl (Nat.le_of_ble_eq_true rfl) (Nat.le_of_ble_eq_true rfl) h (fun q3 T3 M3 h => ?_)
      obtain ⟨y3, rfl, rfl, h⟩ := h
      refine z_if_eq 36 d_H_say_23 rfl ⟨fun c4 => ?_, fun c4 => ?_⟩
      · replace h := h.1 c4
        refine z_bipush (-4) d_H_say_36 (by decide) ?_
        exact z_iret rfl d_H_say_38 h
      · replace h := h.2 c4
        refine z_aload_n d_H_say_26 rfl ?_
        refine z_getr f_H_14 rfl d_H_say_27 (tA_0 k) (tr_0_0 k) ?_
        refine z_callV (as := []) (st := []) i_Row_size ⟨rfl, rfl⟩ v_Row_size w_Row_size l_H_89 d_H_say_30 (by decide) (ts_1 k).1 rfl (Nat.le_of_ble_eq_true rfl) (Nat.le_of_ble_eq_true rfl) h (fun q5 T5 M5 h => ?_)
        obtain ⟨y5, rfl, rfl, h⟩ := h
        refine z_goto 38 d_H_say_33 rfl ?_
        exact z_iret rfl d_H_say_38 h
    · replace h := h.2 c2
      refine z_bipush (-2) d_H_say_12 (by decide) ?_
      exact z_iret rfl d_H_say_14 h

set_option maxRecDepth 20000 in
theorem vc_H_wipe_0 (E : ZE) (k : Nat) (M : ZM)  (Φ : Option Value → ZS → ZM → Prop)  (h : zW E m_Row_size 0 (zSt k) M 0 [some (.ref 1)] [] (fun q1 T1 M1 => ∃ y1 : Int32, q1 = some (.int y1) ∧ (zSt k) = T1 ∧ zW E m_Row_makeEmpty 0 (zSt k) M1 0 [some (.ref 1)] [] (fun q2 T2 M2 => q2 = none ∧ (zSt k) = T2 ∧ Φ (some (.int y1)) (zSt k) M2))) : zW E m_H_wipe 1 (zSt k) M 0 [some (.ref 0), none] [] Φ := by
  refine z_aload_n d_H_wipe_0 rfl ?_
  refine z_getr f_H_14 rfl d_H_wipe_1 (tA_0 k) (tr_0_0 k) ?_
  refine z_callV (as := []) (st := []) i_Row_size ⟨rfl, rfl⟩ v_Row_size w_Row_size l_H_89 d_H_wipe_4 (by decide) (ts_1 k).1 rfl (Nat.le_of_ble_eq_true rfl) (Nat.le_of_ble_eq_true rfl) h (fun q1 T1 M1 h => ?_)
  obtain ⟨y1, rfl, rfl, h⟩ := h
  refine z_istore_n (ls' := [some (.ref 0), some (.int y1)]) d_H_wipe_7 (Nat.le_of_ble_eq_true rfl) rfl rfl ?_
  refine z_aload_n d_H_wipe_8 rfl ?_
  refine z_getr f_H_14 rfl d_H_wipe_9 (tA_0 k) (tr_0_0 k) ?_
  refine z_callV (as := []) (st := []) i_Row_makeEmpty ⟨rfl, rfl⟩ v_Row_makeEmpty w_Row_makeEmpty l_H_93 d_H_wipe_12 (by decide) (ts_1 k).1 rfl (Nat.le_of_ble_eq_true rfl) (Nat.le_of_ble_eq_true rfl) h (fun q2 T2 M2 h => ?_)
  obtain ⟨rfl, rfl, h⟩ := h
  refine z_iload_n d_H_wipe_15 rfl ?_
  exact z_iret rfl d_H_wipe_16 h

set_option maxRecDepth 20000 in
theorem vc_H_fault_0 (E : ZE) (k : Nat) (M : ZM)  (Φ : Option Value → ZS → ZM → Prop)  (h : zW E m_H_firstFault 1 (zSt k) M 0 [some (.ref 0), none, none, none] [] (fun q1 T1 M1 => ∃ y1 : Int32, q1 = some (.int y1) ∧ (zSt k) = T1 ∧ Φ (some (.int y1)) (zSt k) M1)) : zW E m_H_fault 2 (zSt k) M 0 [some (.ref 0)] [] Φ := by
  refine z_aload_n d_H_fault_0 rfl ?_
  refine z_callV (as := []) (st := []) i_H_firstFault ⟨rfl, rfl⟩ v_H_firstFault w_H_firstFault l_H_96 d_H_fault_1 (by decide) (tA_0 k) rfl (Nat.le_of_ble_eq_true rfl) (Nat.le_of_ble_eq_true rfl) h (fun q1 T1 M1 h => ?_)
  obtain ⟨y1, rfl, rfl, h⟩ := h
  exact z_iret rfl d_H_fault_4 h

set_option maxRecDepth 20000 in
theorem vc_H_load_0 (E : ZE) (k : Nat) (M : ZM)  (Φ : Option Value → ZS → ZM → Prop)  (h : zW E m_H_firstFault 1 (zSt k) M 0 [some (.ref 0), none, none, none] [] (fun q1 T1 M1 => ∃ y1 : Int32, q1 = some (.int y1) ∧ (zSt k) = T1 ∧ (y1 = (-6) → zW E m_H_pourPad 1 (zSt k) M1 0 [some (.ref 0), none, none] [] (fun q3 T3 M3 => q3 = none ∧ (zSt k) = T3 ∧ zW E m_H_needsOrRowsChanged 0 (zSt k) M3 0 [some (.ref 0)] [] (fun q4 T4 M4 => q4 = none ∧ (zSt k) = T4 ∧ zW E m_Row_size 0 (zSt k) M4 0 [some (.ref 4)] [] (fun q5 T5 M5 => ∃ y5 : Int32, q5 = some (.int y5) ∧ (zSt k) = T5 ∧ zW E m_Row_size 0 (zSt k) M5 0 [some (.ref 6)] [] (fun q6 T6 M6 => ∃ y6 : Int32, q6 = some (.int y6) ∧ (zSt k) = T6 ∧ Φ (some (.int (y5 + y6))) (zSt k) M6))))) ∧ (¬ y1 = (-6) → Φ (some (.int (-5))) (zSt k) M1))) : zW E m_H_load 2 (zSt k) M 0 [some (.ref 0)] [] Φ := by
  refine z_aload_n d_H_load_0 rfl ?_
  refine z_callV (as := []) (st := []) i_H_firstFault ⟨rfl, rfl⟩ v_H_firstFault w_H_firstFault l_H_96 d_H_load_1 (by decide) (tA_0 k) rfl (Nat.le_of_ble_eq_true rfl) (Nat.le_of_ble_eq_true rfl) h (fun q1 T1 M1 h => ?_)
  obtain ⟨y1, rfl, rfl, h⟩ := h
  refine z_bipush (-6) d_H_load_4 (by decide) ?_
  refine z_icmp_eq 12 d_H_load_6 rfl ⟨fun c2 => ?_, fun c2 => ?_⟩
  · replace h := h.1 c2
    refine z_aload_n d_H_load_12 rfl ?_
    refine z_callV (as := []) (st := []) i_H_pourPad ⟨rfl, rfl⟩ v_H_pourPad w_H_pourPad l_H_99 d_H_load_13 (by decide) (tA_0 k) rfl (Nat.le_of_ble_eq_true rfl) (Nat.le_of_ble_eq_true rfl) h (fun q3 T3 M3 h => ?_)
    obtain ⟨rfl, rfl, h⟩ := h
    refine z_aload_n d_H_load_16 rfl ?_
    refine z_callV (as := []) (st := []) i_H_needsOrRowsChanged ⟨rfl, rfl⟩ v_H_needsOrRowsChanged w_H_needsOrRowsChanged l_H_102 d_H_load_17 (by decide) (tA_0 k) rfl (Nat.le_of_ble_eq_true rfl) (Nat.le_of_ble_eq_true rfl) h (fun q4 T4 M4 h => ?_)
    obtain ⟨rfl, rfl, h⟩ := h
    refine z_aload_n d_H_load_20 rfl ?_
    refine z_getr f_H_21 rfl d_H_load_21 (tA_0 k) (tr_0_1 k) ?_
    refine z_getr f_H_105 rfl d_H_load_24 (tA_3 k) (tr_3_0 k) ?_
    refine z_callV (as := []) (st := []) i_Row_size ⟨rfl, rfl⟩ v_Row_size w_Row_size l_H_89 d_H_load_27 (by decide) (ts_4 k).1 rfl (Nat.le_of_ble_eq_true rfl) (Nat.le_of_ble_eq_true rfl) h (fun q5 T5 M5 h => ?_)
    obtain ⟨y5, rfl, rfl, h⟩ := h
    refine z_aload_n d_H_load_30 rfl ?_
    refine z_getr f_H_21 rfl d_H_load_31 (tA_0 k) (tr_0_1 k) ?_
    refine z_getr f_H_108 rfl d_H_load_34 (tA_3 k) (tr_3_1 k) ?_
    refine z_callV (as := []) (st := [.int y5]) i_Row_size ⟨rfl, rfl⟩ v_Row_size w_Row_size l_H_89 d_H_load_37 (by decide) (ts_6 k).1 rfl (Nat.le_of_ble_eq_true rfl) (Nat.le_of_ble_eq_true rfl) h (fun q6 T6 M6 h => ?_)
    obtain ⟨y6, rfl, rfl, h⟩ := h
    refine z_iadd d_H_load_40 ?_
    exact z_iret rfl d_H_load_41 h
  · replace h := h.2 c2
    refine z_bipush (-5) d_H_load_9 (by decide) ?_
    exact z_iret rfl d_H_load_11 h

set_option maxRecDepth 20000 in
theorem vc_H_leads_0 (E : ZE) (k : Nat) (M : ZM) (x1 : Int32) (x2 : Int32) (x3 : Int32) (Φ : Option Value → ZS → ZM → Prop)  (h : zW E m_H_isState 0 (zSt k) M 0 [some (.int x1)] [] (fun q1 T1 M1 => ∃ y1 : Int32, q1 = some (.int y1) ∧ (zSt k) = T1 ∧ (y1 = 0 → Φ (some (.int (-1))) (zSt k) M1) ∧ (¬ y1 = 0 → zW E m_H_isLetter 0 (zSt k) M1 0 [some (.int x2)] [] (fun q3 T3 M3 => ∃ y3 : Int32, q3 = some (.int y3) ∧ (zSt k) = T3 ∧ (y3 = 0 → Φ (some (.int (-1))) (zSt k) M3) ∧ (¬ y3 = 0 → zW E m_H_isState 0 (zSt k) M3 0 [some (.int x3)] [] (fun q5 T5 M5 => ∃ y5 : Int32, q5 = some (.int y5) ∧ (zSt k) = T5 ∧ (¬ y5 = 0 → zW E m_Machine_after 0 (zSt k) M5 0 [some (.ref 8), some (.int x1), some (.int x2), none] [] (fun q7 T7 M7 => ∃ y7 : Int32, q7 = some (.int y7) ∧ (zSt k) = T7 ∧ zW E m_Machine_turn 0 (zSt k) M7 0 [some (.ref 8), some (.int x1), some (.int x2), some (.int x3), none] [] (fun q8 T8 M8 => q8 = none ∧ (zSt k) = T8 ∧ zW E m_H_machineChanged 1 (zSt k) M8 0 [some (.ref 0)] [] (fun q9 T9 M9 => q9 = none ∧ (zSt k) = T9 ∧ Φ (some (.int y7)) (zSt k) M9)))) ∧ (y5 = 0 → Φ (some (.int (-1))) (zSt k) M5))))))) : zW E m_H_leads 2 (zSt k) M 0 [some (.ref 0), some (.int x1), some (.int x2), some (.int x3), none] [] Φ := by
  refine z_iload_n d_H_leads_0 rfl ?_
  refine z_callS (as := [.int x1]) (st := []) i_H_isState s_H_isState l_H_111 d_H_leads_1 (by decide) rfl (Nat.le_of_ble_eq_true rfl) (Nat.le_of_ble_eq_true rfl) h (fun q1 T1 M1 h => ?_)
  obtain ⟨y1, rfl, rfl, h⟩ := h
  refine z_if_eq 21 d_H_leads_4 rfl ⟨fun c2 => ?_, fun c2 => ?_⟩
  · replace h := h.1 c2
    refine z_iconst (-1) d_H_leads_21 (by decide) ?_
    exact z_iret rfl d_H_leads_22 h
  · replace h := h.2 c2
    refine z_iload_n d_H_leads_7 rfl ?_
    refine z_callS (as := [.int x2]) (st := []) i_H_isLetter s_H_isLetter l_H_114 d_H_leads_8 (by decide) rfl (Nat.le_of_ble_eq_true rfl) (Nat.le_of_ble_eq_true rfl) h (fun q3 T3 M3 h => ?_)
    obtain ⟨y3, rfl, rfl, h⟩ := h
    refine z_if_eq 21 d_H_leads_11 rfl ⟨fun c4 => ?_, fun c4 => ?_⟩
    · replace h := h.1 c4
      refine z_iconst (-1) d_H_leads_21 (by decide) ?_
      exact z_iret rfl d_H_leads_22 h
    · replace h := h.2 c4
      refine z_iload_n d_H_leads_14 rfl ?_
      refine z_callS (as := [.int x3]) (st := []) i_H_isState s_H_isState l_H_111 d_H_leads_15 (by decide) rfl (Nat.le_of_ble_eq_true rfl) (Nat.le_of_ble_eq_true rfl) h (fun q5 T5 M5 h => ?_)
      obtain ⟨y5, rfl, rfl, h⟩ := h
      refine z_if_ne 23 d_H_leads_18 rfl ⟨fun c6 => ?_, fun c6 => ?_⟩
      · replace h := h.1 c6
        refine z_aload_n d_H_leads_23 rfl ?_
        refine z_getr f_H_21 rfl d_H_leads_24 (tA_0 k) (tr_0_1 k) ?_
        refine z_getr f_H_33 rfl d_H_leads_27 (tA_3 k) (tr_3_2 k) ?_
        refine z_iload_n d_H_leads_30 rfl ?_
        refine z_iload_n d_H_leads_31 rfl ?_
        refine z_callV (as := [.int x1, .int x2]) (st := []) i_Machine_after ⟨rfl, rfl⟩ v_Machine_after w_Machine_after l_H_117 d_H_leads_32 (by decide) (tA_8 k) rfl (Nat.le_of_ble_eq_true rfl) (Nat.le_of_ble_eq_true rfl) h (fun q7 T7 M7 h => ?_)
        obtain ⟨y7, rfl, rfl, h⟩ := h
        refine z_istore (ls' := [some (.ref 0), some (.int x1), some (.int x2), some (.int x3), some (.int y7)]) d_H_leads_35 (Nat.le_of_ble_eq_true rfl) rfl rfl ?_
        refine z_aload_n d_H_leads_37 rfl ?_
        refine z_getr f_H_21 rfl d_H_leads_38 (tA_0 k) (tr_0_1 k) ?_
        refine z_getr f_H_33 rfl d_H_leads_41 (tA_3 k) (tr_3_2 k) ?_
        refine z_iload_n d_H_leads_44 rfl ?_
        refine z_iload_n d_H_leads_45 rfl ?_
        refine z_iload_n d_H_leads_46 rfl ?_
        refine z_callV (as := [.int x1, .int x2, .int x3]) (st := []) i_Machine_turn ⟨rfl, rfl⟩ v_Machine_turn w_Machine_turn l_H_123 d_H_leads_47 (by decide) (tA_8 k) rfl (Nat.le_of_ble_eq_true rfl) (Nat.le_of_ble_eq_true rfl) h (fun q8 T8 M8 h => ?_)
        obtain ⟨rfl, rfl, h⟩ := h
        refine z_aload_n d_H_leads_50 rfl ?_
        refine z_callV (as := []) (st := []) i_H_machineChanged ⟨rfl, rfl⟩ v_H_machineChanged w_H_machineChanged l_H_127 d_H_leads_51 (by decide) (tA_0 k) rfl (Nat.le_of_ble_eq_true rfl) (Nat.le_of_ble_eq_true rfl) h (fun q9 T9 M9 h => ?_)
        obtain ⟨rfl, rfl, h⟩ := h
        refine z_iload d_H_leads_54 rfl ?_
        exact z_iret rfl d_H_leads_56 h
      · replace h := h.2 c6
        refine z_iconst (-1) d_H_leads_21 (by decide) ?_
        exact z_iret rfl d_H_leads_22 h

set_option maxRecDepth 20000 in
theorem vc_H_need_0 (E : ZE) (k : Nat) (M : ZM) (x1 : Int32) (x2 : Int32) (x3 : Int32) (Φ : Option Value → ZS → ZM → Prop)  (h : zW E m_H_isVariable 0 (zSt k) M 0 [some (.int x1)] [] (fun q1 T1 M1 => ∃ y1 : Int32, q1 = some (.int y1) ∧ (zSt k) = T1 ∧ (y1 = 0 → Φ (some (.int (-1))) (zSt k) M1) ∧ (¬ y1 = 0 → zW E m_H_isState 0 (zSt k) M1 0 [some (.int x2)] [] (fun q3 T3 M3 => ∃ y3 : Int32, q3 = some (.int y3) ∧ (zSt k) = T3 ∧ (¬ y3 = 0 → (x3 < 0 → Φ (some (.int (-2))) (zSt k) M3) ∧ (¬ x3 < 0 → (x3 ≤ 7 → zW E m_Need_ofVariable 0 (zSt k) M3 0 [some (.int (M3 3 4)), some (.int x1)] [] (fun q7 T7 M7 => ∃ y7 : Int32, q7 = some (.int y7) ∧ (zSt k) = T7 ∧ zW E m_Need_ofState 0 (zSt k) M7 0 [some (.int y7), some (.int x2)] [] (fun q8 T8 M8 => ∃ y8 : Int32, q8 = some (.int y8) ∧ (zSt k) = T8 ∧ zW E m_Need_withState 0 (zSt k) M8 0 [some (.int (M8 3 4)), some (.int x1), some (.int x2), some (.int x3), none] [] (fun q9 T9 M9 => ∃ y9 : Int32, q9 = some (.int y9) ∧ (zSt k) = T9 ∧ ∀ M10 : ZM, M10 = zms M9 3 4 y9 → zW E m_H_needsOrRowsChanged 0 (zSt k) M10 0 [some (.ref 0)] [] (fun q11 T11 M11 => q11 = none ∧ (zSt k) = T11 ∧ Φ (some (.int y8)) (zSt k) M11))))) ∧ (¬ x3 ≤ 7 → Φ (some (.int (-2))) (zSt k) M3))) ∧ (y3 = 0 → Φ (some (.int (-1))) (zSt k) M3))))) : zW E m_H_need 1 (zSt k) M 0 [some (.ref 0), some (.int x1), some (.int x2), some (.int x3), none] [] Φ := by
  refine z_iload_n d_H_need_0 rfl ?_
  refine z_callS (as := [.int x1]) (st := []) i_H_isVariable s_H_isVariable l_H_130 d_H_need_1 (by decide) rfl (Nat.le_of_ble_eq_true rfl) (Nat.le_of_ble_eq_true rfl) h (fun q1 T1 M1 h => ?_)
  obtain ⟨y1, rfl, rfl, h⟩ := h
  refine z_if_eq 14 d_H_need_4 rfl ⟨fun c2 => ?_, fun c2 => ?_⟩
  · replace h := h.1 c2
    refine z_iconst (-1) d_H_need_14 (by decide) ?_
    exact z_iret rfl d_H_need_15 h
  · replace h := h.2 c2
    refine z_iload_n d_H_need_7 rfl ?_
    refine z_callS (as := [.int x2]) (st := []) i_H_isState s_H_isState l_H_111 d_H_need_8 (by decide) rfl (Nat.le_of_ble_eq_true rfl) (Nat.le_of_ble_eq_true rfl) h (fun q3 T3 M3 h => ?_)
    obtain ⟨y3, rfl, rfl, h⟩ := h
    refine z_if_ne 16 d_H_need_11 rfl ⟨fun c4 => ?_, fun c4 => ?_⟩
    · replace h := h.1 c4
      refine z_iload_n d_H_need_16 rfl ?_
      refine z_if_lt 26 d_H_need_17 rfl ⟨fun c5 => ?_, fun c5 => ?_⟩
      · replace h := h.1 c5
        refine z_bipush (-2) d_H_need_26 (by decide) ?_
        exact z_iret rfl d_H_need_28 h
      · replace h := h.2 c5
        refine z_iload_n d_H_need_20 rfl ?_
        refine z_bipush 7 d_H_need_21 (by decide) ?_
        refine z_icmp_le 29 d_H_need_23 rfl ⟨fun c6 => ?_, fun c6 => ?_⟩
        · replace h := h.1 c6
          refine z_aload_n d_H_need_29 rfl ?_
          refine z_getr f_H_21 rfl d_H_need_30 (tA_0 k) (tr_0_1 k) ?_
          refine z_geti f_H_135 rfl d_H_need_33 (tA_3 k) ?_
          refine z_iload_n d_H_need_36 rfl ?_
          refine z_callS (as := [.int (M3 3 4), .int x1]) (st := []) i_Need_ofVariable s_Need_ofVariable l_H_139 d_H_need_37 (by decide) rfl (Nat.le_of_ble_eq_true rfl) (Nat.le_of_ble_eq_true rfl) h (fun q7 T7 M7 h => ?_)
          obtain ⟨y7, rfl, rfl, h⟩ := h
          refine z_iload_n d_H_need_40 rfl ?_
          refine z_callS (as := [.int y7, .int x2]) (st := []) i_Need_ofState s_Need_ofState l_H_142 d_H_need_41 (by decide) rfl (Nat.le_of_ble_eq_true rfl) (Nat.le_of_ble_eq_true rfl) h (fun q8 T8 M8 h => ?_)
          obtain ⟨y8, rfl, rfl, h⟩ := h
          refine z_istore (ls' := [some (.ref 0), some (.int x1), some (.int x2), some (.int x3), some (.int y8)]) d_H_need_44 (Nat.le_of_ble_eq_true rfl) rfl rfl ?_
          refine z_aload_n d_H_need_46 rfl ?_
          refine z_getr f_H_21 rfl d_H_need_47 (tA_0 k) (tr_0_1 k) ?_
          refine z_aload_n d_H_need_50 rfl ?_
          refine z_getr f_H_21 rfl d_H_need_51 (tA_0 k) (tr_0_1 k) ?_
          refine z_geti f_H_135 rfl d_H_need_54 (tA_3 k) ?_
          refine z_iload_n d_H_need_57 rfl ?_
          refine z_iload_n d_H_need_58 rfl ?_
          refine z_iload_n d_H_need_59 rfl ?_
          refine z_callS (as := [.int (M8 3 4), .int x1, .int x2, .int x3]) (st := [.ref 3]) i_Need_withState s_Need_withState l_H_145 d_H_need_60 (by decide) rfl (Nat.le_of_ble_eq_true rfl) (Nat.le_of_ble_eq_true rfl) h (fun q9 T9 M9 h => ?_)
          obtain ⟨y9, rfl, rfl, h⟩ := h
          refine z_puti (p_H_135 rfl) rfl d_H_need_63 (tA_3 k) rfl rfl ?_
          refine z_mem (fun M10 eM10 => ?_)
          replace h := h M10 eM10
          refine z_aload_n d_H_need_66 rfl ?_
          refine z_callV (as := []) (st := []) i_H_needsOrRowsChanged ⟨rfl, rfl⟩ v_H_needsOrRowsChanged w_H_needsOrRowsChanged l_H_102 d_H_need_67 (by decide) (tA_0 k) rfl (Nat.le_of_ble_eq_true rfl) (Nat.le_of_ble_eq_true rfl) h (fun q11 T11 M11 h => ?_)
          obtain ⟨rfl, rfl, h⟩ := h
          refine z_iload d_H_need_70 rfl ?_
          exact z_iret rfl d_H_need_72 h
        · replace h := h.2 c6
          refine z_bipush (-2) d_H_need_26 (by decide) ?_
          exact z_iret rfl d_H_need_28 h
    · replace h := h.2 c4
      refine z_iconst (-1) d_H_need_14 (by decide) ?_
      exact z_iret rfl d_H_need_15 h

set_option maxRecDepth 20000 in
theorem vc_H_brief_0 (E : ZE) (k : Nat) (M : ZM) (x1 : Int32) (x2 : Int32) (Φ : Option Value → ZS → ZM → Prop)  (h : zW E m_H_isVariable 0 (zSt k) M 0 [some (.int x1)] [] (fun q1 T1 M1 => ∃ y1 : Int32, q1 = some (.int y1) ∧ (zSt k) = T1 ∧ (¬ y1 = 0 → zW E m_Shorts_refresh 2 (zSt k) M1 0 [some (.ref 45), none, none] [] (fun q3 T3 M3 => q3 = none ∧ (zSt k) = T3 ∧ zW E m_Need_ofVariable 0 (zSt k) M3 0 [some (.int (M3 3 4)), some (.int x1)] [] (fun q4 T4 M4 => ∃ y4 : Int32, q4 = some (.int y4) ∧ (zSt k) = T4 ∧ zW E m_Shorts_firstFit 1 (zSt k) M4 0 [some (.ref 45), some (.int y4), none, none] [] (fun q5 T5 M5 => ∃ y5 : Int32, q5 = some (.int y5) ∧ (zSt k) = T5 ∧ (¬ y5 = (-6) → zW E m_Shorts_write 2 (zSt k) M5 0 [some (.ref 45), some (.int y5), some (.ref 81), none, none] [] (fun q7 T7 M7 => q7 = none ∧ (zSt k) = T7 ∧ zW E m_H_sizeOrItem 1 (zSt k) M7 0 [some (.ref 81), some (.int x2)] [] (fun q8 T8 M8 => ∃ y8 : Int32, q8 = some (.int y8) ∧ (zSt k) = T8 ∧ Φ (some (.int y8)) (zSt k) M8))) ∧ (y5 = (-6) → Φ (some (.int (-6))) (zSt k) M5))))) ∧ (y1 = 0 → Φ (some (.int (-1))) (zSt k) M1))) : zW E m_H_brief 3 (zSt k) M 0 [some (.ref 0), some (.int x1), some (.int x2), none] [] Φ := by
  refine z_iload_n d_H_brief_0 rfl ?_
  refine z_callS (as := [.int x1]) (st := []) i_H_isVariable s_H_isVariable l_H_130 d_H_brief_1 (by decide) rfl (Nat.le_of_ble_eq_true rfl) (Nat.le_of_ble_eq_true rfl) h (fun q1 T1 M1 h => ?_)
  obtain ⟨y1, rfl, rfl, h⟩ := h
  refine z_if_ne 9 d_H_brief_4 rfl ⟨fun c2 => ?_, fun c2 => ?_⟩
  · replace h := h.1 c2
    refine z_aload_n d_H_brief_9 rfl ?_
    refine z_getr f_H_40 rfl d_H_brief_10 (tA_0 k) (tr_0_4 k) ?_
    refine z_callV (as := []) (st := []) i_Shorts_refresh ⟨rfl, rfl⟩ v_Shorts_refresh w_Shorts_refresh l_H_149 d_H_brief_13 (by decide) (tA_45 k) rfl (Nat.le_of_ble_eq_true rfl) (Nat.le_of_ble_eq_true rfl) h (fun q3 T3 M3 h => ?_)
    obtain ⟨rfl, rfl, h⟩ := h
    refine z_aload_n d_H_brief_16 rfl ?_
    refine z_getr f_H_40 rfl d_H_brief_17 (tA_0 k) (tr_0_4 k) ?_
    refine z_aload_n d_H_brief_20 rfl ?_
    refine z_getr f_H_21 rfl d_H_brief_21 (tA_0 k) (tr_0_1 k) ?_
    refine z_geti f_H_135 rfl d_H_brief_24 (tA_3 k) ?_
    refine z_iload_n d_H_brief_27 rfl ?_
    refine z_callS (as := [.int (M3 3 4), .int x1]) (st := [.ref 45]) i_Need_ofVariable s_Need_ofVariable l_H_139 d_H_brief_28 (by decide) rfl (Nat.le_of_ble_eq_true rfl) (Nat.le_of_ble_eq_true rfl) h (fun q4 T4 M4 h => ?_)
    obtain ⟨y4, rfl, rfl, h⟩ := h
    refine z_callV (as := [.int y4]) (st := []) i_Shorts_firstFit ⟨rfl, rfl⟩ v_Shorts_firstFit w_Shorts_firstFit l_H_152 d_H_brief_31 (by decide) (tA_45 k) rfl (Nat.le_of_ble_eq_true rfl) (Nat.le_of_ble_eq_true rfl) h (fun q5 T5 M5 h => ?_)
    obtain ⟨y5, rfl, rfl, h⟩ := h
    refine z_istore_n (ls' := [some (.ref 0), some (.int x1), some (.int x2), some (.int y5)]) d_H_brief_34 (Nat.le_of_ble_eq_true rfl) rfl rfl ?_
    refine z_iload_n d_H_brief_35 rfl ?_
    refine z_bipush (-6) d_H_brief_36 (by decide) ?_
    refine z_icmp_ne 44 d_H_brief_38 rfl ⟨fun c6 => ?_, fun c6 => ?_⟩
    · replace h := h.1 c6
      refine z_aload_n d_H_brief_44 rfl ?_
      refine z_getr f_H_40 rfl d_H_brief_45 (tA_0 k) (tr_0_4 k) ?_
      refine z_iload_n d_H_brief_48 rfl ?_
      refine z_aload_n d_H_brief_49 rfl ?_
      refine z_getr f_H_82 rfl d_H_brief_50 (tA_0 k) (tr_0_11 k) ?_
      refine z_callV (as := [.int y5, .ref 81]) (st := []) i_Shorts_write ⟨rfl, rfl⟩ v_Shorts_write w_Shorts_write l_H_156 d_H_brief_53 (by decide) (tA_45 k) rfl (Nat.le_of_ble_eq_true rfl) (Nat.le_of_ble_eq_true rfl) h (fun q7 T7 M7 h => ?_)
      obtain ⟨rfl, rfl, h⟩ := h
      refine z_aload_n d_H_brief_56 rfl ?_
      refine z_getr f_H_82 rfl d_H_brief_57 (tA_0 k) (tr_0_11 k) ?_
      refine z_iload_n d_H_brief_60 rfl ?_
      refine z_callS (as := [.ref 81, .int x2]) (st := []) i_H_sizeOrItem s_H_sizeOrItem l_H_160 d_H_brief_61 (by decide) rfl (Nat.le_of_ble_eq_true rfl) (Nat.le_of_ble_eq_true rfl) h (fun q8 T8 M8 h => ?_)
      obtain ⟨y8, rfl, rfl, h⟩ := h
      exact z_iret rfl d_H_brief_64 h
    · replace h := h.2 c6
      refine z_bipush (-6) d_H_brief_41 (by decide) ?_
      exact z_iret rfl d_H_brief_43 h
  · replace h := h.2 c2
    refine z_iconst (-1) d_H_brief_7 (by decide) ?_
    exact z_iret rfl d_H_brief_8 h

set_option maxRecDepth 20000 in
theorem vc_H_net_0 (E : ZE) (k : Nat) (M : ZM) (x1 : Int32) (Φ : Option Value → ZS → ZM → Prop)  (h : (x1 < 0 → Φ (some (.int (-2))) (zSt k) M) ∧ (¬ x1 < 0 → (x1 ≤ 5 → (¬ x1 = 5 → zW E m_H_refreshNet 6 (zSt k) M 0 [some (.ref 0), none] [] (fun q4 T4 M4 => ∃ k4 : Nat, q4 = none ∧ (zSt k4) = T4 ∧ (Int32.toInt x1 < 0 ∨ 3 < Int32.toInt x1 → Φ (some (.int (M4 50 12))) (zSt k4) M4) ∧ (Int32.toInt x1 = 0 → Φ (some (.int (M4 50 9))) (zSt k4) M4) ∧ (Int32.toInt x1 = 1 → zW E m_Net_verdict 0 (zSt k4) M4 0 [some (.ref 50)] [] (fun q6 T6 M6 => ∃ y6 : Int32, q6 = some (.int y6) ∧ (zSt k4) = T6 ∧ Φ (some (.int y6)) (zSt k4) M6)) ∧ (Int32.toInt x1 = 2 → Φ (some (.int (M4 50 10))) (zSt k4) M4) ∧ (Int32.toInt x1 = 3 → Φ (some (.int (M4 50 11))) (zSt k4) M4))) ∧ (x1 = 5 → zW E m_Tally_count 2 (zSt k) M 0 [some (.ref 74), some (.ref 3)] [] (fun q7 T7 M7 => q7 = none ∧ (zSt k) = T7 ∧ zW E m_Tally_mostOfAVariable 1 (zSt k) M7 0 [some (.ref 74)] [] (fun q8 T8 M8 => ∃ y8 : Int32, q8 = some (.int y8) ∧ (zSt k) = T8 ∧ Φ (some (.int y8)) (zSt k) M8)))) ∧ (¬ x1 ≤ 5 → Φ (some (.int (-2))) (zSt k) M))) : zW E m_H_net 7 (zSt k) M 0 [some (.ref 0), some (.int x1)] [] Φ := by
  refine z_iload_n d_H_net_0 rfl ?_
  refine z_if_lt 9 d_H_net_1 rfl ⟨fun c1 => ?_, fun c1 => ?_⟩
  · replace h := h.1 c1
    refine z_bipush (-2) d_H_net_9 (by decide) ?_
    exact z_iret rfl d_H_net_11 h
  · replace h := h.2 c1
    refine z_iload_n d_H_net_4 rfl ?_
    refine z_iconst 5 d_H_net_5 (by decide) ?_
    refine z_icmp_le 12 d_H_net_6 rfl ⟨fun c2 => ?_, fun c2 => ?_⟩
    · replace h := h.1 c2
      refine z_iload_n d_H_net_12 rfl ?_
      refine z_iconst 5 d_H_net_13 (by decide) ?_
      refine z_icmp_ne 36 d_H_net_14 rfl ⟨fun c3 => ?_, fun c3 => ?_⟩
      · replace h := h.1 c3
        refine z_aload_n d_H_net_36 rfl ?_
        refine z_callV (as := []) (st := []) i_H_refreshNet ⟨rfl, rfl⟩ v_H_refreshNet w_H_refreshNet l_H_171 d_H_net_37 (by decide) (tA_0 k) rfl (Nat.le_of_ble_eq_true rfl) (Nat.le_of_ble_eq_true rfl) h (fun q4 T4 M4 h => ?_)
        obtain ⟨k4, rfl, rfl, h⟩ := h
        refine z_iload_n d_H_net_40 rfl ?_
        by_cases c5 : Int32.toInt x1 < 0 ∨ 3 < Int32.toInt x1
        · replace h := h.1 c5
          refine z_tswOut 104 d_H_net_41 c5 rfl ?_
          refine z_aload_n d_H_net_104 rfl ?_
          refine z_getr f_H_49 rfl d_H_net_105 (tA_0 k4) (tr_0_5 k4) ?_
          refine z_geti f_H_185 rfl d_H_net_108 (tA_50 k4) ?_
          exact z_iret rfl d_H_net_111 h
        · replace h := h.2
          rcases (show Int32.toInt x1 = 0 ∨ Int32.toInt x1 = 1 ∨ Int32.toInt x1 = 2 ∨ Int32.toInt x1 = 3 by omega) with c5e | c5e | c5e | c5e
          · replace h := h.1 c5e
            refine z_tswIn 72 d_H_net_41 (by omega) (by omega) (by rw [c5e]; rfl) rfl ?_
            refine z_aload_n d_H_net_72 rfl ?_
            refine z_getr f_H_49 rfl d_H_net_73 (tA_0 k4) (tr_0_5 k4) ?_
            refine z_geti f_H_174 rfl d_H_net_76 (tA_50 k4) ?_
            exact z_iret rfl d_H_net_79 h
          · replace h := h.2.1 c5e
            refine z_tswIn 80 d_H_net_41 (by omega) (by omega) (by rw [c5e]; rfl) rfl ?_
            refine z_aload_n d_H_net_80 rfl ?_
            refine z_getr f_H_49 rfl d_H_net_81 (tA_0 k4) (tr_0_5 k4) ?_
            refine z_callV (as := []) (st := []) i_Net_verdict ⟨rfl, rfl⟩ v_Net_verdict w_Net_verdict l_H_176 d_H_net_84 (by decide) (tA_50 k4) rfl (Nat.le_of_ble_eq_true rfl) (Nat.le_of_ble_eq_true rfl) h (fun q6 T6 M6 h => ?_)
            obtain ⟨y6, rfl, rfl, h⟩ := h
            exact z_iret rfl d_H_net_87 h
          · replace h := h.2.2.1 c5e
            refine z_tswIn 88 d_H_net_41 (by omega) (by omega) (by rw [c5e]; rfl) rfl ?_
            refine z_aload_n d_H_net_88 rfl ?_
            refine z_getr f_H_49 rfl d_H_net_89 (tA_0 k4) (tr_0_5 k4) ?_
            refine z_geti f_H_179 rfl d_H_net_92 (tA_50 k4) ?_
            exact z_iret rfl d_H_net_95 h
          · replace h := h.2.2.2 c5e
            refine z_tswIn 96 d_H_net_41 (by omega) (by omega) (by rw [c5e]; rfl) rfl ?_
            refine z_aload_n d_H_net_96 rfl ?_
            refine z_getr f_H_49 rfl d_H_net_97 (tA_0 k4) (tr_0_5 k4) ?_
            refine z_geti f_H_182 rfl d_H_net_100 (tA_50 k4) ?_
            exact z_iret rfl d_H_net_103 h
      · replace h := h.2 c3
        refine z_aload_n d_H_net_17 rfl ?_
        refine z_getr f_H_72 rfl d_H_net_18 (tA_0 k) (tr_0_8 k) ?_
        refine z_aload_n d_H_net_21 rfl ?_
        refine z_getr f_H_21 rfl d_H_net_22 (tA_0 k) (tr_0_1 k) ?_
        refine z_callV (as := [.ref 3]) (st := []) i_Tally_count ⟨rfl, rfl⟩ v_Tally_count w_Tally_count l_H_164 d_H_net_25 (by decide) (tA_74 k) rfl (Nat.le_of_ble_eq_true rfl) (Nat.le_of_ble_eq_true rfl) h (fun q7 T7 M7 h => ?_)
        obtain ⟨rfl, rfl, h⟩ := h
        refine z_aload_n d_H_net_28 rfl ?_
        refine z_getr f_H_72 rfl d_H_net_29 (tA_0 k) (tr_0_8 k) ?_
        refine z_callV (as := []) (st := []) i_Tally_mostOfAVariable ⟨rfl, rfl⟩ v_Tally_mostOfAVariable w_Tally_mostOfAVariable l_H_168 d_H_net_32 (by decide) (tA_74 k) rfl (Nat.le_of_ble_eq_true rfl) (Nat.le_of_ble_eq_true rfl) h (fun q8 T8 M8 h => ?_)
        obtain ⟨y8, rfl, rfl, h⟩ := h
        exact z_iret rfl d_H_net_35 h
    · replace h := h.2 c2
      refine z_bipush (-2) d_H_net_9 (by decide) ?_
      exact z_iret rfl d_H_net_11 h

set_option maxRecDepth 20000 in
theorem vc_H_node_0 (E : ZE) (k : Nat) (M : ZM) (x1 : Int32) (x2 : Int32) (Φ : Option Value → ZS → ZM → Prop)  (h : zW E m_H_refreshNet 6 (zSt k) M 0 [some (.ref 0), none] [] (fun q1 T1 M1 => ∃ k1 : Nat, q1 = none ∧ (zSt k1) = T1 ∧ zW E m_Net_at 0 (zSt k1) M1 0 [some (.ref 50), some (.int x1)] [] (fun q2 T2 M2 => ∃ o2 : Option Nat, q2 = some (va_rf o2) ∧ (zSt k1) = T2 ∧ (o2 = none → Φ (some (.int (-1))) (zSt k1) M2) ∧ (∀ b2 : Nat, o2 = some b2 → zNode (zSt k1) b2 ∧ ((Int32.toInt x2 < 0 ∨ 6 < Int32.toInt x2 → Φ (some (.int (-2))) (zSt k1) M2) ∧ (Int32.toInt x2 = 0 → zW E m_Row_size 0 (zSt k1) M2 0 [some (.ref (b2 + 1))] [] (fun q4 T4 M4 => ∃ y4 : Int32, q4 = some (.int y4) ∧ (zSt k1) = T4 ∧ Φ (some (.int y4)) (zSt k1) M4)) ∧ (Int32.toInt x2 = 1 → zW E m_Row_size 0 (zSt k1) M2 0 [some (.ref (b2 + 3))] [] (fun q5 T5 M5 => ∃ y5 : Int32, q5 = some (.int y5) ∧ (zSt k1) = T5 ∧ Φ (some (.int y5)) (zSt k1) M5)) ∧ (Int32.toInt x2 = 2 → Φ (some (.int (M2 b2 6))) (zSt k1) M2) ∧ (Int32.toInt x2 = 3 → Φ (some (.int (M2 b2 7))) (zSt k1) M2) ∧ (Int32.toInt x2 = 4 → Φ (some (.int (M2 b2 8))) (zSt k1) M2) ∧ (Int32.toInt x2 = 5 → zW E m_Row_size 0 (zSt k1) M2 0 [some (.ref (b2 + 5))] [] (fun q6 T6 M6 => ∃ y6 : Int32, q6 = some (.int y6) ∧ (zSt k1) = T6 ∧ Φ (some (.int y6)) (zSt k1) M6)) ∧ (Int32.toInt x2 = 6 → ((M2 b2 10) = 0 → Φ (some (.int 0)) (zSt k1) M2) ∧ (¬ (M2 b2 10) = 0 → Φ (some (.int 1)) (zSt k1) M2))))))) : zW E m_H_node 7 (zSt k) M 0 [some (.ref 0), some (.int x1), some (.int x2), none] [] Φ := by
  refine z_aload_n d_H_node_0 rfl ?_
  refine z_callV (as := []) (st := []) i_H_refreshNet ⟨rfl, rfl⟩ v_H_refreshNet w_H_refreshNet l_H_171 d_H_node_1 (by decide) (tA_0 k) rfl (Nat.le_of_ble_eq_true rfl) (Nat.le_of_ble_eq_true rfl) h (fun q1 T1 M1 h => ?_)
  obtain ⟨k1, rfl, rfl, h⟩ := h
  refine z_aload_n d_H_node_4 rfl ?_
  refine z_getr f_H_49 rfl d_H_node_5 (tA_0 k1) (tr_0_5 k1) ?_
  refine z_iload_n d_H_node_8 rfl ?_
  refine z_callV (as := [.int x1]) (st := []) i_Net_at ⟨rfl, rfl⟩ v_Net_at w_Net_at l_H_188 d_H_node_9 (by decide) (tA_50 k1) rfl (Nat.le_of_ble_eq_true rfl) (Nat.le_of_ble_eq_true rfl) h (fun q2 T2 M2 h => ?_)
  obtain ⟨o2, rfl, rfl, h⟩ := h
  cases o2 with
  | none =>
    replace h := h.1 rfl
    refine z_astore_nN (ls' := [some (.ref 0), some (.int x1), some (.int x2), some .null]) d_H_node_12 (Nat.le_of_ble_eq_true rfl) rfl rfl ?_
    refine z_aload_nN d_H_node_13 rfl ?_
    refine z_ifnonnullN d_H_node_14 ?_
    refine z_iconst (-1) d_H_node_17 (by decide) ?_
    exact z_iret rfl d_H_node_18 h
  | some b2 =>
    obtain ⟨zb2, h⟩ := h.2 b2 rfl
    refine z_astore_n (ls' := [some (.ref 0), some (.int x1), some (.int x2), some (.ref b2)]) d_H_node_12 (Nat.le_of_ble_eq_true rfl) rfl rfl ?_
    refine z_aload_n d_H_node_13 rfl ?_
    refine z_ifnonnull 19 d_H_node_14 rfl ?_
    refine z_iload_n d_H_node_19 rfl ?_
    by_cases c3 : Int32.toInt x2 < 0 ∨ 6 < Int32.toInt x2
    · replace h := h.1 c3
      refine z_tswOut 116 d_H_node_20 c3 rfl ?_
      refine z_bipush (-2) d_H_node_116 (by decide) ?_
      exact z_iret rfl d_H_node_118 h
    · replace h := h.2
      rcases (show Int32.toInt x2 = 0 ∨ Int32.toInt x2 = 1 ∨ Int32.toInt x2 = 2 ∨ Int32.toInt x2 = 3 ∨ Int32.toInt x2 = 4 ∨ Int32.toInt x2 = 5 ∨ Int32.toInt x2 = 6 by omega) with c3e | c3e | c3e | c3e | c3e | c3e | c3e
      · replace h := h.1 c3e
        refine z_tswIn 64 d_H_node_20 (by omega) (by omega) (by rw [c3e]; rfl) rfl ?_
        refine z_aload_n d_H_node_64 rfl ?_
        refine z_getr f_H_192 rfl d_H_node_65 zb2.1 zb2.2.1.1 ?_
        refine z_callV (as := []) (st := []) i_Row_size ⟨rfl, rfl⟩ v_Row_size w_Row_size l_H_89 d_H_node_68 (by decide) zb2.2.1.2.1 rfl (Nat.le_of_ble_eq_true rfl) (Nat.le_of_ble_eq_true rfl) h (fun q4 T4 M4 h => ?_)
        obtain ⟨y4, rfl, rfl, h⟩ := h
        exact z_iret rfl d_H_node_71 h
      · replace h := h.2.1 c3e
        refine z_tswIn 72 d_H_node_20 (by omega) (by omega) (by rw [c3e]; rfl) rfl ?_
        refine z_aload_n d_H_node_72 rfl ?_
        refine z_getr f_H_195 rfl d_H_node_73 zb2.1 zb2.2.2.1.1 ?_
        refine z_callV (as := []) (st := []) i_Row_size ⟨rfl, rfl⟩ v_Row_size w_Row_size l_H_89 d_H_node_76 (by decide) zb2.2.2.1.2.1 rfl (Nat.le_of_ble_eq_true rfl) (Nat.le_of_ble_eq_true rfl) h (fun q5 T5 M5 h => ?_)
        obtain ⟨y5, rfl, rfl, h⟩ := h
        exact z_iret rfl d_H_node_79 h
      · replace h := h.2.2.1 c3e
        refine z_tswIn 80 d_H_node_20 (by omega) (by omega) (by rw [c3e]; rfl) rfl ?_
        refine z_aload_n d_H_node_80 rfl ?_
        refine z_geti f_H_196 rfl d_H_node_81 zb2.1 ?_
        exact z_iret rfl d_H_node_84 h
      · replace h := h.2.2.2.1 c3e
        refine z_tswIn 85 d_H_node_20 (by omega) (by omega) (by rw [c3e]; rfl) rfl ?_
        refine z_aload_n d_H_node_85 rfl ?_
        refine z_geti f_H_199 rfl d_H_node_86 zb2.1 ?_
        exact z_iret rfl d_H_node_89 h
      · replace h := h.2.2.2.2.1 c3e
        refine z_tswIn 90 d_H_node_20 (by omega) (by omega) (by rw [c3e]; rfl) rfl ?_
        refine z_aload_n d_H_node_90 rfl ?_
        refine z_geti f_H_202 rfl d_H_node_91 zb2.1 ?_
        exact z_iret rfl d_H_node_94 h
      · replace h := h.2.2.2.2.2.1 c3e
        refine z_tswIn 95 d_H_node_20 (by omega) (by omega) (by rw [c3e]; rfl) rfl ?_
        refine z_aload_n d_H_node_95 rfl ?_
        refine z_getr f_H_205 rfl d_H_node_96 zb2.1 zb2.2.2.2.1.1 ?_
        refine z_callV (as := []) (st := []) i_Row_size ⟨rfl, rfl⟩ v_Row_size w_Row_size l_H_89 d_H_node_99 (by decide) zb2.2.2.2.1.2.1 rfl (Nat.le_of_ble_eq_true rfl) (Nat.le_of_ble_eq_true rfl) h (fun q6 T6 M6 h => ?_)
        obtain ⟨y6, rfl, rfl, h⟩ := h
        exact z_iret rfl d_H_node_102 h
      · replace h := h.2.2.2.2.2.2 c3e
        refine z_tswIn 103 d_H_node_20 (by omega) (by omega) (by rw [c3e]; rfl) rfl ?_
        refine z_aload_n d_H_node_103 rfl ?_
        refine z_geti f_H_208 rfl d_H_node_104 zb2.1 ?_
        refine z_if_eq 114 d_H_node_107 rfl ⟨fun c7 => ?_, fun c7 => ?_⟩
        · replace h := h.1 c7
          refine z_iconst 0 d_H_node_114 (by decide) ?_
          exact z_iret rfl d_H_node_115 h
        · replace h := h.2 c7
          refine z_iconst 1 d_H_node_110 (by decide) ?_
          refine z_goto 115 d_H_node_111 rfl ?_
          exact z_iret rfl d_H_node_115 h

set_option maxRecDepth 20000 in
theorem vc_H_symbol_0 (E : ZE) (k : Nat) (M : ZM) (x1 : Int32) (x2 : Int32) (x3 : Int32) (Φ : Option Value → ZS → ZM → Prop)  (h : zW E m_H_refreshNet 6 (zSt k) M 0 [some (.ref 0), none] [] (fun q1 T1 M1 => ∃ k1 : Nat, q1 = none ∧ (zSt k1) = T1 ∧ zW E m_Net_at 0 (zSt k1) M1 0 [some (.ref 50), some (.int x1)] [] (fun q2 T2 M2 => ∃ o2 : Option Nat, q2 = some (va_rf o2) ∧ (zSt k1) = T2 ∧ (o2 = none → Φ (some (.int (-1))) (zSt k1) M2) ∧ (∀ b2 : Nat, o2 = some b2 → zNode (zSt k1) b2 ∧ ((x2 < 0 → Φ (some (.int (-2))) (zSt k1) M2) ∧ (¬ x2 < 0 → (x2 ≤ 1 → (¬ x2 = 0 → zW E m_Row_at 0 (zSt k1) M2 0 [some (.ref (b2 + 3)), some (.int x3)] [] (fun q6 T6 M6 => ∃ y6 : Int32, q6 = some (.int y6) ∧ (zSt k1) = T6 ∧ Φ (some (.int y6)) (zSt k1) M6)) ∧ (x2 = 0 → zW E m_Row_at 0 (zSt k1) M2 0 [some (.ref (b2 + 1)), some (.int x3)] [] (fun q7 T7 M7 => ∃ y7 : Int32, q7 = some (.int y7) ∧ (zSt k1) = T7 ∧ Φ (some (.int y7)) (zSt k1) M7))) ∧ (¬ x2 ≤ 1 → Φ (some (.int (-2))) (zSt k1) M2))))))) : zW E m_H_symbol 7 (zSt k) M 0 [some (.ref 0), some (.int x1), some (.int x2), some (.int x3), none] [] Φ := by
  refine z_aload_n d_H_symbol_0 rfl ?_
  refine z_callV (as := []) (st := []) i_H_refreshNet ⟨rfl, rfl⟩ v_H_refreshNet w_H_refreshNet l_H_171 d_H_symbol_1 (by decide) (tA_0 k) rfl (Nat.le_of_ble_eq_true rfl) (Nat.le_of_ble_eq_true rfl) h (fun q1 T1 M1 h => ?_)
  obtain ⟨k1, rfl, rfl, h⟩ := h
  refine z_aload_n d_H_symbol_4 rfl ?_
  refine z_getr f_H_49 rfl d_H_symbol_5 (tA_0 k1) (tr_0_5 k1) ?_
  refine z_iload_n d_H_symbol_8 rfl ?_
  refine z_callV (as := [.int x1]) (st := []) i_Net_at ⟨rfl, rfl⟩ v_Net_at w_Net_at l_H_188 d_H_symbol_9 (by decide) (tA_50 k1) rfl (Nat.le_of_ble_eq_true rfl) (Nat.le_of_ble_eq_true rfl) h (fun q2 T2 M2 h => ?_)
  obtain ⟨o2, rfl, rfl, h⟩ := h
  cases o2 with
  | none =>
    replace h := h.1 rfl
    refine z_astoreN (ls' := [some (.ref 0), some (.int x1), some (.int x2), some (.int x3), some .null]) d_H_symbol_12 (Nat.le_of_ble_eq_true rfl) rfl rfl ?_
    refine z_aloadN d_H_symbol_14 rfl ?_
    refine z_ifnonnullN d_H_symbol_16 ?_
    refine z_iconst (-1) d_H_symbol_19 (by decide) ?_
    exact z_iret rfl d_H_symbol_20 h
  | some b2 =>
    obtain ⟨zb2, h⟩ := h.2 b2 rfl
    refine z_astore (ls' := [some (.ref 0), some (.int x1), some (.int x2), some (.int x3), some (.ref b2)]) d_H_symbol_12 (Nat.le_of_ble_eq_true rfl) rfl rfl ?_
    refine z_aload d_H_symbol_14 rfl ?_
    refine z_ifnonnull 21 d_H_symbol_16 rfl ?_
    refine z_iload_n d_H_symbol_21 rfl ?_
    refine z_if_lt 30 d_H_symbol_22 rfl ⟨fun c3 => ?_, fun c3 => ?_⟩
    · replace h := h.1 c3
      refine z_bipush (-2) d_H_symbol_30 (by decide) ?_
      exact z_iret rfl d_H_symbol_32 h
    · replace h := h.2 c3
      refine z_iload_n d_H_symbol_25 rfl ?_
      refine z_iconst 1 d_H_symbol_26 (by decide) ?_
      refine z_icmp_le 33 d_H_symbol_27 rfl ⟨fun c4 => ?_, fun c4 => ?_⟩
      · replace h := h.1 c4
        refine z_iload_n d_H_symbol_33 rfl ?_
        refine z_if_ne 49 d_H_symbol_34 rfl ⟨fun c5 => ?_, fun c5 => ?_⟩
        · replace h := h.1 c5
          refine z_aload d_H_symbol_49 rfl ?_
          refine z_getr f_H_195 rfl d_H_symbol_51 zb2.1 zb2.2.2.1.1 ?_
          refine z_iload_n d_H_symbol_54 rfl ?_
          refine z_callV (as := [.int x3]) (st := []) i_Row_at ⟨rfl, rfl⟩ v_Row_at w_Row_at l_H_212 d_H_symbol_55 (by decide) zb2.2.2.1.2.1 rfl (Nat.le_of_ble_eq_true rfl) (Nat.le_of_ble_eq_true rfl) h (fun q6 T6 M6 h => ?_)
          obtain ⟨y6, rfl, rfl, h⟩ := h
          exact z_iret rfl d_H_symbol_58 h
        · replace h := h.2 c5
          refine z_aload d_H_symbol_37 rfl ?_
          refine z_getr f_H_192 rfl d_H_symbol_39 zb2.1 zb2.2.1.1 ?_
          refine z_iload_n d_H_symbol_42 rfl ?_
          refine z_callV (as := [.int x3]) (st := []) i_Row_at ⟨rfl, rfl⟩ v_Row_at w_Row_at l_H_212 d_H_symbol_43 (by decide) zb2.2.1.2.1 rfl (Nat.le_of_ble_eq_true rfl) (Nat.le_of_ble_eq_true rfl) h (fun q7 T7 M7 h => ?_)
          obtain ⟨y7, rfl, rfl, h⟩ := h
          refine z_goto 58 d_H_symbol_46 rfl ?_
          exact z_iret rfl d_H_symbol_58 h
      · replace h := h.2 c4
        refine z_bipush (-2) d_H_symbol_30 (by decide) ?_
        exact z_iret rfl d_H_symbol_32 h

set_option maxRecDepth 20000 in
theorem vc_H_needs_0 (E : ZE) (k : Nat) (M : ZM) (x1 : Int32) (x2 : Int32) (x3 : Int32) (Φ : Option Value → ZS → ZM → Prop)  (h : zW E m_H_refreshNet 6 (zSt k) M 0 [some (.ref 0), none] [] (fun q1 T1 M1 => ∃ k1 : Nat, q1 = none ∧ (zSt k1) = T1 ∧ zW E m_Net_at 0 (zSt k1) M1 0 [some (.ref 50), some (.int x1)] [] (fun q2 T2 M2 => ∃ o2 : Option Nat, q2 = some (va_rf o2) ∧ (zSt k1) = T2 ∧ (o2 = none → Φ (some (.int (-1))) (zSt k1) M2) ∧ (∀ b2 : Nat, o2 = some b2 → zNode (zSt k1) b2 ∧ (zW E m_H_isVariable 0 (zSt k1) M2 0 [some (.int x2)] [] (fun q3 T3 M3 => ∃ y3 : Int32, q3 = some (.int y3) ∧ (zSt k1) = T3 ∧ (y3 = 0 → Φ (some (.int (-1))) (zSt k1) M3) ∧ (¬ y3 = 0 → zW E m_H_isState 0 (zSt k1) M3 0 [some (.int x3)] [] (fun q5 T5 M5 => ∃ y5 : Int32, q5 = some (.int y5) ∧ (zSt k1) = T5 ∧ (¬ y5 = 0 → zW E m_Need_ofVariable 0 (zSt k1) M5 0 [some (.int (M5 b2 5)), some (.int x2)] [] (fun q7 T7 M7 => ∃ y7 : Int32, q7 = some (.int y7) ∧ (zSt k1) = T7 ∧ zW E m_Need_ofState 0 (zSt k1) M7 0 [some (.int y7), some (.int x3)] [] (fun q8 T8 M8 => ∃ y8 : Int32, q8 = some (.int y8) ∧ (zSt k1) = T8 ∧ Φ (some (.int y8)) (zSt k1) M8))) ∧ (y5 = 0 → Φ (some (.int (-1))) (zSt k1) M5))))))))) : zW E m_H_needs 7 (zSt k) M 0 [some (.ref 0), some (.int x1), some (.int x2), some (.int x3), none] [] Φ := by
  refine z_aload_n d_H_needs_0 rfl ?_
  refine z_callV (as := []) (st := []) i_H_refreshNet ⟨rfl, rfl⟩ v_H_refreshNet w_H_refreshNet l_H_171 d_H_needs_1 (by decide) (tA_0 k) rfl (Nat.le_of_ble_eq_true rfl) (Nat.le_of_ble_eq_true rfl) h (fun q1 T1 M1 h => ?_)
  obtain ⟨k1, rfl, rfl, h⟩ := h
  refine z_aload_n d_H_needs_4 rfl ?_
  refine z_getr f_H_49 rfl d_H_needs_5 (tA_0 k1) (tr_0_5 k1) ?_
  refine z_iload_n d_H_needs_8 rfl ?_
  refine z_callV (as := [.int x1]) (st := []) i_Net_at ⟨rfl, rfl⟩ v_Net_at w_Net_at l_H_188 d_H_needs_9 (by decide) (tA_50 k1) rfl (Nat.le_of_ble_eq_true rfl) (Nat.le_of_ble_eq_true rfl) h (fun q2 T2 M2 h => ?_)
  obtain ⟨o2, rfl, rfl, h⟩ := h
  cases o2 with
  | none =>
    replace h := h.1 rfl
    refine z_astoreN (ls' := [some (.ref 0), some (.int x1), some (.int x2), some (.int x3), some .null]) d_H_needs_12 (Nat.le_of_ble_eq_true rfl) rfl rfl ?_
    refine z_aloadN d_H_needs_14 rfl ?_
    refine z_ifnullN 33 d_H_needs_16 rfl ?_
    refine z_iconst (-1) d_H_needs_33 (by decide) ?_
    exact z_iret rfl d_H_needs_34 h
  | some b2 =>
    obtain ⟨zb2, h⟩ := h.2 b2 rfl
    refine z_astore (ls' := [some (.ref 0), some (.int x1), some (.int x2), some (.int x3), some (.ref b2)]) d_H_needs_12 (Nat.le_of_ble_eq_true rfl) rfl rfl ?_
    refine z_aload d_H_needs_14 rfl ?_
    refine z_ifnull d_H_needs_16 ?_
    refine z_iload_n d_H_needs_19 rfl ?_
    refine z_callS (as := [.int x2]) (st := []) i_H_isVariable s_H_isVariable l_H_130 d_H_needs_20 (by decide) rfl (Nat.le_of_ble_eq_true rfl) (Nat.le_of_ble_eq_true rfl) h (fun q3 T3 M3 h => ?_)
    obtain ⟨y3, rfl, rfl, h⟩ := h
    refine z_if_eq 33 d_H_needs_23 rfl ⟨fun c4 => ?_, fun c4 => ?_⟩
    · replace h := h.1 c4
      refine z_iconst (-1) d_H_needs_33 (by decide) ?_
      exact z_iret rfl d_H_needs_34 h
    · replace h := h.2 c4
      refine z_iload_n d_H_needs_26 rfl ?_
      refine z_callS (as := [.int x3]) (st := []) i_H_isState s_H_isState l_H_111 d_H_needs_27 (by decide) rfl (Nat.le_of_ble_eq_true rfl) (Nat.le_of_ble_eq_true rfl) h (fun q5 T5 M5 h => ?_)
      obtain ⟨y5, rfl, rfl, h⟩ := h
      refine z_if_ne 35 d_H_needs_30 rfl ⟨fun c6 => ?_, fun c6 => ?_⟩
      · replace h := h.1 c6
        refine z_aload d_H_needs_35 rfl ?_
        refine z_geti f_H_214 rfl d_H_needs_37 zb2.1 ?_
        refine z_iload_n d_H_needs_40 rfl ?_
        refine z_callS (as := [.int (M5 b2 5), .int x2]) (st := []) i_Need_ofVariable s_Need_ofVariable l_H_139 d_H_needs_41 (by decide) rfl (Nat.le_of_ble_eq_true rfl) (Nat.le_of_ble_eq_true rfl) h (fun q7 T7 M7 h => ?_)
        obtain ⟨y7, rfl, rfl, h⟩ := h
        refine z_iload_n d_H_needs_44 rfl ?_
        refine z_callS (as := [.int y7, .int x3]) (st := []) i_Need_ofState s_Need_ofState l_H_142 d_H_needs_45 (by decide) rfl (Nat.le_of_ble_eq_true rfl) (Nat.le_of_ble_eq_true rfl) h (fun q8 T8 M8 h => ?_)
        obtain ⟨y8, rfl, rfl, h⟩ := h
        exact z_iret rfl d_H_needs_48 h
      · replace h := h.2 c6
        refine z_iconst (-1) d_H_needs_33 (by decide) ?_
        exact z_iret rfl d_H_needs_34 h

set_option maxRecDepth 20000 in
theorem vc_H_move_0 (E : ZE) (k : Nat) (M : ZM) (x1 : Int32) (x2 : Int32) (x3 : Int32) (Φ : Option Value → ZS → ZM → Prop)  (h : zW E m_H_refreshNet 6 (zSt k) M 0 [some (.ref 0), none] [] (fun q1 T1 M1 => ∃ k1 : Nat, q1 = none ∧ (zSt k1) = T1 ∧ zW E m_Net_at 0 (zSt k1) M1 0 [some (.ref 50), some (.int x1)] [] (fun q2 T2 M2 => ∃ o2 : Option Nat, q2 = some (va_rf o2) ∧ (zSt k1) = T2 ∧ (o2 = none → Φ (some (.int (-1))) (zSt k1) M2) ∧ (∀ b2 : Nat, o2 = some b2 → zNode (zSt k1) b2 ∧ ((x3 < 0 → Φ (some (.int (-2))) (zSt k1) M2) ∧ (¬ x3 < 0 → (x3 ≤ 1 → (¬ x3 = 0 → zW E m_Row_at 0 (zSt k1) M2 0 [some (.ref (b2 + 7)), some (.int x2)] [] (fun q6 T6 M6 => ∃ y6 : Int32, q6 = some (.int y6) ∧ (zSt k1) = T6 ∧ Φ (some (.int y6)) (zSt k1) M6)) ∧ (x3 = 0 → zW E m_Row_at 0 (zSt k1) M2 0 [some (.ref (b2 + 5)), some (.int x2)] [] (fun q7 T7 M7 => ∃ y7 : Int32, q7 = some (.int y7) ∧ (zSt k1) = T7 ∧ Φ (some (.int y7)) (zSt k1) M7))) ∧ (¬ x3 ≤ 1 → Φ (some (.int (-2))) (zSt k1) M2))))))) : zW E m_H_move 7 (zSt k) M 0 [some (.ref 0), some (.int x1), some (.int x2), some (.int x3), none] [] Φ := by
  refine z_aload_n d_H_move_0 rfl ?_
  refine z_callV (as := []) (st := []) i_H_refreshNet ⟨rfl, rfl⟩ v_H_refreshNet w_H_refreshNet l_H_171 d_H_move_1 (by decide) (tA_0 k) rfl (Nat.le_of_ble_eq_true rfl) (Nat.le_of_ble_eq_true rfl) h (fun q1 T1 M1 h => ?_)
  obtain ⟨k1, rfl, rfl, h⟩ := h
  refine z_aload_n d_H_move_4 rfl ?_
  refine z_getr f_H_49 rfl d_H_move_5 (tA_0 k1) (tr_0_5 k1) ?_
  refine z_iload_n d_H_move_8 rfl ?_
  refine z_callV (as := [.int x1]) (st := []) i_Net_at ⟨rfl, rfl⟩ v_Net_at w_Net_at l_H_188 d_H_move_9 (by decide) (tA_50 k1) rfl (Nat.le_of_ble_eq_true rfl) (Nat.le_of_ble_eq_true rfl) h (fun q2 T2 M2 h => ?_)
  obtain ⟨o2, rfl, rfl, h⟩ := h
  cases o2 with
  | none =>
    replace h := h.1 rfl
    refine z_astoreN (ls' := [some (.ref 0), some (.int x1), some (.int x2), some (.int x3), some .null]) d_H_move_12 (Nat.le_of_ble_eq_true rfl) rfl rfl ?_
    refine z_aloadN d_H_move_14 rfl ?_
    refine z_ifnonnullN d_H_move_16 ?_
    refine z_iconst (-1) d_H_move_19 (by decide) ?_
    exact z_iret rfl d_H_move_20 h
  | some b2 =>
    obtain ⟨zb2, h⟩ := h.2 b2 rfl
    refine z_astore (ls' := [some (.ref 0), some (.int x1), some (.int x2), some (.int x3), some (.ref b2)]) d_H_move_12 (Nat.le_of_ble_eq_true rfl) rfl rfl ?_
    refine z_aload d_H_move_14 rfl ?_
    refine z_ifnonnull 21 d_H_move_16 rfl ?_
    refine z_iload_n d_H_move_21 rfl ?_
    refine z_if_lt 30 d_H_move_22 rfl ⟨fun c3 => ?_, fun c3 => ?_⟩
    · replace h := h.1 c3
      refine z_bipush (-2) d_H_move_30 (by decide) ?_
      exact z_iret rfl d_H_move_32 h
    · replace h := h.2 c3
      refine z_iload_n d_H_move_25 rfl ?_
      refine z_iconst 1 d_H_move_26 (by decide) ?_
      refine z_icmp_le 33 d_H_move_27 rfl ⟨fun c4 => ?_, fun c4 => ?_⟩
      · replace h := h.1 c4
        refine z_iload_n d_H_move_33 rfl ?_
        refine z_if_ne 49 d_H_move_34 rfl ⟨fun c5 => ?_, fun c5 => ?_⟩
        · replace h := h.1 c5
          refine z_aload d_H_move_49 rfl ?_
          refine z_getr f_H_215 rfl d_H_move_51 zb2.1 zb2.2.2.2.2.1 ?_
          refine z_iload_n d_H_move_54 rfl ?_
          refine z_callV (as := [.int x2]) (st := []) i_Row_at ⟨rfl, rfl⟩ v_Row_at w_Row_at l_H_212 d_H_move_55 (by decide) zb2.2.2.2.2.2.1 rfl (Nat.le_of_ble_eq_true rfl) (Nat.le_of_ble_eq_true rfl) h (fun q6 T6 M6 h => ?_)
          obtain ⟨y6, rfl, rfl, h⟩ := h
          exact z_iret rfl d_H_move_58 h
        · replace h := h.2 c5
          refine z_aload d_H_move_37 rfl ?_
          refine z_getr f_H_205 rfl d_H_move_39 zb2.1 zb2.2.2.2.1.1 ?_
          refine z_iload_n d_H_move_42 rfl ?_
          refine z_callV (as := [.int x2]) (st := []) i_Row_at ⟨rfl, rfl⟩ v_Row_at w_Row_at l_H_212 d_H_move_43 (by decide) zb2.2.2.2.1.2.1 rfl (Nat.le_of_ble_eq_true rfl) (Nat.le_of_ble_eq_true rfl) h (fun q7 T7 M7 h => ?_)
          obtain ⟨y7, rfl, rfl, h⟩ := h
          refine z_goto 58 d_H_move_46 rfl ?_
          exact z_iret rfl d_H_move_58 h
      · replace h := h.2 c4
        refine z_bipush (-2) d_H_move_30 (by decide) ?_
        exact z_iret rfl d_H_move_32 h

set_option maxRecDepth 20000 in
theorem vc_H_answer_0 (E : ZE) (k : Nat) (M : ZM) (x1 : Int32) (x2 : Int32) (Φ : Option Value → ZS → ZM → Prop)  (h : zW E m_H_isVariable 0 (zSt k) M 0 [some (.int x1)] [] (fun q1 T1 M1 => ∃ y1 : Int32, q1 = some (.int y1) ∧ (zSt k) = T1 ∧ (¬ y1 = 0 → zW E m_H_refreshNet 6 (zSt k) M1 0 [some (.ref 0), none] [] (fun q3 T3 M3 => ∃ k3 : Nat, q3 = none ∧ (zSt k3) = T3 ∧ (¬ (M3 61 3) = 0 → zW E m_Words_of 0 (zSt k3) M3 0 [some (.ref 62), some (.int x1)] [] (fun q5 T5 M5 => ∃ b5 L5 : Nat, q5 = some (.ref b5) ∧ (zSt k3) = T5 ∧ zRow (zSt k3) b5 L5 ∧ (zW E m_H_sizeOrItem 1 (zSt k3) M5 0 [some (.ref b5), some (.int x2)] [] (fun q6 T6 M6 => ∃ y6 : Int32, q6 = some (.int y6) ∧ (zSt k3) = T6 ∧ Φ (some (.int y6)) (zSt k3) M6)))) ∧ ((M3 61 3) = 0 → Φ (some (.int (-3))) (zSt k3) M3))) ∧ (y1 = 0 → Φ (some (.int (-1))) (zSt k) M1))) : zW E m_H_answer 7 (zSt k) M 0 [some (.ref 0), some (.int x1), some (.int x2)] [] Φ := by
  refine z_iload_n d_H_answer_0 rfl ?_
  refine z_callS (as := [.int x1]) (st := []) i_H_isVariable s_H_isVariable l_H_130 d_H_answer_1 (by decide) rfl (Nat.le_of_ble_eq_true rfl) (Nat.le_of_ble_eq_true rfl) h (fun q1 T1 M1 h => ?_)
  obtain ⟨y1, rfl, rfl, h⟩ := h
  refine z_if_ne 9 d_H_answer_4 rfl ⟨fun c2 => ?_, fun c2 => ?_⟩
  · replace h := h.1 c2
    refine z_aload_n d_H_answer_9 rfl ?_
    refine z_callV (as := []) (st := []) i_H_refreshNet ⟨rfl, rfl⟩ v_H_refreshNet w_H_refreshNet l_H_171 d_H_answer_10 (by decide) (tA_0 k) rfl (Nat.le_of_ble_eq_true rfl) (Nat.le_of_ble_eq_true rfl) h (fun q3 T3 M3 h => ?_)
    obtain ⟨k3, rfl, rfl, h⟩ := h
    refine z_aload_n d_H_answer_13 rfl ?_
    refine z_getr f_H_58 rfl d_H_answer_14 (tA_0 k3) (tr_0_6 k3) ?_
    refine z_geti f_H_218 rfl d_H_answer_17 (tA_61 k3) ?_
    refine z_if_ne 26 d_H_answer_20 rfl ⟨fun c4 => ?_, fun c4 => ?_⟩
    · replace h := h.1 c4
      refine z_aload_n d_H_answer_26 rfl ?_
      refine z_getr f_H_58 rfl d_H_answer_27 (tA_0 k3) (tr_0_6 k3) ?_
      refine z_getr f_H_221 rfl d_H_answer_30 (tA_61 k3) (tr_61_2 k3) ?_
      refine z_iload_n d_H_answer_33 rfl ?_
      refine z_callV (as := [.int x1]) (st := []) i_Words_of ⟨rfl, rfl⟩ v_Words_of w_Words_of l_H_225 d_H_answer_34 (by decide) (tA_62 k3) rfl (Nat.le_of_ble_eq_true rfl) (Nat.le_of_ble_eq_true rfl) h (fun q5 T5 M5 h => ?_)
      obtain ⟨b5, L5, rfl, rfl, zb5, h⟩ := h
      refine z_iload_n d_H_answer_37 rfl ?_
      refine z_callS (as := [.ref b5, .int x2]) (st := []) i_H_sizeOrItem s_H_sizeOrItem l_H_160 d_H_answer_38 (by decide) rfl (Nat.le_of_ble_eq_true rfl) (Nat.le_of_ble_eq_true rfl) h (fun q6 T6 M6 h => ?_)
      obtain ⟨y6, rfl, rfl, h⟩ := h
      exact z_iret rfl d_H_answer_41 h
    · replace h := h.2 c4
      refine z_bipush (-3) d_H_answer_23 (by decide) ?_
      exact z_iret rfl d_H_answer_25 h
  · replace h := h.2 c2
    refine z_iconst (-1) d_H_answer_7 (by decide) ?_
    exact z_iret rfl d_H_answer_8 h

set_option maxRecDepth 20000 in
theorem vc_H_spell_0 (E : ZE) (k : Nat) (M : ZM) (x1 : Int32) (x2 : Int32) (Φ : Option Value → ZS → ZM → Prop)  (h : zW E m_H_isVariable 0 (zSt k) M 0 [some (.int x1)] [] (fun q1 T1 M1 => ∃ y1 : Int32, q1 = some (.int y1) ∧ (zSt k) = T1 ∧ (y1 = 0 → Φ (some (.int (-1))) (zSt k) M1) ∧ (¬ y1 = 0 → zW E m_H_isLetter 0 (zSt k) M1 0 [some (.int x2)] [] (fun q3 T3 M3 => ∃ y3 : Int32, q3 = some (.int y3) ∧ (zSt k) = T3 ∧ (¬ y3 = 0 → zW E m_Words_of 0 (zSt k) M3 0 [some (.ref 10), some (.int x1)] [] (fun q5 T5 M5 => ∃ b5 L5 : Nat, q5 = some (.ref b5) ∧ (zSt k) = T5 ∧ zRow (zSt k) b5 L5 ∧ (zW E m_Row_push 0 (zSt k) M5 0 [some (.ref b5), some (.int x2)] [] (fun q6 T6 M6 => ∃ y6 : Int32, q6 = some (.int y6) ∧ (zSt k) = T6 ∧ (y6 = 0 → Φ (some (.int (-4))) (zSt k) M6) ∧ (¬ y6 = 0 → zW E m_Row_size 0 (zSt k) M6 0 [some (.ref b5)] [] (fun q8 T8 M8 => ∃ y8 : Int32, q8 = some (.int y8) ∧ (zSt k) = T8 ∧ Φ (some (.int y8)) (zSt k) M8)))))) ∧ (y3 = 0 → Φ (some (.int (-1))) (zSt k) M3))))) : zW E m_H_spell 1 (zSt k) M 0 [some (.ref 0), some (.int x1), some (.int x2), none] [] Φ := by
  refine z_iload_n d_H_spell_0 rfl ?_
  refine z_callS (as := [.int x1]) (st := []) i_H_isVariable s_H_isVariable l_H_130 d_H_spell_1 (by decide) rfl (Nat.le_of_ble_eq_true rfl) (Nat.le_of_ble_eq_true rfl) h (fun q1 T1 M1 h => ?_)
  obtain ⟨y1, rfl, rfl, h⟩ := h
  refine z_if_eq 14 d_H_spell_4 rfl ⟨fun c2 => ?_, fun c2 => ?_⟩
  · replace h := h.1 c2
    refine z_iconst (-1) d_H_spell_14 (by decide) ?_
    exact z_iret rfl d_H_spell_15 h
  · replace h := h.2 c2
    refine z_iload_n d_H_spell_7 rfl ?_
    refine z_callS (as := [.int x2]) (st := []) i_H_isLetter s_H_isLetter l_H_114 d_H_spell_8 (by decide) rfl (Nat.le_of_ble_eq_true rfl) (Nat.le_of_ble_eq_true rfl) h (fun q3 T3 M3 h => ?_)
    obtain ⟨y3, rfl, rfl, h⟩ := h
    refine z_if_ne 16 d_H_spell_11 rfl ⟨fun c4 => ?_, fun c4 => ?_⟩
    · replace h := h.1 c4
      refine z_aload_n d_H_spell_16 rfl ?_
      refine z_getr f_H_21 rfl d_H_spell_17 (tA_0 k) (tr_0_1 k) ?_
      refine z_getr f_H_231 rfl d_H_spell_20 (tA_3 k) (tr_3_3 k) ?_
      refine z_iload_n d_H_spell_23 rfl ?_
      refine z_callV (as := [.int x1]) (st := []) i_Words_of ⟨rfl, rfl⟩ v_Words_of w_Words_of l_H_225 d_H_spell_24 (by decide) (tA_10 k) rfl (Nat.le_of_ble_eq_true rfl) (Nat.le_of_ble_eq_true rfl) h (fun q5 T5 M5 h => ?_)
      obtain ⟨b5, L5, rfl, rfl, zb5, h⟩ := h
      refine z_astore_n (ls' := [some (.ref 0), some (.int x1), some (.int x2), some (.ref b5)]) d_H_spell_27 (Nat.le_of_ble_eq_true rfl) rfl rfl ?_
      refine z_aload_n d_H_spell_28 rfl ?_
      refine z_iload_n d_H_spell_29 rfl ?_
      refine z_callV (as := [.int x2]) (st := []) i_Row_push ⟨rfl, rfl⟩ v_Row_push w_Row_push l_H_85 d_H_spell_30 (by decide) zb5.1 rfl (Nat.le_of_ble_eq_true rfl) (Nat.le_of_ble_eq_true rfl) h (fun q6 T6 M6 h => ?_)
      obtain ⟨y6, rfl, rfl, h⟩ := h
      refine z_if_eq 43 d_H_spell_33 rfl ⟨fun c7 => ?_, fun c7 => ?_⟩
      · replace h := h.1 c7
        refine z_bipush (-4) d_H_spell_43 (by decide) ?_
        exact z_iret rfl d_H_spell_45 h
      · replace h := h.2 c7
        refine z_aload_n d_H_spell_36 rfl ?_
        refine z_callV (as := []) (st := []) i_Row_size ⟨rfl, rfl⟩ v_Row_size w_Row_size l_H_89 d_H_spell_37 (by decide) zb5.1 rfl (Nat.le_of_ble_eq_true rfl) (Nat.le_of_ble_eq_true rfl) h (fun q8 T8 M8 h => ?_)
        obtain ⟨y8, rfl, rfl, h⟩ := h
        refine z_goto 45 d_H_spell_40 rfl ?_
        exact z_iret rfl d_H_spell_45 h
    · replace h := h.2 c4
      refine z_iconst (-1) d_H_spell_14 (by decide) ?_
      exact z_iret rfl d_H_spell_15 h

set_option maxRecDepth 20000 in
theorem vc_H_clear_0 (E : ZE) (k : Nat) (M : ZM) (x1 : Int32) (Φ : Option Value → ZS → ZM → Prop)  (h : zW E m_H_isVariable 0 (zSt k) M 0 [some (.int x1)] [] (fun q1 T1 M1 => ∃ y1 : Int32, q1 = some (.int y1) ∧ (zSt k) = T1 ∧ (¬ y1 = 0 → zW E m_Words_of 0 (zSt k) M1 0 [some (.ref 10), some (.int x1)] [] (fun q3 T3 M3 => ∃ b3 L3 : Nat, q3 = some (.ref b3) ∧ (zSt k) = T3 ∧ zRow (zSt k) b3 L3 ∧ (zW E m_Row_size 0 (zSt k) M3 0 [some (.ref b3)] [] (fun q4 T4 M4 => ∃ y4 : Int32, q4 = some (.int y4) ∧ (zSt k) = T4 ∧ zW E m_Row_makeEmpty 0 (zSt k) M4 0 [some (.ref b3)] [] (fun q5 T5 M5 => q5 = none ∧ (zSt k) = T5 ∧ Φ (some (.int y4)) (zSt k) M5))))) ∧ (y1 = 0 → Φ (some (.int (-1))) (zSt k) M1))) : zW E m_H_clear 1 (zSt k) M 0 [some (.ref 0), some (.int x1), none, none] [] Φ := by
  refine z_iload_n d_H_clear_0 rfl ?_
  refine z_callS (as := [.int x1]) (st := []) i_H_isVariable s_H_isVariable l_H_130 d_H_clear_1 (by decide) rfl (Nat.le_of_ble_eq_true rfl) (Nat.le_of_ble_eq_true rfl) h (fun q1 T1 M1 h => ?_)
  obtain ⟨y1, rfl, rfl, h⟩ := h
  refine z_if_ne 9 d_H_clear_4 rfl ⟨fun c2 => ?_, fun c2 => ?_⟩
  · replace h := h.1 c2
    refine z_aload_n d_H_clear_9 rfl ?_
    refine z_getr f_H_21 rfl d_H_clear_10 (tA_0 k) (tr_0_1 k) ?_
    refine z_getr f_H_231 rfl d_H_clear_13 (tA_3 k) (tr_3_3 k) ?_
    refine z_iload_n d_H_clear_16 rfl ?_
    refine z_callV (as := [.int x1]) (st := []) i_Words_of ⟨rfl, rfl⟩ v_Words_of w_Words_of l_H_225 d_H_clear_17 (by decide) (tA_10 k) rfl (Nat.le_of_ble_eq_true rfl) (Nat.le_of_ble_eq_true rfl) h (fun q3 T3 M3 h => ?_)
    obtain ⟨b3, L3, rfl, rfl, zb3, h⟩ := h
    refine z_astore_n (ls' := [some (.ref 0), some (.int x1), some (.ref b3), none]) d_H_clear_20 (Nat.le_of_ble_eq_true rfl) rfl rfl ?_
    refine z_aload_n d_H_clear_21 rfl ?_
    refine z_callV (as := []) (st := []) i_Row_size ⟨rfl, rfl⟩ v_Row_size w_Row_size l_H_89 d_H_clear_22 (by decide) zb3.1 rfl (Nat.le_of_ble_eq_true rfl) (Nat.le_of_ble_eq_true rfl) h (fun q4 T4 M4 h => ?_)
    obtain ⟨y4, rfl, rfl, h⟩ := h
    refine z_istore_n (ls' := [some (.ref 0), some (.int x1), some (.ref b3), some (.int y4)]) d_H_clear_25 (Nat.le_of_ble_eq_true rfl) rfl rfl ?_
    refine z_aload_n d_H_clear_26 rfl ?_
    refine z_callV (as := []) (st := []) i_Row_makeEmpty ⟨rfl, rfl⟩ v_Row_makeEmpty w_Row_makeEmpty l_H_93 d_H_clear_27 (by decide) zb3.1 rfl (Nat.le_of_ble_eq_true rfl) (Nat.le_of_ble_eq_true rfl) h (fun q5 T5 M5 h => ?_)
    obtain ⟨rfl, rfl, h⟩ := h
    refine z_iload_n d_H_clear_30 rfl ?_
    exact z_iret rfl d_H_clear_31 h
  · replace h := h.2 c2
    refine z_iconst (-1) d_H_clear_7 (by decide) ?_
    exact z_iret rfl d_H_clear_8 h

set_option maxRecDepth 20000 in
theorem vc_H_take_0 (E : ZE) (k : Nat) (M : ZM)  (Φ : Option Value → ZS → ZM → Prop)  (h : zW E m_H_refreshNet 6 (zSt k) M 0 [some (.ref 0), none] [] (fun q1 T1 M1 => ∃ k1 : Nat, q1 = none ∧ (zSt k1) = T1 ∧ (¬ (M1 61 3) = 0 → zW E m_Words_longest 1 (zSt k1) M1 0 [some (.ref 62)] [] (fun q3 T3 M3 => ∃ y3 : Int32, q3 = some (.int y3) ∧ (zSt k1) = T3 ∧ (y3 ≤ 12 → zW E m_Words_copy 1 (zSt k1) M3 0 [some (.ref 10), some (.ref 62)] [] (fun q5 T5 M5 => q5 = none ∧ (zSt k1) = T5 ∧ zW E m_Words_together 1 (zSt k1) M5 0 [some (.ref 10)] [] (fun q6 T6 M6 => ∃ y6 : Int32, q6 = some (.int y6) ∧ (zSt k1) = T6 ∧ Φ (some (.int y6)) (zSt k1) M6))) ∧ (¬ y3 ≤ 12 → Φ (some (.int (-4))) (zSt k1) M3))) ∧ ((M1 61 3) = 0 → Φ (some (.int (-3))) (zSt k1) M1))) : zW E m_H_take 7 (zSt k) M 0 [some (.ref 0)] [] Φ := by
  refine z_aload_n d_H_take_0 rfl ?_
  refine z_callV (as := []) (st := []) i_H_refreshNet ⟨rfl, rfl⟩ v_H_refreshNet w_H_refreshNet l_H_171 d_H_take_1 (by decide) (tA_0 k) rfl (Nat.le_of_ble_eq_true rfl) (Nat.le_of_ble_eq_true rfl) h (fun q1 T1 M1 h => ?_)
  obtain ⟨k1, rfl, rfl, h⟩ := h
  refine z_aload_n d_H_take_4 rfl ?_
  refine z_getr f_H_58 rfl d_H_take_5 (tA_0 k1) (tr_0_6 k1) ?_
  refine z_geti f_H_218 rfl d_H_take_8 (tA_61 k1) ?_
  refine z_if_ne 17 d_H_take_11 rfl ⟨fun c2 => ?_, fun c2 => ?_⟩
  · replace h := h.1 c2
    refine z_aload_n d_H_take_17 rfl ?_
    refine z_getr f_H_58 rfl d_H_take_18 (tA_0 k1) (tr_0_6 k1) ?_
    refine z_getr f_H_221 rfl d_H_take_21 (tA_61 k1) (tr_61_2 k1) ?_
    refine z_callV (as := []) (st := []) i_Words_longest ⟨rfl, rfl⟩ v_Words_longest w_Words_longest l_H_232 d_H_take_24 (by decide) (tA_62 k1) rfl (Nat.le_of_ble_eq_true rfl) (Nat.le_of_ble_eq_true rfl) h (fun q3 T3 M3 h => ?_)
    obtain ⟨y3, rfl, rfl, h⟩ := h
    refine z_bipush 12 d_H_take_27 (by decide) ?_
    refine z_icmp_le 35 d_H_take_29 rfl ⟨fun c4 => ?_, fun c4 => ?_⟩
    · replace h := h.1 c4
      refine z_aload_n d_H_take_35 rfl ?_
      refine z_getr f_H_21 rfl d_H_take_36 (tA_0 k1) (tr_0_1 k1) ?_
      refine z_getr f_H_231 rfl d_H_take_39 (tA_3 k1) (tr_3_3 k1) ?_
      refine z_aload_n d_H_take_42 rfl ?_
      refine z_getr f_H_58 rfl d_H_take_43 (tA_0 k1) (tr_0_6 k1) ?_
      refine z_getr f_H_221 rfl d_H_take_46 (tA_61 k1) (tr_61_2 k1) ?_
      refine z_callV (as := [.ref 62]) (st := []) i_Words_copy ⟨rfl, rfl⟩ v_Words_copy w_Words_copy l_H_235 d_H_take_49 (by decide) (tA_10 k1) rfl (Nat.le_of_ble_eq_true rfl) (Nat.le_of_ble_eq_true rfl) h (fun q5 T5 M5 h => ?_)
      obtain ⟨rfl, rfl, h⟩ := h
      refine z_aload_n d_H_take_52 rfl ?_
      refine z_getr f_H_21 rfl d_H_take_53 (tA_0 k1) (tr_0_1 k1) ?_
      refine z_getr f_H_231 rfl d_H_take_56 (tA_3 k1) (tr_3_3 k1) ?_
      refine z_callV (as := []) (st := []) i_Words_together ⟨rfl, rfl⟩ v_Words_together w_Words_together l_H_239 d_H_take_59 (by decide) (tA_10 k1) rfl (Nat.le_of_ble_eq_true rfl) (Nat.le_of_ble_eq_true rfl) h (fun q6 T6 M6 h => ?_)
      obtain ⟨y6, rfl, rfl, h⟩ := h
      exact z_iret rfl d_H_take_62 h
    · replace h := h.2 c4
      refine z_bipush (-4) d_H_take_32 (by decide) ?_
      exact z_iret rfl d_H_take_34 h
  · replace h := h.2 c2
    refine z_bipush (-3) d_H_take_14 (by decide) ?_
    exact z_iret rfl d_H_take_16 h

set_option maxRecDepth 20000 in
theorem vc_H_fits_0 (E : ZE) (k : Nat) (M : ZM)  (Φ : Option Value → ZS → ZM → Prop)  (h : zW E m_H_wordsMakeRowsOne 2 (zSt k) M 0 [some (.ref 0)] [] (fun q1 T1 M1 => ∃ y1 : Int32, q1 = some (.int y1) ∧ (zSt k) = T1 ∧ zW E m_Book_wordsMeetNeeds 3 (zSt k) M1 0 [some (.ref 3), none] [] (fun q2 T2 M2 => ∃ y2 : Int32, q2 = some (.int y2) ∧ (zSt k) = T2 ∧ (y1 = 0 → (y2 = 0 → Φ (some (.int 3)) (zSt k) M2) ∧ (¬ y2 = 0 → Φ (some (.int 2)) (zSt k) M2)) ∧ (¬ y1 = 0 → (y2 = 0 → Φ (some (.int 1)) (zSt k) M2) ∧ (¬ y2 = 0 → Φ (some (.int 0)) (zSt k) M2))))) : zW E m_H_fits 4 (zSt k) M 0 [some (.ref 0), none, none] [] Φ := by
  refine z_aload_n d_H_fits_0 rfl ?_
  refine z_callV (as := []) (st := []) i_H_wordsMakeRowsOne ⟨rfl, rfl⟩ v_H_wordsMakeRowsOne w_H_wordsMakeRowsOne l_H_242 d_H_fits_1 (by decide) (tA_0 k) rfl (Nat.le_of_ble_eq_true rfl) (Nat.le_of_ble_eq_true rfl) h (fun q1 T1 M1 h => ?_)
  obtain ⟨y1, rfl, rfl, h⟩ := h
  refine z_istore_n (ls' := [some (.ref 0), some (.int y1), none]) d_H_fits_4 (Nat.le_of_ble_eq_true rfl) rfl rfl ?_
  refine z_aload_n d_H_fits_5 rfl ?_
  refine z_getr f_H_21 rfl d_H_fits_6 (tA_0 k) (tr_0_1 k) ?_
  refine z_callV (as := []) (st := []) i_Book_wordsMeetNeeds ⟨rfl, rfl⟩ v_Book_wordsMeetNeeds w_Book_wordsMeetNeeds l_H_246 d_H_fits_9 (by decide) (tA_3 k) rfl (Nat.le_of_ble_eq_true rfl) (Nat.le_of_ble_eq_true rfl) h (fun q2 T2 M2 h => ?_)
  obtain ⟨y2, rfl, rfl, h⟩ := h
  refine z_istore_n (ls' := [some (.ref 0), some (.int y1), some (.int y2)]) d_H_fits_12 (Nat.le_of_ble_eq_true rfl) rfl rfl ?_
  refine z_iload_n d_H_fits_13 rfl ?_
  refine z_if_eq 27 d_H_fits_14 rfl ⟨fun c3 => ?_, fun c3 => ?_⟩
  · replace h := h.1 c3
    refine z_iload_n d_H_fits_27 rfl ?_
    refine z_if_eq 35 d_H_fits_28 rfl ⟨fun c4 => ?_, fun c4 => ?_⟩
    · replace h := h.1 c4
      refine z_iconst 3 d_H_fits_35 (by decide) ?_
      exact z_iret rfl d_H_fits_36 h
    · replace h := h.2 c4
      refine z_iconst 2 d_H_fits_31 (by decide) ?_
      refine z_goto 36 d_H_fits_32 rfl ?_
      exact z_iret rfl d_H_fits_36 h
  · replace h := h.2 c3
    refine z_iload_n d_H_fits_17 rfl ?_
    refine z_if_eq 25 d_H_fits_18 rfl ⟨fun c5 => ?_, fun c5 => ?_⟩
    · replace h := h.1 c5
      refine z_iconst 1 d_H_fits_25 (by decide) ?_
      exact z_iret rfl d_H_fits_26 h
    · replace h := h.2 c5
      refine z_iconst 0 d_H_fits_21 (by decide) ?_
      refine z_goto 26 d_H_fits_22 rfl ?_
      exact z_iret rfl d_H_fits_26 h

set_option maxRecDepth 20000 in
theorem vc_H_lengths_0 (E : ZE) (k : Nat) (M : ZM) (x1 : Int32) (x2 : Int32) (Φ : Option Value → ZS → ZM → Prop)  (h : (x1 < 0 → Φ (some (.int (-2))) (zSt k) M) ∧ (¬ x1 < 0 → (x1 ≤ 2 → ((-1) ≤ x2 → zW E m_Tally_count 2 (zSt k) M 0 [some (.ref 74), some (.ref 3)] [] (fun q4 T4 M4 => q4 = none ∧ (zSt k) = T4 ∧ zW E m_Tally_lacking 0 (zSt k) M4 0 [some (.ref 74), some (.int x1), none, none] [] (fun q5 T5 M5 => ∃ y5 : Int32, q5 = some (.int y5) ∧ (zSt k) = T5 ∧ zW E m_H_lengths 3 (zSt k) M5 46 [some (.ref 0), none, some (.int x2), some (.int y5), some (.int 0), some (.int 0)] [] Φ))) ∧ (¬ (-1) ≤ x2 → Φ (some (.int (-6))) (zSt k) M)) ∧ (¬ x1 ≤ 2 → Φ (some (.int (-2))) (zSt k) M))) : zW E m_H_lengths 3 (zSt k) M 0 [some (.ref 0), some (.int x1), some (.int x2), none, none, none] [] Φ := by
  refine z_iload_n d_H_lengths_0 rfl ?_
  refine z_if_lt 9 d_H_lengths_1 rfl ⟨fun c1 => ?_, fun c1 => ?_⟩
  · replace h := h.1 c1
    refine z_bipush (-2) d_H_lengths_9 (by decide) ?_
    exact z_iret rfl d_H_lengths_11 h
  · replace h := h.2 c1
    refine z_iload_n d_H_lengths_4 rfl ?_
    refine z_iconst 2 d_H_lengths_5 (by decide) ?_
    refine z_icmp_le 12 d_H_lengths_6 rfl ⟨fun c2 => ?_, fun c2 => ?_⟩
    · replace h := h.1 c2
      refine z_iload_n d_H_lengths_12 rfl ?_
      refine z_iconst (-1) d_H_lengths_13 (by decide) ?_
      refine z_icmp_ge 20 d_H_lengths_14 rfl ⟨fun c3 => ?_, fun c3 => ?_⟩
      · replace h := h.1 c3
        refine z_aload_n d_H_lengths_20 rfl ?_
        refine z_getr f_H_72 rfl d_H_lengths_21 (tA_0 k) (tr_0_8 k) ?_
        refine z_aload_n d_H_lengths_24 rfl ?_
        refine z_getr f_H_21 rfl d_H_lengths_25 (tA_0 k) (tr_0_1 k) ?_
        refine z_callV (as := [.ref 3]) (st := []) i_Tally_count ⟨rfl, rfl⟩ v_Tally_count w_Tally_count l_H_164 d_H_lengths_28 (by decide) (tA_74 k) rfl (Nat.le_of_ble_eq_true rfl) (Nat.le_of_ble_eq_true rfl) h (fun q4 T4 M4 h => ?_)
        obtain ⟨rfl, rfl, h⟩ := h
        refine z_aload_n d_H_lengths_31 rfl ?_
        refine z_getr f_H_72 rfl d_H_lengths_32 (tA_0 k) (tr_0_8 k) ?_
        refine z_iload_n d_H_lengths_35 rfl ?_
        refine z_callV (as := [.int x1]) (st := []) i_Tally_lacking ⟨rfl, rfl⟩ v_Tally_lacking w_Tally_lacking l_H_249 d_H_lengths_36 (by decide) (tA_74 k) rfl (Nat.le_of_ble_eq_true rfl) (Nat.le_of_ble_eq_true rfl) h (fun q5 T5 M5 h => ?_)
        obtain ⟨y5, rfl, rfl, h⟩ := h
        refine z_istore_n (ls' := [some (.ref 0), some (.int x1), some (.int x2), some (.int y5), none, none]) d_H_lengths_39 (Nat.le_of_ble_eq_true rfl) rfl rfl ?_
        refine z_iconst 0 d_H_lengths_40 (by decide) ?_
        refine z_istore (ls' := [some (.ref 0), some (.int x1), some (.int x2), some (.int y5), some (.int 0), none]) d_H_lengths_41 (Nat.le_of_ble_eq_true rfl) rfl rfl ?_
        refine z_iconst 0 d_H_lengths_43 (by decide) ?_
        refine z_istore (ls' := [some (.ref 0), some (.int x1), some (.int x2), some (.int y5), some (.int 0), some (.int 0)]) d_H_lengths_44 (Nat.le_of_ble_eq_true rfl) rfl rfl ?_
        exact z_forget [some (.ref 0), none, some (.int x2), some (.int y5), some (.int 0), some (.int 0)] (And.intro rfl (And.intro rfl (And.intro rfl (And.intro rfl (And.intro rfl (trivial)))))) h
      · replace h := h.2 c3
        refine z_bipush (-6) d_H_lengths_17 (by decide) ?_
        exact z_iret rfl d_H_lengths_19 h
    · replace h := h.2 c2
      refine z_bipush (-2) d_H_lengths_9 (by decide) ?_
      exact z_iret rfl d_H_lengths_11 h

set_option maxRecDepth 20000 in
theorem vc_H_lengths_46 (E : ZE) (k : Nat) (M : ZM) (x2 : Int32) (x3 : Int32) (x4 : Int32) (x5 : Int32) (Φ : Option Value → ZS → ZM → Prop)  (h : (1000 ≤ x5 → (¬ x2 = (-1) → Φ (some (.int (-6))) (zSt k) M) ∧ (x2 = (-1) → Φ (some (.int x4)) (zSt k) M)) ∧ (¬ 1000 ≤ x5 → zW E m_Tally_wordsGive 0 (zSt k) M 0 [some (.ref 74), some (.int (x5 / 100)), some (.int ((x5 / 10) - (x5 / 10) / 10 * 10)), some (.int (x5 - x5 / 10 * 10))] [] (fun q3 T3 M3 => ∃ y3 : Int32, q3 = some (.int y3) ∧ (zSt k) = T3 ∧ (¬ y3 = x3 → ∀ y5 : Int32, y5 = x5 + 1 → zW E m_H_lengths 3 (zSt k) M3 46 [some (.ref 0), none, some (.int x2), some (.int x3), some (.int x4), some (.int y5)] [] Φ) ∧ (y3 = x3 → (¬ x4 = x2 → ∀ y7 : Int32, y7 = x4 + 1 → ∀ y8 : Int32, y8 = x5 + 1 → zW E m_H_lengths 3 (zSt k) M3 46 [some (.ref 0), none, some (.int x2), some (.int x3), some (.int y7), some (.int y8)] [] Φ) ∧ (x4 = x2 → Φ (some (.int x5)) (zSt k) M3))))) : zW E m_H_lengths 3 (zSt k) M 46 [some (.ref 0), none, some (.int x2), some (.int x3), some (.int x4), some (.int x5)] [] Φ := by
  refine z_iload d_H_lengths_46 rfl ?_
  refine z_sipush 1000 d_H_lengths_48 (by decide) ?_
  refine z_icmp_ge 101 d_H_lengths_51 rfl ⟨fun c1 => ?_, fun c1 => ?_⟩
  · replace h := h.1 c1
    refine z_iload_n d_H_lengths_101 rfl ?_
    refine z_iconst (-1) d_H_lengths_102 (by decide) ?_
    refine z_icmp_ne 111 d_H_lengths_103 rfl ⟨fun c2 => ?_, fun c2 => ?_⟩
    · replace h := h.1 c2
      refine z_bipush (-6) d_H_lengths_111 (by decide) ?_
      exact z_iret rfl d_H_lengths_113 h
    · replace h := h.2 c2
      refine z_iload d_H_lengths_106 rfl ?_
      refine z_goto 113 d_H_lengths_108 rfl ?_
      exact z_iret rfl d_H_lengths_113 h
  · replace h := h.2 c1
    refine z_aload_n d_H_lengths_54 rfl ?_
    refine z_getr f_H_72 rfl d_H_lengths_55 (tA_0 k) (tr_0_8 k) ?_
    refine z_iload d_H_lengths_58 rfl ?_
    refine z_bipush 100 d_H_lengths_60 (by decide) ?_
    refine z_idiv d_H_lengths_62 (by decide) ?_
    refine z_iload d_H_lengths_63 rfl ?_
    refine z_bipush 10 d_H_lengths_65 (by decide) ?_
    refine z_idiv d_H_lengths_67 (by decide) ?_
    refine z_bipush 10 d_H_lengths_68 (by decide) ?_
    refine z_irem d_H_lengths_70 (by decide) ?_
    refine z_iload d_H_lengths_71 rfl ?_
    refine z_bipush 10 d_H_lengths_73 (by decide) ?_
    refine z_irem d_H_lengths_75 (by decide) ?_
    refine z_callV (as := [.int (x5 / 100), .int ((x5 / 10) - (x5 / 10) / 10 * 10), .int (x5 - x5 / 10 * 10)]) (st := []) i_Tally_wordsGive ⟨rfl, rfl⟩ v_Tally_wordsGive w_Tally_wordsGive l_H_252 d_H_lengths_76 (by decide) (tA_74 k) rfl (Nat.le_of_ble_eq_true rfl) (Nat.le_of_ble_eq_true rfl) h (fun q3 T3 M3 h => ?_)
    obtain ⟨y3, rfl, rfl, h⟩ := h
    refine z_iload_n d_H_lengths_79 rfl ?_
    refine z_icmp_ne 95 d_H_lengths_80 rfl ⟨fun c4 => ?_, fun c4 => ?_⟩
    · replace h := h.1 c4
      obtain ⟨y5, ey5⟩ : ∃ q : Int32, q = x5 + 1 := ⟨_, rfl⟩
      replace h := h y5 ey5
      refine z_iinc (ls' := [some (.ref 0), none, some (.int x2), some (.int x3), some (.int x4), some (.int y5)]) y5 d_H_lengths_95 rfl (ey5 ▸ rfl) (Nat.le_of_ble_eq_true rfl) rfl rfl ?_
      refine z_goto 46 d_H_lengths_98 rfl ?_
      exact z_forget [some (.ref 0), none, some (.int x2), some (.int x3), some (.int x4), some (.int y5)] (And.intro rfl (And.intro rfl (And.intro rfl (And.intro rfl (And.intro rfl (trivial)))))) h
    · replace h := h.2 c4
      refine z_iload d_H_lengths_83 rfl ?_
      refine z_iload_n d_H_lengths_85 rfl ?_
      refine z_icmp_ne 92 d_H_lengths_86 rfl ⟨fun c6 => ?_, fun c6 => ?_⟩
      · replace h := h.1 c6
        obtain ⟨y7, ey7⟩ : ∃ q : Int32, q = x4 + 1 := ⟨_, rfl⟩
        replace h := h y7 ey7
        refine z_iinc (ls' := [some (.ref 0), none, some (.int x2), some (.int x3), some (.int y7), some (.int x5)]) y7 d_H_lengths_92 rfl (ey7 ▸ rfl) (Nat.le_of_ble_eq_true rfl) rfl rfl ?_
        obtain ⟨y8, ey8⟩ : ∃ q : Int32, q = x5 + 1 := ⟨_, rfl⟩
        replace h := h y8 ey8
        refine z_iinc (ls' := [some (.ref 0), none, some (.int x2), some (.int x3), some (.int y7), some (.int y8)]) y8 d_H_lengths_95 rfl (ey8 ▸ rfl) (Nat.le_of_ble_eq_true rfl) rfl rfl ?_
        refine z_goto 46 d_H_lengths_98 rfl ?_
        exact z_forget [some (.ref 0), none, some (.int x2), some (.int x3), some (.int y7), some (.int y8)] (And.intro rfl (And.intro rfl (And.intro rfl (And.intro rfl (And.intro rfl (trivial)))))) h
      · replace h := h.2 c6
        refine z_iload d_H_lengths_89 rfl ?_
        exact z_iret rfl d_H_lengths_91 h

set_option maxRecDepth 20000 in
theorem vc_H_shortest_0 (E : ZE) (k : Nat) (M : ZM) (x1 : Int32) (Φ : Option Value → ZS → ZM → Prop)  (h : (x1 = (-1) → (¬ (M 0 13) = 0 → (¬ (M 69 4) = (-6) → (¬ x1 = (-1) → zW E m_Trial_codeOf 1 (zSt k) M 0 [some (.ref 69), some (.int x1), none, none, none] [] (fun q5 T5 M5 => ∃ y5 : Int32, q5 = some (.int y5) ∧ (zSt k) = T5 ∧ Φ (some (.int y5)) (zSt k) M5)) ∧ (x1 = (-1) → Φ (some (.int (M 69 4))) (zSt k) M)) ∧ ((M 69 4) = (-6) → Φ (some (.int (-6))) (zSt k) M)) ∧ ((M 0 13) = 0 → zW E m_Tally_count 2 (zSt k) M 0 [some (.ref 74), some (.ref 3)] [] (fun q6 T6 M6 => q6 = none ∧ (zSt k) = T6 ∧ zW E m_Trial_seek 4 (zSt k) M6 0 [some (.ref 69), some (.ref 3), some (.ref 74), none] [] (fun q7 T7 M7 => q7 = none ∧ (zSt k) = T7 ∧ ∀ M8 : ZM, M8 = zms M7 0 13 1 → (¬ (M8 69 4) = (-6) → (¬ x1 = (-1) → zW E m_Trial_codeOf 1 (zSt k) M8 0 [some (.ref 69), some (.int x1), none, none, none] [] (fun q11 T11 M11 => ∃ y11 : Int32, q11 = some (.int y11) ∧ (zSt k) = T11 ∧ Φ (some (.int y11)) (zSt k) M11)) ∧ (x1 = (-1) → Φ (some (.int (M8 69 4))) (zSt k) M8)) ∧ ((M8 69 4) = (-6) → Φ (some (.int (-6))) (zSt k) M8))))) ∧ (¬ x1 = (-1) → zW E m_H_isVariable 0 (zSt k) M 0 [some (.int x1)] [] (fun q12 T12 M12 => ∃ y12 : Int32, q12 = some (.int y12) ∧ (zSt k) = T12 ∧ (¬ y12 = 0 → (¬ (M12 0 13) = 0 → (¬ (M12 69 4) = (-6) → (¬ x1 = (-1) → zW E m_Trial_codeOf 1 (zSt k) M12 0 [some (.ref 69), some (.int x1), none, none, none] [] (fun q17 T17 M17 => ∃ y17 : Int32, q17 = some (.int y17) ∧ (zSt k) = T17 ∧ Φ (some (.int y17)) (zSt k) M17)) ∧ (x1 = (-1) → Φ (some (.int (M12 69 4))) (zSt k) M12)) ∧ ((M12 69 4) = (-6) → Φ (some (.int (-6))) (zSt k) M12)) ∧ ((M12 0 13) = 0 → zW E m_Tally_count 2 (zSt k) M12 0 [some (.ref 74), some (.ref 3)] [] (fun q18 T18 M18 => q18 = none ∧ (zSt k) = T18 ∧ zW E m_Trial_seek 4 (zSt k) M18 0 [some (.ref 69), some (.ref 3), some (.ref 74), none] [] (fun q19 T19 M19 => q19 = none ∧ (zSt k) = T19 ∧ ∀ M20 : ZM, M20 = zms M19 0 13 1 → (¬ (M20 69 4) = (-6) → (¬ x1 = (-1) → zW E m_Trial_codeOf 1 (zSt k) M20 0 [some (.ref 69), some (.int x1), none, none, none] [] (fun q23 T23 M23 => ∃ y23 : Int32, q23 = some (.int y23) ∧ (zSt k) = T23 ∧ Φ (some (.int y23)) (zSt k) M23)) ∧ (x1 = (-1) → Φ (some (.int (M20 69 4))) (zSt k) M20)) ∧ ((M20 69 4) = (-6) → Φ (some (.int (-6))) (zSt k) M20))))) ∧ (y12 = 0 → Φ (some (.int (-1))) (zSt k) M12)))) : zW E m_H_shortest 5 (zSt k) M 0 [some (.ref 0), some (.int x1)] [] Φ := by
  refine z_iload_n d_H_shortest_0 rfl ?_
  refine z_iconst (-1) d_H_shortest_1 (by decide) ?_
  refine z_icmp_eq 14 d_H_shortest_2 rfl ⟨fun c1 => ?_, fun c1 => ?_⟩
  · replace h := h.1 c1
    refine z_aload_n d_H_shortest_14 rfl ?_
    refine z_geti f_H_256 rfl d_H_shortest_15 (tA_0 k) ?_
    refine z_if_ne 52 d_H_shortest_18 rfl ⟨fun c2 => ?_, fun c2 => ?_⟩
    · replace h := h.1 c2
      refine z_aload_n d_H_shortest_52 rfl ?_
      refine z_getr f_H_65 rfl d_H_shortest_53 (tA_0 k) (tr_0_7 k) ?_
      refine z_geti f_H_263 rfl d_H_shortest_56 (tA_69 k) ?_
      refine z_bipush (-6) d_H_shortest_59 (by decide) ?_
      refine z_icmp_ne 67 d_H_shortest_61 rfl ⟨fun c3 => ?_, fun c3 => ?_⟩
      · replace h := h.1 c3
        refine z_iload_n d_H_shortest_67 rfl ?_
        refine z_iconst (-1) d_H_shortest_68 (by decide) ?_
        refine z_icmp_ne 82 d_H_shortest_69 rfl ⟨fun c4 => ?_, fun c4 => ?_⟩
        · replace h := h.1 c4
          refine z_aload_n d_H_shortest_82 rfl ?_
          refine z_getr f_H_65 rfl d_H_shortest_83 (tA_0 k) (tr_0_7 k) ?_
          refine z_iload_n d_H_shortest_86 rfl ?_
          refine z_callV (as := [.int x1]) (st := []) i_Trial_codeOf ⟨rfl, rfl⟩ v_Trial_codeOf w_Trial_codeOf l_H_265 d_H_shortest_87 (by decide) (tA_69 k) rfl (Nat.le_of_ble_eq_true rfl) (Nat.le_of_ble_eq_true rfl) h (fun q5 T5 M5 h => ?_)
          obtain ⟨y5, rfl, rfl, h⟩ := h
          exact z_iret rfl d_H_shortest_90 h
        · replace h := h.2 c4
          refine z_aload_n d_H_shortest_72 rfl ?_
          refine z_getr f_H_65 rfl d_H_shortest_73 (tA_0 k) (tr_0_7 k) ?_
          refine z_geti f_H_263 rfl d_H_shortest_76 (tA_69 k) ?_
          refine z_goto 90 d_H_shortest_79 rfl ?_
          exact z_iret rfl d_H_shortest_90 h
      · replace h := h.2 c3
        refine z_bipush (-6) d_H_shortest_64 (by decide) ?_
        exact z_iret rfl d_H_shortest_66 h
    · replace h := h.2 c2
      refine z_aload_n d_H_shortest_21 rfl ?_
      refine z_getr f_H_72 rfl d_H_shortest_22 (tA_0 k) (tr_0_8 k) ?_
      refine z_aload_n d_H_shortest_25 rfl ?_
      refine z_getr f_H_21 rfl d_H_shortest_26 (tA_0 k) (tr_0_1 k) ?_
      refine z_callV (as := [.ref 3]) (st := []) i_Tally_count ⟨rfl, rfl⟩ v_Tally_count w_Tally_count l_H_164 d_H_shortest_29 (by decide) (tA_74 k) rfl (Nat.le_of_ble_eq_true rfl) (Nat.le_of_ble_eq_true rfl) h (fun q6 T6 M6 h => ?_)
      obtain ⟨rfl, rfl, h⟩ := h
      refine z_aload_n d_H_shortest_32 rfl ?_
      refine z_getr f_H_65 rfl d_H_shortest_33 (tA_0 k) (tr_0_7 k) ?_
      refine z_aload_n d_H_shortest_36 rfl ?_
      refine z_getr f_H_21 rfl d_H_shortest_37 (tA_0 k) (tr_0_1 k) ?_
      refine z_aload_n d_H_shortest_40 rfl ?_
      refine z_getr f_H_72 rfl d_H_shortest_41 (tA_0 k) (tr_0_8 k) ?_
      refine z_callV (as := [.ref 3, .ref 74]) (st := []) i_Trial_seek ⟨rfl, rfl⟩ v_Trial_seek w_Trial_seek l_H_259 d_H_shortest_44 (by decide) (tA_69 k) rfl (Nat.le_of_ble_eq_true rfl) (Nat.le_of_ble_eq_true rfl) h (fun q7 T7 M7 h => ?_)
      obtain ⟨rfl, rfl, h⟩ := h
      refine z_aload_n d_H_shortest_47 rfl ?_
      refine z_iconst 1 d_H_shortest_48 (by decide) ?_
      refine z_puti (p_H_256 rfl) rfl d_H_shortest_49 (tA_0 k) rfl rfl ?_
      refine z_mem (fun M8 eM8 => ?_)
      replace h := h M8 eM8
      refine z_aload_n d_H_shortest_52 rfl ?_
      refine z_getr f_H_65 rfl d_H_shortest_53 (tA_0 k) (tr_0_7 k) ?_
      refine z_geti f_H_263 rfl d_H_shortest_56 (tA_69 k) ?_
      refine z_bipush (-6) d_H_shortest_59 (by decide) ?_
      refine z_icmp_ne 67 d_H_shortest_61 rfl ⟨fun c9 => ?_, fun c9 => ?_⟩
      · replace h := h.1 c9
        refine z_iload_n d_H_shortest_67 rfl ?_
        refine z_iconst (-1) d_H_shortest_68 (by decide) ?_
        refine z_icmp_ne 82 d_H_shortest_69 rfl ⟨fun c10 => ?_, fun c10 => ?_⟩
        · replace h := h.1 c10
          refine z_aload_n d_H_shortest_82 rfl ?_
          refine z_getr f_H_65 rfl d_H_shortest_83 (tA_0 k) (tr_0_7 k) ?_
          refine z_iload_n d_H_shortest_86 rfl ?_
          refine z_callV (as := [.int x1]) (st := []) i_Trial_codeOf ⟨rfl, rfl⟩ v_Trial_codeOf w_Trial_codeOf l_H_265 d_H_shortest_87 (by decide) (tA_69 k) rfl (Nat.le_of_ble_eq_true rfl) (Nat.le_of_ble_eq_true rfl) h (fun q11 T11 M11 h => ?_)
          obtain ⟨y11, rfl, rfl, h⟩ := h
          exact z_iret rfl d_H_shortest_90 h
        · replace h := h.2 c10
          refine z_aload_n d_H_shortest_72 rfl ?_
          refine z_getr f_H_65 rfl d_H_shortest_73 (tA_0 k) (tr_0_7 k) ?_
          refine z_geti f_H_263 rfl d_H_shortest_76 (tA_69 k) ?_
          refine z_goto 90 d_H_shortest_79 rfl ?_
          exact z_iret rfl d_H_shortest_90 h
      · replace h := h.2 c9
        refine z_bipush (-6) d_H_shortest_64 (by decide) ?_
        exact z_iret rfl d_H_shortest_66 h
  · replace h := h.2 c1
    refine z_iload_n d_H_shortest_5 rfl ?_
    refine z_callS (as := [.int x1]) (st := []) i_H_isVariable s_H_isVariable l_H_130 d_H_shortest_6 (by decide) rfl (Nat.le_of_ble_eq_true rfl) (Nat.le_of_ble_eq_true rfl) h (fun q12 T12 M12 h => ?_)
    obtain ⟨y12, rfl, rfl, h⟩ := h
    refine z_if_ne 14 d_H_shortest_9 rfl ⟨fun c13 => ?_, fun c13 => ?_⟩
    · replace h := h.1 c13
      refine z_aload_n d_H_shortest_14 rfl ?_
      refine z_geti f_H_256 rfl d_H_shortest_15 (tA_0 k) ?_
      refine z_if_ne 52 d_H_shortest_18 rfl ⟨fun c14 => ?_, fun c14 => ?_⟩
      · replace h := h.1 c14
        refine z_aload_n d_H_shortest_52 rfl ?_
        refine z_getr f_H_65 rfl d_H_shortest_53 (tA_0 k) (tr_0_7 k) ?_
        refine z_geti f_H_263 rfl d_H_shortest_56 (tA_69 k) ?_
        refine z_bipush (-6) d_H_shortest_59 (by decide) ?_
        refine z_icmp_ne 67 d_H_shortest_61 rfl ⟨fun c15 => ?_, fun c15 => ?_⟩
        · replace h := h.1 c15
          refine z_iload_n d_H_shortest_67 rfl ?_
          refine z_iconst (-1) d_H_shortest_68 (by decide) ?_
          refine z_icmp_ne 82 d_H_shortest_69 rfl ⟨fun c16 => ?_, fun c16 => ?_⟩
          · replace h := h.1 c16
            refine z_aload_n d_H_shortest_82 rfl ?_
            refine z_getr f_H_65 rfl d_H_shortest_83 (tA_0 k) (tr_0_7 k) ?_
            refine z_iload_n d_H_shortest_86 rfl ?_
            refine z_callV (as := [.int x1]) (st := []) i_Trial_codeOf ⟨rfl, rfl⟩ v_Trial_codeOf w_Trial_codeOf l_H_265 d_H_shortest_87 (by decide) (tA_69 k) rfl (Nat.le_of_ble_eq_true rfl) (Nat.le_of_ble_eq_true rfl) h (fun q17 T17 M17 h => ?_)
            obtain ⟨y17, rfl, rfl, h⟩ := h
            exact z_iret rfl d_H_shortest_90 h
          · replace h := h.2 c16
            refine z_aload_n d_H_shortest_72 rfl ?_
            refine z_getr f_H_65 rfl d_H_shortest_73 (tA_0 k) (tr_0_7 k) ?_
            refine z_geti f_H_263 rfl d_H_shortest_76 (tA_69 k) ?_
            refine z_goto 90 d_H_shortest_79 rfl ?_
            exact z_iret rfl d_H_shortest_90 h
        · replace h := h.2 c15
          refine z_bipush (-6) d_H_shortest_64 (by decide) ?_
          exact z_iret rfl d_H_shortest_66 h
      · replace h := h.2 c14
        refine z_aload_n d_H_shortest_21 rfl ?_
        refine z_getr f_H_72 rfl d_H_shortest_22 (tA_0 k) (tr_0_8 k) ?_
        refine z_aload_n d_H_shortest_25 rfl ?_
        refine z_getr f_H_21 rfl d_H_shortest_26 (tA_0 k) (tr_0_1 k) ?_
        refine z_callV (as := [.ref 3]) (st := []) i_Tally_count ⟨rfl, rfl⟩ v_Tally_count w_Tally_count l_H_164 d_H_shortest_29 (by decide) (tA_74 k) rfl (Nat.le_of_ble_eq_true rfl) (Nat.le_of_ble_eq_true rfl) h (fun q18 T18 M18 h => ?_)
        obtain ⟨rfl, rfl, h⟩ := h
        refine z_aload_n d_H_shortest_32 rfl ?_
        refine z_getr f_H_65 rfl d_H_shortest_33 (tA_0 k) (tr_0_7 k) ?_
        refine z_aload_n d_H_shortest_36 rfl ?_
        refine z_getr f_H_21 rfl d_H_shortest_37 (tA_0 k) (tr_0_1 k) ?_
        refine z_aload_n d_H_shortest_40 rfl ?_
        refine z_getr f_H_72 rfl d_H_shortest_41 (tA_0 k) (tr_0_8 k) ?_
        refine z_callV (as := [.ref 3, .ref 74]) (st := []) i_Trial_seek ⟨rfl, rfl⟩ v_Trial_seek w_Trial_seek l_H_259 d_H_shortest_44 (by decide) (tA_69 k) rfl (Nat.le_of_ble_eq_true rfl) (Nat.le_of_ble_eq_true rfl) h (fun q19 T19 M19 h => ?_)
        obtain ⟨rfl, rfl, h⟩ := h
        refine z_aload_n d_H_shortest_47 rfl ?_
        refine z_iconst 1 d_H_shortest_48 (by decide) ?_
        refine z_puti (p_H_256 rfl) rfl d_H_shortest_49 (tA_0 k) rfl rfl ?_
        refine z_mem (fun M20 eM20 => ?_)
        replace h := h M20 eM20
        refine z_aload_n d_H_shortest_52 rfl ?_
        refine z_getr f_H_65 rfl d_H_shortest_53 (tA_0 k) (tr_0_7 k) ?_
        refine z_geti f_H_263 rfl d_H_shortest_56 (tA_69 k) ?_
        refine z_bipush (-6) d_H_shortest_59 (by decide) ?_
        refine z_icmp_ne 67 d_H_shortest_61 rfl ⟨fun c21 => ?_, fun c21 => ?_⟩
        · replace h := h.1 c21
          refine z_iload_n d_H_shortest_67 rfl ?_
          refine z_iconst (-1) d_H_shortest_68 (by decide) ?_
          refine z_icmp_ne 82 d_H_shortest_69 rfl ⟨fun c22 => ?_, fun c22 => ?_⟩
          · replace h := h.1 c22
            refine z_aload_n d_H_shortest_82 rfl ?_
            refine z_getr f_H_65 rfl d_H_shortest_83 (tA_0 k) (tr_0_7 k) ?_
            refine z_iload_n d_H_shortest_86 rfl ?_
            refine z_callV (as := [.int x1]) (st := []) i_Trial_codeOf ⟨rfl, rfl⟩ v_Trial_codeOf w_Trial_codeOf l_H_265 d_H_shortest_87 (by decide) (tA_69 k) rfl (Nat.le_of_ble_eq_true rfl) (Nat.le_of_ble_eq_true rfl) h (fun q23 T23 M23 h => ?_)
            obtain ⟨y23, rfl, rfl, h⟩ := h
            exact z_iret rfl d_H_shortest_90 h
          · replace h := h.2 c22
            refine z_aload_n d_H_shortest_72 rfl ?_
            refine z_getr f_H_65 rfl d_H_shortest_73 (tA_0 k) (tr_0_7 k) ?_
            refine z_geti f_H_263 rfl d_H_shortest_76 (tA_69 k) ?_
            refine z_goto 90 d_H_shortest_79 rfl ?_
            exact z_iret rfl d_H_shortest_90 h
        · replace h := h.2 c21
          refine z_bipush (-6) d_H_shortest_64 (by decide) ?_
          exact z_iret rfl d_H_shortest_66 h
    · replace h := h.2 c13
      refine z_iconst (-1) d_H_shortest_12 (by decide) ?_
      exact z_iret rfl d_H_shortest_13 h

set_option maxRecDepth 20000 in
theorem vc_H_image_0 (E : ZE) (k : Nat) (M : ZM) (x1 : Int32) (Φ : Option Value → ZS → ZM → Prop)  (h : (x1 < 0 → Φ (some (.int (-2))) (zSt k) M) ∧ (¬ x1 < 0 → (x1 ≤ 1 → (¬ x1 = 0 → zW E m_Book_copy 2 (zSt k) M 0 [some (.ref 31), some (.ref 3)] [] (fun q4 T4 M4 => q4 = none ∧ (zSt k) = T4 ∧ ∀ M5 : ZM, M5 = zms M4 31 5 1 → Φ (some (.int 1)) (zSt k) M5)) ∧ (x1 = 0 → zW E m_Book_copy 2 (zSt k) M 0 [some (.ref 17), some (.ref 3)] [] (fun q6 T6 M6 => q6 = none ∧ (zSt k) = T6 ∧ ∀ M7 : ZM, M7 = zms M6 17 5 1 → Φ (some (.int 1)) (zSt k) M7))) ∧ (¬ x1 ≤ 1 → Φ (some (.int (-2))) (zSt k) M))) : zW E m_H_image 3 (zSt k) M 0 [some (.ref 0), some (.int x1), none] [] Φ := by
  refine z_iload_n d_H_image_0 rfl ?_
  refine z_if_lt 9 d_H_image_1 rfl ⟨fun c1 => ?_, fun c1 => ?_⟩
  · replace h := h.1 c1
    refine z_bipush (-2) d_H_image_9 (by decide) ?_
    exact z_iret rfl d_H_image_11 h
  · replace h := h.2 c1
    refine z_iload_n d_H_image_4 rfl ?_
    refine z_iconst 1 d_H_image_5 (by decide) ?_
    refine z_icmp_le 12 d_H_image_6 rfl ⟨fun c2 => ?_, fun c2 => ?_⟩
    · replace h := h.1 c2
      refine z_iload_n d_H_image_12 rfl ?_
      refine z_if_ne 23 d_H_image_13 rfl ⟨fun c3 => ?_, fun c3 => ?_⟩
      · replace h := h.1 c3
        refine z_aload_n d_H_image_23 rfl ?_
        refine z_getr f_H_28 rfl d_H_image_24 (tA_0 k) (tr_0_3 k) ?_
        refine z_astore_n (ls' := [some (.ref 0), some (.int x1), some (.ref 31)]) d_H_image_27 (Nat.le_of_ble_eq_true rfl) rfl rfl ?_
        refine z_aload_n d_H_image_28 rfl ?_
        refine z_aload_n d_H_image_29 rfl ?_
        refine z_getr f_H_21 rfl d_H_image_30 (tA_0 k) (tr_0_1 k) ?_
        refine z_callV (as := [.ref 3]) (st := []) i_Book_copy ⟨rfl, rfl⟩ v_Book_copy w_Book_copy l_H_268 d_H_image_33 (by decide) (tA_31 k) rfl (Nat.le_of_ble_eq_true rfl) (Nat.le_of_ble_eq_true rfl) h (fun q4 T4 M4 h => ?_)
        obtain ⟨rfl, rfl, h⟩ := h
        refine z_aload_n d_H_image_36 rfl ?_
        refine z_iconst 1 d_H_image_37 (by decide) ?_
        refine z_puti (p_H_270 rfl) rfl d_H_image_38 (tA_31 k) rfl rfl ?_
        refine z_mem (fun M5 eM5 => ?_)
        replace h := h M5 eM5
        refine z_iconst 1 d_H_image_41 (by decide) ?_
        exact z_iret rfl d_H_image_42 h
      · replace h := h.2 c3
        refine z_aload_n d_H_image_16 rfl ?_
        refine z_getr f_H_25 rfl d_H_image_17 (tA_0 k) (tr_0_2 k) ?_
        refine z_goto 27 d_H_image_20 rfl ?_
        refine z_astore_n (ls' := [some (.ref 0), some (.int x1), some (.ref 17)]) d_H_image_27 (Nat.le_of_ble_eq_true rfl) rfl rfl ?_
        refine z_aload_n d_H_image_28 rfl ?_
        refine z_aload_n d_H_image_29 rfl ?_
        refine z_getr f_H_21 rfl d_H_image_30 (tA_0 k) (tr_0_1 k) ?_
        refine z_callV (as := [.ref 3]) (st := []) i_Book_copy ⟨rfl, rfl⟩ v_Book_copy w_Book_copy l_H_268 d_H_image_33 (by decide) (tA_17 k) rfl (Nat.le_of_ble_eq_true rfl) (Nat.le_of_ble_eq_true rfl) h (fun q6 T6 M6 h => ?_)
        obtain ⟨rfl, rfl, h⟩ := h
        refine z_aload_n d_H_image_36 rfl ?_
        refine z_iconst 1 d_H_image_37 (by decide) ?_
        refine z_puti (p_H_270 rfl) rfl d_H_image_38 (tA_17 k) rfl rfl ?_
        refine z_mem (fun M7 eM7 => ?_)
        replace h := h M7 eM7
        refine z_iconst 1 d_H_image_41 (by decide) ?_
        exact z_iret rfl d_H_image_42 h
    · replace h := h.2 c2
      refine z_bipush (-2) d_H_image_9 (by decide) ?_
      exact z_iret rfl d_H_image_11 h

set_option maxRecDepth 20000 in
theorem vc_H_restore_0 (E : ZE) (k : Nat) (M : ZM) (x1 : Int32) (Φ : Option Value → ZS → ZM → Prop)  (h : (x1 < 0 → Φ (some (.int (-2))) (zSt k) M) ∧ (¬ x1 < 0 → (x1 ≤ 1 → (¬ x1 = 0 → (¬ (M 31 5) = 0 → zW E m_Book_copy 2 (zSt k) M 0 [some (.ref 3), some (.ref 31)] [] (fun q5 T5 M5 => q5 = none ∧ (zSt k) = T5 ∧ zW E m_H_machineChanged 1 (zSt k) M5 0 [some (.ref 0)] [] (fun q6 T6 M6 => q6 = none ∧ (zSt k) = T6 ∧ Φ (some (.int 1)) (zSt k) M6))) ∧ ((M 31 5) = 0 → Φ (some (.int (-3))) (zSt k) M)) ∧ (x1 = 0 → (¬ (M 17 5) = 0 → zW E m_Book_copy 2 (zSt k) M 0 [some (.ref 3), some (.ref 17)] [] (fun q8 T8 M8 => q8 = none ∧ (zSt k) = T8 ∧ zW E m_H_machineChanged 1 (zSt k) M8 0 [some (.ref 0)] [] (fun q9 T9 M9 => q9 = none ∧ (zSt k) = T9 ∧ Φ (some (.int 1)) (zSt k) M9))) ∧ ((M 17 5) = 0 → Φ (some (.int (-3))) (zSt k) M))) ∧ (¬ x1 ≤ 1 → Φ (some (.int (-2))) (zSt k) M))) : zW E m_H_restore 3 (zSt k) M 0 [some (.ref 0), some (.int x1), none] [] Φ := by
  refine z_iload_n d_H_restore_0 rfl ?_
  refine z_if_lt 9 d_H_restore_1 rfl ⟨fun c1 => ?_, fun c1 => ?_⟩
  · replace h := h.1 c1
    refine z_bipush (-2) d_H_restore_9 (by decide) ?_
    exact z_iret rfl d_H_restore_11 h
  · replace h := h.2 c1
    refine z_iload_n d_H_restore_4 rfl ?_
    refine z_iconst 1 d_H_restore_5 (by decide) ?_
    refine z_icmp_le 12 d_H_restore_6 rfl ⟨fun c2 => ?_, fun c2 => ?_⟩
    · replace h := h.1 c2
      refine z_iload_n d_H_restore_12 rfl ?_
      refine z_if_ne 23 d_H_restore_13 rfl ⟨fun c3 => ?_, fun c3 => ?_⟩
      · replace h := h.1 c3
        refine z_aload_n d_H_restore_23 rfl ?_
        refine z_getr f_H_28 rfl d_H_restore_24 (tA_0 k) (tr_0_3 k) ?_
        refine z_astore_n (ls' := [some (.ref 0), some (.int x1), some (.ref 31)]) d_H_restore_27 (Nat.le_of_ble_eq_true rfl) rfl rfl ?_
        refine z_aload_n d_H_restore_28 rfl ?_
        refine z_geti f_H_270 rfl d_H_restore_29 (tA_31 k) ?_
        refine z_if_ne 38 d_H_restore_32 rfl ⟨fun c4 => ?_, fun c4 => ?_⟩
        · replace h := h.1 c4
          refine z_aload_n d_H_restore_38 rfl ?_
          refine z_getr f_H_21 rfl d_H_restore_39 (tA_0 k) (tr_0_1 k) ?_
          refine z_aload_n d_H_restore_42 rfl ?_
          refine z_callV (as := [.ref 31]) (st := []) i_Book_copy ⟨rfl, rfl⟩ v_Book_copy w_Book_copy l_H_268 d_H_restore_43 (by decide) (tA_3 k) rfl (Nat.le_of_ble_eq_true rfl) (Nat.le_of_ble_eq_true rfl) h (fun q5 T5 M5 h => ?_)
          obtain ⟨rfl, rfl, h⟩ := h
          refine z_aload_n d_H_restore_46 rfl ?_
          refine z_callV (as := []) (st := []) i_H_machineChanged ⟨rfl, rfl⟩ v_H_machineChanged w_H_machineChanged l_H_127 d_H_restore_47 (by decide) (tA_0 k) rfl (Nat.le_of_ble_eq_true rfl) (Nat.le_of_ble_eq_true rfl) h (fun q6 T6 M6 h => ?_)
          obtain ⟨rfl, rfl, h⟩ := h
          refine z_iconst 1 d_H_restore_50 (by decide) ?_
          exact z_iret rfl d_H_restore_51 h
        · replace h := h.2 c4
          refine z_bipush (-3) d_H_restore_35 (by decide) ?_
          exact z_iret rfl d_H_restore_37 h
      · replace h := h.2 c3
        refine z_aload_n d_H_restore_16 rfl ?_
        refine z_getr f_H_25 rfl d_H_restore_17 (tA_0 k) (tr_0_2 k) ?_
        refine z_goto 27 d_H_restore_20 rfl ?_
        refine z_astore_n (ls' := [some (.ref 0), some (.int x1), some (.ref 17)]) d_H_restore_27 (Nat.le_of_ble_eq_true rfl) rfl rfl ?_
        refine z_aload_n d_H_restore_28 rfl ?_
        refine z_geti f_H_270 rfl d_H_restore_29 (tA_17 k) ?_
        refine z_if_ne 38 d_H_restore_32 rfl ⟨fun c7 => ?_, fun c7 => ?_⟩
        · replace h := h.1 c7
          refine z_aload_n d_H_restore_38 rfl ?_
          refine z_getr f_H_21 rfl d_H_restore_39 (tA_0 k) (tr_0_1 k) ?_
          refine z_aload_n d_H_restore_42 rfl ?_
          refine z_callV (as := [.ref 17]) (st := []) i_Book_copy ⟨rfl, rfl⟩ v_Book_copy w_Book_copy l_H_268 d_H_restore_43 (by decide) (tA_3 k) rfl (Nat.le_of_ble_eq_true rfl) (Nat.le_of_ble_eq_true rfl) h (fun q8 T8 M8 h => ?_)
          obtain ⟨rfl, rfl, h⟩ := h
          refine z_aload_n d_H_restore_46 rfl ?_
          refine z_callV (as := []) (st := []) i_H_machineChanged ⟨rfl, rfl⟩ v_H_machineChanged w_H_machineChanged l_H_127 d_H_restore_47 (by decide) (tA_0 k) rfl (Nat.le_of_ble_eq_true rfl) (Nat.le_of_ble_eq_true rfl) h (fun q9 T9 M9 h => ?_)
          obtain ⟨rfl, rfl, h⟩ := h
          refine z_iconst 1 d_H_restore_50 (by decide) ?_
          exact z_iret rfl d_H_restore_51 h
        · replace h := h.2 c7
          refine z_bipush (-3) d_H_restore_35 (by decide) ?_
          exact z_iret rfl d_H_restore_37 h
    · replace h := h.2 c2
      refine z_bipush (-2) d_H_restore_9 (by decide) ?_
      exact z_iret rfl d_H_restore_11 h

set_option maxRecDepth 20000 in
theorem vc_H_told_0 (E : ZE) (k : Nat) (M : ZM) (x1 : Int32) (Φ : Option Value → ZS → ZM → Prop)  (h : (¬ x1 = 0 → (¬ x1 = 1 → (¬ x1 = 2 → (x1 < 10 → (x1 < 20 → (x1 < 30 → (x1 < 100 → Φ (some (.int (-2))) (zSt k) M) ∧ (¬ x1 < 100 → (400 ≤ x1 → Φ (some (.int (-2))) (zSt k) M) ∧ (¬ 400 ≤ x1 → zW E m_Words_of 0 (zSt k) M 0 [some (.ref 10), some (.int ((x1 / 100) - 1))] [] (fun q9 T9 M9 => ∃ b9 L9 : Nat, q9 = some (.ref b9) ∧ (zSt k) = T9 ∧ zRow (zSt k) b9 L9 ∧ (zW E m_Row_at 0 (zSt k) M9 0 [some (.ref b9), some (.int (x1 - x1 / 100 * 100))] [] (fun q10 T10 M10 => ∃ y10 : Int32, q10 = some (.int y10) ∧ (zSt k) = T10 ∧ (¬ y10 = (-6) → Φ (some (.int y10)) (zSt k) M10) ∧ (y10 = (-6) → Φ (some (.int (-2))) (zSt k) M10))))))) ∧ (¬ x1 < 30 → (33 ≤ x1 → (x1 < 100 → Φ (some (.int (-2))) (zSt k) M) ∧ (¬ x1 < 100 → (400 ≤ x1 → Φ (some (.int (-2))) (zSt k) M) ∧ (¬ 400 ≤ x1 → zW E m_Words_of 0 (zSt k) M 0 [some (.ref 10), some (.int ((x1 / 100) - 1))] [] (fun q15 T15 M15 => ∃ b15 L15 : Nat, q15 = some (.ref b15) ∧ (zSt k) = T15 ∧ zRow (zSt k) b15 L15 ∧ (zW E m_Row_at 0 (zSt k) M15 0 [some (.ref b15), some (.int (x1 - x1 / 100 * 100))] [] (fun q16 T16 M16 => ∃ y16 : Int32, q16 = some (.int y16) ∧ (zSt k) = T16 ∧ (¬ y16 = (-6) → Φ (some (.int y16)) (zSt k) M16) ∧ (y16 = (-6) → Φ (some (.int (-2))) (zSt k) M16))))))) ∧ (¬ 33 ≤ x1 → zW E m_Words_of 0 (zSt k) M 0 [some (.ref 10), some (.int (x1 - 30))] [] (fun q18 T18 M18 => ∃ b18 L18 : Nat, q18 = some (.ref b18) ∧ (zSt k) = T18 ∧ zRow (zSt k) b18 L18 ∧ (zW E m_Row_size 0 (zSt k) M18 0 [some (.ref b18)] [] (fun q19 T19 M19 => ∃ y19 : Int32, q19 = some (.int y19) ∧ (zSt k) = T19 ∧ Φ (some (.int y19)) (zSt k) M19)))))) ∧ (¬ x1 < 20 → (29 ≤ x1 → (x1 < 30 → (x1 < 100 → Φ (some (.int (-2))) (zSt k) M) ∧ (¬ x1 < 100 → (400 ≤ x1 → Φ (some (.int (-2))) (zSt k) M) ∧ (¬ 400 ≤ x1 → zW E m_Words_of 0 (zSt k) M 0 [some (.ref 10), some (.int ((x1 / 100) - 1))] [] (fun q24 T24 M24 => ∃ b24 L24 : Nat, q24 = some (.ref b24) ∧ (zSt k) = T24 ∧ zRow (zSt k) b24 L24 ∧ (zW E m_Row_at 0 (zSt k) M24 0 [some (.ref b24), some (.int (x1 - x1 / 100 * 100))] [] (fun q25 T25 M25 => ∃ y25 : Int32, q25 = some (.int y25) ∧ (zSt k) = T25 ∧ (¬ y25 = (-6) → Φ (some (.int y25)) (zSt k) M25) ∧ (y25 = (-6) → Φ (some (.int (-2))) (zSt k) M25))))))) ∧ (¬ x1 < 30 → (33 ≤ x1 → (x1 < 100 → Φ (some (.int (-2))) (zSt k) M) ∧ (¬ x1 < 100 → (400 ≤ x1 → Φ (some (.int (-2))) (zSt k) M) ∧ (¬ 400 ≤ x1 → zW E m_Words_of 0 (zSt k) M 0 [some (.ref 10), some (.int ((x1 / 100) - 1))] [] (fun q30 T30 M30 => ∃ b30 L30 : Nat, q30 = some (.ref b30) ∧ (zSt k) = T30 ∧ zRow (zSt k) b30 L30 ∧ (zW E m_Row_at 0 (zSt k) M30 0 [some (.ref b30), some (.int (x1 - x1 / 100 * 100))] [] (fun q31 T31 M31 => ∃ y31 : Int32, q31 = some (.int y31) ∧ (zSt k) = T31 ∧ (¬ y31 = (-6) → Φ (some (.int y31)) (zSt k) M31) ∧ (y31 = (-6) → Φ (some (.int (-2))) (zSt k) M31))))))) ∧ (¬ 33 ≤ x1 → zW E m_Words_of 0 (zSt k) M 0 [some (.ref 10), some (.int (x1 - 30))] [] (fun q33 T33 M33 => ∃ b33 L33 : Nat, q33 = some (.ref b33) ∧ (zSt k) = T33 ∧ zRow (zSt k) b33 L33 ∧ (zW E m_Row_size 0 (zSt k) M33 0 [some (.ref b33)] [] (fun q34 T34 M34 => ∃ y34 : Int32, q34 = some (.int y34) ∧ (zSt k) = T34 ∧ Φ (some (.int y34)) (zSt k) M34)))))) ∧ (¬ 29 ≤ x1 → zW E m_Need_ofVariable 0 (zSt k) M 0 [some (.int (M 3 4)), some (.int ((x1 - 20) / 3))] [] (fun q35 T35 M35 => ∃ y35 : Int32, q35 = some (.int y35) ∧ (zSt k) = T35 ∧ zW E m_Need_ofState 0 (zSt k) M35 0 [some (.int y35), some (.int ((x1 - 20) - (x1 - 20) / 3 * 3))] [] (fun q36 T36 M36 => ∃ y36 : Int32, q36 = some (.int y36) ∧ (zSt k) = T36 ∧ Φ (some (.int y36)) (zSt k) M36))))) ∧ (¬ x1 < 10 → (16 ≤ x1 → (x1 < 20 → (x1 < 30 → (x1 < 100 → Φ (some (.int (-2))) (zSt k) M) ∧ (¬ x1 < 100 → (400 ≤ x1 → Φ (some (.int (-2))) (zSt k) M) ∧ (¬ 400 ≤ x1 → zW E m_Words_of 0 (zSt k) M 0 [some (.ref 10), some (.int ((x1 / 100) - 1))] [] (fun q42 T42 M42 => ∃ b42 L42 : Nat, q42 = some (.ref b42) ∧ (zSt k) = T42 ∧ zRow (zSt k) b42 L42 ∧ (zW E m_Row_at 0 (zSt k) M42 0 [some (.ref b42), some (.int (x1 - x1 / 100 * 100))] [] (fun q43 T43 M43 => ∃ y43 : Int32, q43 = some (.int y43) ∧ (zSt k) = T43 ∧ (¬ y43 = (-6) → Φ (some (.int y43)) (zSt k) M43) ∧ (y43 = (-6) → Φ (some (.int (-2))) (zSt k) M43))))))) ∧ (¬ x1 < 30 → (33 ≤ x1 → (x1 < 100 → Φ (some (.int (-2))) (zSt k) M) ∧ (¬ x1 < 100 → (400 ≤ x1 → Φ (some (.int (-2))) (zSt k) M) ∧ (¬ 400 ≤ x1 → zW E m_Words_of 0 (zSt k) M 0 [some (.ref 10), some (.int ((x1 / 100) - 1))] [] (fun q48 T48 M48 => ∃ b48 L48 : Nat, q48 = some (.ref b48) ∧ (zSt k) = T48 ∧ zRow (zSt k) b48 L48 ∧ (zW E m_Row_at 0 (zSt k) M48 0 [some (.ref b48), some (.int (x1 - x1 / 100 * 100))] [] (fun q49 T49 M49 => ∃ y49 : Int32, q49 = some (.int y49) ∧ (zSt k) = T49 ∧ (¬ y49 = (-6) → Φ (some (.int y49)) (zSt k) M49) ∧ (y49 = (-6) → Φ (some (.int (-2))) (zSt k) M49))))))) ∧ (¬ 33 ≤ x1 → zW E m_Words_of 0 (zSt k) M 0 [some (.ref 10), some (.int (x1 - 30))] [] (fun q51 T51 M51 => ∃ b51 L51 : Nat, q51 = some (.ref b51) ∧ (zSt k) = T51 ∧ zRow (zSt k) b51 L51 ∧ (zW E m_Row_size 0 (zSt k) M51 0 [some (.ref b51)] [] (fun q52 T52 M52 => ∃ y52 : Int32, q52 = some (.int y52) ∧ (zSt k) = T52 ∧ Φ (some (.int y52)) (zSt k) M52)))))) ∧ (¬ x1 < 20 → (29 ≤ x1 → (x1 < 30 → (x1 < 100 → Φ (some (.int (-2))) (zSt k) M) ∧ (¬ x1 < 100 → (400 ≤ x1 → Φ (some (.int (-2))) (zSt k) M) ∧ (¬ 400 ≤ x1 → zW E m_Words_of 0 (zSt k) M 0 [some (.ref 10), some (.int ((x1 / 100) - 1))] [] (fun q57 T57 M57 => ∃ b57 L57 : Nat, q57 = some (.ref b57) ∧ (zSt k) = T57 ∧ zRow (zSt k) b57 L57 ∧ (zW E m_Row_at 0 (zSt k) M57 0 [some (.ref b57), some (.int (x1 - x1 / 100 * 100))] [] (fun q58 T58 M58 => ∃ y58 : Int32, q58 = some (.int y58) ∧ (zSt k) = T58 ∧ (¬ y58 = (-6) → Φ (some (.int y58)) (zSt k) M58) ∧ (y58 = (-6) → Φ (some (.int (-2))) (zSt k) M58))))))) ∧ (¬ x1 < 30 → (33 ≤ x1 → (x1 < 100 → Φ (some (.int (-2))) (zSt k) M) ∧ (¬ x1 < 100 → (400 ≤ x1 → Φ (some (.int (-2))) (zSt k) M) ∧ (¬ 400 ≤ x1 → zW E m_Words_of 0 (zSt k) M 0 [some (.ref 10), some (.int ((x1 / 100) - 1))] [] (fun q63 T63 M63 => ∃ b63 L63 : Nat, q63 = some (.ref b63) ∧ (zSt k) = T63 ∧ zRow (zSt k) b63 L63 ∧ (zW E m_Row_at 0 (zSt k) M63 0 [some (.ref b63), some (.int (x1 - x1 / 100 * 100))] [] (fun q64 T64 M64 => ∃ y64 : Int32, q64 = some (.int y64) ∧ (zSt k) = T64 ∧ (¬ y64 = (-6) → Φ (some (.int y64)) (zSt k) M64) ∧ (y64 = (-6) → Φ (some (.int (-2))) (zSt k) M64))))))) ∧ (¬ 33 ≤ x1 → zW E m_Words_of 0 (zSt k) M 0 [some (.ref 10), some (.int (x1 - 30))] [] (fun q66 T66 M66 => ∃ b66 L66 : Nat, q66 = some (.ref b66) ∧ (zSt k) = T66 ∧ zRow (zSt k) b66 L66 ∧ (zW E m_Row_size 0 (zSt k) M66 0 [some (.ref b66)] [] (fun q67 T67 M67 => ∃ y67 : Int32, q67 = some (.int y67) ∧ (zSt k) = T67 ∧ Φ (some (.int y67)) (zSt k) M67)))))) ∧ (¬ 29 ≤ x1 → zW E m_Need_ofVariable 0 (zSt k) M 0 [some (.int (M 3 4)), some (.int ((x1 - 20) / 3))] [] (fun q68 T68 M68 => ∃ y68 : Int32, q68 = some (.int y68) ∧ (zSt k) = T68 ∧ zW E m_Need_ofState 0 (zSt k) M68 0 [some (.int y68), some (.int ((x1 - 20) - (x1 - 20) / 3 * 3))] [] (fun q69 T69 M69 => ∃ y69 : Int32, q69 = some (.int y69) ∧ (zSt k) = T69 ∧ Φ (some (.int y69)) (zSt k) M69))))) ∧ (¬ 16 ≤ x1 → zW E m_Machine_after 0 (zSt k) M 0 [some (.ref 8), some (.int ((x1 - 10) - (x1 - 10) / 3 * 3)), some (.int ((x1 - 10) / 3)), none] [] (fun q70 T70 M70 => ∃ y70 : Int32, q70 = some (.int y70) ∧ (zSt k) = T70 ∧ Φ (some (.int y70)) (zSt k) M70)))) ∧ (x1 = 2 → zW E m_Row_size 0 (zSt k) M 0 [some (.ref 6)] [] (fun q71 T71 M71 => ∃ y71 : Int32, q71 = some (.int y71) ∧ (zSt k) = T71 ∧ Φ (some (.int y71)) (zSt k) M71))) ∧ (x1 = 1 → zW E m_Row_size 0 (zSt k) M 0 [some (.ref 4)] [] (fun q72 T72 M72 => ∃ y72 : Int32, q72 = some (.int y72) ∧ (zSt k) = T72 ∧ Φ (some (.int y72)) (zSt k) M72))) ∧ (x1 = 0 → zW E m_Row_size 0 (zSt k) M 0 [some (.ref 1)] [] (fun q73 T73 M73 => ∃ y73 : Int32, q73 = some (.int y73) ∧ (zSt k) = T73 ∧ Φ (some (.int y73)) (zSt k) M73))) : zW E m_H_told 1 (zSt k) M 0 [some (.ref 0), some (.int x1), none] [] Φ := by
  refine z_iload_n d_H_told_0 rfl ?_
  refine z_if_ne 12 d_H_told_1 rfl ⟨fun c1 => ?_, fun c1 => ?_⟩
  · replace h := h.1 c1
    refine z_iload_n d_H_told_12 rfl ?_
    refine z_iconst 1 d_H_told_13 (by decide) ?_
    refine z_icmp_ne 28 d_H_told_14 rfl ⟨fun c2 => ?_, fun c2 => ?_⟩
    · replace h := h.1 c2
      refine z_iload_n d_H_told_28 rfl ?_
      refine z_iconst 2 d_H_told_29 (by decide) ?_
      refine z_icmp_ne 44 d_H_told_30 rfl ⟨fun c3 => ?_, fun c3 => ?_⟩
      · replace h := h.1 c3
        refine z_iload_n d_H_told_44 rfl ?_
        refine z_bipush 10 d_H_told_45 (by decide) ?_
        refine z_icmp_lt 79 d_H_told_47 rfl ⟨fun c4 => ?_, fun c4 => ?_⟩
        · replace h := h.1 c4
          refine z_iload_n d_H_told_79 rfl ?_
          refine z_bipush 20 d_H_told_80 (by decide) ?_
          refine z_icmp_lt 117 d_H_told_82 rfl ⟨fun c5 => ?_, fun c5 => ?_⟩
          · replace h := h.1 c5
            refine z_iload_n d_H_told_117 rfl ?_
            refine z_bipush 30 d_H_told_118 (by decide) ?_
            refine z_icmp_lt 147 d_H_told_120 rfl ⟨fun c6 => ?_, fun c6 => ?_⟩
            · replace h := h.1 c6
              refine z_iload_n d_H_told_147 rfl ?_
              refine z_bipush 100 d_H_told_148 (by decide) ?_
              refine z_icmp_lt 197 d_H_told_150 rfl ⟨fun c7 => ?_, fun c7 => ?_⟩
              · replace h := h.1 c7
                refine z_bipush (-2) d_H_told_197 (by decide) ?_
                exact z_iret rfl d_H_told_199 h
              · replace h := h.2 c7
                refine z_iload_n d_H_told_153 rfl ?_
                refine z_sipush 400 d_H_told_154 (by decide) ?_
                refine z_icmp_ge 197 d_H_told_157 rfl ⟨fun c8 => ?_, fun c8 => ?_⟩
                · replace h := h.1 c8
                  refine z_bipush (-2) d_H_told_197 (by decide) ?_
                  exact z_iret rfl d_H_told_199 h
                · replace h := h.2 c8
                  refine z_aload_n d_H_told_160 rfl ?_
                  refine z_getr f_H_21 rfl d_H_told_161 (tA_0 k) (tr_0_1 k) ?_
                  refine z_getr f_H_231 rfl d_H_told_164 (tA_3 k) (tr_3_3 k) ?_
                  refine z_iload_n d_H_told_167 rfl ?_
                  refine z_bipush 100 d_H_told_168 (by decide) ?_
                  refine z_idiv d_H_told_170 (by decide) ?_
                  refine z_iconst 1 d_H_told_171 (by decide) ?_
                  refine z_isub d_H_told_172 ?_
                  refine z_callV (as := [.int ((x1 / 100) - 1)]) (st := []) i_Words_of ⟨rfl, rfl⟩ v_Words_of w_Words_of l_H_225 d_H_told_173 (by decide) (tA_10 k) rfl (Nat.le_of_ble_eq_true rfl) (Nat.le_of_ble_eq_true rfl) h (fun q9 T9 M9 h => ?_)
                  obtain ⟨b9, L9, rfl, rfl, zb9, h⟩ := h
                  refine z_iload_n d_H_told_176 rfl ?_
                  refine z_bipush 100 d_H_told_177 (by decide) ?_
                  refine z_irem d_H_told_179 (by decide) ?_
                  refine z_callV (as := [.int (x1 - x1 / 100 * 100)]) (st := []) i_Row_at ⟨rfl, rfl⟩ v_Row_at w_Row_at l_H_212 d_H_told_180 (by decide) zb9.1 rfl (Nat.le_of_ble_eq_true rfl) (Nat.le_of_ble_eq_true rfl) h (fun q10 T10 M10 h => ?_)
                  obtain ⟨y10, rfl, rfl, h⟩ := h
                  refine z_istore_n (ls' := [some (.ref 0), some (.int x1), some (.int y10)]) d_H_told_183 (Nat.le_of_ble_eq_true rfl) rfl rfl ?_
                  refine z_iload_n d_H_told_184 rfl ?_
                  refine z_bipush (-6) d_H_told_185 (by decide) ?_
                  refine z_icmp_ne 195 d_H_told_187 rfl ⟨fun c11 => ?_, fun c11 => ?_⟩
                  · replace h := h.1 c11
                    refine z_iload_n d_H_told_195 rfl ?_
                    exact z_iret rfl d_H_told_196 h
                  · replace h := h.2 c11
                    refine z_bipush (-2) d_H_told_190 (by decide) ?_
                    refine z_goto 196 d_H_told_192 rfl ?_
                    exact z_iret rfl d_H_told_196 h
            · replace h := h.2 c6
              refine z_iload_n d_H_told_123 rfl ?_
              refine z_bipush 33 d_H_told_124 (by decide) ?_
              refine z_icmp_ge 147 d_H_told_126 rfl ⟨fun c12 => ?_, fun c12 => ?_⟩
              · replace h := h.1 c12
                refine z_iload_n d_H_told_147 rfl ?_
                refine z_bipush 100 d_H_told_148 (by decide) ?_
                refine z_icmp_lt 197 d_H_told_150 rfl ⟨fun c13 => ?_, fun c13 => ?_⟩
                · replace h := h.1 c13
                  refine z_bipush (-2) d_H_told_197 (by decide) ?_
                  exact z_iret rfl d_H_told_199 h
                · replace h := h.2 c13
                  refine z_iload_n d_H_told_153 rfl ?_
                  refine z_sipush 400 d_H_told_154 (by decide) ?_
                  refine z_icmp_ge 197 d_H_told_157 rfl ⟨fun c14 => ?_, fun c14 => ?_⟩
                  · replace h := h.1 c14
                    refine z_bipush (-2) d_H_told_197 (by decide) ?_
                    exact z_iret rfl d_H_told_199 h
                  · replace h := h.2 c14
                    refine z_aload_n d_H_told_160 rfl ?_
                    refine z_getr f_H_21 rfl d_H_told_161 (tA_0 k) (tr_0_1 k) ?_
                    refine z_getr f_H_231 rfl d_H_told_164 (tA_3 k) (tr_3_3 k) ?_
                    refine z_iload_n d_H_told_167 rfl ?_
                    refine z_bipush 100 d_H_told_168 (by decide) ?_
                    refine z_idiv d_H_told_170 (by decide) ?_
                    refine z_iconst 1 d_H_told_171 (by decide) ?_
                    refine z_isub d_H_told_172 ?_
                    refine z_callV (as := [.int ((x1 / 100) - 1)]) (st := []) i_Words_of ⟨rfl, rfl⟩ v_Words_of w_Words_of l_H_225 d_H_told_173 (by decide) (tA_10 k) rfl (Nat.le_of_ble_eq_true rfl) (Nat.le_of_ble_eq_true rfl) h (fun q15 T15 M15 h => ?_)
                    obtain ⟨b15, L15, rfl, rfl, zb15, h⟩ := h
                    refine z_iload_n d_H_told_176 rfl ?_
                    refine z_bipush 100 d_H_told_177 (by decide) ?_
                    refine z_irem d_H_told_179 (by decide) ?_
                    refine z_callV (as := [.int (x1 - x1 / 100 * 100)]) (st := []) i_Row_at ⟨rfl, rfl⟩ v_Row_at w_Row_at l_H_212 d_H_told_180 (by decide) zb15.1 rfl (Nat.le_of_ble_eq_true rfl) (Nat.le_of_ble_eq_true rfl) h (fun q16 T16 M16 h => ?_)
                    obtain ⟨y16, rfl, rfl, h⟩ := h
                    refine z_istore_n (ls' := [some (.ref 0), some (.int x1), some (.int y16)]) d_H_told_183 (Nat.le_of_ble_eq_true rfl) rfl rfl ?_
                    refine z_iload_n d_H_told_184 rfl ?_
                    refine z_bipush (-6) d_H_told_185 (by decide) ?_
                    refine z_icmp_ne 195 d_H_told_187 rfl ⟨fun c17 => ?_, fun c17 => ?_⟩
                    · replace h := h.1 c17
                      refine z_iload_n d_H_told_195 rfl ?_
                      exact z_iret rfl d_H_told_196 h
                    · replace h := h.2 c17
                      refine z_bipush (-2) d_H_told_190 (by decide) ?_
                      refine z_goto 196 d_H_told_192 rfl ?_
                      exact z_iret rfl d_H_told_196 h
              · replace h := h.2 c12
                refine z_aload_n d_H_told_129 rfl ?_
                refine z_getr f_H_21 rfl d_H_told_130 (tA_0 k) (tr_0_1 k) ?_
                refine z_getr f_H_231 rfl d_H_told_133 (tA_3 k) (tr_3_3 k) ?_
                refine z_iload_n d_H_told_136 rfl ?_
                refine z_bipush 30 d_H_told_137 (by decide) ?_
                refine z_isub d_H_told_139 ?_
                refine z_callV (as := [.int (x1 - 30)]) (st := []) i_Words_of ⟨rfl, rfl⟩ v_Words_of w_Words_of l_H_225 d_H_told_140 (by decide) (tA_10 k) rfl (Nat.le_of_ble_eq_true rfl) (Nat.le_of_ble_eq_true rfl) h (fun q18 T18 M18 h => ?_)
                obtain ⟨b18, L18, rfl, rfl, zb18, h⟩ := h
                refine z_callV (as := []) (st := []) i_Row_size ⟨rfl, rfl⟩ v_Row_size w_Row_size l_H_89 d_H_told_143 (by decide) zb18.1 rfl (Nat.le_of_ble_eq_true rfl) (Nat.le_of_ble_eq_true rfl) h (fun q19 T19 M19 h => ?_)
                obtain ⟨y19, rfl, rfl, h⟩ := h
                exact z_iret rfl d_H_told_146 h
          · replace h := h.2 c5
            refine z_iload_n d_H_told_85 rfl ?_
            refine z_bipush 29 d_H_told_86 (by decide) ?_
            refine z_icmp_ge 117 d_H_told_88 rfl ⟨fun c20 => ?_, fun c20 => ?_⟩
            · replace h := h.1 c20
              refine z_iload_n d_H_told_117 rfl ?_
              refine z_bipush 30 d_H_told_118 (by decide) ?_
              refine z_icmp_lt 147 d_H_told_120 rfl ⟨fun c21 => ?_, fun c21 => ?_⟩
              · replace h := h.1 c21
                refine z_iload_n d_H_told_147 rfl ?_
                refine z_bipush 100 d_H_told_148 (by decide) ?_
                refine z_icmp_lt 197 d_H_told_150 rfl ⟨fun c22 => ?_, fun c22 => ?_⟩
                · replace h := h.1 c22
                  refine z_bipush (-2) d_H_told_197 (by decide) ?_
                  exact z_iret rfl d_H_told_199 h
                · replace h := h.2 c22
                  refine z_iload_n d_H_told_153 rfl ?_
                  refine z_sipush 400 d_H_told_154 (by decide) ?_
                  refine z_icmp_ge 197 d_H_told_157 rfl ⟨fun c23 => ?_, fun c23 => ?_⟩
                  · replace h := h.1 c23
                    refine z_bipush (-2) d_H_told_197 (by decide) ?_
                    exact z_iret rfl d_H_told_199 h
                  · replace h := h.2 c23
                    refine z_aload_n d_H_told_160 rfl ?_
                    refine z_getr f_H_21 rfl d_H_told_161 (tA_0 k) (tr_0_1 k) ?_
                    refine z_getr f_H_231 rfl d_H_told_164 (tA_3 k) (tr_3_3 k) ?_
                    refine z_iload_n d_H_told_167 rfl ?_
                    refine z_bipush 100 d_H_told_168 (by decide) ?_
                    refine z_idiv d_H_told_170 (by decide) ?_
                    refine z_iconst 1 d_H_told_171 (by decide) ?_
                    refine z_isub d_H_told_172 ?_
                    refine z_callV (as := [.int ((x1 / 100) - 1)]) (st := []) i_Words_of ⟨rfl, rfl⟩ v_Words_of w_Words_of l_H_225 d_H_told_173 (by decide) (tA_10 k) rfl (Nat.le_of_ble_eq_true rfl) (Nat.le_of_ble_eq_true rfl) h (fun q24 T24 M24 h => ?_)
                    obtain ⟨b24, L24, rfl, rfl, zb24, h⟩ := h
                    refine z_iload_n d_H_told_176 rfl ?_
                    refine z_bipush 100 d_H_told_177 (by decide) ?_
                    refine z_irem d_H_told_179 (by decide) ?_
                    refine z_callV (as := [.int (x1 - x1 / 100 * 100)]) (st := []) i_Row_at ⟨rfl, rfl⟩ v_Row_at w_Row_at l_H_212 d_H_told_180 (by decide) zb24.1 rfl (Nat.le_of_ble_eq_true rfl) (Nat.le_of_ble_eq_true rfl) h (fun q25 T25 M25 h => ?_)
                    obtain ⟨y25, rfl, rfl, h⟩ := h
                    refine z_istore_n (ls' := [some (.ref 0), some (.int x1), some (.int y25)]) d_H_told_183 (Nat.le_of_ble_eq_true rfl) rfl rfl ?_
                    refine z_iload_n d_H_told_184 rfl ?_
                    refine z_bipush (-6) d_H_told_185 (by decide) ?_
                    refine z_icmp_ne 195 d_H_told_187 rfl ⟨fun c26 => ?_, fun c26 => ?_⟩
                    · replace h := h.1 c26
                      refine z_iload_n d_H_told_195 rfl ?_
                      exact z_iret rfl d_H_told_196 h
                    · replace h := h.2 c26
                      refine z_bipush (-2) d_H_told_190 (by decide) ?_
                      refine z_goto 196 d_H_told_192 rfl ?_
                      exact z_iret rfl d_H_told_196 h
              · replace h := h.2 c21
                refine z_iload_n d_H_told_123 rfl ?_
                refine z_bipush 33 d_H_told_124 (by decide) ?_
                refine z_icmp_ge 147 d_H_told_126 rfl ⟨fun c27 => ?_, fun c27 => ?_⟩
                · replace h := h.1 c27
                  refine z_iload_n d_H_told_147 rfl ?_
                  refine z_bipush 100 d_H_told_148 (by decide) ?_
                  refine z_icmp_lt 197 d_H_told_150 rfl ⟨fun c28 => ?_, fun c28 => ?_⟩
                  · replace h := h.1 c28
                    refine z_bipush (-2) d_H_told_197 (by decide) ?_
                    exact z_iret rfl d_H_told_199 h
                  · replace h := h.2 c28
                    refine z_iload_n d_H_told_153 rfl ?_
                    refine z_sipush 400 d_H_told_154 (by decide) ?_
                    refine z_icmp_ge 197 d_H_told_157 rfl ⟨fun c29 => ?_, fun c29 => ?_⟩
                    · replace h := h.1 c29
                      refine z_bipush (-2) d_H_told_197 (by decide) ?_
                      exact z_iret rfl d_H_told_199 h
                    · replace h := h.2 c29
                      refine z_aload_n d_H_told_160 rfl ?_
                      refine z_getr f_H_21 rfl d_H_told_161 (tA_0 k) (tr_0_1 k) ?_
                      refine z_getr f_H_231 rfl d_H_told_164 (tA_3 k) (tr_3_3 k) ?_
                      refine z_iload_n d_H_told_167 rfl ?_
                      refine z_bipush 100 d_H_told_168 (by decide) ?_
                      refine z_idiv d_H_told_170 (by decide) ?_
                      refine z_iconst 1 d_H_told_171 (by decide) ?_
                      refine z_isub d_H_told_172 ?_
                      refine z_callV (as := [.int ((x1 / 100) - 1)]) (st := []) i_Words_of ⟨rfl, rfl⟩ v_Words_of w_Words_of l_H_225 d_H_told_173 (by decide) (tA_10 k) rfl (Nat.le_of_ble_eq_true rfl) (Nat.le_of_ble_eq_true rfl) h (fun q30 T30 M30 h => ?_)
                      obtain ⟨b30, L30, rfl, rfl, zb30, h⟩ := h
                      refine z_iload_n d_H_told_176 rfl ?_
                      refine z_bipush 100 d_H_told_177 (by decide) ?_
                      refine z_irem d_H_told_179 (by decide) ?_
                      refine z_callV (as := [.int (x1 - x1 / 100 * 100)]) (st := []) i_Row_at ⟨rfl, rfl⟩ v_Row_at w_Row_at l_H_212 d_H_told_180 (by decide) zb30.1 rfl (Nat.le_of_ble_eq_true rfl) (Nat.le_of_ble_eq_true rfl) h (fun q31 T31 M31 h => ?_)
                      obtain ⟨y31, rfl, rfl, h⟩ := h
                      refine z_istore_n (ls' := [some (.ref 0), some (.int x1), some (.int y31)]) d_H_told_183 (Nat.le_of_ble_eq_true rfl) rfl rfl ?_
                      refine z_iload_n d_H_told_184 rfl ?_
                      refine z_bipush (-6) d_H_told_185 (by decide) ?_
                      refine z_icmp_ne 195 d_H_told_187 rfl ⟨fun c32 => ?_, fun c32 => ?_⟩
                      · replace h := h.1 c32
                        refine z_iload_n d_H_told_195 rfl ?_
                        exact z_iret rfl d_H_told_196 h
                      · replace h := h.2 c32
                        refine z_bipush (-2) d_H_told_190 (by decide) ?_
                        refine z_goto 196 d_H_told_192 rfl ?_
                        exact z_iret rfl d_H_told_196 h
                · replace h := h.2 c27
                  refine z_aload_n d_H_told_129 rfl ?_
                  refine z_getr f_H_21 rfl d_H_told_130 (tA_0 k) (tr_0_1 k) ?_
                  refine z_getr f_H_231 rfl d_H_told_133 (tA_3 k) (tr_3_3 k) ?_
                  refine z_iload_n d_H_told_136 rfl ?_
                  refine z_bipush 30 d_H_told_137 (by decide) ?_
                  refine z_isub d_H_told_139 ?_
                  refine z_callV (as := [.int (x1 - 30)]) (st := []) i_Words_of ⟨rfl, rfl⟩ v_Words_of w_Words_of l_H_225 d_H_told_140 (by decide) (tA_10 k) rfl (Nat.le_of_ble_eq_true rfl) (Nat.le_of_ble_eq_true rfl) h (fun q33 T33 M33 h => ?_)
                  obtain ⟨b33, L33, rfl, rfl, zb33, h⟩ := h
                  refine z_callV (as := []) (st := []) i_Row_size ⟨rfl, rfl⟩ v_Row_size w_Row_size l_H_89 d_H_told_143 (by decide) zb33.1 rfl (Nat.le_of_ble_eq_true rfl) (Nat.le_of_ble_eq_true rfl) h (fun q34 T34 M34 h => ?_)
                  obtain ⟨y34, rfl, rfl, h⟩ := h
                  exact z_iret rfl d_H_told_146 h
            · replace h := h.2 c20
              refine z_aload_n d_H_told_91 rfl ?_
              refine z_getr f_H_21 rfl d_H_told_92 (tA_0 k) (tr_0_1 k) ?_
              refine z_geti f_H_135 rfl d_H_told_95 (tA_3 k) ?_
              refine z_iload_n d_H_told_98 rfl ?_
              refine z_bipush 20 d_H_told_99 (by decide) ?_
              refine z_isub d_H_told_101 ?_
              refine z_iconst 3 d_H_told_102 (by decide) ?_
              refine z_idiv d_H_told_103 (by decide) ?_
              refine z_callS (as := [.int (M 3 4), .int ((x1 - 20) / 3)]) (st := []) i_Need_ofVariable s_Need_ofVariable l_H_139 d_H_told_104 (by decide) rfl (Nat.le_of_ble_eq_true rfl) (Nat.le_of_ble_eq_true rfl) h (fun q35 T35 M35 h => ?_)
              obtain ⟨y35, rfl, rfl, h⟩ := h
              refine z_iload_n d_H_told_107 rfl ?_
              refine z_bipush 20 d_H_told_108 (by decide) ?_
              refine z_isub d_H_told_110 ?_
              refine z_iconst 3 d_H_told_111 (by decide) ?_
              refine z_irem d_H_told_112 (by decide) ?_
              refine z_callS (as := [.int y35, .int ((x1 - 20) - (x1 - 20) / 3 * 3)]) (st := []) i_Need_ofState s_Need_ofState l_H_142 d_H_told_113 (by decide) rfl (Nat.le_of_ble_eq_true rfl) (Nat.le_of_ble_eq_true rfl) h (fun q36 T36 M36 h => ?_)
              obtain ⟨y36, rfl, rfl, h⟩ := h
              exact z_iret rfl d_H_told_116 h
        · replace h := h.2 c4
          refine z_iload_n d_H_told_50 rfl ?_
          refine z_bipush 16 d_H_told_51 (by decide) ?_
          refine z_icmp_ge 79 d_H_told_53 rfl ⟨fun c37 => ?_, fun c37 => ?_⟩
          · replace h := h.1 c37
            refine z_iload_n d_H_told_79 rfl ?_
            refine z_bipush 20 d_H_told_80 (by decide) ?_
            refine z_icmp_lt 117 d_H_told_82 rfl ⟨fun c38 => ?_, fun c38 => ?_⟩
            · replace h := h.1 c38
              refine z_iload_n d_H_told_117 rfl ?_
              refine z_bipush 30 d_H_told_118 (by decide) ?_
              refine z_icmp_lt 147 d_H_told_120 rfl ⟨fun c39 => ?_, fun c39 => ?_⟩
              · replace h := h.1 c39
                refine z_iload_n d_H_told_147 rfl ?_
                refine z_bipush 100 d_H_told_148 (by decide) ?_
                refine z_icmp_lt 197 d_H_told_150 rfl ⟨fun c40 => ?_, fun c40 => ?_⟩
                · replace h := h.1 c40
                  refine z_bipush (-2) d_H_told_197 (by decide) ?_
                  exact z_iret rfl d_H_told_199 h
                · replace h := h.2 c40
                  refine z_iload_n d_H_told_153 rfl ?_
                  refine z_sipush 400 d_H_told_154 (by decide) ?_
                  refine z_icmp_ge 197 d_H_told_157 rfl ⟨fun c41 => ?_, fun c41 => ?_⟩
                  · replace h := h.1 c41
                    refine z_bipush (-2) d_H_told_197 (by decide) ?_
                    exact z_iret rfl d_H_told_199 h
                  · replace h := h.2 c41
                    refine z_aload_n d_H_told_160 rfl ?_
                    refine z_getr f_H_21 rfl d_H_told_161 (tA_0 k) (tr_0_1 k) ?_
                    refine z_getr f_H_231 rfl d_H_told_164 (tA_3 k) (tr_3_3 k) ?_
                    refine z_iload_n d_H_told_167 rfl ?_
                    refine z_bipush 100 d_H_told_168 (by decide) ?_
                    refine z_idiv d_H_told_170 (by decide) ?_
                    refine z_iconst 1 d_H_told_171 (by decide) ?_
                    refine z_isub d_H_told_172 ?_
                    refine z_callV (as := [.int ((x1 / 100) - 1)]) (st := []) i_Words_of ⟨rfl, rfl⟩ v_Words_of w_Words_of l_H_225 d_H_told_173 (by decide) (tA_10 k) rfl (Nat.le_of_ble_eq_true rfl) (Nat.le_of_ble_eq_true rfl) h (fun q42 T42 M42 h => ?_)
                    obtain ⟨b42, L42, rfl, rfl, zb42, h⟩ := h
                    refine z_iload_n d_H_told_176 rfl ?_
                    refine z_bipush 100 d_H_told_177 (by decide) ?_
                    refine z_irem d_H_told_179 (by decide) ?_
                    refine z_callV (as := [.int (x1 - x1 / 100 * 100)]) (st := []) i_Row_at ⟨rfl, rfl⟩ v_Row_at w_Row_at l_H_212 d_H_told_180 (by decide) zb42.1 rfl (Nat.le_of_ble_eq_true rfl) (Nat.le_of_ble_eq_true rfl) h (fun q43 T43 M43 h => ?_)
                    obtain ⟨y43, rfl, rfl, h⟩ := h
                    refine z_istore_n (ls' := [some (.ref 0), some (.int x1), some (.int y43)]) d_H_told_183 (Nat.le_of_ble_eq_true rfl) rfl rfl ?_
                    refine z_iload_n d_H_told_184 rfl ?_
                    refine z_bipush (-6) d_H_told_185 (by decide) ?_
                    refine z_icmp_ne 195 d_H_told_187 rfl ⟨fun c44 => ?_, fun c44 => ?_⟩
                    · replace h := h.1 c44
                      refine z_iload_n d_H_told_195 rfl ?_
                      exact z_iret rfl d_H_told_196 h
                    · replace h := h.2 c44
                      refine z_bipush (-2) d_H_told_190 (by decide) ?_
                      refine z_goto 196 d_H_told_192 rfl ?_
                      exact z_iret rfl d_H_told_196 h
              · replace h := h.2 c39
                refine z_iload_n d_H_told_123 rfl ?_
                refine z_bipush 33 d_H_told_124 (by decide) ?_
                refine z_icmp_ge 147 d_H_told_126 rfl ⟨fun c45 => ?_, fun c45 => ?_⟩
                · replace h := h.1 c45
                  refine z_iload_n d_H_told_147 rfl ?_
                  refine z_bipush 100 d_H_told_148 (by decide) ?_
                  refine z_icmp_lt 197 d_H_told_150 rfl ⟨fun c46 => ?_, fun c46 => ?_⟩
                  · replace h := h.1 c46
                    refine z_bipush (-2) d_H_told_197 (by decide) ?_
                    exact z_iret rfl d_H_told_199 h
                  · replace h := h.2 c46
                    refine z_iload_n d_H_told_153 rfl ?_
                    refine z_sipush 400 d_H_told_154 (by decide) ?_
                    refine z_icmp_ge 197 d_H_told_157 rfl ⟨fun c47 => ?_, fun c47 => ?_⟩
                    · replace h := h.1 c47
                      refine z_bipush (-2) d_H_told_197 (by decide) ?_
                      exact z_iret rfl d_H_told_199 h
                    · replace h := h.2 c47
                      refine z_aload_n d_H_told_160 rfl ?_
                      refine z_getr f_H_21 rfl d_H_told_161 (tA_0 k) (tr_0_1 k) ?_
                      refine z_getr f_H_231 rfl d_H_told_164 (tA_3 k) (tr_3_3 k) ?_
                      refine z_iload_n d_H_told_167 rfl ?_
                      refine z_bipush 100 d_H_told_168 (by decide) ?_
                      refine z_idiv d_H_told_170 (by decide) ?_
                      refine z_iconst 1 d_H_told_171 (by decide) ?_
                      refine z_isub d_H_told_172 ?_
                      refine z_callV (as := [.int ((x1 / 100) - 1)]) (st := []) i_Words_of ⟨rfl, rfl⟩ v_Words_of w_Words_of l_H_225 d_H_told_173 (by decide) (tA_10 k) rfl (Nat.le_of_ble_eq_true rfl) (Nat.le_of_ble_eq_true rfl) h (fun q48 T48 M48 h => ?_)
                      obtain ⟨b48, L48, rfl, rfl, zb48, h⟩ := h
                      refine z_iload_n d_H_told_176 rfl ?_
                      refine z_bipush 100 d_H_told_177 (by decide) ?_
                      refine z_irem d_H_told_179 (by decide) ?_
                      refine z_callV (as := [.int (x1 - x1 / 100 * 100)]) (st := []) i_Row_at ⟨rfl, rfl⟩ v_Row_at w_Row_at l_H_212 d_H_told_180 (by decide) zb48.1 rfl (Nat.le_of_ble_eq_true rfl) (Nat.le_of_ble_eq_true rfl) h (fun q49 T49 M49 h => ?_)
                      obtain ⟨y49, rfl, rfl, h⟩ := h
                      refine z_istore_n (ls' := [some (.ref 0), some (.int x1), some (.int y49)]) d_H_told_183 (Nat.le_of_ble_eq_true rfl) rfl rfl ?_
                      refine z_iload_n d_H_told_184 rfl ?_
                      refine z_bipush (-6) d_H_told_185 (by decide) ?_
                      refine z_icmp_ne 195 d_H_told_187 rfl ⟨fun c50 => ?_, fun c50 => ?_⟩
                      · replace h := h.1 c50
                        refine z_iload_n d_H_told_195 rfl ?_
                        exact z_iret rfl d_H_told_196 h
                      · replace h := h.2 c50
                        refine z_bipush (-2) d_H_told_190 (by decide) ?_
                        refine z_goto 196 d_H_told_192 rfl ?_
                        exact z_iret rfl d_H_told_196 h
                · replace h := h.2 c45
                  refine z_aload_n d_H_told_129 rfl ?_
                  refine z_getr f_H_21 rfl d_H_told_130 (tA_0 k) (tr_0_1 k) ?_
                  refine z_getr f_H_231 rfl d_H_told_133 (tA_3 k) (tr_3_3 k) ?_
                  refine z_iload_n d_H_told_136 rfl ?_
                  refine z_bipush 30 d_H_told_137 (by decide) ?_
                  refine z_isub d_H_told_139 ?_
                  refine z_callV (as := [.int (x1 - 30)]) (st := []) i_Words_of ⟨rfl, rfl⟩ v_Words_of w_Words_of l_H_225 d_H_told_140 (by decide) (tA_10 k) rfl (Nat.le_of_ble_eq_true rfl) (Nat.le_of_ble_eq_true rfl) h (fun q51 T51 M51 h => ?_)
                  obtain ⟨b51, L51, rfl, rfl, zb51, h⟩ := h
                  refine z_callV (as := []) (st := []) i_Row_size ⟨rfl, rfl⟩ v_Row_size w_Row_size l_H_89 d_H_told_143 (by decide) zb51.1 rfl (Nat.le_of_ble_eq_true rfl) (Nat.le_of_ble_eq_true rfl) h (fun q52 T52 M52 h => ?_)
                  obtain ⟨y52, rfl, rfl, h⟩ := h
                  exact z_iret rfl d_H_told_146 h
            · replace h := h.2 c38
              refine z_iload_n d_H_told_85 rfl ?_
              refine z_bipush 29 d_H_told_86 (by decide) ?_
              refine z_icmp_ge 117 d_H_told_88 rfl ⟨fun c53 => ?_, fun c53 => ?_⟩
              · replace h := h.1 c53
                refine z_iload_n d_H_told_117 rfl ?_
                refine z_bipush 30 d_H_told_118 (by decide) ?_
                refine z_icmp_lt 147 d_H_told_120 rfl ⟨fun c54 => ?_, fun c54 => ?_⟩
                · replace h := h.1 c54
                  refine z_iload_n d_H_told_147 rfl ?_
                  refine z_bipush 100 d_H_told_148 (by decide) ?_
                  refine z_icmp_lt 197 d_H_told_150 rfl ⟨fun c55 => ?_, fun c55 => ?_⟩
                  · replace h := h.1 c55
                    refine z_bipush (-2) d_H_told_197 (by decide) ?_
                    exact z_iret rfl d_H_told_199 h
                  · replace h := h.2 c55
                    refine z_iload_n d_H_told_153 rfl ?_
                    refine z_sipush 400 d_H_told_154 (by decide) ?_
                    refine z_icmp_ge 197 d_H_told_157 rfl ⟨fun c56 => ?_, fun c56 => ?_⟩
                    · replace h := h.1 c56
                      refine z_bipush (-2) d_H_told_197 (by decide) ?_
                      exact z_iret rfl d_H_told_199 h
                    · replace h := h.2 c56
                      refine z_aload_n d_H_told_160 rfl ?_
                      refine z_getr f_H_21 rfl d_H_told_161 (tA_0 k) (tr_0_1 k) ?_
                      refine z_getr f_H_231 rfl d_H_told_164 (tA_3 k) (tr_3_3 k) ?_
                      refine z_iload_n d_H_told_167 rfl ?_
                      refine z_bipush 100 d_H_told_168 (by decide) ?_
                      refine z_idiv d_H_told_170 (by decide) ?_
                      refine z_iconst 1 d_H_told_171 (by decide) ?_
                      refine z_isub d_H_told_172 ?_
                      refine z_callV (as := [.int ((x1 / 100) - 1)]) (st := []) i_Words_of ⟨rfl, rfl⟩ v_Words_of w_Words_of l_H_225 d_H_told_173 (by decide) (tA_10 k) rfl (Nat.le_of_ble_eq_true rfl) (Nat.le_of_ble_eq_true rfl) h (fun q57 T57 M57 h => ?_)
                      obtain ⟨b57, L57, rfl, rfl, zb57, h⟩ := h
                      refine z_iload_n d_H_told_176 rfl ?_
                      refine z_bipush 100 d_H_told_177 (by decide) ?_
                      refine z_irem d_H_told_179 (by decide) ?_
                      refine z_callV (as := [.int (x1 - x1 / 100 * 100)]) (st := []) i_Row_at ⟨rfl, rfl⟩ v_Row_at w_Row_at l_H_212 d_H_told_180 (by decide) zb57.1 rfl (Nat.le_of_ble_eq_true rfl) (Nat.le_of_ble_eq_true rfl) h (fun q58 T58 M58 h => ?_)
                      obtain ⟨y58, rfl, rfl, h⟩ := h
                      refine z_istore_n (ls' := [some (.ref 0), some (.int x1), some (.int y58)]) d_H_told_183 (Nat.le_of_ble_eq_true rfl) rfl rfl ?_
                      refine z_iload_n d_H_told_184 rfl ?_
                      refine z_bipush (-6) d_H_told_185 (by decide) ?_
                      refine z_icmp_ne 195 d_H_told_187 rfl ⟨fun c59 => ?_, fun c59 => ?_⟩
                      · replace h := h.1 c59
                        refine z_iload_n d_H_told_195 rfl ?_
                        exact z_iret rfl d_H_told_196 h
                      · replace h := h.2 c59
                        refine z_bipush (-2) d_H_told_190 (by decide) ?_
                        refine z_goto 196 d_H_told_192 rfl ?_
                        exact z_iret rfl d_H_told_196 h
                · replace h := h.2 c54
                  refine z_iload_n d_H_told_123 rfl ?_
                  refine z_bipush 33 d_H_told_124 (by decide) ?_
                  refine z_icmp_ge 147 d_H_told_126 rfl ⟨fun c60 => ?_, fun c60 => ?_⟩
                  · replace h := h.1 c60
                    refine z_iload_n d_H_told_147 rfl ?_
                    refine z_bipush 100 d_H_told_148 (by decide) ?_
                    refine z_icmp_lt 197 d_H_told_150 rfl ⟨fun c61 => ?_, fun c61 => ?_⟩
                    · replace h := h.1 c61
                      refine z_bipush (-2) d_H_told_197 (by decide) ?_
                      exact z_iret rfl d_H_told_199 h
                    · replace h := h.2 c61
                      refine z_iload_n d_H_told_153 rfl ?_
                      refine z_sipush 400 d_H_told_154 (by decide) ?_
                      refine z_icmp_ge 197 d_H_told_157 rfl ⟨fun c62 => ?_, fun c62 => ?_⟩
                      · replace h := h.1 c62
                        refine z_bipush (-2) d_H_told_197 (by decide) ?_
                        exact z_iret rfl d_H_told_199 h
                      · replace h := h.2 c62
                        refine z_aload_n d_H_told_160 rfl ?_
                        refine z_getr f_H_21 rfl d_H_told_161 (tA_0 k) (tr_0_1 k) ?_
                        refine z_getr f_H_231 rfl d_H_told_164 (tA_3 k) (tr_3_3 k) ?_
                        refine z_iload_n d_H_told_167 rfl ?_
                        refine z_bipush 100 d_H_told_168 (by decide) ?_
                        refine z_idiv d_H_told_170 (by decide) ?_
                        refine z_iconst 1 d_H_told_171 (by decide) ?_
                        refine z_isub d_H_told_172 ?_
                        refine z_callV (as := [.int ((x1 / 100) - 1)]) (st := []) i_Words_of ⟨rfl, rfl⟩ v_Words_of w_Words_of l_H_225 d_H_told_173 (by decide) (tA_10 k) rfl (Nat.le_of_ble_eq_true rfl) (Nat.le_of_ble_eq_true rfl) h (fun q63 T63 M63 h => ?_)
                        obtain ⟨b63, L63, rfl, rfl, zb63, h⟩ := h
                        refine z_iload_n d_H_told_176 rfl ?_
                        refine z_bipush 100 d_H_told_177 (by decide) ?_
                        refine z_irem d_H_told_179 (by decide) ?_
                        refine z_callV (as := [.int (x1 - x1 / 100 * 100)]) (st := []) i_Row_at ⟨rfl, rfl⟩ v_Row_at w_Row_at l_H_212 d_H_told_180 (by decide) zb63.1 rfl (Nat.le_of_ble_eq_true rfl) (Nat.le_of_ble_eq_true rfl) h (fun q64 T64 M64 h => ?_)
                        obtain ⟨y64, rfl, rfl, h⟩ := h
                        refine z_istore_n (ls' := [some (.ref 0), some (.int x1), some (.int y64)]) d_H_told_183 (Nat.le_of_ble_eq_true rfl) rfl rfl ?_
                        refine z_iload_n d_H_told_184 rfl ?_
                        refine z_bipush (-6) d_H_told_185 (by decide) ?_
                        refine z_icmp_ne 195 d_H_told_187 rfl ⟨fun c65 => ?_, fun c65 => ?_⟩
                        · replace h := h.1 c65
                          refine z_iload_n d_H_told_195 rfl ?_
                          exact z_iret rfl d_H_told_196 h
                        · replace h := h.2 c65
                          refine z_bipush (-2) d_H_told_190 (by decide) ?_
                          refine z_goto 196 d_H_told_192 rfl ?_
                          exact z_iret rfl d_H_told_196 h
                  · replace h := h.2 c60
                    refine z_aload_n d_H_told_129 rfl ?_
                    refine z_getr f_H_21 rfl d_H_told_130 (tA_0 k) (tr_0_1 k) ?_
                    refine z_getr f_H_231 rfl d_H_told_133 (tA_3 k) (tr_3_3 k) ?_
                    refine z_iload_n d_H_told_136 rfl ?_
                    refine z_bipush 30 d_H_told_137 (by decide) ?_
                    refine z_isub d_H_told_139 ?_
                    refine z_callV (as := [.int (x1 - 30)]) (st := []) i_Words_of ⟨rfl, rfl⟩ v_Words_of w_Words_of l_H_225 d_H_told_140 (by decide) (tA_10 k) rfl (Nat.le_of_ble_eq_true rfl) (Nat.le_of_ble_eq_true rfl) h (fun q66 T66 M66 h => ?_)
                    obtain ⟨b66, L66, rfl, rfl, zb66, h⟩ := h
                    refine z_callV (as := []) (st := []) i_Row_size ⟨rfl, rfl⟩ v_Row_size w_Row_size l_H_89 d_H_told_143 (by decide) zb66.1 rfl (Nat.le_of_ble_eq_true rfl) (Nat.le_of_ble_eq_true rfl) h (fun q67 T67 M67 h => ?_)
                    obtain ⟨y67, rfl, rfl, h⟩ := h
                    exact z_iret rfl d_H_told_146 h
              · replace h := h.2 c53
                refine z_aload_n d_H_told_91 rfl ?_
                refine z_getr f_H_21 rfl d_H_told_92 (tA_0 k) (tr_0_1 k) ?_
                refine z_geti f_H_135 rfl d_H_told_95 (tA_3 k) ?_
                refine z_iload_n d_H_told_98 rfl ?_
                refine z_bipush 20 d_H_told_99 (by decide) ?_
                refine z_isub d_H_told_101 ?_
                refine z_iconst 3 d_H_told_102 (by decide) ?_
                refine z_idiv d_H_told_103 (by decide) ?_
                refine z_callS (as := [.int (M 3 4), .int ((x1 - 20) / 3)]) (st := []) i_Need_ofVariable s_Need_ofVariable l_H_139 d_H_told_104 (by decide) rfl (Nat.le_of_ble_eq_true rfl) (Nat.le_of_ble_eq_true rfl) h (fun q68 T68 M68 h => ?_)
                obtain ⟨y68, rfl, rfl, h⟩ := h
                refine z_iload_n d_H_told_107 rfl ?_
                refine z_bipush 20 d_H_told_108 (by decide) ?_
                refine z_isub d_H_told_110 ?_
                refine z_iconst 3 d_H_told_111 (by decide) ?_
                refine z_irem d_H_told_112 (by decide) ?_
                refine z_callS (as := [.int y68, .int ((x1 - 20) - (x1 - 20) / 3 * 3)]) (st := []) i_Need_ofState s_Need_ofState l_H_142 d_H_told_113 (by decide) rfl (Nat.le_of_ble_eq_true rfl) (Nat.le_of_ble_eq_true rfl) h (fun q69 T69 M69 h => ?_)
                obtain ⟨y69, rfl, rfl, h⟩ := h
                exact z_iret rfl d_H_told_116 h
          · replace h := h.2 c37
            refine z_aload_n d_H_told_56 rfl ?_
            refine z_getr f_H_21 rfl d_H_told_57 (tA_0 k) (tr_0_1 k) ?_
            refine z_getr f_H_33 rfl d_H_told_60 (tA_3 k) (tr_3_2 k) ?_
            refine z_iload_n d_H_told_63 rfl ?_
            refine z_bipush 10 d_H_told_64 (by decide) ?_
            refine z_isub d_H_told_66 ?_
            refine z_iconst 3 d_H_told_67 (by decide) ?_
            refine z_irem d_H_told_68 (by decide) ?_
            refine z_iload_n d_H_told_69 rfl ?_
            refine z_bipush 10 d_H_told_70 (by decide) ?_
            refine z_isub d_H_told_72 ?_
            refine z_iconst 3 d_H_told_73 (by decide) ?_
            refine z_idiv d_H_told_74 (by decide) ?_
            refine z_callV (as := [.int ((x1 - 10) - (x1 - 10) / 3 * 3), .int ((x1 - 10) / 3)]) (st := []) i_Machine_after ⟨rfl, rfl⟩ v_Machine_after w_Machine_after l_H_117 d_H_told_75 (by decide) (tA_8 k) rfl (Nat.le_of_ble_eq_true rfl) (Nat.le_of_ble_eq_true rfl) h (fun q70 T70 M70 h => ?_)
            obtain ⟨y70, rfl, rfl, h⟩ := h
            exact z_iret rfl d_H_told_78 h
      · replace h := h.2 c3
        refine z_aload_n d_H_told_33 rfl ?_
        refine z_getr f_H_21 rfl d_H_told_34 (tA_0 k) (tr_0_1 k) ?_
        refine z_getr f_H_108 rfl d_H_told_37 (tA_3 k) (tr_3_1 k) ?_
        refine z_callV (as := []) (st := []) i_Row_size ⟨rfl, rfl⟩ v_Row_size w_Row_size l_H_89 d_H_told_40 (by decide) (ts_6 k).1 rfl (Nat.le_of_ble_eq_true rfl) (Nat.le_of_ble_eq_true rfl) h (fun q71 T71 M71 h => ?_)
        obtain ⟨y71, rfl, rfl, h⟩ := h
        exact z_iret rfl d_H_told_43 h
    · replace h := h.2 c2
      refine z_aload_n d_H_told_17 rfl ?_
      refine z_getr f_H_21 rfl d_H_told_18 (tA_0 k) (tr_0_1 k) ?_
      refine z_getr f_H_105 rfl d_H_told_21 (tA_3 k) (tr_3_0 k) ?_
      refine z_callV (as := []) (st := []) i_Row_size ⟨rfl, rfl⟩ v_Row_size w_Row_size l_H_89 d_H_told_24 (by decide) (ts_4 k).1 rfl (Nat.le_of_ble_eq_true rfl) (Nat.le_of_ble_eq_true rfl) h (fun q72 T72 M72 h => ?_)
      obtain ⟨y72, rfl, rfl, h⟩ := h
      exact z_iret rfl d_H_told_27 h
  · replace h := h.2 c1
    refine z_aload_n d_H_told_4 rfl ?_
    refine z_getr f_H_14 rfl d_H_told_5 (tA_0 k) (tr_0_0 k) ?_
    refine z_callV (as := []) (st := []) i_Row_size ⟨rfl, rfl⟩ v_Row_size w_Row_size l_H_89 d_H_told_8 (by decide) (ts_1 k).1 rfl (Nat.le_of_ble_eq_true rfl) (Nat.le_of_ble_eq_true rfl) h (fun q73 T73 M73 h => ?_)
    obtain ⟨y73, rfl, rfl, h⟩ := h
    exact z_iret rfl d_H_told_11 h

set_option maxRecDepth 20000 in
theorem vc_H_isLetter_0 (E : ZE) (k : Nat) (M : ZM) (x0 : Int32) (Φ : Option Value → ZS → ZM → Prop)  (h : (x0 < 0 → Φ (some (.int 0)) (zSt k) M) ∧ (¬ x0 < 0 → (2 ≤ x0 → Φ (some (.int 0)) (zSt k) M) ∧ (¬ 2 ≤ x0 → Φ (some (.int 1)) (zSt k) M))) : zW E m_H_isLetter 0 (zSt k) M 0 [some (.int x0)] [] Φ := by
  refine z_iload_n d_H_isLetter_0 rfl ?_
  refine z_if_lt 13 d_H_isLetter_1 rfl ⟨fun c1 => ?_, fun c1 => ?_⟩
  · replace h := h.1 c1
    refine z_iconst 0 d_H_isLetter_13 (by decide) ?_
    exact z_zret rfl d_H_isLetter_14 rfl h
  · replace h := h.2 c1
    refine z_iload_n d_H_isLetter_4 rfl ?_
    refine z_iconst 2 d_H_isLetter_5 (by decide) ?_
    refine z_icmp_ge 13 d_H_isLetter_6 rfl ⟨fun c2 => ?_, fun c2 => ?_⟩
    · replace h := h.1 c2
      refine z_iconst 0 d_H_isLetter_13 (by decide) ?_
      exact z_zret rfl d_H_isLetter_14 rfl h
    · replace h := h.2 c2
      refine z_iconst 1 d_H_isLetter_9 (by decide) ?_
      refine z_goto 14 d_H_isLetter_10 rfl ?_
      exact z_zret rfl d_H_isLetter_14 rfl h

set_option maxRecDepth 20000 in
theorem vc_H_isVariable_0 (E : ZE) (k : Nat) (M : ZM) (x0 : Int32) (Φ : Option Value → ZS → ZM → Prop)  (h : (x0 < 0 → Φ (some (.int 0)) (zSt k) M) ∧ (¬ x0 < 0 → (3 ≤ x0 → Φ (some (.int 0)) (zSt k) M) ∧ (¬ 3 ≤ x0 → Φ (some (.int 1)) (zSt k) M))) : zW E m_H_isVariable 0 (zSt k) M 0 [some (.int x0)] [] Φ := by
  refine z_iload_n d_H_isVariable_0 rfl ?_
  refine z_if_lt 13 d_H_isVariable_1 rfl ⟨fun c1 => ?_, fun c1 => ?_⟩
  · replace h := h.1 c1
    refine z_iconst 0 d_H_isVariable_13 (by decide) ?_
    exact z_zret rfl d_H_isVariable_14 rfl h
  · replace h := h.2 c1
    refine z_iload_n d_H_isVariable_4 rfl ?_
    refine z_iconst 3 d_H_isVariable_5 (by decide) ?_
    refine z_icmp_ge 13 d_H_isVariable_6 rfl ⟨fun c2 => ?_, fun c2 => ?_⟩
    · replace h := h.1 c2
      refine z_iconst 0 d_H_isVariable_13 (by decide) ?_
      exact z_zret rfl d_H_isVariable_14 rfl h
    · replace h := h.2 c2
      refine z_iconst 1 d_H_isVariable_9 (by decide) ?_
      refine z_goto 14 d_H_isVariable_10 rfl ?_
      exact z_zret rfl d_H_isVariable_14 rfl h

set_option maxRecDepth 20000 in
theorem vc_H_isState_0 (E : ZE) (k : Nat) (M : ZM) (x0 : Int32) (Φ : Option Value → ZS → ZM → Prop)  (h : (x0 < 0 → Φ (some (.int 0)) (zSt k) M) ∧ (¬ x0 < 0 → (3 ≤ x0 → Φ (some (.int 0)) (zSt k) M) ∧ (¬ 3 ≤ x0 → Φ (some (.int 1)) (zSt k) M))) : zW E m_H_isState 0 (zSt k) M 0 [some (.int x0)] [] Φ := by
  refine z_iload_n d_H_isState_0 rfl ?_
  refine z_if_lt 13 d_H_isState_1 rfl ⟨fun c1 => ?_, fun c1 => ?_⟩
  · replace h := h.1 c1
    refine z_iconst 0 d_H_isState_13 (by decide) ?_
    exact z_zret rfl d_H_isState_14 rfl h
  · replace h := h.2 c1
    refine z_iload_n d_H_isState_4 rfl ?_
    refine z_iconst 3 d_H_isState_5 (by decide) ?_
    refine z_icmp_ge 13 d_H_isState_6 rfl ⟨fun c2 => ?_, fun c2 => ?_⟩
    · replace h := h.1 c2
      refine z_iconst 0 d_H_isState_13 (by decide) ?_
      exact z_zret rfl d_H_isState_14 rfl h
    · replace h := h.2 c2
      refine z_iconst 1 d_H_isState_9 (by decide) ?_
      refine z_goto 14 d_H_isState_10 rfl ?_
      exact z_zret rfl d_H_isState_14 rfl h

set_option maxRecDepth 20000 in
theorem vc_H_sizeOrItem_0 (E : ZE) (k : Nat) (M : ZM) (r0 L0 : Nat) (x1 : Int32) (Φ : Option Value → ZS → ZM → Prop) (h0 : zRow (zSt k) r0 L0) (h : (¬ x1 = (-1) → zW E m_Row_at 0 (zSt k) M 0 [some (.ref r0), some (.int x1)] [] (fun q2 T2 M2 => ∃ y2 : Int32, q2 = some (.int y2) ∧ (zSt k) = T2 ∧ Φ (some (.int y2)) (zSt k) M2)) ∧ (x1 = (-1) → zW E m_Row_size 0 (zSt k) M 0 [some (.ref r0)] [] (fun q3 T3 M3 => ∃ y3 : Int32, q3 = some (.int y3) ∧ (zSt k) = T3 ∧ Φ (some (.int y3)) (zSt k) M3))) : zW E m_H_sizeOrItem 1 (zSt k) M 0 [some (.ref r0), some (.int x1)] [] Φ := by
  refine z_iload_n d_H_sizeOrItem_0 rfl ?_
  refine z_iconst (-1) d_H_sizeOrItem_1 (by decide) ?_
  refine z_icmp_ne 12 d_H_sizeOrItem_2 rfl ⟨fun c1 => ?_, fun c1 => ?_⟩
  · replace h := h.1 c1
    refine z_aload_n d_H_sizeOrItem_12 rfl ?_
    refine z_iload_n d_H_sizeOrItem_13 rfl ?_
    refine z_callV (as := [.int x1]) (st := []) i_Row_at ⟨rfl, rfl⟩ v_Row_at w_Row_at l_H_212 d_H_sizeOrItem_14 (by decide) h0.1 rfl (Nat.le_of_ble_eq_true rfl) (Nat.le_of_ble_eq_true rfl) h (fun q2 T2 M2 h => ?_)
    obtain ⟨y2, rfl, rfl, h⟩ := h
    exact z_iret rfl d_H_sizeOrItem_17 h
  · replace h := h.2 c1
    refine z_aload_n d_H_sizeOrItem_5 rfl ?_
    refine z_callV (as := []) (st := []) i_Row_size ⟨rfl, rfl⟩ v_Row_size w_Row_size l_H_89 d_H_sizeOrItem_6 (by decide) h0.1 rfl (Nat.le_of_ble_eq_true rfl) (Nat.le_of_ble_eq_true rfl) h (fun q3 T3 M3 h => ?_)
    obtain ⟨y3, rfl, rfl, h⟩ := h
    refine z_goto 17 d_H_sizeOrItem_9 rfl ?_
    exact z_iret rfl d_H_sizeOrItem_17 h

set_option maxRecDepth 20000 in
theorem vc_H_symbolOf_0 (E : ZE) (k : Nat) (M : ZM) (x0 : Int32) (Φ : Option Value → ZS → ZM → Prop)  (h : (x0 = 97 → Φ (some (.int (x0 - 97))) (zSt k) M) ∧ (¬ x0 = 97 → (¬ x0 = 98 → (x0 < 120 → Φ (some (.int (-6))) (zSt k) M) ∧ (¬ x0 < 120 → (122 < x0 → Φ (some (.int (-6))) (zSt k) M) ∧ (¬ 122 < x0 → Φ (some (.int ((x0 - 120) + 2))) (zSt k) M))) ∧ (x0 = 98 → Φ (some (.int (x0 - 97))) (zSt k) M))) : zW E m_H_symbolOf 0 (zSt k) M 0 [some (.int x0)] [] Φ := by
  refine z_iload_n d_H_symbolOf_0 rfl ?_
  refine z_bipush 97 d_H_symbolOf_1 (by decide) ?_
  refine z_icmp_eq 12 d_H_symbolOf_3 rfl ⟨fun c1 => ?_, fun c1 => ?_⟩
  · replace h := h.1 c1
    refine z_iload_n d_H_symbolOf_12 rfl ?_
    refine z_bipush 97 d_H_symbolOf_13 (by decide) ?_
    refine z_isub d_H_symbolOf_15 ?_
    exact z_iret rfl d_H_symbolOf_16 h
  · replace h := h.2 c1
    refine z_iload_n d_H_symbolOf_6 rfl ?_
    refine z_bipush 98 d_H_symbolOf_7 (by decide) ?_
    refine z_icmp_ne 17 d_H_symbolOf_9 rfl ⟨fun c2 => ?_, fun c2 => ?_⟩
    · replace h := h.1 c2
      refine z_iload_n d_H_symbolOf_17 rfl ?_
      refine z_bipush 120 d_H_symbolOf_18 (by decide) ?_
      refine z_icmp_lt 36 d_H_symbolOf_20 rfl ⟨fun c3 => ?_, fun c3 => ?_⟩
      · replace h := h.1 c3
        refine z_bipush (-6) d_H_symbolOf_36 (by decide) ?_
        exact z_iret rfl d_H_symbolOf_38 h
      · replace h := h.2 c3
        refine z_iload_n d_H_symbolOf_23 rfl ?_
        refine z_bipush 122 d_H_symbolOf_24 (by decide) ?_
        refine z_icmp_gt 36 d_H_symbolOf_26 rfl ⟨fun c4 => ?_, fun c4 => ?_⟩
        · replace h := h.1 c4
          refine z_bipush (-6) d_H_symbolOf_36 (by decide) ?_
          exact z_iret rfl d_H_symbolOf_38 h
        · replace h := h.2 c4
          refine z_iload_n d_H_symbolOf_29 rfl ?_
          refine z_bipush 120 d_H_symbolOf_30 (by decide) ?_
          refine z_isub d_H_symbolOf_32 ?_
          refine z_iconst 2 d_H_symbolOf_33 (by decide) ?_
          refine z_iadd d_H_symbolOf_34 ?_
          exact z_iret rfl d_H_symbolOf_35 h
    · replace h := h.2 c2
      refine z_iload_n d_H_symbolOf_12 rfl ?_
      refine z_bipush 97 d_H_symbolOf_13 (by decide) ?_
      refine z_isub d_H_symbolOf_15 ?_
      exact z_iret rfl d_H_symbolOf_16 h

set_option maxRecDepth 20000 in
theorem vc_H_firstFault_0 (E : ZE) (k : Nat) (M : ZM)  (Φ : Option Value → ZS → ZM → Prop)  (h : zW E m_H_firstFault 1 (zSt k) M 6 [some (.ref 0), some (.int 0), some (.int 0), some (.int 0)] [] Φ) : zW E m_H_firstFault 1 (zSt k) M 0 [some (.ref 0), none, none, none] [] Φ := by
  refine z_iconst 0 d_H_firstFault_0 (by decide) ?_
  refine z_istore_n (ls' := [some (.ref 0), some (.int 0), none, none]) d_H_firstFault_1 (Nat.le_of_ble_eq_true rfl) rfl rfl ?_
  refine z_iconst 0 d_H_firstFault_2 (by decide) ?_
  refine z_istore_n (ls' := [some (.ref 0), some (.int 0), some (.int 0), none]) d_H_firstFault_3 (Nat.le_of_ble_eq_true rfl) rfl rfl ?_
  refine z_iconst 0 d_H_firstFault_4 (by decide) ?_
  refine z_istore_n (ls' := [some (.ref 0), some (.int 0), some (.int 0), some (.int 0)]) d_H_firstFault_5 (Nat.le_of_ble_eq_true rfl) rfl rfl ?_
  exact z_forget [some (.ref 0), some (.int 0), some (.int 0), some (.int 0)] (And.intro rfl (And.intro rfl (And.intro rfl (And.intro rfl (trivial))))) h

set_option maxRecDepth 20000 in
theorem vc_H_firstFault_6 (E : ZE) (k : Nat) (M : ZM) (x1 : Int32) (x2 : Int32) (x3 : Int32) (Φ : Option Value → ZS → ZM → Prop)  (h : zW E m_Row_size 0 (zSt k) M 0 [some (.ref 1)] [] (fun q1 T1 M1 => ∃ y1 : Int32, q1 = some (.int y1) ∧ (zSt k) = T1 ∧ (y1 ≤ x3 → (x1 = 0 → zW E m_Row_size 0 (zSt k) M1 0 [some (.ref 1)] [] (fun q4 T4 M4 => ∃ y4 : Int32, q4 = some (.int y4) ∧ (zSt k) = T4 ∧ Φ (some (.int y4)) (zSt k) M4)) ∧ (¬ x1 = 0 → Φ (some (.int (-6))) (zSt k) M1)) ∧ (¬ y1 ≤ x3 → zW E m_Row_at 0 (zSt k) M1 0 [some (.ref 1), some (.int x3)] [] (fun q5 T5 M5 => ∃ y5 : Int32, q5 = some (.int y5) ∧ (zSt k) = T5 ∧ (¬ y5 = 61 → ∀ y7 : Int32, y7 = x2 + 1 → zW E m_Row_at 0 (zSt k) M5 0 [some (.ref 1), some (.int x3)] [] (fun q8 T8 M8 => ∃ y8 : Int32, q8 = some (.int y8) ∧ (zSt k) = T8 ∧ zW E m_H_symbolOf 0 (zSt k) M8 0 [some (.int y8)] [] (fun q9 T9 M9 => ∃ y9 : Int32, q9 = some (.int y9) ∧ (zSt k) = T9 ∧ (y9 = (-6) → Φ (some (.int x3)) (zSt k) M9) ∧ (¬ y9 = (-6) → (y7 ≤ 12 → ∀ y12 : Int32, y12 = x3 + 1 → zW E m_H_firstFault 1 (zSt k) M9 6 [some (.ref 0), some (.int x1), some (.int y7), some (.int y12)] [] Φ) ∧ (¬ y7 ≤ 12 → Φ (some (.int x3)) (zSt k) M9))))) ∧ (y5 = 61 → (x1 = 0 → ∀ y14 : Int32, y14 = x3 + 1 → zW E m_H_firstFault 1 (zSt k) M5 6 [some (.ref 0), some (.int 1), some (.int 0), some (.int y14)] [] Φ) ∧ (¬ x1 = 0 → Φ (some (.int x3)) (zSt k) M5)))))) : zW E m_H_firstFault 1 (zSt k) M 6 [some (.ref 0), some (.int x1), some (.int x2), some (.int x3)] [] Φ := by
  refine z_iload_n d_H_firstFault_6 rfl ?_
  refine z_aload_n d_H_firstFault_7 rfl ?_
  refine z_getr f_H_14 rfl d_H_firstFault_8 (tA_0 k) (tr_0_0 k) ?_
  refine z_callV (as := []) (st := [.int x3]) i_Row_size ⟨rfl, rfl⟩ v_Row_size w_Row_size l_H_89 d_H_firstFault_11 (by decide) (ts_1 k).1 rfl (Nat.le_of_ble_eq_true rfl) (Nat.le_of_ble_eq_true rfl) h (fun q1 T1 M1 h => ?_)
  obtain ⟨y1, rfl, rfl, h⟩ := h
  refine z_icmp_ge 76 d_H_firstFault_14 rfl ⟨fun c2 => ?_, fun c2 => ?_⟩
  · replace h := h.1 c2
    refine z_iload_n d_H_firstFault_76 rfl ?_
    refine z_if_eq 85 d_H_firstFault_77 rfl ⟨fun c3 => ?_, fun c3 => ?_⟩
    · replace h := h.1 c3
      refine z_aload_n d_H_firstFault_85 rfl ?_
      refine z_getr f_H_14 rfl d_H_firstFault_86 (tA_0 k) (tr_0_0 k) ?_
      refine z_callV (as := []) (st := []) i_Row_size ⟨rfl, rfl⟩ v_Row_size w_Row_size l_H_89 d_H_firstFault_89 (by decide) (ts_1 k).1 rfl (Nat.le_of_ble_eq_true rfl) (Nat.le_of_ble_eq_true rfl) h (fun q4 T4 M4 h => ?_)
      obtain ⟨y4, rfl, rfl, h⟩ := h
      exact z_iret rfl d_H_firstFault_92 h
    · replace h := h.2 c3
      refine z_bipush (-6) d_H_firstFault_80 (by decide) ?_
      refine z_goto 92 d_H_firstFault_82 rfl ?_
      exact z_iret rfl d_H_firstFault_92 h
  · replace h := h.2 c2
    refine z_aload_n d_H_firstFault_17 rfl ?_
    refine z_getr f_H_14 rfl d_H_firstFault_18 (tA_0 k) (tr_0_0 k) ?_
    refine z_iload_n d_H_firstFault_21 rfl ?_
    refine z_callV (as := [.int x3]) (st := []) i_Row_at ⟨rfl, rfl⟩ v_Row_at w_Row_at l_H_212 d_H_firstFault_22 (by decide) (ts_1 k).1 rfl (Nat.le_of_ble_eq_true rfl) (Nat.le_of_ble_eq_true rfl) h (fun q5 T5 M5 h => ?_)
    obtain ⟨y5, rfl, rfl, h⟩ := h
    refine z_bipush 61 d_H_firstFault_25 (by decide) ?_
    refine z_icmp_ne 43 d_H_firstFault_27 rfl ⟨fun c6 => ?_, fun c6 => ?_⟩
    · replace h := h.1 c6
      obtain ⟨y7, ey7⟩ : ∃ q : Int32, q = x2 + 1 := ⟨_, rfl⟩
      replace h := h y7 ey7
      refine z_iinc (ls' := [some (.ref 0), some (.int x1), some (.int y7), some (.int x3)]) y7 d_H_firstFault_43 rfl (ey7 ▸ rfl) (Nat.le_of_ble_eq_true rfl) rfl rfl ?_
      refine z_aload_n d_H_firstFault_46 rfl ?_
      refine z_getr f_H_14 rfl d_H_firstFault_47 (tA_0 k) (tr_0_0 k) ?_
      refine z_iload_n d_H_firstFault_50 rfl ?_
      refine z_callV (as := [.int x3]) (st := []) i_Row_at ⟨rfl, rfl⟩ v_Row_at w_Row_at l_H_212 d_H_firstFault_51 (by decide) (ts_1 k).1 rfl (Nat.le_of_ble_eq_true rfl) (Nat.le_of_ble_eq_true rfl) h (fun q8 T8 M8 h => ?_)
      obtain ⟨y8, rfl, rfl, h⟩ := h
      refine z_callS (as := [.int y8]) (st := []) i_H_symbolOf s_H_symbolOf l_H_273 d_H_firstFault_54 (by decide) rfl (Nat.le_of_ble_eq_true rfl) (Nat.le_of_ble_eq_true rfl) h (fun q9 T9 M9 h => ?_)
      obtain ⟨y9, rfl, rfl, h⟩ := h
      refine z_bipush (-6) d_H_firstFault_57 (by decide) ?_
      refine z_icmp_eq 68 d_H_firstFault_59 rfl ⟨fun c10 => ?_, fun c10 => ?_⟩
      · replace h := h.1 c10
        refine z_iload_n d_H_firstFault_68 rfl ?_
        exact z_iret rfl d_H_firstFault_69 h
      · replace h := h.2 c10
        refine z_iload_n d_H_firstFault_62 rfl ?_
        refine z_bipush 12 d_H_firstFault_63 (by decide) ?_
        refine z_icmp_le 70 d_H_firstFault_65 rfl ⟨fun c11 => ?_, fun c11 => ?_⟩
        · replace h := h.1 c11
          obtain ⟨y12, ey12⟩ : ∃ q : Int32, q = x3 + 1 := ⟨_, rfl⟩
          replace h := h y12 ey12
          refine z_iinc (ls' := [some (.ref 0), some (.int x1), some (.int y7), some (.int y12)]) y12 d_H_firstFault_70 rfl (ey12 ▸ rfl) (Nat.le_of_ble_eq_true rfl) rfl rfl ?_
          refine z_goto 6 d_H_firstFault_73 rfl ?_
          exact z_forget [some (.ref 0), some (.int x1), some (.int y7), some (.int y12)] (And.intro rfl (And.intro rfl (And.intro rfl (And.intro rfl (trivial))))) h
        · replace h := h.2 c11
          refine z_iload_n d_H_firstFault_68 rfl ?_
          exact z_iret rfl d_H_firstFault_69 h
    · replace h := h.2 c6
      refine z_iload_n d_H_firstFault_30 rfl ?_
      refine z_if_eq 36 d_H_firstFault_31 rfl ⟨fun c13 => ?_, fun c13 => ?_⟩
      · replace h := h.1 c13
        refine z_iconst 1 d_H_firstFault_36 (by decide) ?_
        refine z_istore_n (ls' := [some (.ref 0), some (.int 1), some (.int x2), some (.int x3)]) d_H_firstFault_37 (Nat.le_of_ble_eq_true rfl) rfl rfl ?_
        refine z_iconst 0 d_H_firstFault_38 (by decide) ?_
        refine z_istore_n (ls' := [some (.ref 0), some (.int 1), some (.int 0), some (.int x3)]) d_H_firstFault_39 (Nat.le_of_ble_eq_true rfl) rfl rfl ?_
        refine z_goto 70 d_H_firstFault_40 rfl ?_
        obtain ⟨y14, ey14⟩ : ∃ q : Int32, q = x3 + 1 := ⟨_, rfl⟩
        replace h := h y14 ey14
        refine z_iinc (ls' := [some (.ref 0), some (.int 1), some (.int 0), some (.int y14)]) y14 d_H_firstFault_70 rfl (ey14 ▸ rfl) (Nat.le_of_ble_eq_true rfl) rfl rfl ?_
        refine z_goto 6 d_H_firstFault_73 rfl ?_
        exact z_forget [some (.ref 0), some (.int 1), some (.int 0), some (.int y14)] (And.intro rfl (And.intro rfl (And.intro rfl (And.intro rfl (trivial))))) h
      · replace h := h.2 c13
        refine z_iload_n d_H_firstFault_34 rfl ?_
        exact z_iret rfl d_H_firstFault_35 h

set_option maxRecDepth 20000 in
theorem vc_H_pourPad_0 (E : ZE) (k : Nat) (M : ZM)  (Φ : Option Value → ZS → ZM → Prop)  (h : zW E m_Row_makeEmpty 0 (zSt k) M 0 [some (.ref 4)] [] (fun q1 T1 M1 => q1 = none ∧ (zSt k) = T1 ∧ zW E m_Row_makeEmpty 0 (zSt k) M1 0 [some (.ref 6)] [] (fun q2 T2 M2 => q2 = none ∧ (zSt k) = T2 ∧ zW E m_H_pourPad 1 (zSt k) M2 30 [some (.ref 0), some (.ref 4), some (.int 0)] [] Φ))) : zW E m_H_pourPad 1 (zSt k) M 0 [some (.ref 0), none, none] [] Φ := by
  refine z_aload_n d_H_pourPad_0 rfl ?_
  refine z_getr f_H_21 rfl d_H_pourPad_1 (tA_0 k) (tr_0_1 k) ?_
  refine z_getr f_H_105 rfl d_H_pourPad_4 (tA_3 k) (tr_3_0 k) ?_
  refine z_callV (as := []) (st := []) i_Row_makeEmpty ⟨rfl, rfl⟩ v_Row_makeEmpty w_Row_makeEmpty l_H_93 d_H_pourPad_7 (by decide) (ts_4 k).1 rfl (Nat.le_of_ble_eq_true rfl) (Nat.le_of_ble_eq_true rfl) h (fun q1 T1 M1 h => ?_)
  obtain ⟨rfl, rfl, h⟩ := h
  refine z_aload_n d_H_pourPad_10 rfl ?_
  refine z_getr f_H_21 rfl d_H_pourPad_11 (tA_0 k) (tr_0_1 k) ?_
  refine z_getr f_H_108 rfl d_H_pourPad_14 (tA_3 k) (tr_3_1 k) ?_
  refine z_callV (as := []) (st := []) i_Row_makeEmpty ⟨rfl, rfl⟩ v_Row_makeEmpty w_Row_makeEmpty l_H_93 d_H_pourPad_17 (by decide) (ts_6 k).1 rfl (Nat.le_of_ble_eq_true rfl) (Nat.le_of_ble_eq_true rfl) h (fun q2 T2 M2 h => ?_)
  obtain ⟨rfl, rfl, h⟩ := h
  refine z_aload_n d_H_pourPad_20 rfl ?_
  refine z_getr f_H_21 rfl d_H_pourPad_21 (tA_0 k) (tr_0_1 k) ?_
  refine z_getr f_H_105 rfl d_H_pourPad_24 (tA_3 k) (tr_3_0 k) ?_
  refine z_astore_n (ls' := [some (.ref 0), some (.ref 4), none]) d_H_pourPad_27 (Nat.le_of_ble_eq_true rfl) rfl rfl ?_
  refine z_iconst 0 d_H_pourPad_28 (by decide) ?_
  refine z_istore_n (ls' := [some (.ref 0), some (.ref 4), some (.int 0)]) d_H_pourPad_29 (Nat.le_of_ble_eq_true rfl) rfl rfl ?_
  exact z_forget [some (.ref 0), some (.ref 4), some (.int 0)] (And.intro rfl (And.intro rfl (And.intro rfl (trivial)))) h

set_option maxRecDepth 20000 in
theorem vc_H_pourPad_30 (E : ZE) (k : Nat) (M : ZM) (r1 L1 : Nat) (x2 : Int32) (Φ : Option Value → ZS → ZM → Prop) (h1 : zRow (zSt k) r1 L1) (h : zW E m_Row_size 0 (zSt k) M 0 [some (.ref 1)] [] (fun q1 T1 M1 => ∃ y1 : Int32, q1 = some (.int y1) ∧ (zSt k) = T1 ∧ (y1 ≤ x2 → zW E m_Row_makeEmpty 0 (zSt k) M1 0 [some (.ref 1)] [] (fun q3 T3 M3 => q3 = none ∧ (zSt k) = T3 ∧ Φ none (zSt k) M3)) ∧ (¬ y1 ≤ x2 → zW E m_Row_at 0 (zSt k) M1 0 [some (.ref 1), some (.int x2)] [] (fun q4 T4 M4 => ∃ y4 : Int32, q4 = some (.int y4) ∧ (zSt k) = T4 ∧ (¬ y4 = 61 → zW E m_Row_at 0 (zSt k) M4 0 [some (.ref 1), some (.int x2)] [] (fun q6 T6 M6 => ∃ y6 : Int32, q6 = some (.int y6) ∧ (zSt k) = T6 ∧ zW E m_H_symbolOf 0 (zSt k) M6 0 [some (.int y6)] [] (fun q7 T7 M7 => ∃ y7 : Int32, q7 = some (.int y7) ∧ (zSt k) = T7 ∧ zW E m_Row_push 0 (zSt k) M7 0 [some (.ref r1), some (.int y7)] [] (fun q8 T8 M8 => ∃ y8 : Int32, q8 = some (.int y8) ∧ (zSt k) = T8 ∧ ∀ y9 : Int32, y9 = x2 + 1 → zW E m_H_pourPad 1 (zSt k) M8 30 [some (.ref 0), some (.ref r1), some (.int y9)] [] Φ)))) ∧ (y4 = 61 → ∀ y10 : Int32, y10 = x2 + 1 → zW E m_H_pourPad 1 (zSt k) M4 30 [some (.ref 0), some (.ref 6), some (.int y10)] [] Φ))))) : zW E m_H_pourPad 1 (zSt k) M 30 [some (.ref 0), some (.ref r1), some (.int x2)] [] Φ := by
  refine z_iload_n d_H_pourPad_30 rfl ?_
  refine z_aload_n d_H_pourPad_31 rfl ?_
  refine z_getr f_H_14 rfl d_H_pourPad_32 (tA_0 k) (tr_0_0 k) ?_
  refine z_callV (as := []) (st := [.int x2]) i_Row_size ⟨rfl, rfl⟩ v_Row_size w_Row_size l_H_89 d_H_pourPad_35 (by decide) (ts_1 k).1 rfl (Nat.le_of_ble_eq_true rfl) (Nat.le_of_ble_eq_true rfl) h (fun q1 T1 M1 h => ?_)
  obtain ⟨y1, rfl, rfl, h⟩ := h
  refine z_icmp_ge 87 d_H_pourPad_38 rfl ⟨fun c2 => ?_, fun c2 => ?_⟩
  · replace h := h.1 c2
    refine z_aload_n d_H_pourPad_87 rfl ?_
    refine z_getr f_H_14 rfl d_H_pourPad_88 (tA_0 k) (tr_0_0 k) ?_
    refine z_callV (as := []) (st := []) i_Row_makeEmpty ⟨rfl, rfl⟩ v_Row_makeEmpty w_Row_makeEmpty l_H_93 d_H_pourPad_91 (by decide) (ts_1 k).1 rfl (Nat.le_of_ble_eq_true rfl) (Nat.le_of_ble_eq_true rfl) h (fun q3 T3 M3 h => ?_)
    obtain ⟨rfl, rfl, h⟩ := h
    exact z_vret rfl d_H_pourPad_94 h
  · replace h := h.2 c2
    refine z_aload_n d_H_pourPad_41 rfl ?_
    refine z_getr f_H_14 rfl d_H_pourPad_42 (tA_0 k) (tr_0_0 k) ?_
    refine z_iload_n d_H_pourPad_45 rfl ?_
    refine z_callV (as := [.int x2]) (st := []) i_Row_at ⟨rfl, rfl⟩ v_Row_at w_Row_at l_H_212 d_H_pourPad_46 (by decide) (ts_1 k).1 rfl (Nat.le_of_ble_eq_true rfl) (Nat.le_of_ble_eq_true rfl) h (fun q4 T4 M4 h => ?_)
    obtain ⟨y4, rfl, rfl, h⟩ := h
    refine z_bipush 61 d_H_pourPad_49 (by decide) ?_
    refine z_icmp_ne 65 d_H_pourPad_51 rfl ⟨fun c5 => ?_, fun c5 => ?_⟩
    · replace h := h.1 c5
      refine z_aload_n d_H_pourPad_65 rfl ?_
      refine z_aload_n d_H_pourPad_66 rfl ?_
      refine z_getr f_H_14 rfl d_H_pourPad_67 (tA_0 k) (tr_0_0 k) ?_
      refine z_iload_n d_H_pourPad_70 rfl ?_
      refine z_callV (as := [.int x2]) (st := [.ref r1]) i_Row_at ⟨rfl, rfl⟩ v_Row_at w_Row_at l_H_212 d_H_pourPad_71 (by decide) (ts_1 k).1 rfl (Nat.le_of_ble_eq_true rfl) (Nat.le_of_ble_eq_true rfl) h (fun q6 T6 M6 h => ?_)
      obtain ⟨y6, rfl, rfl, h⟩ := h
      refine z_callS (as := [.int y6]) (st := [.ref r1]) i_H_symbolOf s_H_symbolOf l_H_273 d_H_pourPad_74 (by decide) rfl (Nat.le_of_ble_eq_true rfl) (Nat.le_of_ble_eq_true rfl) h (fun q7 T7 M7 h => ?_)
      obtain ⟨y7, rfl, rfl, h⟩ := h
      refine z_callV (as := [.int y7]) (st := []) i_Row_push ⟨rfl, rfl⟩ v_Row_push w_Row_push l_H_85 d_H_pourPad_77 (by decide) h1.1 rfl (Nat.le_of_ble_eq_true rfl) (Nat.le_of_ble_eq_true rfl) h (fun q8 T8 M8 h => ?_)
      obtain ⟨y8, rfl, rfl, h⟩ := h
      refine z_pop d_H_pourPad_80 rfl ?_
      obtain ⟨y9, ey9⟩ : ∃ q : Int32, q = x2 + 1 := ⟨_, rfl⟩
      replace h := h y9 ey9
      refine z_iinc (ls' := [some (.ref 0), some (.ref r1), some (.int y9)]) y9 d_H_pourPad_81 rfl (ey9 ▸ rfl) (Nat.le_of_ble_eq_true rfl) rfl rfl ?_
      refine z_goto 30 d_H_pourPad_84 rfl ?_
      exact z_forget [some (.ref 0), some (.ref r1), some (.int y9)] (And.intro rfl (And.intro rfl (And.intro rfl (trivial)))) h
    · replace h := h.2 c5
      refine z_aload_n d_H_pourPad_54 rfl ?_
      refine z_getr f_H_21 rfl d_H_pourPad_55 (tA_0 k) (tr_0_1 k) ?_
      refine z_getr f_H_108 rfl d_H_pourPad_58 (tA_3 k) (tr_3_1 k) ?_
      refine z_astore_n (ls' := [some (.ref 0), some (.ref 6), some (.int x2)]) d_H_pourPad_61 (Nat.le_of_ble_eq_true rfl) rfl rfl ?_
      refine z_goto 81 d_H_pourPad_62 rfl ?_
      obtain ⟨y10, ey10⟩ : ∃ q : Int32, q = x2 + 1 := ⟨_, rfl⟩
      replace h := h y10 ey10
      refine z_iinc (ls' := [some (.ref 0), some (.ref 6), some (.int y10)]) y10 d_H_pourPad_81 rfl (ey10 ▸ rfl) (Nat.le_of_ble_eq_true rfl) rfl rfl ?_
      refine z_goto 30 d_H_pourPad_84 rfl ?_
      exact z_forget [some (.ref 0), some (.ref 6), some (.int y10)] (And.intro rfl (And.intro rfl (And.intro rfl (trivial)))) h

set_option maxRecDepth 20000 in
theorem vc_H_needsOrRowsChanged_0 (E : ZE) (k : Nat) (M : ZM)  (Φ : Option Value → ZS → ZM → Prop)  (h : ∀ M1 : ZM, M1 = zms M 0 12 0 → ∀ M2 : ZM, M2 = zms M1 0 13 0 → Φ none (zSt k) M2) : zW E m_H_needsOrRowsChanged 0 (zSt k) M 0 [some (.ref 0)] [] Φ := by
  refine z_aload_n d_H_needsOrRowsChanged_0 rfl ?_
  refine z_iconst 0 d_H_needsOrRowsChanged_1 (by decide) ?_
  refine z_puti (p_H_276 rfl) rfl d_H_needsOrRowsChanged_2 (tA_0 k) rfl rfl ?_
  refine z_mem (fun M1 eM1 => ?_)
  replace h := h M1 eM1
  refine z_aload_n d_H_needsOrRowsChanged_5 rfl ?_
  refine z_iconst 0 d_H_needsOrRowsChanged_6 (by decide) ?_
  refine z_puti (p_H_256 rfl) rfl d_H_needsOrRowsChanged_7 (tA_0 k) rfl rfl ?_
  refine z_mem (fun M2 eM2 => ?_)
  replace h := h M2 eM2
  exact z_vret rfl d_H_needsOrRowsChanged_10 h

set_option maxRecDepth 20000 in
theorem vc_H_machineChanged_0 (E : ZE) (k : Nat) (M : ZM)  (Φ : Option Value → ZS → ZM → Prop)  (h : zW E m_Shorts_forget 0 (zSt k) M 0 [some (.ref 45)] [] (fun q1 T1 M1 => q1 = none ∧ (zSt k) = T1 ∧ zW E m_H_needsOrRowsChanged 0 (zSt k) M1 0 [some (.ref 0)] [] (fun q2 T2 M2 => q2 = none ∧ (zSt k) = T2 ∧ Φ none (zSt k) M2))) : zW E m_H_machineChanged 1 (zSt k) M 0 [some (.ref 0)] [] Φ := by
  refine z_aload_n d_H_machineChanged_0 rfl ?_
  refine z_getr f_H_40 rfl d_H_machineChanged_1 (tA_0 k) (tr_0_4 k) ?_
  refine z_callV (as := []) (st := []) i_Shorts_forget ⟨rfl, rfl⟩ v_Shorts_forget w_Shorts_forget l_H_279 d_H_machineChanged_4 (by decide) (tA_45 k) rfl (Nat.le_of_ble_eq_true rfl) (Nat.le_of_ble_eq_true rfl) h (fun q1 T1 M1 h => ?_)
  obtain ⟨rfl, rfl, h⟩ := h
  refine z_aload_n d_H_machineChanged_7 rfl ?_
  refine z_callV (as := []) (st := []) i_H_needsOrRowsChanged ⟨rfl, rfl⟩ v_H_needsOrRowsChanged w_H_needsOrRowsChanged l_H_102 d_H_machineChanged_8 (by decide) (tA_0 k) rfl (Nat.le_of_ble_eq_true rfl) (Nat.le_of_ble_eq_true rfl) h (fun q2 T2 M2 h => ?_)
  obtain ⟨rfl, rfl, h⟩ := h
  exact z_vret rfl d_H_machineChanged_11 h

set_option maxRecDepth 20000 in
theorem vc_H_refreshNet_0 (E : ZE) (k : Nat) (M : ZM)  (Φ : Option Value → ZS → ZM → Prop)  (h : ((M 0 12) = 0 → zW E m_Shorts_refresh 2 (zSt k) M 0 [some (.ref 45), none, none] [] (fun q2 T2 M2 => q2 = none ∧ (zSt k) = T2 ∧ zW E m_Net_begin 4 (zSt k) M2 0 [some (.ref 50)] [] (fun q3 T3 M3 => ∃ k3 : Nat, q3 = none ∧ (zSt k3) = T3 ∧ zW E m_H_refreshNet 6 (zSt k3) M3 24 [some (.ref 0), some (.int 0)] [] Φ))) ∧ (¬ (M 0 12) = 0 → Φ none (zSt k) M)) : zW E m_H_refreshNet 6 (zSt k) M 0 [some (.ref 0), none] [] Φ := by
  refine z_aload_n d_H_refreshNet_0 rfl ?_
  refine z_geti f_H_276 rfl d_H_refreshNet_1 (tA_0 k) ?_
  refine z_if_eq 8 d_H_refreshNet_4 rfl ⟨fun c1 => ?_, fun c1 => ?_⟩
  · replace h := h.1 c1
    refine z_aload_n d_H_refreshNet_8 rfl ?_
    refine z_getr f_H_40 rfl d_H_refreshNet_9 (tA_0 k) (tr_0_4 k) ?_
    refine z_callV (as := []) (st := []) i_Shorts_refresh ⟨rfl, rfl⟩ v_Shorts_refresh w_Shorts_refresh l_H_149 d_H_refreshNet_12 (by decide) (tA_45 k) rfl (Nat.le_of_ble_eq_true rfl) (Nat.le_of_ble_eq_true rfl) h (fun q2 T2 M2 h => ?_)
    obtain ⟨rfl, rfl, h⟩ := h
    refine z_aload_n d_H_refreshNet_15 rfl ?_
    refine z_getr f_H_49 rfl d_H_refreshNet_16 (tA_0 k) (tr_0_5 k) ?_
    refine z_callV (as := []) (st := []) i_Net_begin ⟨rfl, rfl⟩ v_Net_begin w_Net_begin l_H_282 d_H_refreshNet_19 (by decide) (tA_50 k) rfl (Nat.le_of_ble_eq_true rfl) (Nat.le_of_ble_eq_true rfl) h (fun q3 T3 M3 h => ?_)
    obtain ⟨k3, rfl, rfl, h⟩ := h
    refine z_iconst 0 d_H_refreshNet_22 (by decide) ?_
    refine z_istore_n (ls' := [some (.ref 0), some (.int 0)]) d_H_refreshNet_23 (Nat.le_of_ble_eq_true rfl) rfl rfl ?_
    exact z_forget [some (.ref 0), some (.int 0)] (And.intro rfl (And.intro rfl (trivial))) h
  · replace h := h.2 c1
    exact z_vret rfl d_H_refreshNet_7 h

set_option maxRecDepth 20000 in
theorem vc_H_refreshNet_24 (E : ZE) (k : Nat) (M : ZM) (x1 : Int32) (Φ : Option Value → ZS → ZM → Prop)  (h : (150 ≤ x1 → zW E m_Answer_trace 3 (zSt k) M 0 [some (.ref 61), none, none, none] [] (fun q2 T2 M2 => q2 = none ∧ (zSt k) = T2 ∧ ∀ M3 : ZM, M3 = zms M2 0 12 1 → Φ none (zSt k) M3)) ∧ (¬ 150 ≤ x1 → ((M 50 9) ≤ x1 → zW E m_Answer_trace 3 (zSt k) M 0 [some (.ref 61), none, none, none] [] (fun q5 T5 M5 => q5 = none ∧ (zSt k) = T5 ∧ ∀ M6 : ZM, M6 = zms M5 0 12 1 → Φ none (zSt k) M6)) ∧ (¬ (M 50 9) ≤ x1 → zW E m_Net_unfold 5 (zSt k) M 0 [some (.ref 50), some (.int x1), none, none, none] [] (fun q7 T7 M7 => ∃ k7 : Nat, q7 = none ∧ (zSt k7) = T7 ∧ ∀ y8 : Int32, y8 = x1 + 1 → zW E m_H_refreshNet 6 (zSt k7) M7 24 [some (.ref 0), some (.int y8)] [] Φ)))) : zW E m_H_refreshNet 6 (zSt k) M 24 [some (.ref 0), some (.int x1)] [] Φ := by
  refine z_iload_n d_H_refreshNet_24 rfl ?_
  refine z_sipush 150 d_H_refreshNet_25 (by decide) ?_
  refine z_icmp_ge 56 d_H_refreshNet_28 rfl ⟨fun c1 => ?_, fun c1 => ?_⟩
  · replace h := h.1 c1
    refine z_aload_n d_H_refreshNet_56 rfl ?_
    refine z_getr f_H_58 rfl d_H_refreshNet_57 (tA_0 k) (tr_0_6 k) ?_
    refine z_callV (as := []) (st := []) i_Answer_trace ⟨rfl, rfl⟩ v_Answer_trace w_Answer_trace l_H_288 d_H_refreshNet_60 (by decide) (tA_61 k) rfl (Nat.le_of_ble_eq_true rfl) (Nat.le_of_ble_eq_true rfl) h (fun q2 T2 M2 h => ?_)
    obtain ⟨rfl, rfl, h⟩ := h
    refine z_aload_n d_H_refreshNet_63 rfl ?_
    refine z_iconst 1 d_H_refreshNet_64 (by decide) ?_
    refine z_puti (p_H_276 rfl) rfl d_H_refreshNet_65 (tA_0 k) rfl rfl ?_
    refine z_mem (fun M3 eM3 => ?_)
    replace h := h M3 eM3
    exact z_vret rfl d_H_refreshNet_68 h
  · replace h := h.2 c1
    refine z_iload_n d_H_refreshNet_31 rfl ?_
    refine z_aload_n d_H_refreshNet_32 rfl ?_
    refine z_getr f_H_49 rfl d_H_refreshNet_33 (tA_0 k) (tr_0_5 k) ?_
    refine z_geti f_H_174 rfl d_H_refreshNet_36 (tA_50 k) ?_
    refine z_icmp_ge 56 d_H_refreshNet_39 rfl ⟨fun c4 => ?_, fun c4 => ?_⟩
    · replace h := h.1 c4
      refine z_aload_n d_H_refreshNet_56 rfl ?_
      refine z_getr f_H_58 rfl d_H_refreshNet_57 (tA_0 k) (tr_0_6 k) ?_
      refine z_callV (as := []) (st := []) i_Answer_trace ⟨rfl, rfl⟩ v_Answer_trace w_Answer_trace l_H_288 d_H_refreshNet_60 (by decide) (tA_61 k) rfl (Nat.le_of_ble_eq_true rfl) (Nat.le_of_ble_eq_true rfl) h (fun q5 T5 M5 h => ?_)
      obtain ⟨rfl, rfl, h⟩ := h
      refine z_aload_n d_H_refreshNet_63 rfl ?_
      refine z_iconst 1 d_H_refreshNet_64 (by decide) ?_
      refine z_puti (p_H_276 rfl) rfl d_H_refreshNet_65 (tA_0 k) rfl rfl ?_
      refine z_mem (fun M6 eM6 => ?_)
      replace h := h M6 eM6
      exact z_vret rfl d_H_refreshNet_68 h
    · replace h := h.2 c4
      refine z_aload_n d_H_refreshNet_42 rfl ?_
      refine z_getr f_H_49 rfl d_H_refreshNet_43 (tA_0 k) (tr_0_5 k) ?_
      refine z_iload_n d_H_refreshNet_46 rfl ?_
      refine z_callV (as := [.int x1]) (st := []) i_Net_unfold ⟨rfl, rfl⟩ v_Net_unfold w_Net_unfold l_H_285 d_H_refreshNet_47 (by decide) (tA_50 k) rfl (Nat.le_of_ble_eq_true rfl) (Nat.le_of_ble_eq_true rfl) h (fun q7 T7 M7 h => ?_)
      obtain ⟨k7, rfl, rfl, h⟩ := h
      obtain ⟨y8, ey8⟩ : ∃ q : Int32, q = x1 + 1 := ⟨_, rfl⟩
      replace h := h y8 ey8
      refine z_iinc (ls' := [some (.ref 0), some (.int y8)]) y8 d_H_refreshNet_50 rfl (ey8 ▸ rfl) (Nat.le_of_ble_eq_true rfl) rfl rfl ?_
      refine z_goto 24 d_H_refreshNet_53 rfl ?_
      exact z_forget [some (.ref 0), some (.int y8)] (And.intro rfl (And.intro rfl (trivial))) h

set_option maxRecDepth 20000 in
theorem vc_H_wordsMakeRowsOne_0 (E : ZE) (k : Nat) (M : ZM)  (Φ : Option Value → ZS → ZM → Prop)  (h : zW E m_Words_spellOut 1 (zSt k) M 0 [some (.ref 10), some (.ref 4), some (.ref 77), none, none] [] (fun q1 T1 M1 => q1 = none ∧ (zSt k) = T1 ∧ zW E m_Words_spellOut 1 (zSt k) M1 0 [some (.ref 10), some (.ref 6), some (.ref 79), none, none] [] (fun q2 T2 M2 => q2 = none ∧ (zSt k) = T2 ∧ zW E m_Row_sameAs 0 (zSt k) M2 0 [some (.ref 77), some (.ref 79), none] [] (fun q3 T3 M3 => ∃ y3 : Int32, q3 = some (.int y3) ∧ (zSt k) = T3 ∧ (y3 = 0 ∨ y3 = 1) ∧ Φ (some (.int y3)) (zSt k) M3)))) : zW E m_H_wordsMakeRowsOne 2 (zSt k) M 0 [some (.ref 0)] [] Φ := by
  refine z_aload_n d_H_wordsMakeRowsOne_0 rfl ?_
  refine z_getr f_H_21 rfl d_H_wordsMakeRowsOne_1 (tA_0 k) (tr_0_1 k) ?_
  refine z_getr f_H_231 rfl d_H_wordsMakeRowsOne_4 (tA_3 k) (tr_3_3 k) ?_
  refine z_aload_n d_H_wordsMakeRowsOne_7 rfl ?_
  refine z_getr f_H_21 rfl d_H_wordsMakeRowsOne_8 (tA_0 k) (tr_0_1 k) ?_
  refine z_getr f_H_105 rfl d_H_wordsMakeRowsOne_11 (tA_3 k) (tr_3_0 k) ?_
  refine z_aload_n d_H_wordsMakeRowsOne_14 rfl ?_
  refine z_getr f_H_76 rfl d_H_wordsMakeRowsOne_15 (tA_0 k) (tr_0_9 k) ?_
  refine z_callV (as := [.ref 4, .ref 77]) (st := []) i_Words_spellOut ⟨rfl, rfl⟩ v_Words_spellOut w_Words_spellOut l_H_291 d_H_wordsMakeRowsOne_18 (by decide) (tA_10 k) rfl (Nat.le_of_ble_eq_true rfl) (Nat.le_of_ble_eq_true rfl) h (fun q1 T1 M1 h => ?_)
  obtain ⟨rfl, rfl, h⟩ := h
  refine z_aload_n d_H_wordsMakeRowsOne_21 rfl ?_
  refine z_getr f_H_21 rfl d_H_wordsMakeRowsOne_22 (tA_0 k) (tr_0_1 k) ?_
  refine z_getr f_H_231 rfl d_H_wordsMakeRowsOne_25 (tA_3 k) (tr_3_3 k) ?_
  refine z_aload_n d_H_wordsMakeRowsOne_28 rfl ?_
  refine z_getr f_H_21 rfl d_H_wordsMakeRowsOne_29 (tA_0 k) (tr_0_1 k) ?_
  refine z_getr f_H_108 rfl d_H_wordsMakeRowsOne_32 (tA_3 k) (tr_3_1 k) ?_
  refine z_aload_n d_H_wordsMakeRowsOne_35 rfl ?_
  refine z_getr f_H_79 rfl d_H_wordsMakeRowsOne_36 (tA_0 k) (tr_0_10 k) ?_
  refine z_callV (as := [.ref 6, .ref 79]) (st := []) i_Words_spellOut ⟨rfl, rfl⟩ v_Words_spellOut w_Words_spellOut l_H_291 d_H_wordsMakeRowsOne_39 (by decide) (tA_10 k) rfl (Nat.le_of_ble_eq_true rfl) (Nat.le_of_ble_eq_true rfl) h (fun q2 T2 M2 h => ?_)
  obtain ⟨rfl, rfl, h⟩ := h
  refine z_aload_n d_H_wordsMakeRowsOne_42 rfl ?_
  refine z_getr f_H_76 rfl d_H_wordsMakeRowsOne_43 (tA_0 k) (tr_0_9 k) ?_
  refine z_aload_n d_H_wordsMakeRowsOne_46 rfl ?_
  refine z_getr f_H_79 rfl d_H_wordsMakeRowsOne_47 (tA_0 k) (tr_0_10 k) ?_
  refine z_callV (as := [.ref 79]) (st := []) i_Row_sameAs ⟨rfl, rfl⟩ v_Row_sameAs w_Row_sameAs l_H_295 d_H_wordsMakeRowsOne_50 (by decide) (ts_77 k).1 rfl (Nat.le_of_ble_eq_true rfl) (Nat.le_of_ble_eq_true rfl) h (fun q3 T3 M3 h => ?_)
  obtain ⟨y3, rfl, rfl, h⟩ := h
  exact z_zret rfl d_H_wordsMakeRowsOne_53 (zbool h.1).1 h.2
