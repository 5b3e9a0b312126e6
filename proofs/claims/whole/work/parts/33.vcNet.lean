set_option maxRecDepth 20000 in
theorem vc_Net_at_0 (E : ZE) (k : Nat) (M : ZM) (x1 : Int32) (Φ : Option Value → ZS → ZM → Prop)  (h : (x1 < 0 → Φ (some (va_rf none)) (zSt k) M) ∧ (¬ x1 < 0 → ((M 50 9) ≤ x1 → Φ (some (va_rf none)) (zSt k) M) ∧ (¬ (M 50 9) ≤ x1 → (150 ≤ x1 → Φ (some (va_rf none)) (zSt k) M) ∧ (¬ 150 ≤ x1 → ∃ j4 : Nat, j4 < 150 ∧ x1 = nI j4 ∧ ((zSt k).2.2.2 51 j4 = none → Φ (some (va_rf none)) (zSt k) M) ∧ (∀ b6 : Nat, (zSt k).2.2.2 51 j4 = some b6 → zNode (zSt k) b6 ∧ (Φ (some (va_rf (some b6))) (zSt k) M)))))) : zW E m_Net_at 0 (zSt k) M 0 [some (.ref 50), some (.int x1)] [] Φ := by
  refine z_iload_n d_Net_at_0 rfl ?_
  refine z_if_lt 28 d_Net_at_1 rfl ⟨fun c1 => ?_, fun c1 => ?_⟩
  · replace h := h.1 c1
    refine z_null d_Net_at_28 ?_
    exact z_aret none rfl d_Net_at_29 h
  · replace h := h.2 c1
    refine z_iload_n d_Net_at_4 rfl ?_
    refine z_aload_n d_Net_at_5 rfl ?_
    refine z_geti f_Net_47 rfl d_Net_at_6 (tA_50 k) ?_
    refine z_icmp_ge 28 d_Net_at_9 rfl ⟨fun c2 => ?_, fun c2 => ?_⟩
    · replace h := h.1 c2
      refine z_null d_Net_at_28 ?_
      exact z_aret none rfl d_Net_at_29 h
    · replace h := h.2 c2
      refine z_iload_n d_Net_at_12 rfl ?_
      refine z_sipush 150 d_Net_at_13 (by decide) ?_
      refine z_icmp_ge 28 d_Net_at_16 rfl ⟨fun c3 => ?_, fun c3 => ?_⟩
      · replace h := h.1 c3
        refine z_null d_Net_at_28 ?_
        exact z_aret none rfl d_Net_at_29 h
      · replace h := h.2 c3
        refine z_aload_n d_Net_at_19 rfl ?_
        refine z_getr f_Net_11 rfl d_Net_at_20 (tA_50 k) (tr_50_2 k) ?_
        refine z_iload_n d_Net_at_23 rfl ?_
        obtain ⟨j4, hj4, ej4, h⟩ := h
        cases qj4 : (zSt k).2.2.2 51 j4 with
        | none =>
          refine y_aaload j4 none d_Net_at_24 (tA_51 k) (tP_len k) hj4 ej4 qj4 (by decide) ?_
          replace h := h.1 qj4
          refine z_goto 29 d_Net_at_25 rfl ?_
          exact z_aret none rfl d_Net_at_29 h
        | some b6 =>
          refine y_aaload j4 (some b6) d_Net_at_24 (tA_51 k) (tP_len k) hj4 ej4 qj4 (by decide) ?_
          obtain ⟨zb6, h⟩ := h.2 b6 qj4
          refine z_goto 29 d_Net_at_25 rfl ?_
          exact z_aret (some b6) rfl d_Net_at_29 h

set_option maxRecDepth 20000 in
theorem vc_Net_verdict_0 (E : ZE) (k : Nat) (M : ZM)  (Φ : Option Value → ZS → ZM → Prop)  (h : ((M 50 10) = (-6) → (¬ (M 50 12) = 0 → Φ (some (.int 2)) (zSt k) M) ∧ ((M 50 12) = 0 → Φ (some (.int 0)) (zSt k) M)) ∧ (¬ (M 50 10) = (-6) → Φ (some (.int 1)) (zSt k) M)) : zW E m_Net_verdict 0 (zSt k) M 0 [some (.ref 50)] [] Φ := by
  refine z_aload_n d_Net_verdict_0 rfl ?_
  refine z_geti f_Net_51 rfl d_Net_verdict_1 (tA_50 k) ?_
  refine z_bipush (-6) d_Net_verdict_4 (by decide) ?_
  refine z_icmp_eq 11 d_Net_verdict_6 rfl ⟨fun c1 => ?_, fun c1 => ?_⟩
  · replace h := h.1 c1
    refine z_aload_n d_Net_verdict_11 rfl ?_
    refine z_geti f_Net_54 rfl d_Net_verdict_12 (tA_50 k) ?_
    refine z_if_ne 22 d_Net_verdict_15 rfl ⟨fun c2 => ?_, fun c2 => ?_⟩
    · replace h := h.1 c2
      refine z_iconst 2 d_Net_verdict_22 (by decide) ?_
      exact z_iret rfl d_Net_verdict_23 h
    · replace h := h.2 c2
      refine z_iconst 0 d_Net_verdict_18 (by decide) ?_
      refine z_goto 23 d_Net_verdict_19 rfl ?_
      exact z_iret rfl d_Net_verdict_23 h
  · replace h := h.2 c1
    refine z_iconst 1 d_Net_verdict_9 (by decide) ?_
    exact z_iret rfl d_Net_verdict_10 h

set_option maxRecDepth 20000 in
theorem vc_Net_begin_0 (E : ZE) (k : Nat) (M : ZM)  (Φ : Option Value → ZS → ZM → Prop)  (h : ∀ M1 : ZM, M1 = zms M 50 9 0 → ∀ M2 : ZM, M2 = zms M1 50 10 (-6) → ∀ M3 : ZM, M3 = zms M2 50 11 0 → ∀ M4 : ZM, M4 = zms M3 50 12 0 → zW E m_Arr_fill 0 (zSt k) M4 0 [some (.ref 52), some (.int (-6)), none, none] [] (fun q5 T5 M5 => q5 = none ∧ (zSt k) = T5 ∧ zW E m_Row_copy 0 (zSt k) M5 0 [some (.ref 53), some (.ref 4), none] [] (fun q6 T6 M6 => q6 = none ∧ (zSt k) = T6 ∧ zW E m_Row_copy 0 (zSt k) M6 0 [some (.ref 55), some (.ref 6), none] [] (fun q7 T7 M7 => q7 = none ∧ (zSt k) = T7 ∧ zW E m_Net_makeLean 2 (zSt k) M7 0 [some (.ref 50), none] [] (fun q8 T8 M8 => q8 = none ∧ (zSt k) = T8 ∧ zW E m_Net_meet 3 (zSt k) M8 0 [some (.ref 50), some (.int (M8 3 4)), none, none] [] (fun q9 T9 M9 => ∃ k9 : Nat, ∃ o9 : Option Nat, q9 = some (va_rf o9) ∧ (zSt k9) = T9 ∧ (o9 = none → Φ none (zSt k9) M9) ∧ (∀ b9 : Nat, o9 = some b9 → zNode (zSt k9) b9 ∧ (Φ none (zSt k9) M9)))))))) : zW E m_Net_begin 4 (zSt k) M 0 [some (.ref 50)] [] Φ := by
  refine z_aload_n d_Net_begin_0 rfl ?_
  refine z_iconst 0 d_Net_begin_1 (by decide) ?_
  refine z_puti (p_Net_47 rfl) rfl d_Net_begin_2 (tA_50 k) rfl rfl ?_
  refine z_mem (fun M1 eM1 => ?_)
  replace h := h M1 eM1
  refine z_aload_n d_Net_begin_5 rfl ?_
  refine z_bipush (-6) d_Net_begin_6 (by decide) ?_
  refine z_puti (p_Net_51 rfl) rfl d_Net_begin_8 (tA_50 k) rfl rfl ?_
  refine z_mem (fun M2 eM2 => ?_)
  replace h := h M2 eM2
  refine z_aload_n d_Net_begin_11 rfl ?_
  refine z_iconst 0 d_Net_begin_12 (by decide) ?_
  refine z_puti (p_Net_57 rfl) rfl d_Net_begin_13 (tA_50 k) rfl rfl ?_
  refine z_mem (fun M3 eM3 => ?_)
  replace h := h M3 eM3
  refine z_aload_n d_Net_begin_16 rfl ?_
  refine z_iconst 0 d_Net_begin_17 (by decide) ?_
  refine z_puti (p_Net_54 rfl) rfl d_Net_begin_18 (tA_50 k) rfl rfl ?_
  refine z_mem (fun M4 eM4 => ?_)
  replace h := h M4 eM4
  refine z_aload_n d_Net_begin_21 rfl ?_
  refine z_getr f_Net_17 rfl d_Net_begin_22 (tA_50 k) (tr_50_3 k) ?_
  refine z_bipush (-6) d_Net_begin_25 (by decide) ?_
  refine z_callS (as := [.ref 52, .int (-6)]) (st := []) i_Arr_fill s_Arr_fill l_Net_60 d_Net_begin_27 (by decide) rfl (Nat.le_of_ble_eq_true rfl) (Nat.le_of_ble_eq_true rfl) h (fun q5 T5 M5 h => ?_)
  obtain ⟨rfl, rfl, h⟩ := h
  refine z_aload_n d_Net_begin_30 rfl ?_
  refine z_getr f_Net_26 rfl d_Net_begin_31 (tA_50 k) (tr_50_4 k) ?_
  refine z_aload_n d_Net_begin_34 rfl ?_
  refine z_getr f_Net_39 rfl d_Net_begin_35 (tA_50 k) (tr_50_0 k) ?_
  refine z_getr f_Net_66 rfl d_Net_begin_38 (tA_3 k) (tr_3_0 k) ?_
  refine z_callV (as := [.ref 4]) (st := []) i_Row_copy ⟨rfl, rfl⟩ v_Row_copy w_Row_copy l_Net_69 d_Net_begin_41 (by decide) (ts_53 k).1 rfl (Nat.le_of_ble_eq_true rfl) (Nat.le_of_ble_eq_true rfl) h (fun q6 T6 M6 h => ?_)
  obtain ⟨rfl, rfl, h⟩ := h
  refine z_aload_n d_Net_begin_44 rfl ?_
  refine z_getr f_Net_30 rfl d_Net_begin_45 (tA_50 k) (tr_50_5 k) ?_
  refine z_aload_n d_Net_begin_48 rfl ?_
  refine z_getr f_Net_39 rfl d_Net_begin_49 (tA_50 k) (tr_50_0 k) ?_
  refine z_getr f_Net_73 rfl d_Net_begin_52 (tA_3 k) (tr_3_1 k) ?_
  refine z_callV (as := [.ref 6]) (st := []) i_Row_copy ⟨rfl, rfl⟩ v_Row_copy w_Row_copy l_Net_69 d_Net_begin_55 (by decide) (ts_55 k).1 rfl (Nat.le_of_ble_eq_true rfl) (Nat.le_of_ble_eq_true rfl) h (fun q7 T7 M7 h => ?_)
  obtain ⟨rfl, rfl, h⟩ := h
  refine z_aload_n d_Net_begin_58 rfl ?_
  refine z_callV (as := []) (st := []) i_Net_makeLean ⟨rfl, rfl⟩ v_Net_makeLean w_Net_makeLean l_Net_74 d_Net_begin_59 (by decide) (tA_50 k) rfl (Nat.le_of_ble_eq_true rfl) (Nat.le_of_ble_eq_true rfl) h (fun q8 T8 M8 h => ?_)
  obtain ⟨rfl, rfl, h⟩ := h
  refine z_aload_n d_Net_begin_62 rfl ?_
  refine z_aload_n d_Net_begin_63 rfl ?_
  refine z_getr f_Net_39 rfl d_Net_begin_64 (tA_50 k) (tr_50_0 k) ?_
  refine z_geti f_Net_77 rfl d_Net_begin_67 (tA_3 k) ?_
  refine z_callV (as := [.int (M8 3 4)]) (st := []) i_Net_meet ⟨rfl, rfl⟩ v_Net_meet w_Net_meet l_Net_80 d_Net_begin_70 (by decide) (tA_50 k) rfl (Nat.le_of_ble_eq_true rfl) (Nat.le_of_ble_eq_true rfl) h (fun q9 T9 M9 h => ?_)
  obtain ⟨k9, o9, rfl, rfl, h⟩ := h
  cases o9 with
  | none =>
    replace h := h.1 rfl
    refine z_pop d_Net_begin_73 rfl ?_
    exact z_vret rfl d_Net_begin_74 h
  | some b9 =>
    obtain ⟨zb9, h⟩ := h.2 b9 rfl
    refine z_pop d_Net_begin_73 rfl ?_
    exact z_vret rfl d_Net_begin_74 h

set_option maxRecDepth 20000 in
theorem vc_Net_unfold_0 (E : ZE) (k : Nat) (M : ZM) (x1 : Int32) (Φ : Option Value → ZS → ZM → Prop)  (h : zW E m_Net_at 0 (zSt k) M 0 [some (.ref 50), some (.int x1)] [] (fun q1 T1 M1 => ∃ o1 : Option Nat, q1 = some (va_rf o1) ∧ (zSt k) = T1 ∧ (o1 = none → Φ none (zSt k) M1) ∧ (∀ b1 : Nat, o1 = some b1 → zNode (zSt k) b1 ∧ (∀ M2 : ZM, M2 = zms M1 50 11 (if (M1 50 11) < (M1 b1 6) then (M1 b1 6) else (M1 50 11)) → zW E m_Row_at 0 (zSt k) M2 0 [some (.ref (b1 + 1)), some (.int 0)] [] (fun q3 T3 M3 => ∃ y3 : Int32, q3 = some (.int y3) ∧ (zSt k) = T3 ∧ zW E m_Row_at 0 (zSt k) M3 0 [some (.ref (b1 + 3)), some (.int 0)] [] (fun q4 T4 M4 => ∃ y4 : Int32, q4 = some (.int y4) ∧ (zSt k) = T4 ∧ (¬ y3 = (-6) → zW E m_Net_draftNothing 3 (zSt k) M4 0 [some (.ref 50), some (.ref b1), some (.int y3), none] [] (fun q6 T6 M6 => q6 = none ∧ (zSt k) = T6 ∧ zW E m_Net_settleDrafts 4 (zSt k) M6 0 [some (.ref 50), some (.ref b1), none, none, none, none] [] (fun q7 T7 M7 => ∃ k7 : Nat, q7 = none ∧ (zSt k7) = T7 ∧ zNode (zSt k7) b1 ∧ zW E m_Net_draftNothing 3 (zSt k7) M7 0 [some (.ref 50), some (.ref b1), some (.int y4), none] [] (fun q8 T8 M8 => q8 = none ∧ (zSt k7) = T8 ∧ zW E m_Net_settleDrafts 4 (zSt k7) M8 0 [some (.ref 50), some (.ref b1), none, none, none, none] [] (fun q9 T9 M9 => ∃ k9 : Nat, q9 = none ∧ (zSt k9) = T9 ∧ zNode (zSt k9) b1 ∧ (y3 = (-6) → ((M9 b1 10) = 0 → Φ none (zSt k9) M9) ∧ (¬ (M9 b1 10) = 0 → ∀ M12 : ZM, M12 = zms M9 50 12 ((M9 50 12) + 1) → Φ none (zSt k9) M12)) ∧ (¬ y3 = (-6) → (y4 = (-6) → ((M9 b1 10) = 0 → Φ none (zSt k9) M9) ∧ (¬ (M9 b1 10) = 0 → ∀ M15 : ZM, M15 = zms M9 50 12 ((M9 50 12) + 1) → Φ none (zSt k9) M15)) ∧ (¬ y4 = (-6) → zW E m_Net_draftBegins 3 (zSt k9) M9 0 [some (.ref 50), some (.ref b1), some (.int y3), some (.int y4), none, none, none, none] [] (fun q16 T16 M16 => q16 = none ∧ (zSt k9) = T16 ∧ zW E m_Net_settleDrafts 4 (zSt k9) M16 0 [some (.ref 50), some (.ref b1), none, none, none, none] [] (fun q17 T17 M17 => ∃ k17 : Nat, q17 = none ∧ (zSt k17) = T17 ∧ zNode (zSt k17) b1 ∧ zW E m_Net_draftBegins 3 (zSt k17) M17 0 [some (.ref 50), some (.ref b1), some (.int y4), some (.int y3), none, none, none, none] [] (fun q18 T18 M18 => q18 = none ∧ (zSt k17) = T18 ∧ zW E m_Net_settleDrafts 4 (zSt k17) M18 0 [some (.ref 50), some (.ref b1), none, none, none, none] [] (fun q19 T19 M19 => ∃ k19 : Nat, q19 = none ∧ (zSt k19) = T19 ∧ zNode (zSt k19) b1 ∧ ((M19 b1 10) = 0 → Φ none (zSt k19) M19) ∧ (¬ (M19 b1 10) = 0 → ∀ M21 : ZM, M21 = zms M19 50 12 ((M19 50 12) + 1) → Φ none (zSt k19) M21)))))))))))) ∧ (y3 = (-6) → (¬ y4 = (-6) → zW E m_Net_draftNothing 3 (zSt k) M4 0 [some (.ref 50), some (.ref b1), some (.int y3), none] [] (fun q23 T23 M23 => q23 = none ∧ (zSt k) = T23 ∧ zW E m_Net_settleDrafts 4 (zSt k) M23 0 [some (.ref 50), some (.ref b1), none, none, none, none] [] (fun q24 T24 M24 => ∃ k24 : Nat, q24 = none ∧ (zSt k24) = T24 ∧ zNode (zSt k24) b1 ∧ zW E m_Net_draftNothing 3 (zSt k24) M24 0 [some (.ref 50), some (.ref b1), some (.int y4), none] [] (fun q25 T25 M25 => q25 = none ∧ (zSt k24) = T25 ∧ zW E m_Net_settleDrafts 4 (zSt k24) M25 0 [some (.ref 50), some (.ref b1), none, none, none, none] [] (fun q26 T26 M26 => ∃ k26 : Nat, q26 = none ∧ (zSt k26) = T26 ∧ zNode (zSt k26) b1 ∧ (y3 = (-6) → ((M26 b1 10) = 0 → Φ none (zSt k26) M26) ∧ (¬ (M26 b1 10) = 0 → ∀ M29 : ZM, M29 = zms M26 50 12 ((M26 50 12) + 1) → Φ none (zSt k26) M29)) ∧ (¬ y3 = (-6) → (y4 = (-6) → ((M26 b1 10) = 0 → Φ none (zSt k26) M26) ∧ (¬ (M26 b1 10) = 0 → ∀ M32 : ZM, M32 = zms M26 50 12 ((M26 50 12) + 1) → Φ none (zSt k26) M32)) ∧ (¬ y4 = (-6) → zW E m_Net_draftBegins 3 (zSt k26) M26 0 [some (.ref 50), some (.ref b1), some (.int y3), some (.int y4), none, none, none, none] [] (fun q33 T33 M33 => q33 = none ∧ (zSt k26) = T33 ∧ zW E m_Net_settleDrafts 4 (zSt k26) M33 0 [some (.ref 50), some (.ref b1), none, none, none, none] [] (fun q34 T34 M34 => ∃ k34 : Nat, q34 = none ∧ (zSt k34) = T34 ∧ zNode (zSt k34) b1 ∧ zW E m_Net_draftBegins 3 (zSt k34) M34 0 [some (.ref 50), some (.ref b1), some (.int y4), some (.int y3), none, none, none, none] [] (fun q35 T35 M35 => q35 = none ∧ (zSt k34) = T35 ∧ zW E m_Net_settleDrafts 4 (zSt k34) M35 0 [some (.ref 50), some (.ref b1), none, none, none, none] [] (fun q36 T36 M36 => ∃ k36 : Nat, q36 = none ∧ (zSt k36) = T36 ∧ zNode (zSt k36) b1 ∧ ((M36 b1 10) = 0 → Φ none (zSt k36) M36) ∧ (¬ (M36 b1 10) = 0 → ∀ M38 : ZM, M38 = zms M36 50 12 ((M36 50 12) + 1) → Φ none (zSt k36) M38)))))))))))) ∧ (y4 = (-6) → (¬ (M4 50 10) = (-6) → Φ none (zSt k) M4) ∧ ((M4 50 10) = (-6) → zW E m_Shorts_anyHopeless 2 (zSt k) M4 0 [some (.ref 45), some (.int (M4 b1 5)), none] [] (fun q40 T40 M40 => ∃ y40 : Int32, q40 = some (.int y40) ∧ (zSt k) = T40 ∧ (¬ y40 = 0 → Φ none (zSt k) M40) ∧ (y40 = 0 → ∀ M42 : ZM, M42 = zms M40 50 10 (M40 b1 0) → Φ none (zSt k) M42))))))))))) : zW E m_Net_unfold 5 (zSt k) M 0 [some (.ref 50), some (.int x1), none, none, none] [] Φ := by
  refine z_aload_n d_Net_unfold_0 rfl ?_
  refine z_iload_n d_Net_unfold_1 rfl ?_
  refine z_callV (as := [.int x1]) (st := []) i_Net_at ⟨rfl, rfl⟩ v_Net_at w_Net_at l_Net_84 d_Net_unfold_2 (by decide) (tA_50 k) rfl (Nat.le_of_ble_eq_true rfl) (Nat.le_of_ble_eq_true rfl) h (fun q1 T1 M1 h => ?_)
  obtain ⟨o1, rfl, rfl, h⟩ := h
  cases o1 with
  | none =>
    replace h := h.1 rfl
    refine z_astore_nN (ls' := [some (.ref 50), some (.int x1), some .null, none, none]) d_Net_unfold_5 (Nat.le_of_ble_eq_true rfl) rfl rfl ?_
    refine z_aload_nN d_Net_unfold_6 rfl ?_
    refine z_ifnonnullN d_Net_unfold_7 ?_
    exact z_vret rfl d_Net_unfold_10 h
  | some b1 =>
    obtain ⟨zb1, h⟩ := h.2 b1 rfl
    refine z_astore_n (ls' := [some (.ref 50), some (.int x1), some (.ref b1), none, none]) d_Net_unfold_5 (Nat.le_of_ble_eq_true rfl) rfl rfl ?_
    refine z_aload_n d_Net_unfold_6 rfl ?_
    refine z_ifnonnull 11 d_Net_unfold_7 rfl ?_
    refine z_aload_n d_Net_unfold_11 rfl ?_
    refine z_aload_n d_Net_unfold_12 rfl ?_
    refine z_geti f_Net_57 rfl d_Net_unfold_13 (tA_50 k) ?_
    refine z_aload_n d_Net_unfold_16 rfl ?_
    refine z_geti f_Net_87 rfl d_Net_unfold_17 zb1.1 ?_
    refine z_mmax l_Net_90 mx_1 mx_2 mx_3 d_Net_unfold_20 (by decide) (Nat.le_of_ble_eq_true rfl) ?_
    refine z_puti (p_Net_57 rfl) rfl d_Net_unfold_23 (tA_50 k) rfl rfl ?_
    refine z_mem (fun M2 eM2 => ?_)
    replace h := h M2 eM2
    refine z_aload_n d_Net_unfold_26 rfl ?_
    refine z_getr f_Net_96 rfl d_Net_unfold_27 zb1.1 zb1.2.1.1 ?_
    refine z_iconst 0 d_Net_unfold_30 (by decide) ?_
    refine z_callV (as := [.int 0]) (st := []) i_Row_at ⟨rfl, rfl⟩ v_Row_at w_Row_at l_Net_97 d_Net_unfold_31 (by decide) zb1.2.1.2.1 rfl (Nat.le_of_ble_eq_true rfl) (Nat.le_of_ble_eq_true rfl) h (fun q3 T3 M3 h => ?_)
    obtain ⟨y3, rfl, rfl, h⟩ := h
    refine z_istore_n (ls' := [some (.ref 50), some (.int x1), some (.ref b1), some (.int y3), none]) d_Net_unfold_34 (Nat.le_of_ble_eq_true rfl) rfl rfl ?_
    refine z_aload_n d_Net_unfold_35 rfl ?_
    refine z_getr f_Net_100 rfl d_Net_unfold_36 zb1.1 zb1.2.2.1.1 ?_
    refine z_iconst 0 d_Net_unfold_39 (by decide) ?_
    refine z_callV (as := [.int 0]) (st := []) i_Row_at ⟨rfl, rfl⟩ v_Row_at w_Row_at l_Net_97 d_Net_unfold_40 (by decide) zb1.2.2.1.2.1 rfl (Nat.le_of_ble_eq_true rfl) (Nat.le_of_ble_eq_true rfl) h (fun q4 T4 M4 h => ?_)
    obtain ⟨y4, rfl, rfl, h⟩ := h
    refine z_istore (ls' := [some (.ref 50), some (.int x1), some (.ref b1), some (.int y3), some (.int y4)]) d_Net_unfold_43 (Nat.le_of_ble_eq_true rfl) rfl rfl ?_
    refine z_iload_n d_Net_unfold_45 rfl ?_
    refine z_bipush (-6) d_Net_unfold_46 (by decide) ?_
    refine z_icmp_ne 90 d_Net_unfold_48 rfl ⟨fun c5 => ?_, fun c5 => ?_⟩
    · replace h := h.1 c5
      refine z_aload_n d_Net_unfold_90 rfl ?_
      refine z_aload_n d_Net_unfold_91 rfl ?_
      refine z_iload_n d_Net_unfold_92 rfl ?_
      refine z_callV (as := [.ref b1, .int y3]) (st := []) i_Net_draftNothing ⟨rfl, rfl⟩ v_Net_draftNothing w_Net_draftNothing l_Net_111 d_Net_unfold_93 (by decide) (tA_50 k) rfl (Nat.le_of_ble_eq_true rfl) (Nat.le_of_ble_eq_true rfl) h (fun q6 T6 M6 h => ?_)
      obtain ⟨rfl, rfl, h⟩ := h
      refine z_aload_n d_Net_unfold_96 rfl ?_
      refine z_aload_n d_Net_unfold_97 rfl ?_
      refine z_callV (as := [.ref b1]) (st := []) i_Net_settleDrafts ⟨rfl, rfl⟩ v_Net_settleDrafts w_Net_settleDrafts l_Net_115 d_Net_unfold_98 (by decide) (tA_50 k) rfl (Nat.le_of_ble_eq_true rfl) (Nat.le_of_ble_eq_true rfl) h (fun q7 T7 M7 h => ?_)
      obtain ⟨k7, rfl, rfl, zb1_7, h⟩ := h
      refine z_aload_n d_Net_unfold_101 rfl ?_
      refine z_aload_n d_Net_unfold_102 rfl ?_
      refine z_iload d_Net_unfold_103 rfl ?_
      refine z_callV (as := [.ref b1, .int y4]) (st := []) i_Net_draftNothing ⟨rfl, rfl⟩ v_Net_draftNothing w_Net_draftNothing l_Net_111 d_Net_unfold_105 (by decide) (tA_50 k7) rfl (Nat.le_of_ble_eq_true rfl) (Nat.le_of_ble_eq_true rfl) h (fun q8 T8 M8 h => ?_)
      obtain ⟨rfl, rfl, h⟩ := h
      refine z_aload_n d_Net_unfold_108 rfl ?_
      refine z_aload_n d_Net_unfold_109 rfl ?_
      refine z_callV (as := [.ref b1]) (st := []) i_Net_settleDrafts ⟨rfl, rfl⟩ v_Net_settleDrafts w_Net_settleDrafts l_Net_115 d_Net_unfold_110 (by decide) (tA_50 k7) rfl (Nat.le_of_ble_eq_true rfl) (Nat.le_of_ble_eq_true rfl) h (fun q9 T9 M9 h => ?_)
      obtain ⟨k9, rfl, rfl, zb1_7_9, h⟩ := h
      refine z_iload_n d_Net_unfold_113 rfl ?_
      refine z_bipush (-6) d_Net_unfold_114 (by decide) ?_
      refine z_icmp_eq 152 d_Net_unfold_116 rfl ⟨fun c10 => ?_, fun c10 => ?_⟩
      · replace h := h.1 c10
        refine z_aload_n d_Net_unfold_152 rfl ?_
        refine z_geti f_Net_123 rfl d_Net_unfold_153 zb1_7_9.1 ?_
        refine z_if_eq 169 d_Net_unfold_156 rfl ⟨fun c11 => ?_, fun c11 => ?_⟩
        · replace h := h.1 c11
          exact z_vret rfl d_Net_unfold_169 h
        · replace h := h.2 c11
          refine z_aload_n d_Net_unfold_159 rfl ?_
          refine z_dup d_Net_unfold_160 rfl ?_
          refine z_geti f_Net_54 rfl d_Net_unfold_161 (tA_50 k9) ?_
          refine z_iconst 1 d_Net_unfold_164 (by decide) ?_
          refine z_iadd d_Net_unfold_165 ?_
          refine z_puti (p_Net_54 rfl) rfl d_Net_unfold_166 (tA_50 k9) rfl rfl ?_
          refine z_mem (fun M12 eM12 => ?_)
          replace h := h M12 eM12
          exact z_vret rfl d_Net_unfold_169 h
      · replace h := h.2 c10
        refine z_iload d_Net_unfold_119 rfl ?_
        refine z_bipush (-6) d_Net_unfold_121 (by decide) ?_
        refine z_icmp_eq 152 d_Net_unfold_123 rfl ⟨fun c13 => ?_, fun c13 => ?_⟩
        · replace h := h.1 c13
          refine z_aload_n d_Net_unfold_152 rfl ?_
          refine z_geti f_Net_123 rfl d_Net_unfold_153 zb1_7_9.1 ?_
          refine z_if_eq 169 d_Net_unfold_156 rfl ⟨fun c14 => ?_, fun c14 => ?_⟩
          · replace h := h.1 c14
            exact z_vret rfl d_Net_unfold_169 h
          · replace h := h.2 c14
            refine z_aload_n d_Net_unfold_159 rfl ?_
            refine z_dup d_Net_unfold_160 rfl ?_
            refine z_geti f_Net_54 rfl d_Net_unfold_161 (tA_50 k9) ?_
            refine z_iconst 1 d_Net_unfold_164 (by decide) ?_
            refine z_iadd d_Net_unfold_165 ?_
            refine z_puti (p_Net_54 rfl) rfl d_Net_unfold_166 (tA_50 k9) rfl rfl ?_
            refine z_mem (fun M15 eM15 => ?_)
            replace h := h M15 eM15
            exact z_vret rfl d_Net_unfold_169 h
        · replace h := h.2 c13
          refine z_aload_n d_Net_unfold_126 rfl ?_
          refine z_aload_n d_Net_unfold_127 rfl ?_
          refine z_iload_n d_Net_unfold_128 rfl ?_
          refine z_iload d_Net_unfold_129 rfl ?_
          refine z_callV (as := [.ref b1, .int y3, .int y4]) (st := []) i_Net_draftBegins ⟨rfl, rfl⟩ v_Net_draftBegins w_Net_draftBegins l_Net_119 d_Net_unfold_131 (by decide) (tA_50 k9) rfl (Nat.le_of_ble_eq_true rfl) (Nat.le_of_ble_eq_true rfl) h (fun q16 T16 M16 h => ?_)
          obtain ⟨rfl, rfl, h⟩ := h
          refine z_aload_n d_Net_unfold_134 rfl ?_
          refine z_aload_n d_Net_unfold_135 rfl ?_
          refine z_callV (as := [.ref b1]) (st := []) i_Net_settleDrafts ⟨rfl, rfl⟩ v_Net_settleDrafts w_Net_settleDrafts l_Net_115 d_Net_unfold_136 (by decide) (tA_50 k9) rfl (Nat.le_of_ble_eq_true rfl) (Nat.le_of_ble_eq_true rfl) h (fun q17 T17 M17 h => ?_)
          obtain ⟨k17, rfl, rfl, zb1_7_9_17, h⟩ := h
          refine z_aload_n d_Net_unfold_139 rfl ?_
          refine z_aload_n d_Net_unfold_140 rfl ?_
          refine z_iload d_Net_unfold_141 rfl ?_
          refine z_iload_n d_Net_unfold_143 rfl ?_
          refine z_callV (as := [.ref b1, .int y4, .int y3]) (st := []) i_Net_draftBegins ⟨rfl, rfl⟩ v_Net_draftBegins w_Net_draftBegins l_Net_119 d_Net_unfold_144 (by decide) (tA_50 k17) rfl (Nat.le_of_ble_eq_true rfl) (Nat.le_of_ble_eq_true rfl) h (fun q18 T18 M18 h => ?_)
          obtain ⟨rfl, rfl, h⟩ := h
          refine z_aload_n d_Net_unfold_147 rfl ?_
          refine z_aload_n d_Net_unfold_148 rfl ?_
          refine z_callV (as := [.ref b1]) (st := []) i_Net_settleDrafts ⟨rfl, rfl⟩ v_Net_settleDrafts w_Net_settleDrafts l_Net_115 d_Net_unfold_149 (by decide) (tA_50 k17) rfl (Nat.le_of_ble_eq_true rfl) (Nat.le_of_ble_eq_true rfl) h (fun q19 T19 M19 h => ?_)
          obtain ⟨k19, rfl, rfl, zb1_7_9_17_19, h⟩ := h
          refine z_aload_n d_Net_unfold_152 rfl ?_
          refine z_geti f_Net_123 rfl d_Net_unfold_153 zb1_7_9_17_19.1 ?_
          refine z_if_eq 169 d_Net_unfold_156 rfl ⟨fun c20 => ?_, fun c20 => ?_⟩
          · replace h := h.1 c20
            exact z_vret rfl d_Net_unfold_169 h
          · replace h := h.2 c20
            refine z_aload_n d_Net_unfold_159 rfl ?_
            refine z_dup d_Net_unfold_160 rfl ?_
            refine z_geti f_Net_54 rfl d_Net_unfold_161 (tA_50 k19) ?_
            refine z_iconst 1 d_Net_unfold_164 (by decide) ?_
            refine z_iadd d_Net_unfold_165 ?_
            refine z_puti (p_Net_54 rfl) rfl d_Net_unfold_166 (tA_50 k19) rfl rfl ?_
            refine z_mem (fun M21 eM21 => ?_)
            replace h := h M21 eM21
            exact z_vret rfl d_Net_unfold_169 h
    · replace h := h.2 c5
      refine z_iload d_Net_unfold_51 rfl ?_
      refine z_bipush (-6) d_Net_unfold_53 (by decide) ?_
      refine z_icmp_ne 90 d_Net_unfold_55 rfl ⟨fun c22 => ?_, fun c22 => ?_⟩
      · replace h := h.1 c22
        refine z_aload_n d_Net_unfold_90 rfl ?_
        refine z_aload_n d_Net_unfold_91 rfl ?_
        refine z_iload_n d_Net_unfold_92 rfl ?_
        refine z_callV (as := [.ref b1, .int y3]) (st := []) i_Net_draftNothing ⟨rfl, rfl⟩ v_Net_draftNothing w_Net_draftNothing l_Net_111 d_Net_unfold_93 (by decide) (tA_50 k) rfl (Nat.le_of_ble_eq_true rfl) (Nat.le_of_ble_eq_true rfl) h (fun q23 T23 M23 h => ?_)
        obtain ⟨rfl, rfl, h⟩ := h
        refine z_aload_n d_Net_unfold_96 rfl ?_
        refine z_aload_n d_Net_unfold_97 rfl ?_
        refine z_callV (as := [.ref b1]) (st := []) i_Net_settleDrafts ⟨rfl, rfl⟩ v_Net_settleDrafts w_Net_settleDrafts l_Net_115 d_Net_unfold_98 (by decide) (tA_50 k) rfl (Nat.le_of_ble_eq_true rfl) (Nat.le_of_ble_eq_true rfl) h (fun q24 T24 M24 h => ?_)
        obtain ⟨k24, rfl, rfl, zb1_24, h⟩ := h
        refine z_aload_n d_Net_unfold_101 rfl ?_
        refine z_aload_n d_Net_unfold_102 rfl ?_
        refine z_iload d_Net_unfold_103 rfl ?_
        refine z_callV (as := [.ref b1, .int y4]) (st := []) i_Net_draftNothing ⟨rfl, rfl⟩ v_Net_draftNothing w_Net_draftNothing l_Net_111 d_Net_unfold_105 (by decide) (tA_50 k24) rfl (Nat.le_of_ble_eq_true rfl) (Nat.le_of_ble_eq_true rfl) h (fun q25 T25 M25 h => ?_)
        obtain ⟨rfl, rfl, h⟩ := h
        refine z_aload_n d_Net_unfold_108 rfl ?_
        refine z_aload_n d_Net_unfold_109 rfl ?_
        refine z_callV (as := [.ref b1]) (st := []) i_Net_settleDrafts ⟨rfl, rfl⟩ v_Net_settleDrafts w_Net_settleDrafts l_Net_115 d_Net_unfold_110 (by decide) (tA_50 k24) rfl (Nat.le_of_ble_eq_true rfl) (Nat.le_of_ble_eq_true rfl) h (fun q26 T26 M26 h => ?_)
        obtain ⟨k26, rfl, rfl, zb1_24_26, h⟩ := h
        refine z_iload_n d_Net_unfold_113 rfl ?_
        refine z_bipush (-6) d_Net_unfold_114 (by decide) ?_
        refine z_icmp_eq 152 d_Net_unfold_116 rfl ⟨fun c27 => ?_, fun c27 => ?_⟩
        · replace h := h.1 c27
          refine z_aload_n d_Net_unfold_152 rfl ?_
          refine z_geti f_Net_123 rfl d_Net_unfold_153 zb1_24_26.1 ?_
          refine z_if_eq 169 d_Net_unfold_156 rfl ⟨fun c28 => ?_, fun c28 => ?_⟩
          · replace h := h.1 c28
            exact z_vret rfl d_Net_unfold_169 h
          · replace h := h.2 c28
            refine z_aload_n d_Net_unfold_159 rfl ?_
            refine z_dup d_Net_unfold_160 rfl ?_
            refine z_geti f_Net_54 rfl d_Net_unfold_161 (tA_50 k26) ?_
            refine z_iconst 1 d_Net_unfold_164 (by decide) ?_
            refine z_iadd d_Net_unfold_165 ?_
            refine z_puti (p_Net_54 rfl) rfl d_Net_unfold_166 (tA_50 k26) rfl rfl ?_
            refine z_mem (fun M29 eM29 => ?_)
            replace h := h M29 eM29
            exact z_vret rfl d_Net_unfold_169 h
        · replace h := h.2 c27
          refine z_iload d_Net_unfold_119 rfl ?_
          refine z_bipush (-6) d_Net_unfold_121 (by decide) ?_
          refine z_icmp_eq 152 d_Net_unfold_123 rfl ⟨fun c30 => ?_, fun c30 => ?_⟩
          · replace h := h.1 c30
            refine z_aload_n d_Net_unfold_152 rfl ?_
            refine z_geti f_Net_123 rfl d_Net_unfold_153 zb1_24_26.1 ?_
            refine z_if_eq 169 d_Net_unfold_156 rfl ⟨fun c31 => ?_, fun c31 => ?_⟩
            · replace h := h.1 c31
              exact z_vret rfl d_Net_unfold_169 h
            · replace h := h.2 c31
              refine z_aload_n d_Net_unfold_159 rfl ?_
              refine z_dup d_Net_unfold_160 rfl ?_
              refine z_geti f_Net_54 rfl d_Net_unfold_161 (tA_50 k26) ?_
              refine z_iconst 1 d_Net_unfold_164 (by decide) ?_
              refine z_iadd d_Net_unfold_165 ?_
              refine z_puti (p_Net_54 rfl) rfl d_Net_unfold_166 (tA_50 k26) rfl rfl ?_
              refine z_mem (fun M32 eM32 => ?_)
              replace h := h M32 eM32
              exact z_vret rfl d_Net_unfold_169 h
          · replace h := h.2 c30
            refine z_aload_n d_Net_unfold_126 rfl ?_
            refine z_aload_n d_Net_unfold_127 rfl ?_
            refine z_iload_n d_Net_unfold_128 rfl ?_
            refine z_iload d_Net_unfold_129 rfl ?_
            refine z_callV (as := [.ref b1, .int y3, .int y4]) (st := []) i_Net_draftBegins ⟨rfl, rfl⟩ v_Net_draftBegins w_Net_draftBegins l_Net_119 d_Net_unfold_131 (by decide) (tA_50 k26) rfl (Nat.le_of_ble_eq_true rfl) (Nat.le_of_ble_eq_true rfl) h (fun q33 T33 M33 h => ?_)
            obtain ⟨rfl, rfl, h⟩ := h
            refine z_aload_n d_Net_unfold_134 rfl ?_
            refine z_aload_n d_Net_unfold_135 rfl ?_
            refine z_callV (as := [.ref b1]) (st := []) i_Net_settleDrafts ⟨rfl, rfl⟩ v_Net_settleDrafts w_Net_settleDrafts l_Net_115 d_Net_unfold_136 (by decide) (tA_50 k26) rfl (Nat.le_of_ble_eq_true rfl) (Nat.le_of_ble_eq_true rfl) h (fun q34 T34 M34 h => ?_)
            obtain ⟨k34, rfl, rfl, zb1_24_26_34, h⟩ := h
            refine z_aload_n d_Net_unfold_139 rfl ?_
            refine z_aload_n d_Net_unfold_140 rfl ?_
            refine z_iload d_Net_unfold_141 rfl ?_
            refine z_iload_n d_Net_unfold_143 rfl ?_
            refine z_callV (as := [.ref b1, .int y4, .int y3]) (st := []) i_Net_draftBegins ⟨rfl, rfl⟩ v_Net_draftBegins w_Net_draftBegins l_Net_119 d_Net_unfold_144 (by decide) (tA_50 k34) rfl (Nat.le_of_ble_eq_true rfl) (Nat.le_of_ble_eq_true rfl) h (fun q35 T35 M35 h => ?_)
            obtain ⟨rfl, rfl, h⟩ := h
            refine z_aload_n d_Net_unfold_147 rfl ?_
            refine z_aload_n d_Net_unfold_148 rfl ?_
            refine z_callV (as := [.ref b1]) (st := []) i_Net_settleDrafts ⟨rfl, rfl⟩ v_Net_settleDrafts w_Net_settleDrafts l_Net_115 d_Net_unfold_149 (by decide) (tA_50 k34) rfl (Nat.le_of_ble_eq_true rfl) (Nat.le_of_ble_eq_true rfl) h (fun q36 T36 M36 h => ?_)
            obtain ⟨k36, rfl, rfl, zb1_24_26_34_36, h⟩ := h
            refine z_aload_n d_Net_unfold_152 rfl ?_
            refine z_geti f_Net_123 rfl d_Net_unfold_153 zb1_24_26_34_36.1 ?_
            refine z_if_eq 169 d_Net_unfold_156 rfl ⟨fun c37 => ?_, fun c37 => ?_⟩
            · replace h := h.1 c37
              exact z_vret rfl d_Net_unfold_169 h
            · replace h := h.2 c37
              refine z_aload_n d_Net_unfold_159 rfl ?_
              refine z_dup d_Net_unfold_160 rfl ?_
              refine z_geti f_Net_54 rfl d_Net_unfold_161 (tA_50 k36) ?_
              refine z_iconst 1 d_Net_unfold_164 (by decide) ?_
              refine z_iadd d_Net_unfold_165 ?_
              refine z_puti (p_Net_54 rfl) rfl d_Net_unfold_166 (tA_50 k36) rfl rfl ?_
              refine z_mem (fun M38 eM38 => ?_)
              replace h := h M38 eM38
              exact z_vret rfl d_Net_unfold_169 h
      · replace h := h.2 c22
        refine z_aload_n d_Net_unfold_58 rfl ?_
        refine z_geti f_Net_51 rfl d_Net_unfold_59 (tA_50 k) ?_
        refine z_bipush (-6) d_Net_unfold_62 (by decide) ?_
        refine z_icmp_ne 89 d_Net_unfold_64 rfl ⟨fun c39 => ?_, fun c39 => ?_⟩
        · replace h := h.1 c39
          exact z_vret rfl d_Net_unfold_89 h
        · replace h := h.2 c39
          refine z_aload_n d_Net_unfold_67 rfl ?_
          refine z_getr f_Net_43 rfl d_Net_unfold_68 (tA_50 k) (tr_50_1 k) ?_
          refine z_aload_n d_Net_unfold_71 rfl ?_
          refine z_geti f_Net_101 rfl d_Net_unfold_72 zb1.1 ?_
          refine z_callV (as := [.int (M4 b1 5)]) (st := []) i_Shorts_anyHopeless ⟨rfl, rfl⟩ v_Shorts_anyHopeless w_Shorts_anyHopeless l_Net_102 d_Net_unfold_75 (by decide) (tA_45 k) rfl (Nat.le_of_ble_eq_true rfl) (Nat.le_of_ble_eq_true rfl) h (fun q40 T40 M40 h => ?_)
          obtain ⟨y40, rfl, rfl, h⟩ := h
          refine z_if_ne 89 d_Net_unfold_78 rfl ⟨fun c41 => ?_, fun c41 => ?_⟩
          · replace h := h.1 c41
            exact z_vret rfl d_Net_unfold_89 h
          · replace h := h.2 c41
            refine z_aload_n d_Net_unfold_81 rfl ?_
            refine z_aload_n d_Net_unfold_82 rfl ?_
            refine z_geti f_Net_108 rfl d_Net_unfold_83 zb1.1 ?_
            refine z_puti (p_Net_51 rfl) rfl d_Net_unfold_86 (tA_50 k) rfl rfl ?_
            refine z_mem (fun M42 eM42 => ?_)
            replace h := h M42 eM42
            exact z_vret rfl d_Net_unfold_89 h

set_option maxRecDepth 20000 in
theorem vc_Net_draftNothing_0 (E : ZE) (k : Nat) (M : ZM) (r1 : Nat) (x2 : Int32) (Φ : Option Value → ZS → ZM → Prop) (h1 : zNode (zSt k) r1) (h : ∀ y1 : Int32, y1 = (x2 - 2) → zW E m_H_isVariable 0 (zSt k) M 0 [some (.int y1)] [] (fun q2 T2 M2 => ∃ y2 : Int32, q2 = some (.int y2) ∧ (zSt k) = T2 ∧ (y2 = 0 → Φ none (zSt k) M2) ∧ (¬ y2 = 0 → zW E m_Need_ofVariable 0 (zSt k) M2 0 [some (.int (M2 r1 5)), some (.int y1)] [] (fun q4 T4 M4 => ∃ y4 : Int32, q4 = some (.int y4) ∧ (zSt k) = T4 ∧ zW E m_Need_allows 0 (zSt k) M4 0 [some (.int y4), some (.int 273)] [] (fun q5 T5 M5 => ∃ y5 : Int32, q5 = some (.int y5) ∧ (zSt k) = T5 ∧ (¬ y5 = 0 → zW E m_Row_copyWithout 1 (zSt k) M5 0 [some (.ref 53), some (.ref (r1 + 1)), some (.int x2), none] [] (fun q7 T7 M7 => q7 = none ∧ (zSt k) = T7 ∧ zW E m_Row_copyWithout 1 (zSt k) M7 0 [some (.ref 55), some (.ref (r1 + 3)), some (.int x2), none] [] (fun q8 T8 M8 => q8 = none ∧ (zSt k) = T8 ∧ zW E m_Net_makeLean 2 (zSt k) M8 0 [some (.ref 50), none] [] (fun q9 T9 M9 => q9 = none ∧ (zSt k) = T9 ∧ zW E m_Need_withVariable 0 (zSt k) M9 0 [some (.int (M9 r1 5)), some (.int y1), some (.int 511)] [] (fun q10 T10 M10 => ∃ y10 : Int32, q10 = some (.int y10) ∧ (zSt k) = T10 ∧ zW E m_Net_addDraft 1 (zSt k) M10 0 [some (.ref 50), some (.int y10), some (.int (100 * y1))] [] (fun q11 T11 M11 => q11 = none ∧ (zSt k) = T11 ∧ Φ none (zSt k) M11)))))) ∧ (y5 = 0 → Φ none (zSt k) M5)))))) : zW E m_Net_draftNothing 3 (zSt k) M 0 [some (.ref 50), some (.ref r1), some (.int x2), none] [] Φ := by
  refine z_iload_n d_Net_draftNothing_0 rfl ?_
  refine z_iconst 2 d_Net_draftNothing_1 (by decide) ?_
  refine z_isub d_Net_draftNothing_2 ?_
  refine z_name (fun y1 ey1 => ?_)
  replace h := h y1 ey1
  refine z_istore_n (ls' := [some (.ref 50), some (.ref r1), some (.int x2), some (.int y1)]) d_Net_draftNothing_3 (Nat.le_of_ble_eq_true rfl) rfl rfl ?_
  refine z_iload_n d_Net_draftNothing_4 rfl ?_
  refine z_callS (as := [.int y1]) (st := []) i_H_isVariable s_H_isVariable l_Net_127 d_Net_draftNothing_5 (by decide) rfl (Nat.le_of_ble_eq_true rfl) (Nat.le_of_ble_eq_true rfl) h (fun q2 T2 M2 h => ?_)
  obtain ⟨y2, rfl, rfl, h⟩ := h
  refine z_if_eq 28 d_Net_draftNothing_8 rfl ⟨fun c3 => ?_, fun c3 => ?_⟩
  · replace h := h.1 c3
    exact z_vret rfl d_Net_draftNothing_28 h
  · replace h := h.2 c3
    refine z_aload_n d_Net_draftNothing_11 rfl ?_
    refine z_geti f_Net_101 rfl d_Net_draftNothing_12 h1.1 ?_
    refine z_iload_n d_Net_draftNothing_15 rfl ?_
    refine z_callS (as := [.int (M2 r1 5), .int y1]) (st := []) i_Need_ofVariable s_Need_ofVariable l_Net_130 d_Net_draftNothing_16 (by decide) rfl (Nat.le_of_ble_eq_true rfl) (Nat.le_of_ble_eq_true rfl) h (fun q4 T4 M4 h => ?_)
    obtain ⟨y4, rfl, rfl, h⟩ := h
    refine z_sipush 273 d_Net_draftNothing_19 (by decide) ?_
    refine z_callS (as := [.int y4, .int 273]) (st := []) i_Need_allows s_Need_allows l_Net_135 d_Net_draftNothing_22 (by decide) rfl (Nat.le_of_ble_eq_true rfl) (Nat.le_of_ble_eq_true rfl) h (fun q5 T5 M5 h => ?_)
    obtain ⟨y5, rfl, rfl, h⟩ := h
    refine z_if_ne 29 d_Net_draftNothing_25 rfl ⟨fun c6 => ?_, fun c6 => ?_⟩
    · replace h := h.1 c6
      refine z_aload_n d_Net_draftNothing_29 rfl ?_
      refine z_getr f_Net_26 rfl d_Net_draftNothing_30 (tA_50 k) (tr_50_4 k) ?_
      refine z_aload_n d_Net_draftNothing_33 rfl ?_
      refine z_getr f_Net_96 rfl d_Net_draftNothing_34 h1.1 h1.2.1.1 ?_
      refine z_iload_n d_Net_draftNothing_37 rfl ?_
      refine z_callV (as := [.ref (r1 + 1), .int x2]) (st := []) i_Row_copyWithout ⟨rfl, rfl⟩ v_Row_copyWithout w_Row_copyWithout l_Net_139 d_Net_draftNothing_38 (by decide) (ts_53 k).1 rfl (Nat.le_of_ble_eq_true rfl) (Nat.le_of_ble_eq_true rfl) h (fun q7 T7 M7 h => ?_)
      obtain ⟨rfl, rfl, h⟩ := h
      refine z_aload_n d_Net_draftNothing_41 rfl ?_
      refine z_getr f_Net_30 rfl d_Net_draftNothing_42 (tA_50 k) (tr_50_5 k) ?_
      refine z_aload_n d_Net_draftNothing_45 rfl ?_
      refine z_getr f_Net_100 rfl d_Net_draftNothing_46 h1.1 h1.2.2.1.1 ?_
      refine z_iload_n d_Net_draftNothing_49 rfl ?_
      refine z_callV (as := [.ref (r1 + 3), .int x2]) (st := []) i_Row_copyWithout ⟨rfl, rfl⟩ v_Row_copyWithout w_Row_copyWithout l_Net_139 d_Net_draftNothing_50 (by decide) (ts_55 k).1 rfl (Nat.le_of_ble_eq_true rfl) (Nat.le_of_ble_eq_true rfl) h (fun q8 T8 M8 h => ?_)
      obtain ⟨rfl, rfl, h⟩ := h
      refine z_aload_n d_Net_draftNothing_53 rfl ?_
      refine z_callV (as := []) (st := []) i_Net_makeLean ⟨rfl, rfl⟩ v_Net_makeLean w_Net_makeLean l_Net_74 d_Net_draftNothing_54 (by decide) (tA_50 k) rfl (Nat.le_of_ble_eq_true rfl) (Nat.le_of_ble_eq_true rfl) h (fun q9 T9 M9 h => ?_)
      obtain ⟨rfl, rfl, h⟩ := h
      refine z_aload_n d_Net_draftNothing_57 rfl ?_
      refine z_aload_n d_Net_draftNothing_58 rfl ?_
      refine z_geti f_Net_101 rfl d_Net_draftNothing_59 h1.1 ?_
      refine z_iload_n d_Net_draftNothing_62 rfl ?_
      refine z_sipush 511 d_Net_draftNothing_63 (by decide) ?_
      refine z_callS (as := [.int (M9 r1 5), .int y1, .int 511]) (st := [.ref 50]) i_Need_withVariable s_Need_withVariable l_Net_143 d_Net_draftNothing_66 (by decide) rfl (Nat.le_of_ble_eq_true rfl) (Nat.le_of_ble_eq_true rfl) h (fun q10 T10 M10 h => ?_)
      obtain ⟨y10, rfl, rfl, h⟩ := h
      refine z_bipush 100 d_Net_draftNothing_69 (by decide) ?_
      refine z_iload_n d_Net_draftNothing_71 rfl ?_
      refine z_imul d_Net_draftNothing_72 ?_
      refine z_callV (as := [.int y10, .int (100 * y1)]) (st := []) i_Net_addDraft ⟨rfl, rfl⟩ v_Net_addDraft w_Net_addDraft l_Net_147 d_Net_draftNothing_73 (by decide) (tA_50 k) rfl (Nat.le_of_ble_eq_true rfl) (Nat.le_of_ble_eq_true rfl) h (fun q11 T11 M11 h => ?_)
      obtain ⟨rfl, rfl, h⟩ := h
      exact z_vret rfl d_Net_draftNothing_76 h
    · replace h := h.2 c6
      exact z_vret rfl d_Net_draftNothing_28 h

set_option maxRecDepth 20000 in
theorem vc_Net_draftBegins_0 (E : ZE) (k : Nat) (M : ZM) (r1 : Nat) (x2 : Int32) (x3 : Int32) (Φ : Option Value → ZS → ZM → Prop) (h1 : zNode (zSt k) r1) (h : ∀ y1 : Int32, y1 = (x2 - 2) → zW E m_H_isVariable 0 (zSt k) M 0 [some (.int y1)] [] (fun q2 T2 M2 => ∃ y2 : Int32, q2 = some (.int y2) ∧ (zSt k) = T2 ∧ (¬ y2 = 0 → zW E m_Row_copyWithAhead 1 (zSt k) M2 0 [some (.ref 53), some (.ref (r1 + 1)), some (.int x2), some (.int x3), none] [] (fun q4 T4 M4 => q4 = none ∧ (zSt k) = T4 ∧ zW E m_Row_copyWithAhead 1 (zSt k) M4 0 [some (.ref 55), some (.ref (r1 + 3)), some (.int x2), some (.int x3), none] [] (fun q5 T5 M5 => q5 = none ∧ (zSt k) = T5 ∧ zW E m_Net_makeLean 2 (zSt k) M5 0 [some (.ref 50), none] [] (fun q6 T6 M6 => q6 = none ∧ (zSt k) = T6 ∧ ∀ y7 : Int32, y7 = (1000 + (100 * y1)) → zW E m_H_isVariable 0 (zSt k) M6 0 [some (.int (x3 - 2))] [] (fun q8 T8 M8 => ∃ y8 : Int32, q8 = some (.int y8) ∧ (zSt k) = T8 ∧ (y8 = 0 → zW E m_Need_ofVariable 0 (zSt k) M8 0 [some (.int (M8 r1 5)), some (.int y1)] [] (fun q10 T10 M10 => ∃ y10 : Int32, q10 = some (.int y10) ∧ (zSt k) = T10 ∧ zW E m_Need_behindLetter 1 (zSt k) M10 0 [some (.int y10), some (.int x3), some (.ref 8), none, none] [] (fun q11 T11 M11 => ∃ y11 : Int32, q11 = some (.int y11) ∧ (zSt k) = T11 ∧ zW E m_Need_withVariable 0 (zSt k) M11 0 [some (.int (M11 r1 5)), some (.int y1), some (.int y11)] [] (fun q12 T12 M12 => ∃ y12 : Int32, q12 = some (.int y12) ∧ (zSt k) = T12 ∧ zW E m_Net_addDraft 1 (zSt k) M12 0 [some (.ref 50), some (.int y12), some (.int y7)] [] (fun q13 T13 M13 => q13 = none ∧ (zSt k) = T13 ∧ Φ none (zSt k) M13))))) ∧ (¬ y8 = 0 → zW E m_Net_draftTurns 2 (zSt k) M8 0 [some (.ref 50), some (.int (M8 r1 5)), some (.int y1), some (.int (x3 - 2)), some (.int y7), none, none, none, none] [] (fun q14 T14 M14 => q14 = none ∧ (zSt k) = T14 ∧ Φ none (zSt k) M14))))))) ∧ (y2 = 0 → Φ none (zSt k) M2))) : zW E m_Net_draftBegins 3 (zSt k) M 0 [some (.ref 50), some (.ref r1), some (.int x2), some (.int x3), none, none, none, none] [] Φ := by
  refine z_iload_n d_Net_draftBegins_0 rfl ?_
  refine z_iconst 2 d_Net_draftBegins_1 (by decide) ?_
  refine z_isub d_Net_draftBegins_2 ?_
  refine z_name (fun y1 ey1 => ?_)
  replace h := h y1 ey1
  refine z_istore (ls' := [some (.ref 50), some (.ref r1), some (.int x2), some (.int x3), some (.int y1), none, none, none]) d_Net_draftBegins_3 (Nat.le_of_ble_eq_true rfl) rfl rfl ?_
  refine z_iload d_Net_draftBegins_5 rfl ?_
  refine z_callS (as := [.int y1]) (st := []) i_H_isVariable s_H_isVariable l_Net_127 d_Net_draftBegins_7 (by decide) rfl (Nat.le_of_ble_eq_true rfl) (Nat.le_of_ble_eq_true rfl) h (fun q2 T2 M2 h => ?_)
  obtain ⟨y2, rfl, rfl, h⟩ := h
  refine z_if_ne 14 d_Net_draftBegins_10 rfl ⟨fun c3 => ?_, fun c3 => ?_⟩
  · replace h := h.1 c3
    refine z_aload_n d_Net_draftBegins_14 rfl ?_
    refine z_getr f_Net_26 rfl d_Net_draftBegins_15 (tA_50 k) (tr_50_4 k) ?_
    refine z_aload_n d_Net_draftBegins_18 rfl ?_
    refine z_getr f_Net_96 rfl d_Net_draftBegins_19 h1.1 h1.2.1.1 ?_
    refine z_iload_n d_Net_draftBegins_22 rfl ?_
    refine z_iload_n d_Net_draftBegins_23 rfl ?_
    refine z_callV (as := [.ref (r1 + 1), .int x2, .int x3]) (st := []) i_Row_copyWithAhead ⟨rfl, rfl⟩ v_Row_copyWithAhead w_Row_copyWithAhead l_Net_151 d_Net_draftBegins_24 (by decide) (ts_53 k).1 rfl (Nat.le_of_ble_eq_true rfl) (Nat.le_of_ble_eq_true rfl) h (fun q4 T4 M4 h => ?_)
    obtain ⟨rfl, rfl, h⟩ := h
    refine z_aload_n d_Net_draftBegins_27 rfl ?_
    refine z_getr f_Net_30 rfl d_Net_draftBegins_28 (tA_50 k) (tr_50_5 k) ?_
    refine z_aload_n d_Net_draftBegins_31 rfl ?_
    refine z_getr f_Net_100 rfl d_Net_draftBegins_32 h1.1 h1.2.2.1.1 ?_
    refine z_iload_n d_Net_draftBegins_35 rfl ?_
    refine z_iload_n d_Net_draftBegins_36 rfl ?_
    refine z_callV (as := [.ref (r1 + 3), .int x2, .int x3]) (st := []) i_Row_copyWithAhead ⟨rfl, rfl⟩ v_Row_copyWithAhead w_Row_copyWithAhead l_Net_151 d_Net_draftBegins_37 (by decide) (ts_55 k).1 rfl (Nat.le_of_ble_eq_true rfl) (Nat.le_of_ble_eq_true rfl) h (fun q5 T5 M5 h => ?_)
    obtain ⟨rfl, rfl, h⟩ := h
    refine z_aload_n d_Net_draftBegins_40 rfl ?_
    refine z_callV (as := []) (st := []) i_Net_makeLean ⟨rfl, rfl⟩ v_Net_makeLean w_Net_makeLean l_Net_74 d_Net_draftBegins_41 (by decide) (tA_50 k) rfl (Nat.le_of_ble_eq_true rfl) (Nat.le_of_ble_eq_true rfl) h (fun q6 T6 M6 h => ?_)
    obtain ⟨rfl, rfl, h⟩ := h
    refine z_sipush 1000 d_Net_draftBegins_44 (by decide) ?_
    refine z_bipush 100 d_Net_draftBegins_47 (by decide) ?_
    refine z_iload d_Net_draftBegins_49 rfl ?_
    refine z_imul d_Net_draftBegins_51 ?_
    refine z_iadd d_Net_draftBegins_52 ?_
    refine z_name (fun y7 ey7 => ?_)
    replace h := h y7 ey7
    refine z_istore (ls' := [some (.ref 50), some (.ref r1), some (.int x2), some (.int x3), some (.int y1), some (.int y7), none, none]) d_Net_draftBegins_53 (Nat.le_of_ble_eq_true rfl) rfl rfl ?_
    refine z_iload_n d_Net_draftBegins_55 rfl ?_
    refine z_iconst 2 d_Net_draftBegins_56 (by decide) ?_
    refine z_isub d_Net_draftBegins_57 ?_
    refine z_callS (as := [.int (x3 - 2)]) (st := []) i_H_isVariable s_H_isVariable l_Net_127 d_Net_draftBegins_58 (by decide) rfl (Nat.le_of_ble_eq_true rfl) (Nat.le_of_ble_eq_true rfl) h (fun q8 T8 M8 h => ?_)
    obtain ⟨y8, rfl, rfl, h⟩ := h
    refine z_if_eq 82 d_Net_draftBegins_61 rfl ⟨fun c9 => ?_, fun c9 => ?_⟩
    · replace h := h.1 c9
      refine z_aload_n d_Net_draftBegins_82 rfl ?_
      refine z_geti f_Net_101 rfl d_Net_draftBegins_83 h1.1 ?_
      refine z_iload d_Net_draftBegins_86 rfl ?_
      refine z_callS (as := [.int (M8 r1 5), .int y1]) (st := []) i_Need_ofVariable s_Need_ofVariable l_Net_130 d_Net_draftBegins_88 (by decide) rfl (Nat.le_of_ble_eq_true rfl) (Nat.le_of_ble_eq_true rfl) h (fun q10 T10 M10 h => ?_)
      obtain ⟨y10, rfl, rfl, h⟩ := h
      refine z_istore (ls' := [some (.ref 50), some (.ref r1), some (.int x2), some (.int x3), some (.int y1), some (.int y7), some (.int y10), none]) d_Net_draftBegins_91 (Nat.le_of_ble_eq_true rfl) rfl rfl ?_
      refine z_iload d_Net_draftBegins_93 rfl ?_
      refine z_iload_n d_Net_draftBegins_95 rfl ?_
      refine z_aload_n d_Net_draftBegins_96 rfl ?_
      refine z_getr f_Net_39 rfl d_Net_draftBegins_97 (tA_50 k) (tr_50_0 k) ?_
      refine z_getr f_Net_159 rfl d_Net_draftBegins_100 (tA_3 k) (tr_3_2 k) ?_
      refine z_callS (as := [.int y10, .int x3, .ref 8]) (st := []) i_Need_behindLetter s_Need_behindLetter l_Net_163 d_Net_draftBegins_103 (by decide) rfl (Nat.le_of_ble_eq_true rfl) (Nat.le_of_ble_eq_true rfl) h (fun q11 T11 M11 h => ?_)
      obtain ⟨y11, rfl, rfl, h⟩ := h
      refine z_istore (ls' := [some (.ref 50), some (.ref r1), some (.int x2), some (.int x3), some (.int y1), some (.int y7), some (.int y10), some (.int y11)]) d_Net_draftBegins_106 (Nat.le_of_ble_eq_true rfl) rfl rfl ?_
      refine z_aload_n d_Net_draftBegins_108 rfl ?_
      refine z_aload_n d_Net_draftBegins_109 rfl ?_
      refine z_geti f_Net_101 rfl d_Net_draftBegins_110 h1.1 ?_
      refine z_iload d_Net_draftBegins_113 rfl ?_
      refine z_iload d_Net_draftBegins_115 rfl ?_
      refine z_callS (as := [.int (M11 r1 5), .int y1, .int y11]) (st := [.ref 50]) i_Need_withVariable s_Need_withVariable l_Net_143 d_Net_draftBegins_117 (by decide) rfl (Nat.le_of_ble_eq_true rfl) (Nat.le_of_ble_eq_true rfl) h (fun q12 T12 M12 h => ?_)
      obtain ⟨y12, rfl, rfl, h⟩ := h
      refine z_iload d_Net_draftBegins_120 rfl ?_
      refine z_callV (as := [.int y12, .int y7]) (st := []) i_Net_addDraft ⟨rfl, rfl⟩ v_Net_addDraft w_Net_addDraft l_Net_147 d_Net_draftBegins_122 (by decide) (tA_50 k) rfl (Nat.le_of_ble_eq_true rfl) (Nat.le_of_ble_eq_true rfl) h (fun q13 T13 M13 h => ?_)
      obtain ⟨rfl, rfl, h⟩ := h
      exact z_vret rfl d_Net_draftBegins_125 h
    · replace h := h.2 c9
      refine z_aload_n d_Net_draftBegins_64 rfl ?_
      refine z_aload_n d_Net_draftBegins_65 rfl ?_
      refine z_geti f_Net_101 rfl d_Net_draftBegins_66 h1.1 ?_
      refine z_iload d_Net_draftBegins_69 rfl ?_
      refine z_iload_n d_Net_draftBegins_71 rfl ?_
      refine z_iconst 2 d_Net_draftBegins_72 (by decide) ?_
      refine z_isub d_Net_draftBegins_73 ?_
      refine z_iload d_Net_draftBegins_74 rfl ?_
      refine z_callV (as := [.int (M8 r1 5), .int y1, .int (x3 - 2), .int y7]) (st := []) i_Net_draftTurns ⟨rfl, rfl⟩ v_Net_draftTurns w_Net_draftTurns l_Net_155 d_Net_draftBegins_76 (by decide) (tA_50 k) rfl (Nat.le_of_ble_eq_true rfl) (Nat.le_of_ble_eq_true rfl) h (fun q14 T14 M14 h => ?_)
      obtain ⟨rfl, rfl, h⟩ := h
      refine z_goto 125 d_Net_draftBegins_79 rfl ?_
      exact z_vret rfl d_Net_draftBegins_125 h
  · replace h := h.2 c3
    exact z_vret rfl d_Net_draftBegins_13 h

set_option maxRecDepth 20000 in
theorem vc_Net_draftTurns_0 (E : ZE) (k : Nat) (M : ZM) (x1 : Int32) (x2 : Int32) (x3 : Int32) (x4 : Int32) (Φ : Option Value → ZS → ZM → Prop)  (h : zW E m_Need_ofVariable 0 (zSt k) M 0 [some (.int x1), some (.int x2)] [] (fun q1 T1 M1 => ∃ y1 : Int32, q1 = some (.int y1) ∧ (zSt k) = T1 ∧ zW E m_Need_ofVariable 0 (zSt k) M1 0 [some (.int x1), some (.int x3)] [] (fun q2 T2 M2 => ∃ y2 : Int32, q2 = some (.int y2) ∧ (zSt k) = T2 ∧ zW E m_Net_draftTurns 2 (zSt k) M2 17 [some (.ref 50), some (.int x1), some (.int x2), some (.int x3), some (.int x4), some (.int y1), some (.int y2), some (.int 0), none] [] Φ))) : zW E m_Net_draftTurns 2 (zSt k) M 0 [some (.ref 50), some (.int x1), some (.int x2), some (.int x3), some (.int x4), none, none, none, none] [] Φ := by
  refine z_iload_n d_Net_draftTurns_0 rfl ?_
  refine z_iload_n d_Net_draftTurns_1 rfl ?_
  refine z_callS (as := [.int x1, .int x2]) (st := []) i_Need_ofVariable s_Need_ofVariable l_Net_130 d_Net_draftTurns_2 (by decide) rfl (Nat.le_of_ble_eq_true rfl) (Nat.le_of_ble_eq_true rfl) h (fun q1 T1 M1 h => ?_)
  obtain ⟨y1, rfl, rfl, h⟩ := h
  refine z_istore (ls' := [some (.ref 50), some (.int x1), some (.int x2), some (.int x3), some (.int x4), some (.int y1), none, none, none]) d_Net_draftTurns_5 (Nat.le_of_ble_eq_true rfl) rfl rfl ?_
  refine z_iload_n d_Net_draftTurns_7 rfl ?_
  refine z_iload_n d_Net_draftTurns_8 rfl ?_
  refine z_callS (as := [.int x1, .int x3]) (st := []) i_Need_ofVariable s_Need_ofVariable l_Net_130 d_Net_draftTurns_9 (by decide) rfl (Nat.le_of_ble_eq_true rfl) (Nat.le_of_ble_eq_true rfl) h (fun q2 T2 M2 h => ?_)
  obtain ⟨y2, rfl, rfl, h⟩ := h
  refine z_istore (ls' := [some (.ref 50), some (.int x1), some (.int x2), some (.int x3), some (.int x4), some (.int y1), some (.int y2), none, none]) d_Net_draftTurns_12 (Nat.le_of_ble_eq_true rfl) rfl rfl ?_
  refine z_iconst 0 d_Net_draftTurns_14 (by decide) ?_
  refine z_istore (ls' := [some (.ref 50), some (.int x1), some (.int x2), some (.int x3), some (.int x4), some (.int y1), some (.int y2), some (.int 0), none]) d_Net_draftTurns_15 (Nat.le_of_ble_eq_true rfl) rfl rfl ?_
  exact z_forget [some (.ref 50), some (.int x1), some (.int x2), some (.int x3), some (.int x4), some (.int y1), some (.int y2), some (.int 0), none] (And.intro rfl (And.intro rfl (And.intro rfl (And.intro rfl (And.intro rfl (And.intro rfl (And.intro rfl (And.intro rfl (trivial))))))))) h

set_option maxRecDepth 20000 in
theorem vc_Net_draftTurns_17 (E : ZE) (k : Nat) (M : ZM) (x1 : Int32) (x2 : Int32) (x3 : Int32) (x4 : Int32) (x5 : Int32) (x6 : Int32) (x7 : Int32) (Φ : Option Value → ZS → ZM → Prop)  (h : (27 ≤ x7 → Φ none (zSt k) M) ∧ (¬ 27 ≤ x7 → zW E m_Need_isTurn 1 (zSt k) M 0 [some (.int x5), some (.int x7), none] [] (fun q2 T2 M2 => ∃ y2 : Int32, q2 = some (.int y2) ∧ (zSt k) = T2 ∧ (y2 = 0 → ∀ y4 : Int32, y4 = x7 + 1 → zW E m_Net_draftTurns 2 (zSt k) M2 17 [some (.ref 50), some (.int x1), some (.int x2), some (.int x3), some (.int x4), some (.int x5), some (.int x6), some (.int y4), none] [] Φ) ∧ (¬ y2 = 0 → zW E m_Need_behindTurn 1 (zSt k) M2 0 [some (.int x5), some (.int x7), none, none] [] (fun q5 T5 M5 => ∃ y5 : Int32, q5 = some (.int y5) ∧ (zSt k) = T5 ∧ zW E m_Need_withVariable 0 (zSt k) M5 0 [some (.int x1), some (.int x2), some (.int y5)] [] (fun q6 T6 M6 => ∃ y6 : Int32, q6 = some (.int y6) ∧ (zSt k) = T6 ∧ zW E m_Need_aheadOfTurn 1 (zSt k) M6 0 [some (.int x6), some (.int x5), some (.int x7), none, none] [] (fun q7 T7 M7 => ∃ y7 : Int32, q7 = some (.int y7) ∧ (zSt k) = T7 ∧ zW E m_Need_withVariable 0 (zSt k) M7 0 [some (.int y6), some (.int x3), some (.int y7)] [] (fun q8 T8 M8 => ∃ y8 : Int32, q8 = some (.int y8) ∧ (zSt k) = T8 ∧ zW E m_Net_addDraft 1 (zSt k) M8 0 [some (.ref 50), some (.int y8), some (.int (x4 + x7))] [] (fun q9 T9 M9 => q9 = none ∧ (zSt k) = T9 ∧ ∀ y10 : Int32, y10 = x7 + 1 → zW E m_Net_draftTurns 2 (zSt k) M9 17 [some (.ref 50), some (.int x1), some (.int x2), some (.int x3), some (.int x4), some (.int x5), some (.int x6), some (.int y10), none] [] Φ))))))))) : zW E m_Net_draftTurns 2 (zSt k) M 17 [some (.ref 50), some (.int x1), some (.int x2), some (.int x3), some (.int x4), some (.int x5), some (.int x6), some (.int x7), none] [] Φ := by
  refine z_iload d_Net_draftTurns_17 rfl ?_
  refine z_bipush 27 d_Net_draftTurns_19 (by decide) ?_
  refine z_icmp_ge 78 d_Net_draftTurns_21 rfl ⟨fun c1 => ?_, fun c1 => ?_⟩
  · replace h := h.1 c1
    exact z_vret rfl d_Net_draftTurns_78 h
  · replace h := h.2 c1
    refine z_iload d_Net_draftTurns_24 rfl ?_
    refine z_iload d_Net_draftTurns_26 rfl ?_
    refine z_callS (as := [.int x5, .int x7]) (st := []) i_Need_isTurn s_Need_isTurn l_Net_167 d_Net_draftTurns_28 (by decide) rfl (Nat.le_of_ble_eq_true rfl) (Nat.le_of_ble_eq_true rfl) h (fun q2 T2 M2 h => ?_)
    obtain ⟨y2, rfl, rfl, h⟩ := h
    refine z_if_eq 72 d_Net_draftTurns_31 rfl ⟨fun c3 => ?_, fun c3 => ?_⟩
    · replace h := h.1 c3
      obtain ⟨y4, ey4⟩ : ∃ q : Int32, q = x7 + 1 := ⟨_, rfl⟩
      replace h := h y4 ey4
      refine z_iinc (ls' := [some (.ref 50), some (.int x1), some (.int x2), some (.int x3), some (.int x4), some (.int x5), some (.int x6), some (.int y4), none]) y4 d_Net_draftTurns_72 rfl (ey4 ▸ rfl) (Nat.le_of_ble_eq_true rfl) rfl rfl ?_
      refine z_goto 17 d_Net_draftTurns_75 rfl ?_
      exact z_forget [some (.ref 50), some (.int x1), some (.int x2), some (.int x3), some (.int x4), some (.int x5), some (.int x6), some (.int y4), none] (And.intro rfl (And.intro rfl (And.intro rfl (And.intro rfl (And.intro rfl (And.intro rfl (And.intro rfl (And.intro rfl (trivial))))))))) h
    · replace h := h.2 c3
      refine z_iload_n d_Net_draftTurns_34 rfl ?_
      refine z_iload_n d_Net_draftTurns_35 rfl ?_
      refine z_iload d_Net_draftTurns_36 rfl ?_
      refine z_iload d_Net_draftTurns_38 rfl ?_
      refine z_callS (as := [.int x5, .int x7]) (st := [.int x2, .int x1]) i_Need_behindTurn s_Need_behindTurn l_Net_170 d_Net_draftTurns_40 (by decide) rfl (Nat.le_of_ble_eq_true rfl) (Nat.le_of_ble_eq_true rfl) h (fun q5 T5 M5 h => ?_)
      obtain ⟨y5, rfl, rfl, h⟩ := h
      refine z_callS (as := [.int x1, .int x2, .int y5]) (st := []) i_Need_withVariable s_Need_withVariable l_Net_143 d_Net_draftTurns_43 (by decide) rfl (Nat.le_of_ble_eq_true rfl) (Nat.le_of_ble_eq_true rfl) h (fun q6 T6 M6 h => ?_)
      obtain ⟨y6, rfl, rfl, h⟩ := h
      refine z_istore (ls' := [some (.ref 50), some (.int x1), some (.int x2), some (.int x3), some (.int x4), some (.int x5), some (.int x6), some (.int x7), some (.int y6)]) d_Net_draftTurns_46 (Nat.le_of_ble_eq_true rfl) rfl rfl ?_
      refine z_aload_n d_Net_draftTurns_48 rfl ?_
      refine z_iload d_Net_draftTurns_49 rfl ?_
      refine z_iload_n d_Net_draftTurns_51 rfl ?_
      refine z_iload d_Net_draftTurns_52 rfl ?_
      refine z_iload d_Net_draftTurns_54 rfl ?_
      refine z_iload d_Net_draftTurns_56 rfl ?_
      refine z_callS (as := [.int x6, .int x5, .int x7]) (st := [.int x3, .int y6, .ref 50]) i_Need_aheadOfTurn s_Need_aheadOfTurn l_Net_173 d_Net_draftTurns_58 (by decide) rfl (Nat.le_of_ble_eq_true rfl) (Nat.le_of_ble_eq_true rfl) h (fun q7 T7 M7 h => ?_)
      obtain ⟨y7, rfl, rfl, h⟩ := h
      refine z_callS (as := [.int y6, .int x3, .int y7]) (st := [.ref 50]) i_Need_withVariable s_Need_withVariable l_Net_143 d_Net_draftTurns_61 (by decide) rfl (Nat.le_of_ble_eq_true rfl) (Nat.le_of_ble_eq_true rfl) h (fun q8 T8 M8 h => ?_)
      obtain ⟨y8, rfl, rfl, h⟩ := h
      refine z_iload d_Net_draftTurns_64 rfl ?_
      refine z_iload d_Net_draftTurns_66 rfl ?_
      refine z_iadd d_Net_draftTurns_68 ?_
      refine z_callV (as := [.int y8, .int (x4 + x7)]) (st := []) i_Net_addDraft ⟨rfl, rfl⟩ v_Net_addDraft w_Net_addDraft l_Net_147 d_Net_draftTurns_69 (by decide) (tA_50 k) rfl (Nat.le_of_ble_eq_true rfl) (Nat.le_of_ble_eq_true rfl) h (fun q9 T9 M9 h => ?_)
      obtain ⟨rfl, rfl, h⟩ := h
      obtain ⟨y10, ey10⟩ : ∃ q : Int32, q = x7 + 1 := ⟨_, rfl⟩
      replace h := h y10 ey10
      refine z_iinc (ls' := [some (.ref 50), some (.int x1), some (.int x2), some (.int x3), some (.int x4), some (.int x5), some (.int x6), some (.int y10), some (.int y6)]) y10 d_Net_draftTurns_72 rfl (ey10 ▸ rfl) (Nat.le_of_ble_eq_true rfl) rfl rfl ?_
      refine z_goto 17 d_Net_draftTurns_75 rfl ?_
      exact z_forget [some (.ref 50), some (.int x1), some (.int x2), some (.int x3), some (.int x4), some (.int x5), some (.int x6), some (.int y10), none] (And.intro rfl (And.intro rfl (And.intro rfl (And.intro rfl (And.intro rfl (And.intro rfl (And.intro rfl (And.intro rfl (trivial))))))))) h

set_option maxRecDepth 20000 in
theorem vc_Net_addDraft_0 (E : ZE) (k : Nat) (M : ZM) (x1 : Int32) (x2 : Int32) (Φ : Option Value → ZS → ZM → Prop)  (h : zW E m_Row_push 0 (zSt k) M 0 [some (.ref 57), some (.int x1)] [] (fun q1 T1 M1 => ∃ y1 : Int32, q1 = some (.int y1) ∧ (zSt k) = T1 ∧ zW E m_Row_push 0 (zSt k) M1 0 [some (.ref 59), some (.int x2)] [] (fun q2 T2 M2 => ∃ y2 : Int32, q2 = some (.int y2) ∧ (zSt k) = T2 ∧ Φ none (zSt k) M2))) : zW E m_Net_addDraft 1 (zSt k) M 0 [some (.ref 50), some (.int x1), some (.int x2)] [] Φ := by
  refine z_aload_n d_Net_addDraft_0 rfl ?_
  refine z_getr f_Net_33 rfl d_Net_addDraft_1 (tA_50 k) (tr_50_6 k) ?_
  refine z_iload_n d_Net_addDraft_4 rfl ?_
  refine z_callV (as := [.int x1]) (st := []) i_Row_push ⟨rfl, rfl⟩ v_Row_push w_Row_push l_Net_176 d_Net_addDraft_5 (by decide) (ts_57 k).1 rfl (Nat.le_of_ble_eq_true rfl) (Nat.le_of_ble_eq_true rfl) h (fun q1 T1 M1 h => ?_)
  obtain ⟨y1, rfl, rfl, h⟩ := h
  refine z_pop d_Net_addDraft_8 rfl ?_
  refine z_aload_n d_Net_addDraft_9 rfl ?_
  refine z_getr f_Net_36 rfl d_Net_addDraft_10 (tA_50 k) (tr_50_7 k) ?_
  refine z_iload_n d_Net_addDraft_13 rfl ?_
  refine z_callV (as := [.int x2]) (st := []) i_Row_push ⟨rfl, rfl⟩ v_Row_push w_Row_push l_Net_176 d_Net_addDraft_14 (by decide) (ts_59 k).1 rfl (Nat.le_of_ble_eq_true rfl) (Nat.le_of_ble_eq_true rfl) h (fun q2 T2 M2 h => ?_)
  obtain ⟨y2, rfl, rfl, h⟩ := h
  refine z_pop d_Net_addDraft_17 rfl ?_
  exact z_vret rfl d_Net_addDraft_18 h

set_option maxRecDepth 20000 in
theorem vc_Net_makeLean_0 (E : ZE) (k : Nat) (M : ZM)  (Φ : Option Value → ZS → ZM → Prop)  (h : zW E m_Row_sameAtFront 1 (zSt k) M 0 [some (.ref 53), some (.ref 55), none] [] (fun q1 T1 M1 => ∃ y1 : Int32, q1 = some (.int y1) ∧ (zSt k) = T1 ∧ zW E m_Row_dropFirst 0 (zSt k) M1 0 [some (.ref 53), some (.int y1), none] [] (fun q2 T2 M2 => q2 = none ∧ (zSt k) = T2 ∧ zW E m_Row_dropFirst 0 (zSt k) M2 0 [some (.ref 55), some (.int y1), none] [] (fun q3 T3 M3 => q3 = none ∧ (zSt k) = T3 ∧ zW E m_Row_mark 0 (zSt k) M3 0 [some (.ref 53), none, none] [] (fun q4 T4 M4 => ∃ y4 : Int32, q4 = some (.int y4) ∧ (zSt k) = T4 ∧ zW E m_Row_mark 0 (zSt k) M4 0 [some (.ref 55), none, none] [] (fun q5 T5 M5 => ∃ y5 : Int32, q5 = some (.int y5) ∧ (zSt k) = T5 ∧ ∀ M6 : ZM, M6 = zms M5 50 8 ((y4 * 31) + y5) → Φ none (zSt k) M6)))))) : zW E m_Net_makeLean 2 (zSt k) M 0 [some (.ref 50), none] [] Φ := by
  refine z_aload_n d_Net_makeLean_0 rfl ?_
  refine z_getr f_Net_26 rfl d_Net_makeLean_1 (tA_50 k) (tr_50_4 k) ?_
  refine z_aload_n d_Net_makeLean_4 rfl ?_
  refine z_getr f_Net_30 rfl d_Net_makeLean_5 (tA_50 k) (tr_50_5 k) ?_
  refine z_callV (as := [.ref 55]) (st := []) i_Row_sameAtFront ⟨rfl, rfl⟩ v_Row_sameAtFront w_Row_sameAtFront l_Net_179 d_Net_makeLean_8 (by decide) (ts_53 k).1 rfl (Nat.le_of_ble_eq_true rfl) (Nat.le_of_ble_eq_true rfl) h (fun q1 T1 M1 h => ?_)
  obtain ⟨y1, rfl, rfl, h⟩ := h
  refine z_istore_n (ls' := [some (.ref 50), some (.int y1)]) d_Net_makeLean_11 (Nat.le_of_ble_eq_true rfl) rfl rfl ?_
  refine z_aload_n d_Net_makeLean_12 rfl ?_
  refine z_getr f_Net_26 rfl d_Net_makeLean_13 (tA_50 k) (tr_50_4 k) ?_
  refine z_iload_n d_Net_makeLean_16 rfl ?_
  refine z_callV (as := [.int y1]) (st := []) i_Row_dropFirst ⟨rfl, rfl⟩ v_Row_dropFirst w_Row_dropFirst l_Net_183 d_Net_makeLean_17 (by decide) (ts_53 k).1 rfl (Nat.le_of_ble_eq_true rfl) (Nat.le_of_ble_eq_true rfl) h (fun q2 T2 M2 h => ?_)
  obtain ⟨rfl, rfl, h⟩ := h
  refine z_aload_n d_Net_makeLean_20 rfl ?_
  refine z_getr f_Net_30 rfl d_Net_makeLean_21 (tA_50 k) (tr_50_5 k) ?_
  refine z_iload_n d_Net_makeLean_24 rfl ?_
  refine z_callV (as := [.int y1]) (st := []) i_Row_dropFirst ⟨rfl, rfl⟩ v_Row_dropFirst w_Row_dropFirst l_Net_183 d_Net_makeLean_25 (by decide) (ts_55 k).1 rfl (Nat.le_of_ble_eq_true rfl) (Nat.le_of_ble_eq_true rfl) h (fun q3 T3 M3 h => ?_)
  obtain ⟨rfl, rfl, h⟩ := h
  refine z_aload_n d_Net_makeLean_28 rfl ?_
  refine z_aload_n d_Net_makeLean_29 rfl ?_
  refine z_getr f_Net_26 rfl d_Net_makeLean_30 (tA_50 k) (tr_50_4 k) ?_
  refine z_callV (as := []) (st := [.ref 50]) i_Row_mark ⟨rfl, rfl⟩ v_Row_mark w_Row_mark l_Net_186 d_Net_makeLean_33 (by decide) (ts_53 k).1 rfl (Nat.le_of_ble_eq_true rfl) (Nat.le_of_ble_eq_true rfl) h (fun q4 T4 M4 h => ?_)
  obtain ⟨y4, rfl, rfl, h⟩ := h
  refine z_bipush 31 d_Net_makeLean_36 (by decide) ?_
  refine z_imul d_Net_makeLean_38 ?_
  refine z_aload_n d_Net_makeLean_39 rfl ?_
  refine z_getr f_Net_30 rfl d_Net_makeLean_40 (tA_50 k) (tr_50_5 k) ?_
  refine z_callV (as := []) (st := [.int (y4 * 31), .ref 50]) i_Row_mark ⟨rfl, rfl⟩ v_Row_mark w_Row_mark l_Net_186 d_Net_makeLean_43 (by decide) (ts_55 k).1 rfl (Nat.le_of_ble_eq_true rfl) (Nat.le_of_ble_eq_true rfl) h (fun q5 T5 M5 h => ?_)
  obtain ⟨y5, rfl, rfl, h⟩ := h
  refine z_iadd d_Net_makeLean_46 ?_
  refine z_puti (p_Net_190 rfl) rfl d_Net_makeLean_47 (tA_50 k) rfl rfl ?_
  refine z_mem (fun M6 eM6 => ?_)
  replace h := h M6 eM6
  exact z_vret rfl d_Net_makeLean_50 h

set_option maxRecDepth 20000 in
theorem vc_Net_settleDrafts_0 (E : ZE) (k : Nat) (M : ZM) (r1 : Nat) (Φ : Option Value → ZS → ZM → Prop) (h1 : zNode (zSt k) r1) (h : zW E m_Row_size 0 (zSt k) M 0 [some (.ref 53)] [] (fun q1 T1 M1 => ∃ y1 : Int32, q1 = some (.int y1) ∧ (zSt k) = T1 ∧ (24 < y1 → zW E m_Net_settleDrafts 4 (zSt k) M1 32 [some (.ref 50), some (.ref r1), some (.int 1), some (.int 0), none, none] [] Φ) ∧ (¬ 24 < y1 → zW E m_Row_size 0 (zSt k) M1 0 [some (.ref 55)] [] (fun q3 T3 M3 => ∃ y3 : Int32, q3 = some (.int y3) ∧ (zSt k) = T3 ∧ (y3 ≤ 24 → zW E m_Net_settleDrafts 4 (zSt k) M3 32 [some (.ref 50), some (.ref r1), some (.int 0), some (.int 0), none, none] [] Φ) ∧ (¬ y3 ≤ 24 → zW E m_Net_settleDrafts 4 (zSt k) M3 32 [some (.ref 50), some (.ref r1), some (.int 1), some (.int 0), none, none] [] Φ))))) : zW E m_Net_settleDrafts 4 (zSt k) M 0 [some (.ref 50), some (.ref r1), none, none, none, none] [] Φ := by
  refine z_aload_n d_Net_settleDrafts_0 rfl ?_
  refine z_getr f_Net_26 rfl d_Net_settleDrafts_1 (tA_50 k) (tr_50_4 k) ?_
  refine z_callV (as := []) (st := []) i_Row_size ⟨rfl, rfl⟩ v_Row_size w_Row_size l_Net_192 d_Net_settleDrafts_4 (by decide) (ts_53 k).1 rfl (Nat.le_of_ble_eq_true rfl) (Nat.le_of_ble_eq_true rfl) h (fun q1 T1 M1 h => ?_)
  obtain ⟨y1, rfl, rfl, h⟩ := h
  refine z_bipush 24 d_Net_settleDrafts_7 (by decide) ?_
  refine z_icmp_gt 24 d_Net_settleDrafts_9 rfl ⟨fun c2 => ?_, fun c2 => ?_⟩
  · replace h := h.1 c2
    refine z_iconst 1 d_Net_settleDrafts_24 (by decide) ?_
    refine z_goto 29 d_Net_settleDrafts_25 rfl ?_
    refine z_istore_n (ls' := [some (.ref 50), some (.ref r1), some (.int 1), none, none, none]) d_Net_settleDrafts_29 (Nat.le_of_ble_eq_true rfl) rfl rfl ?_
    refine z_iconst 0 d_Net_settleDrafts_30 (by decide) ?_
    refine z_istore_n (ls' := [some (.ref 50), some (.ref r1), some (.int 1), some (.int 0), none, none]) d_Net_settleDrafts_31 (Nat.le_of_ble_eq_true rfl) rfl rfl ?_
    exact z_forget [some (.ref 50), some (.ref r1), some (.int 1), some (.int 0), none, none] (And.intro rfl (And.intro rfl (And.intro rfl (And.intro rfl (trivial))))) h
  · replace h := h.2 c2
    refine z_aload_n d_Net_settleDrafts_12 rfl ?_
    refine z_getr f_Net_30 rfl d_Net_settleDrafts_13 (tA_50 k) (tr_50_5 k) ?_
    refine z_callV (as := []) (st := []) i_Row_size ⟨rfl, rfl⟩ v_Row_size w_Row_size l_Net_192 d_Net_settleDrafts_16 (by decide) (ts_55 k).1 rfl (Nat.le_of_ble_eq_true rfl) (Nat.le_of_ble_eq_true rfl) h (fun q3 T3 M3 h => ?_)
    obtain ⟨y3, rfl, rfl, h⟩ := h
    refine z_bipush 24 d_Net_settleDrafts_19 (by decide) ?_
    refine z_icmp_le 28 d_Net_settleDrafts_21 rfl ⟨fun c4 => ?_, fun c4 => ?_⟩
    · replace h := h.1 c4
      refine z_iconst 0 d_Net_settleDrafts_28 (by decide) ?_
      refine z_istore_n (ls' := [some (.ref 50), some (.ref r1), some (.int 0), none, none, none]) d_Net_settleDrafts_29 (Nat.le_of_ble_eq_true rfl) rfl rfl ?_
      refine z_iconst 0 d_Net_settleDrafts_30 (by decide) ?_
      refine z_istore_n (ls' := [some (.ref 50), some (.ref r1), some (.int 0), some (.int 0), none, none]) d_Net_settleDrafts_31 (Nat.le_of_ble_eq_true rfl) rfl rfl ?_
      exact z_forget [some (.ref 50), some (.ref r1), some (.int 0), some (.int 0), none, none] (And.intro rfl (And.intro rfl (And.intro rfl (And.intro rfl (trivial))))) h
    · replace h := h.2 c4
      refine z_iconst 1 d_Net_settleDrafts_24 (by decide) ?_
      refine z_goto 29 d_Net_settleDrafts_25 rfl ?_
      refine z_istore_n (ls' := [some (.ref 50), some (.ref r1), some (.int 1), none, none, none]) d_Net_settleDrafts_29 (Nat.le_of_ble_eq_true rfl) rfl rfl ?_
      refine z_iconst 0 d_Net_settleDrafts_30 (by decide) ?_
      refine z_istore_n (ls' := [some (.ref 50), some (.ref r1), some (.int 1), some (.int 0), none, none]) d_Net_settleDrafts_31 (Nat.le_of_ble_eq_true rfl) rfl rfl ?_
      exact z_forget [some (.ref 50), some (.ref r1), some (.int 1), some (.int 0), none, none] (And.intro rfl (And.intro rfl (And.intro rfl (And.intro rfl (trivial))))) h

set_option maxRecDepth 20000 in
theorem vc_Net_settleDrafts_32 (E : ZE) (k : Nat) (M : ZM) (r1 : Nat) (x2 : Int32) (x3 : Int32) (Φ : Option Value → ZS → ZM → Prop) (h1 : zNode (zSt k) r1) (h : zW E m_Row_size 0 (zSt k) M 0 [some (.ref 57)] [] (fun q1 T1 M1 => ∃ y1 : Int32, q1 = some (.int y1) ∧ (zSt k) = T1 ∧ (y1 ≤ x3 → zW E m_Row_makeEmpty 0 (zSt k) M1 0 [some (.ref 57)] [] (fun q3 T3 M3 => q3 = none ∧ (zSt k) = T3 ∧ zW E m_Row_makeEmpty 0 (zSt k) M3 0 [some (.ref 59)] [] (fun q4 T4 M4 => q4 = none ∧ (zSt k) = T4 ∧ Φ none (zSt k) M4))) ∧ (¬ y1 ≤ x3 → zW E m_Row_at 0 (zSt k) M1 0 [some (.ref 57), some (.int x3)] [] (fun q5 T5 M5 => ∃ y5 : Int32, q5 = some (.int y5) ∧ (zSt k) = T5 ∧ zW E m_Shorts_anyHopeless 2 (zSt k) M5 0 [some (.ref 45), some (.int y5), none] [] (fun q6 T6 M6 => ∃ y6 : Int32, q6 = some (.int y6) ∧ (zSt k) = T6 ∧ (y6 = 0 → (x2 = 0 → zW E m_Net_metBefore 1 (zSt k) M6 0 [some (.ref 50), some (.int y5), none, none, none, none] [] (fun q9 T9 M9 => ∃ o9 : Option Nat, q9 = some (va_rf o9) ∧ (zSt k) = T9 ∧ (o9 = none → (¬ x2 = 0 → ∀ M11 : ZM, M11 = zms M9 r1 10 1 → ∀ y12 : Int32, y12 = x3 + 1 → zW E m_Net_settleDrafts 4 (zSt k) M11 32 [some (.ref 50), some (.ref r1), some (.int x2), some (.int y12), none, none] [] Φ) ∧ (x2 = 0 → zW E m_Net_meet 3 (zSt k) M9 0 [some (.ref 50), some (.int y5), none, none] [] (fun q13 T13 M13 => ∃ k13 : Nat, ∃ o13 : Option Nat, q13 = some (va_rf o13) ∧ (zSt k13) = T13 ∧ zNode (zSt k13) r1 ∧ (o13 = none → ∀ M14 : ZM, M14 = zms M13 r1 10 1 → ∀ y15 : Int32, y15 = x3 + 1 → zW E m_Net_settleDrafts 4 (zSt k13) M14 32 [some (.ref 50), some (.ref r1), some (.int x2), some (.int y15), none, none] [] Φ) ∧ (∀ b13 : Nat, o13 = some b13 → zNode (zSt k13) b13 ∧ (zW E m_Row_at 0 (zSt k13) M13 0 [some (.ref 59), some (.int x3)] [] (fun q16 T16 M16 => ∃ y16 : Int32, q16 = some (.int y16) ∧ (zSt k13) = T16 ∧ zW E m_Node_addMove 1 (zSt k13) M16 0 [some (.ref r1), some (.ref b13), some (.int y16)] [] (fun q17 T17 M17 => q17 = none ∧ (zSt k13) = T17 ∧ ∀ y18 : Int32, y18 = x3 + 1 → zW E m_Net_settleDrafts 4 (zSt k13) M17 32 [some (.ref 50), some (.ref r1), some (.int x2), some (.int y18), none, none] [] Φ))))))) ∧ (∀ b9 : Nat, o9 = some b9 → zNode (zSt k) b9 ∧ (zW E m_Row_at 0 (zSt k) M9 0 [some (.ref 59), some (.int x3)] [] (fun q19 T19 M19 => ∃ y19 : Int32, q19 = some (.int y19) ∧ (zSt k) = T19 ∧ zW E m_Node_addMove 1 (zSt k) M19 0 [some (.ref r1), some (.ref b9), some (.int y19)] [] (fun q20 T20 M20 => q20 = none ∧ (zSt k) = T20 ∧ ∀ y21 : Int32, y21 = x3 + 1 → zW E m_Net_settleDrafts 4 (zSt k) M20 32 [some (.ref 50), some (.ref r1), some (.int x2), some (.int y21), none, none] [] Φ)))))) ∧ (¬ x2 = 0 → (¬ x2 = 0 → ∀ M23 : ZM, M23 = zms M6 r1 10 1 → ∀ y24 : Int32, y24 = x3 + 1 → zW E m_Net_settleDrafts 4 (zSt k) M23 32 [some (.ref 50), some (.ref r1), some (.int x2), some (.int y24), none, none] [] Φ) ∧ (x2 = 0 → zW E m_Net_meet 3 (zSt k) M6 0 [some (.ref 50), some (.int y5), none, none] [] (fun q25 T25 M25 => ∃ k25 : Nat, ∃ o25 : Option Nat, q25 = some (va_rf o25) ∧ (zSt k25) = T25 ∧ zNode (zSt k25) r1 ∧ (o25 = none → ∀ M26 : ZM, M26 = zms M25 r1 10 1 → ∀ y27 : Int32, y27 = x3 + 1 → zW E m_Net_settleDrafts 4 (zSt k25) M26 32 [some (.ref 50), some (.ref r1), some (.int x2), some (.int y27), none, none] [] Φ) ∧ (∀ b25 : Nat, o25 = some b25 → zNode (zSt k25) b25 ∧ (zW E m_Row_at 0 (zSt k25) M25 0 [some (.ref 59), some (.int x3)] [] (fun q28 T28 M28 => ∃ y28 : Int32, q28 = some (.int y28) ∧ (zSt k25) = T28 ∧ zW E m_Node_addMove 1 (zSt k25) M28 0 [some (.ref r1), some (.ref b25), some (.int y28)] [] (fun q29 T29 M29 => q29 = none ∧ (zSt k25) = T29 ∧ ∀ y30 : Int32, y30 = x3 + 1 → zW E m_Net_settleDrafts 4 (zSt k25) M29 32 [some (.ref 50), some (.ref r1), some (.int x2), some (.int y30), none, none] [] Φ)))))))) ∧ (¬ y6 = 0 → ∀ y31 : Int32, y31 = x3 + 1 → zW E m_Net_settleDrafts 4 (zSt k) M6 32 [some (.ref 50), some (.ref r1), some (.int x2), some (.int y31), none, none] [] Φ)))))) : zW E m_Net_settleDrafts 4 (zSt k) M 32 [some (.ref 50), some (.ref r1), some (.int x2), some (.int x3), none, none] [] Φ := by
  refine z_iload_n d_Net_settleDrafts_32 rfl ?_
  refine z_aload_n d_Net_settleDrafts_33 rfl ?_
  refine z_getr f_Net_33 rfl d_Net_settleDrafts_34 (tA_50 k) (tr_50_6 k) ?_
  refine z_callV (as := []) (st := [.int x3]) i_Row_size ⟨rfl, rfl⟩ v_Row_size w_Row_size l_Net_192 d_Net_settleDrafts_37 (by decide) (ts_57 k).1 rfl (Nat.le_of_ble_eq_true rfl) (Nat.le_of_ble_eq_true rfl) h (fun q1 T1 M1 h => ?_)
  obtain ⟨y1, rfl, rfl, h⟩ := h
  refine z_icmp_ge 134 d_Net_settleDrafts_40 rfl ⟨fun c2 => ?_, fun c2 => ?_⟩
  · replace h := h.1 c2
    refine z_aload_n d_Net_settleDrafts_134 rfl ?_
    refine z_getr f_Net_33 rfl d_Net_settleDrafts_135 (tA_50 k) (tr_50_6 k) ?_
    refine z_callV (as := []) (st := []) i_Row_makeEmpty ⟨rfl, rfl⟩ v_Row_makeEmpty w_Row_makeEmpty l_Net_201 d_Net_settleDrafts_138 (by decide) (ts_57 k).1 rfl (Nat.le_of_ble_eq_true rfl) (Nat.le_of_ble_eq_true rfl) h (fun q3 T3 M3 h => ?_)
    obtain ⟨rfl, rfl, h⟩ := h
    refine z_aload_n d_Net_settleDrafts_141 rfl ?_
    refine z_getr f_Net_36 rfl d_Net_settleDrafts_142 (tA_50 k) (tr_50_7 k) ?_
    refine z_callV (as := []) (st := []) i_Row_makeEmpty ⟨rfl, rfl⟩ v_Row_makeEmpty w_Row_makeEmpty l_Net_201 d_Net_settleDrafts_145 (by decide) (ts_59 k).1 rfl (Nat.le_of_ble_eq_true rfl) (Nat.le_of_ble_eq_true rfl) h (fun q4 T4 M4 h => ?_)
    obtain ⟨rfl, rfl, h⟩ := h
    exact z_vret rfl d_Net_settleDrafts_148 h
  · replace h := h.2 c2
    refine z_aload_n d_Net_settleDrafts_43 rfl ?_
    refine z_getr f_Net_33 rfl d_Net_settleDrafts_44 (tA_50 k) (tr_50_6 k) ?_
    refine z_iload_n d_Net_settleDrafts_47 rfl ?_
    refine z_callV (as := [.int x3]) (st := []) i_Row_at ⟨rfl, rfl⟩ v_Row_at w_Row_at l_Net_97 d_Net_settleDrafts_48 (by decide) (ts_57 k).1 rfl (Nat.le_of_ble_eq_true rfl) (Nat.le_of_ble_eq_true rfl) h (fun q5 T5 M5 h => ?_)
    obtain ⟨y5, rfl, rfl, h⟩ := h
    refine z_istore (ls' := [some (.ref 50), some (.ref r1), some (.int x2), some (.int x3), some (.int y5), none]) d_Net_settleDrafts_51 (Nat.le_of_ble_eq_true rfl) rfl rfl ?_
    refine z_aload_n d_Net_settleDrafts_53 rfl ?_
    refine z_getr f_Net_43 rfl d_Net_settleDrafts_54 (tA_50 k) (tr_50_1 k) ?_
    refine z_iload d_Net_settleDrafts_57 rfl ?_
    refine z_callV (as := [.int y5]) (st := []) i_Shorts_anyHopeless ⟨rfl, rfl⟩ v_Shorts_anyHopeless w_Shorts_anyHopeless l_Net_102 d_Net_settleDrafts_59 (by decide) (tA_45 k) rfl (Nat.le_of_ble_eq_true rfl) (Nat.le_of_ble_eq_true rfl) h (fun q6 T6 M6 h => ?_)
    obtain ⟨y6, rfl, rfl, h⟩ := h
    refine z_if_eq 68 d_Net_settleDrafts_62 rfl ⟨fun c7 => ?_, fun c7 => ?_⟩
    · replace h := h.1 c7
      refine z_iload_n d_Net_settleDrafts_68 rfl ?_
      refine z_if_eq 76 d_Net_settleDrafts_69 rfl ⟨fun c8 => ?_, fun c8 => ?_⟩
      · replace h := h.1 c8
        refine z_aload_n d_Net_settleDrafts_76 rfl ?_
        refine z_iload d_Net_settleDrafts_77 rfl ?_
        refine z_callV (as := [.int y5]) (st := []) i_Net_metBefore ⟨rfl, rfl⟩ v_Net_metBefore w_Net_metBefore l_Net_195 d_Net_settleDrafts_79 (by decide) (tA_50 k) rfl (Nat.le_of_ble_eq_true rfl) (Nat.le_of_ble_eq_true rfl) h (fun q9 T9 M9 h => ?_)
        obtain ⟨o9, rfl, rfl, h⟩ := h
        cases o9 with
        | none =>
          replace h := h.1 rfl
          refine z_astoreN (ls' := [some (.ref 50), some (.ref r1), some (.int x2), some (.int x3), some (.int y5), some .null]) d_Net_settleDrafts_82 (Nat.le_of_ble_eq_true rfl) rfl rfl ?_
          refine z_aloadN d_Net_settleDrafts_84 rfl ?_
          refine z_ifnonnullN d_Net_settleDrafts_86 ?_
          refine z_iload_n d_Net_settleDrafts_89 rfl ?_
          refine z_if_ne 101 d_Net_settleDrafts_90 rfl ⟨fun c10 => ?_, fun c10 => ?_⟩
          · replace h := h.1 c10
            refine z_aloadN d_Net_settleDrafts_101 rfl ?_
            refine z_ifnonnullN d_Net_settleDrafts_103 ?_
            refine z_aload_n d_Net_settleDrafts_106 rfl ?_
            refine z_iconst 1 d_Net_settleDrafts_107 (by decide) ?_
            refine z_puti (p_Net_123 rfl) rfl d_Net_settleDrafts_108 h1.1 rfl rfl ?_
            refine z_mem (fun M11 eM11 => ?_)
            replace h := h M11 eM11
            refine z_goto 128 d_Net_settleDrafts_111 rfl ?_
            obtain ⟨y12, ey12⟩ : ∃ q : Int32, q = x3 + 1 := ⟨_, rfl⟩
            replace h := h y12 ey12
            refine z_iinc (ls' := [some (.ref 50), some (.ref r1), some (.int x2), some (.int y12), some (.int y5), some .null]) y12 d_Net_settleDrafts_128 rfl (ey12 ▸ rfl) (Nat.le_of_ble_eq_true rfl) rfl rfl ?_
            refine z_goto 32 d_Net_settleDrafts_131 rfl ?_
            exact z_forget [some (.ref 50), some (.ref r1), some (.int x2), some (.int y12), none, none] (And.intro rfl (And.intro rfl (And.intro rfl (And.intro rfl (trivial))))) h
          · replace h := h.2 c10
            refine z_aload_n d_Net_settleDrafts_93 rfl ?_
            refine z_iload d_Net_settleDrafts_94 rfl ?_
            refine z_callV (as := [.int y5]) (st := []) i_Net_meet ⟨rfl, rfl⟩ v_Net_meet w_Net_meet l_Net_80 d_Net_settleDrafts_96 (by decide) (tA_50 k) rfl (Nat.le_of_ble_eq_true rfl) (Nat.le_of_ble_eq_true rfl) h (fun q13 T13 M13 h => ?_)
            obtain ⟨k13, o13, rfl, rfl, h1_13, h⟩ := h
            cases o13 with
            | none =>
              replace h := h.1 rfl
              refine z_astoreN (ls' := [some (.ref 50), some (.ref r1), some (.int x2), some (.int x3), some (.int y5), some .null]) d_Net_settleDrafts_99 (Nat.le_of_ble_eq_true rfl) rfl rfl ?_
              refine z_aloadN d_Net_settleDrafts_101 rfl ?_
              refine z_ifnonnullN d_Net_settleDrafts_103 ?_
              refine z_aload_n d_Net_settleDrafts_106 rfl ?_
              refine z_iconst 1 d_Net_settleDrafts_107 (by decide) ?_
              refine z_puti (p_Net_123 rfl) rfl d_Net_settleDrafts_108 h1_13.1 rfl rfl ?_
              refine z_mem (fun M14 eM14 => ?_)
              replace h := h M14 eM14
              refine z_goto 128 d_Net_settleDrafts_111 rfl ?_
              obtain ⟨y15, ey15⟩ : ∃ q : Int32, q = x3 + 1 := ⟨_, rfl⟩
              replace h := h y15 ey15
              refine z_iinc (ls' := [some (.ref 50), some (.ref r1), some (.int x2), some (.int y15), some (.int y5), some .null]) y15 d_Net_settleDrafts_128 rfl (ey15 ▸ rfl) (Nat.le_of_ble_eq_true rfl) rfl rfl ?_
              refine z_goto 32 d_Net_settleDrafts_131 rfl ?_
              exact z_forget [some (.ref 50), some (.ref r1), some (.int x2), some (.int y15), none, none] (And.intro rfl (And.intro rfl (And.intro rfl (And.intro rfl (trivial))))) h
            | some b13 =>
              obtain ⟨zb13, h⟩ := h.2 b13 rfl
              refine z_astore (ls' := [some (.ref 50), some (.ref r1), some (.int x2), some (.int x3), some (.int y5), some (.ref b13)]) d_Net_settleDrafts_99 (Nat.le_of_ble_eq_true rfl) rfl rfl ?_
              refine z_aload d_Net_settleDrafts_101 rfl ?_
              refine z_ifnonnull 114 d_Net_settleDrafts_103 rfl ?_
              refine z_aload_n d_Net_settleDrafts_114 rfl ?_
              refine z_aload d_Net_settleDrafts_115 rfl ?_
              refine z_aload_n d_Net_settleDrafts_117 rfl ?_
              refine z_getr f_Net_36 rfl d_Net_settleDrafts_118 (tA_50 k13) (tr_50_7 k13) ?_
              refine z_iload_n d_Net_settleDrafts_121 rfl ?_
              refine z_callV (as := [.int x3]) (st := [.ref b13, .ref r1]) i_Row_at ⟨rfl, rfl⟩ v_Row_at w_Row_at l_Net_97 d_Net_settleDrafts_122 (by decide) (ts_59 k13).1 rfl (Nat.le_of_ble_eq_true rfl) (Nat.le_of_ble_eq_true rfl) h (fun q16 T16 M16 h => ?_)
              obtain ⟨y16, rfl, rfl, h⟩ := h
              refine z_callV (as := [.ref b13, .int y16]) (st := []) i_Node_addMove ⟨rfl, rfl⟩ v_Node_addMove w_Node_addMove l_Net_198 d_Net_settleDrafts_125 (by decide) h1_13.1 rfl (Nat.le_of_ble_eq_true rfl) (Nat.le_of_ble_eq_true rfl) h (fun q17 T17 M17 h => ?_)
              obtain ⟨rfl, rfl, h⟩ := h
              obtain ⟨y18, ey18⟩ : ∃ q : Int32, q = x3 + 1 := ⟨_, rfl⟩
              replace h := h y18 ey18
              refine z_iinc (ls' := [some (.ref 50), some (.ref r1), some (.int x2), some (.int y18), some (.int y5), some (.ref b13)]) y18 d_Net_settleDrafts_128 rfl (ey18 ▸ rfl) (Nat.le_of_ble_eq_true rfl) rfl rfl ?_
              refine z_goto 32 d_Net_settleDrafts_131 rfl ?_
              exact z_forget [some (.ref 50), some (.ref r1), some (.int x2), some (.int y18), none, none] (And.intro rfl (And.intro rfl (And.intro rfl (And.intro rfl (trivial))))) h
        | some b9 =>
          obtain ⟨zb9, h⟩ := h.2 b9 rfl
          refine z_astore (ls' := [some (.ref 50), some (.ref r1), some (.int x2), some (.int x3), some (.int y5), some (.ref b9)]) d_Net_settleDrafts_82 (Nat.le_of_ble_eq_true rfl) rfl rfl ?_
          refine z_aload d_Net_settleDrafts_84 rfl ?_
          refine z_ifnonnull 101 d_Net_settleDrafts_86 rfl ?_
          refine z_aload d_Net_settleDrafts_101 rfl ?_
          refine z_ifnonnull 114 d_Net_settleDrafts_103 rfl ?_
          refine z_aload_n d_Net_settleDrafts_114 rfl ?_
          refine z_aload d_Net_settleDrafts_115 rfl ?_
          refine z_aload_n d_Net_settleDrafts_117 rfl ?_
          refine z_getr f_Net_36 rfl d_Net_settleDrafts_118 (tA_50 k) (tr_50_7 k) ?_
          refine z_iload_n d_Net_settleDrafts_121 rfl ?_
          refine z_callV (as := [.int x3]) (st := [.ref b9, .ref r1]) i_Row_at ⟨rfl, rfl⟩ v_Row_at w_Row_at l_Net_97 d_Net_settleDrafts_122 (by decide) (ts_59 k).1 rfl (Nat.le_of_ble_eq_true rfl) (Nat.le_of_ble_eq_true rfl) h (fun q19 T19 M19 h => ?_)
          obtain ⟨y19, rfl, rfl, h⟩ := h
          refine z_callV (as := [.ref b9, .int y19]) (st := []) i_Node_addMove ⟨rfl, rfl⟩ v_Node_addMove w_Node_addMove l_Net_198 d_Net_settleDrafts_125 (by decide) h1.1 rfl (Nat.le_of_ble_eq_true rfl) (Nat.le_of_ble_eq_true rfl) h (fun q20 T20 M20 h => ?_)
          obtain ⟨rfl, rfl, h⟩ := h
          obtain ⟨y21, ey21⟩ : ∃ q : Int32, q = x3 + 1 := ⟨_, rfl⟩
          replace h := h y21 ey21
          refine z_iinc (ls' := [some (.ref 50), some (.ref r1), some (.int x2), some (.int y21), some (.int y5), some (.ref b9)]) y21 d_Net_settleDrafts_128 rfl (ey21 ▸ rfl) (Nat.le_of_ble_eq_true rfl) rfl rfl ?_
          refine z_goto 32 d_Net_settleDrafts_131 rfl ?_
          exact z_forget [some (.ref 50), some (.ref r1), some (.int x2), some (.int y21), none, none] (And.intro rfl (And.intro rfl (And.intro rfl (And.intro rfl (trivial))))) h
      · replace h := h.2 c8
        refine z_null d_Net_settleDrafts_72 ?_
        refine z_goto 82 d_Net_settleDrafts_73 rfl ?_
        refine z_astoreN (ls' := [some (.ref 50), some (.ref r1), some (.int x2), some (.int x3), some (.int y5), some .null]) d_Net_settleDrafts_82 (Nat.le_of_ble_eq_true rfl) rfl rfl ?_
        refine z_aloadN d_Net_settleDrafts_84 rfl ?_
        refine z_ifnonnullN d_Net_settleDrafts_86 ?_
        refine z_iload_n d_Net_settleDrafts_89 rfl ?_
        refine z_if_ne 101 d_Net_settleDrafts_90 rfl ⟨fun c22 => ?_, fun c22 => ?_⟩
        · replace h := h.1 c22
          refine z_aloadN d_Net_settleDrafts_101 rfl ?_
          refine z_ifnonnullN d_Net_settleDrafts_103 ?_
          refine z_aload_n d_Net_settleDrafts_106 rfl ?_
          refine z_iconst 1 d_Net_settleDrafts_107 (by decide) ?_
          refine z_puti (p_Net_123 rfl) rfl d_Net_settleDrafts_108 h1.1 rfl rfl ?_
          refine z_mem (fun M23 eM23 => ?_)
          replace h := h M23 eM23
          refine z_goto 128 d_Net_settleDrafts_111 rfl ?_
          obtain ⟨y24, ey24⟩ : ∃ q : Int32, q = x3 + 1 := ⟨_, rfl⟩
          replace h := h y24 ey24
          refine z_iinc (ls' := [some (.ref 50), some (.ref r1), some (.int x2), some (.int y24), some (.int y5), some .null]) y24 d_Net_settleDrafts_128 rfl (ey24 ▸ rfl) (Nat.le_of_ble_eq_true rfl) rfl rfl ?_
          refine z_goto 32 d_Net_settleDrafts_131 rfl ?_
          exact z_forget [some (.ref 50), some (.ref r1), some (.int x2), some (.int y24), none, none] (And.intro rfl (And.intro rfl (And.intro rfl (And.intro rfl (trivial))))) h
        · replace h := h.2 c22
          refine z_aload_n d_Net_settleDrafts_93 rfl ?_
          refine z_iload d_Net_settleDrafts_94 rfl ?_
          refine z_callV (as := [.int y5]) (st := []) i_Net_meet ⟨rfl, rfl⟩ v_Net_meet w_Net_meet l_Net_80 d_Net_settleDrafts_96 (by decide) (tA_50 k) rfl (Nat.le_of_ble_eq_true rfl) (Nat.le_of_ble_eq_true rfl) h (fun q25 T25 M25 h => ?_)
          obtain ⟨k25, o25, rfl, rfl, h1_25, h⟩ := h
          cases o25 with
          | none =>
            replace h := h.1 rfl
            refine z_astoreN (ls' := [some (.ref 50), some (.ref r1), some (.int x2), some (.int x3), some (.int y5), some .null]) d_Net_settleDrafts_99 (Nat.le_of_ble_eq_true rfl) rfl rfl ?_
            refine z_aloadN d_Net_settleDrafts_101 rfl ?_
            refine z_ifnonnullN d_Net_settleDrafts_103 ?_
            refine z_aload_n d_Net_settleDrafts_106 rfl ?_
            refine z_iconst 1 d_Net_settleDrafts_107 (by decide) ?_
            refine z_puti (p_Net_123 rfl) rfl d_Net_settleDrafts_108 h1_25.1 rfl rfl ?_
            refine z_mem (fun M26 eM26 => ?_)
            replace h := h M26 eM26
            refine z_goto 128 d_Net_settleDrafts_111 rfl ?_
            obtain ⟨y27, ey27⟩ : ∃ q : Int32, q = x3 + 1 := ⟨_, rfl⟩
            replace h := h y27 ey27
            refine z_iinc (ls' := [some (.ref 50), some (.ref r1), some (.int x2), some (.int y27), some (.int y5), some .null]) y27 d_Net_settleDrafts_128 rfl (ey27 ▸ rfl) (Nat.le_of_ble_eq_true rfl) rfl rfl ?_
            refine z_goto 32 d_Net_settleDrafts_131 rfl ?_
            exact z_forget [some (.ref 50), some (.ref r1), some (.int x2), some (.int y27), none, none] (And.intro rfl (And.intro rfl (And.intro rfl (And.intro rfl (trivial))))) h
          | some b25 =>
            obtain ⟨zb25, h⟩ := h.2 b25 rfl
            refine z_astore (ls' := [some (.ref 50), some (.ref r1), some (.int x2), some (.int x3), some (.int y5), some (.ref b25)]) d_Net_settleDrafts_99 (Nat.le_of_ble_eq_true rfl) rfl rfl ?_
            refine z_aload d_Net_settleDrafts_101 rfl ?_
            refine z_ifnonnull 114 d_Net_settleDrafts_103 rfl ?_
            refine z_aload_n d_Net_settleDrafts_114 rfl ?_
            refine z_aload d_Net_settleDrafts_115 rfl ?_
            refine z_aload_n d_Net_settleDrafts_117 rfl ?_
            refine z_getr f_Net_36 rfl d_Net_settleDrafts_118 (tA_50 k25) (tr_50_7 k25) ?_
            refine z_iload_n d_Net_settleDrafts_121 rfl ?_
            refine z_callV (as := [.int x3]) (st := [.ref b25, .ref r1]) i_Row_at ⟨rfl, rfl⟩ v_Row_at w_Row_at l_Net_97 d_Net_settleDrafts_122 (by decide) (ts_59 k25).1 rfl (Nat.le_of_ble_eq_true rfl) (Nat.le_of_ble_eq_true rfl) h (fun q28 T28 M28 h => ?_)
            obtain ⟨y28, rfl, rfl, h⟩ := h
            refine z_callV (as := [.ref b25, .int y28]) (st := []) i_Node_addMove ⟨rfl, rfl⟩ v_Node_addMove w_Node_addMove l_Net_198 d_Net_settleDrafts_125 (by decide) h1_25.1 rfl (Nat.le_of_ble_eq_true rfl) (Nat.le_of_ble_eq_true rfl) h (fun q29 T29 M29 h => ?_)
            obtain ⟨rfl, rfl, h⟩ := h
            obtain ⟨y30, ey30⟩ : ∃ q : Int32, q = x3 + 1 := ⟨_, rfl⟩
            replace h := h y30 ey30
            refine z_iinc (ls' := [some (.ref 50), some (.ref r1), some (.int x2), some (.int y30), some (.int y5), some (.ref b25)]) y30 d_Net_settleDrafts_128 rfl (ey30 ▸ rfl) (Nat.le_of_ble_eq_true rfl) rfl rfl ?_
            refine z_goto 32 d_Net_settleDrafts_131 rfl ?_
            exact z_forget [some (.ref 50), some (.ref r1), some (.int x2), some (.int y30), none, none] (And.intro rfl (And.intro rfl (And.intro rfl (And.intro rfl (trivial))))) h
    · replace h := h.2 c7
      refine z_goto 128 d_Net_settleDrafts_65 rfl ?_
      obtain ⟨y31, ey31⟩ : ∃ q : Int32, q = x3 + 1 := ⟨_, rfl⟩
      replace h := h y31 ey31
      refine z_iinc (ls' := [some (.ref 50), some (.ref r1), some (.int x2), some (.int y31), some (.int y5), none]) y31 d_Net_settleDrafts_128 rfl (ey31 ▸ rfl) (Nat.le_of_ble_eq_true rfl) rfl rfl ?_
      refine z_goto 32 d_Net_settleDrafts_131 rfl ?_
      exact z_forget [some (.ref 50), some (.ref r1), some (.int x2), some (.int y31), none, none] (And.intro rfl (And.intro rfl (And.intro rfl (And.intro rfl (trivial))))) h

set_option maxRecDepth 20000 in
theorem vc_Net_bucketOf_0 (E : ZE) (k : Nat) (M : ZM) (x1 : Int32) (Φ : Option Value → ZS → ZM → Prop)  (h : ∀ y1 : Int32, y1 = (((M 50 8) ^^^ (x1 * 31)) * (-1640531535)) → Φ (some (.int (((Int32.toUInt32 y1 >>> (Int32.toUInt32 24 &&& Int32.toUInt32 31)).toInt32) &&& 255))) (zSt k) M) : zW E m_Net_bucketOf 0 (zSt k) M 0 [some (.ref 50), some (.int x1), none] [] Φ := by
  refine z_aload_n d_Net_bucketOf_0 rfl ?_
  refine z_geti f_Net_190 rfl d_Net_bucketOf_1 (tA_50 k) ?_
  refine z_iload_n d_Net_bucketOf_4 rfl ?_
  refine z_bipush 31 d_Net_bucketOf_5 (by decide) ?_
  refine z_imul d_Net_bucketOf_7 ?_
  refine z_ixor d_Net_bucketOf_8 ?_
  refine z_ldc (-1640531535) d_Net_bucketOf_9 k_Net_204 ?_
  refine z_imul d_Net_bucketOf_11 ?_
  refine z_name (fun y1 ey1 => ?_)
  replace h := h y1 ey1
  refine z_istore_n (ls' := [some (.ref 50), some (.int x1), some (.int y1)]) d_Net_bucketOf_12 (Nat.le_of_ble_eq_true rfl) rfl rfl ?_
  refine z_iload_n d_Net_bucketOf_13 rfl ?_
  refine z_bipush 24 d_Net_bucketOf_14 (by decide) ?_
  refine z_iushr d_Net_bucketOf_16 ?_
  refine z_sipush 255 d_Net_bucketOf_17 (by decide) ?_
  refine z_iand d_Net_bucketOf_20 ?_
  exact z_iret rfl d_Net_bucketOf_21 h

set_option maxRecDepth 20000 in
theorem vc_Net_metBefore_0 (E : ZE) (k : Nat) (M : ZM) (x1 : Int32) (Φ : Option Value → ZS → ZM → Prop)  (h : zW E m_Net_bucketOf 0 (zSt k) M 0 [some (.ref 50), some (.int x1), none] [] (fun q1 T1 M1 => ∃ y1 : Int32, q1 = some (.int y1) ∧ (zSt k) = T1 ∧ ∃ j2 : Nat, j2 < 256 ∧ y1 = nI j2 ∧ (∀ y3 : Int32, y3 = (M1 52 j2) → zW E m_Net_metBefore 1 (zSt k) M1 16 [some (.ref 50), some (.int x1), none, some (.int y3), some (.int 0), none] [] Φ))) : zW E m_Net_metBefore 1 (zSt k) M 0 [some (.ref 50), some (.int x1), none, none, none, none] [] Φ := by
  refine z_aload_n d_Net_metBefore_0 rfl ?_
  refine z_iload_n d_Net_metBefore_1 rfl ?_
  refine z_callV (as := [.int x1]) (st := []) i_Net_bucketOf ⟨rfl, rfl⟩ v_Net_bucketOf w_Net_bucketOf l_Net_205 d_Net_metBefore_2 (by decide) (tA_50 k) rfl (Nat.le_of_ble_eq_true rfl) (Nat.le_of_ble_eq_true rfl) h (fun q1 T1 M1 h => ?_)
  obtain ⟨y1, rfl, rfl, h⟩ := h
  refine z_istore_n (ls' := [some (.ref 50), some (.int x1), some (.int y1), none, none, none]) d_Net_metBefore_5 (Nat.le_of_ble_eq_true rfl) rfl rfl ?_
  refine z_aload_n d_Net_metBefore_6 rfl ?_
  refine z_getr f_Net_17 rfl d_Net_metBefore_7 (tA_50 k) (tr_50_3 k) ?_
  refine z_iload_n d_Net_metBefore_10 rfl ?_
  obtain ⟨j2, hj2, ej2, h⟩ := h
  refine y_iaload j2 d_Net_metBefore_11 (ta_52 k) hj2 ej2 ?_
  refine z_name (fun y3 ey3 => ?_)
  replace h := h y3 ey3
  refine z_istore_n (ls' := [some (.ref 50), some (.int x1), some (.int y1), some (.int y3), none, none]) d_Net_metBefore_12 (Nat.le_of_ble_eq_true rfl) rfl rfl ?_
  refine z_iconst 0 d_Net_metBefore_13 (by decide) ?_
  refine z_istore (ls' := [some (.ref 50), some (.int x1), some (.int y1), some (.int y3), some (.int 0), none]) d_Net_metBefore_14 (Nat.le_of_ble_eq_true rfl) rfl rfl ?_
  exact z_forget [some (.ref 50), some (.int x1), none, some (.int y3), some (.int 0), none] (And.intro rfl (And.intro rfl (And.intro rfl (And.intro rfl (trivial))))) h

set_option maxRecDepth 20000 in
theorem vc_Net_metBefore_16 (E : ZE) (k : Nat) (M : ZM) (x1 : Int32) (x3 : Int32) (x4 : Int32) (Φ : Option Value → ZS → ZM → Prop)  (h : (150 ≤ x4 → Φ (some (va_rf none)) (zSt k) M) ∧ (¬ 150 ≤ x4 → zW E m_Net_at 0 (zSt k) M 0 [some (.ref 50), some (.int x3)] [] (fun q2 T2 M2 => ∃ o2 : Option Nat, q2 = some (va_rf o2) ∧ (zSt k) = T2 ∧ (o2 = none → Φ (some (va_rf none)) (zSt k) M2) ∧ (∀ b2 : Nat, o2 = some b2 → zNode (zSt k) b2 ∧ ((¬ (M2 b2 5) = x1 → ∀ y4 : Int32, y4 = (M2 b2 9) → ∀ y5 : Int32, y5 = x4 + 1 → zW E m_Net_metBefore 1 (zSt k) M2 16 [some (.ref 50), some (.int x1), none, some (.int y4), some (.int y5), none] [] Φ) ∧ ((M2 b2 5) = x1 → zW E m_Row_sameAs 0 (zSt k) M2 0 [some (.ref (b2 + 1)), some (.ref 53), none] [] (fun q6 T6 M6 => ∃ y6 : Int32, q6 = some (.int y6) ∧ (zSt k) = T6 ∧ (y6 = 0 → ∀ y8 : Int32, y8 = (M6 b2 9) → ∀ y9 : Int32, y9 = x4 + 1 → zW E m_Net_metBefore 1 (zSt k) M6 16 [some (.ref 50), some (.int x1), none, some (.int y8), some (.int y9), none] [] Φ) ∧ (¬ y6 = 0 → zW E m_Row_sameAs 0 (zSt k) M6 0 [some (.ref (b2 + 3)), some (.ref 55), none] [] (fun q10 T10 M10 => ∃ y10 : Int32, q10 = some (.int y10) ∧ (zSt k) = T10 ∧ (y10 = 0 → ∀ y12 : Int32, y12 = (M10 b2 9) → ∀ y13 : Int32, y13 = x4 + 1 → zW E m_Net_metBefore 1 (zSt k) M10 16 [some (.ref 50), some (.int x1), none, some (.int y12), some (.int y13), none] [] Φ) ∧ (¬ y10 = 0 → Φ (some (va_rf (some b2))) (zSt k) M10)))))))))) : zW E m_Net_metBefore 1 (zSt k) M 16 [some (.ref 50), some (.int x1), none, some (.int x3), some (.int x4), none] [] Φ := by
  refine z_iload d_Net_metBefore_16 rfl ?_
  refine z_sipush 150 d_Net_metBefore_18 (by decide) ?_
  refine z_icmp_ge 92 d_Net_metBefore_21 rfl ⟨fun c1 => ?_, fun c1 => ?_⟩
  · replace h := h.1 c1
    refine z_null d_Net_metBefore_92 ?_
    exact z_aret none rfl d_Net_metBefore_93 h
  · replace h := h.2 c1
    refine z_aload_n d_Net_metBefore_24 rfl ?_
    refine z_iload_n d_Net_metBefore_25 rfl ?_
    refine z_callV (as := [.int x3]) (st := []) i_Net_at ⟨rfl, rfl⟩ v_Net_at w_Net_at l_Net_84 d_Net_metBefore_26 (by decide) (tA_50 k) rfl (Nat.le_of_ble_eq_true rfl) (Nat.le_of_ble_eq_true rfl) h (fun q2 T2 M2 h => ?_)
    obtain ⟨o2, rfl, rfl, h⟩ := h
    cases o2 with
    | none =>
      replace h := h.1 rfl
      refine z_astoreN (ls' := [some (.ref 50), some (.int x1), none, some (.int x3), some (.int x4), some .null]) d_Net_metBefore_29 (Nat.le_of_ble_eq_true rfl) rfl rfl ?_
      refine z_aloadN d_Net_metBefore_31 rfl ?_
      refine z_ifnonnullN d_Net_metBefore_33 ?_
      refine z_null d_Net_metBefore_36 ?_
      exact z_aret none rfl d_Net_metBefore_37 h
    | some b2 =>
      obtain ⟨zb2, h⟩ := h.2 b2 rfl
      refine z_astore (ls' := [some (.ref 50), some (.int x1), none, some (.int x3), some (.int x4), some (.ref b2)]) d_Net_metBefore_29 (Nat.le_of_ble_eq_true rfl) rfl rfl ?_
      refine z_aload d_Net_metBefore_31 rfl ?_
      refine z_ifnonnull 38 d_Net_metBefore_33 rfl ?_
      refine z_aload d_Net_metBefore_38 rfl ?_
      refine z_geti f_Net_101 rfl d_Net_metBefore_40 zb2.1 ?_
      refine z_iload_n d_Net_metBefore_43 rfl ?_
      refine z_icmp_ne 80 d_Net_metBefore_44 rfl ⟨fun c3 => ?_, fun c3 => ?_⟩
      · replace h := h.1 c3
        refine z_aload d_Net_metBefore_80 rfl ?_
        refine z_geti f_Net_212 rfl d_Net_metBefore_82 zb2.1 ?_
        refine z_name (fun y4 ey4 => ?_)
        replace h := h y4 ey4
        refine z_istore_n (ls' := [some (.ref 50), some (.int x1), none, some (.int y4), some (.int x4), some (.ref b2)]) d_Net_metBefore_85 (Nat.le_of_ble_eq_true rfl) rfl rfl ?_
        obtain ⟨y5, ey5⟩ : ∃ q : Int32, q = x4 + 1 := ⟨_, rfl⟩
        replace h := h y5 ey5
        refine z_iinc (ls' := [some (.ref 50), some (.int x1), none, some (.int y4), some (.int y5), some (.ref b2)]) y5 d_Net_metBefore_86 rfl (ey5 ▸ rfl) (Nat.le_of_ble_eq_true rfl) rfl rfl ?_
        refine z_goto 16 d_Net_metBefore_89 rfl ?_
        exact z_forget [some (.ref 50), some (.int x1), none, some (.int y4), some (.int y5), none] (And.intro rfl (And.intro rfl (And.intro rfl (And.intro rfl (trivial))))) h
      · replace h := h.2 c3
        refine z_aload d_Net_metBefore_47 rfl ?_
        refine z_getr f_Net_96 rfl d_Net_metBefore_49 zb2.1 zb2.2.1.1 ?_
        refine z_aload_n d_Net_metBefore_52 rfl ?_
        refine z_getr f_Net_26 rfl d_Net_metBefore_53 (tA_50 k) (tr_50_4 k) ?_
        refine z_callV (as := [.ref 53]) (st := []) i_Row_sameAs ⟨rfl, rfl⟩ v_Row_sameAs w_Row_sameAs l_Net_208 d_Net_metBefore_56 (by decide) zb2.2.1.2.1 rfl (Nat.le_of_ble_eq_true rfl) (Nat.le_of_ble_eq_true rfl) h (fun q6 T6 M6 h => ?_)
        obtain ⟨y6, rfl, rfl, h⟩ := h
        refine z_if_eq 80 d_Net_metBefore_59 rfl ⟨fun c7 => ?_, fun c7 => ?_⟩
        · replace h := h.1 c7
          refine z_aload d_Net_metBefore_80 rfl ?_
          refine z_geti f_Net_212 rfl d_Net_metBefore_82 zb2.1 ?_
          refine z_name (fun y8 ey8 => ?_)
          replace h := h y8 ey8
          refine z_istore_n (ls' := [some (.ref 50), some (.int x1), none, some (.int y8), some (.int x4), some (.ref b2)]) d_Net_metBefore_85 (Nat.le_of_ble_eq_true rfl) rfl rfl ?_
          obtain ⟨y9, ey9⟩ : ∃ q : Int32, q = x4 + 1 := ⟨_, rfl⟩
          replace h := h y9 ey9
          refine z_iinc (ls' := [some (.ref 50), some (.int x1), none, some (.int y8), some (.int y9), some (.ref b2)]) y9 d_Net_metBefore_86 rfl (ey9 ▸ rfl) (Nat.le_of_ble_eq_true rfl) rfl rfl ?_
          refine z_goto 16 d_Net_metBefore_89 rfl ?_
          exact z_forget [some (.ref 50), some (.int x1), none, some (.int y8), some (.int y9), none] (And.intro rfl (And.intro rfl (And.intro rfl (And.intro rfl (trivial))))) h
        · replace h := h.2 c7
          refine z_aload d_Net_metBefore_62 rfl ?_
          refine z_getr f_Net_100 rfl d_Net_metBefore_64 zb2.1 zb2.2.2.1.1 ?_
          refine z_aload_n d_Net_metBefore_67 rfl ?_
          refine z_getr f_Net_30 rfl d_Net_metBefore_68 (tA_50 k) (tr_50_5 k) ?_
          refine z_callV (as := [.ref 55]) (st := []) i_Row_sameAs ⟨rfl, rfl⟩ v_Row_sameAs w_Row_sameAs l_Net_208 d_Net_metBefore_71 (by decide) zb2.2.2.1.2.1 rfl (Nat.le_of_ble_eq_true rfl) (Nat.le_of_ble_eq_true rfl) h (fun q10 T10 M10 h => ?_)
          obtain ⟨y10, rfl, rfl, h⟩ := h
          refine z_if_eq 80 d_Net_metBefore_74 rfl ⟨fun c11 => ?_, fun c11 => ?_⟩
          · replace h := h.1 c11
            refine z_aload d_Net_metBefore_80 rfl ?_
            refine z_geti f_Net_212 rfl d_Net_metBefore_82 zb2.1 ?_
            refine z_name (fun y12 ey12 => ?_)
            replace h := h y12 ey12
            refine z_istore_n (ls' := [some (.ref 50), some (.int x1), none, some (.int y12), some (.int x4), some (.ref b2)]) d_Net_metBefore_85 (Nat.le_of_ble_eq_true rfl) rfl rfl ?_
            obtain ⟨y13, ey13⟩ : ∃ q : Int32, q = x4 + 1 := ⟨_, rfl⟩
            replace h := h y13 ey13
            refine z_iinc (ls' := [some (.ref 50), some (.int x1), none, some (.int y12), some (.int y13), some (.ref b2)]) y13 d_Net_metBefore_86 rfl (ey13 ▸ rfl) (Nat.le_of_ble_eq_true rfl) rfl rfl ?_
            refine z_goto 16 d_Net_metBefore_89 rfl ?_
            exact z_forget [some (.ref 50), some (.int x1), none, some (.int y12), some (.int y13), none] (And.intro rfl (And.intro rfl (And.intro rfl (And.intro rfl (trivial))))) h
          · replace h := h.2 c11
            refine z_aload d_Net_metBefore_77 rfl ?_
            exact z_aret (some b2) rfl d_Net_metBefore_79 h
