set_option maxRecDepth 20000 in
theorem vc_Net_meet_0 (E : ZE) (k : Nat) (M : ZM) (x1 : Int32) (Φ : Option Value → ZS → ZM → Prop)  (h : ((M 50 9) < 0 → Φ (some (va_rf none)) (zSt k) M) ∧ (¬ (M 50 9) < 0 → ((M 50 9) < 150 → ∃ j3 : Nat, j3 < 150 ∧ (M 50 9) = nI j3 ∧ ((zSt k).2.2.2 51 j3 = none → zW E m_Net_meet 3 (zSt k) M 33 [some (.ref 50), some (.int x1), none, none] [] Φ) ∧ (∀ b5 : Nat, (zSt k).2.2.2 51 j3 = some b5 → zNode (zSt k) b5 ∧ (zW E m_Net_meet 3 (zSt k) M 55 [some (.ref 50), some (.int x1), some (.ref b5), none] [] Φ))) ∧ (¬ (M 50 9) < 150 → Φ (some (va_rf none)) (zSt k) M))) : zW E m_Net_meet 3 (zSt k) M 0 [some (.ref 50), some (.int x1), none, none] [] Φ := by
  refine z_aload_n d_Net_meet_0 rfl ?_
  refine z_geti f_Net_47 rfl d_Net_meet_1 (tA_50 k) ?_
  refine z_if_lt 17 d_Net_meet_4 rfl ⟨fun c1 => ?_, fun c1 => ?_⟩
  · replace h := h.1 c1
    refine z_null d_Net_meet_17 ?_
    exact z_aret none rfl d_Net_meet_18 h
  · replace h := h.2 c1
    refine z_aload_n d_Net_meet_7 rfl ?_
    refine z_geti f_Net_47 rfl d_Net_meet_8 (tA_50 k) ?_
    refine z_sipush 150 d_Net_meet_11 (by decide) ?_
    refine z_icmp_lt 19 d_Net_meet_14 rfl ⟨fun c2 => ?_, fun c2 => ?_⟩
    · replace h := h.1 c2
      refine z_aload_n d_Net_meet_19 rfl ?_
      refine z_getr f_Net_11 rfl d_Net_meet_20 (tA_50 k) (tr_50_2 k) ?_
      refine z_aload_n d_Net_meet_23 rfl ?_
      refine z_geti f_Net_47 rfl d_Net_meet_24 (tA_50 k) ?_
      obtain ⟨j3, hj3, ej3, h⟩ := h
      cases qj3 : (zSt k).2.2.2 51 j3 with
      | none =>
        refine y_aaload j3 none d_Net_meet_27 (tA_51 k) (tP_len k) hj3 ej3 qj3 (by decide) ?_
        replace h := h.1 qj3
        refine z_astore_nN (ls' := [some (.ref 50), some (.int x1), some .null, none]) d_Net_meet_28 (Nat.le_of_ble_eq_true rfl) rfl rfl ?_
        refine z_aload_nN d_Net_meet_29 rfl ?_
        refine z_ifnonnullN d_Net_meet_30 ?_
        exact z_forget [some (.ref 50), some (.int x1), none, none] (And.intro rfl (And.intro rfl (trivial))) h
      | some b5 =>
        refine y_aaload j3 (some b5) d_Net_meet_27 (tA_51 k) (tP_len k) hj3 ej3 qj3 (by decide) ?_
        obtain ⟨zb5, h⟩ := h.2 b5 qj3
        refine z_astore_n (ls' := [some (.ref 50), some (.int x1), some (.ref b5), none]) d_Net_meet_28 (Nat.le_of_ble_eq_true rfl) rfl rfl ?_
        refine z_aload_n d_Net_meet_29 rfl ?_
        refine z_ifnonnull 55 d_Net_meet_30 rfl ?_
        exact z_forget [some (.ref 50), some (.int x1), some (.ref b5), none] (And.intro rfl (And.intro rfl (And.intro rfl (trivial)))) h
    · replace h := h.2 c2
      refine z_null d_Net_meet_17 ?_
      exact z_aret none rfl d_Net_meet_18 h

set_option maxRecDepth 20000 in
theorem vc_Net_meet_55 (E : ZE) (k : Nat) (M : ZM) (x1 : Int32) (r2 : Nat) (Φ : Option Value → ZS → ZM → Prop) (h2 : zNode (zSt k) r2) (h : zW E m_Node_start 1 (zSt k) M 0 [some (.ref r2), some (.int x1), some (.ref 53), some (.ref 55)] [] (fun q1 T1 M1 => q1 = none ∧ (zSt k) = T1 ∧ zW E m_Net_bucketOf 0 (zSt k) M1 0 [some (.ref 50), some (.int x1), none] [] (fun q2 T2 M2 => ∃ y2 : Int32, q2 = some (.int y2) ∧ (zSt k) = T2 ∧ ∃ j3 : Nat, j3 < 256 ∧ y2 = nI j3 ∧ (∀ M4 : ZM, M4 = zms M2 r2 9 (M2 52 j3) → ∃ j5 : Nat, j5 < 256 ∧ y2 = nI j5 ∧ (∀ M6 : ZM, M6 = zms M4 52 j5 (M4 50 9) → ∀ M7 : ZM, M7 = zms M6 50 9 ((M6 50 9) + 1) → Φ (some (va_rf (some r2))) (zSt k) M7))))) : zW E m_Net_meet 3 (zSt k) M 55 [some (.ref 50), some (.int x1), some (.ref r2), none] [] Φ := by
  refine z_aload_n d_Net_meet_55 rfl ?_
  refine z_iload_n d_Net_meet_56 rfl ?_
  refine z_aload_n d_Net_meet_57 rfl ?_
  refine z_getr f_Net_26 rfl d_Net_meet_58 (tA_50 k) (tr_50_4 k) ?_
  refine z_aload_n d_Net_meet_61 rfl ?_
  refine z_getr f_Net_30 rfl d_Net_meet_62 (tA_50 k) (tr_50_5 k) ?_
  refine z_callV (as := [.int x1, .ref 53, .ref 55]) (st := []) i_Node_start ⟨rfl, rfl⟩ v_Node_start w_Node_start l_Net_216 d_Net_meet_65 (by decide) h2.1 rfl (Nat.le_of_ble_eq_true rfl) (Nat.le_of_ble_eq_true rfl) h (fun q1 T1 M1 h => ?_)
  obtain ⟨rfl, rfl, h⟩ := h
  refine z_aload_n d_Net_meet_68 rfl ?_
  refine z_iload_n d_Net_meet_69 rfl ?_
  refine z_callV (as := [.int x1]) (st := []) i_Net_bucketOf ⟨rfl, rfl⟩ v_Net_bucketOf w_Net_bucketOf l_Net_205 d_Net_meet_70 (by decide) (tA_50 k) rfl (Nat.le_of_ble_eq_true rfl) (Nat.le_of_ble_eq_true rfl) h (fun q2 T2 M2 h => ?_)
  obtain ⟨y2, rfl, rfl, h⟩ := h
  refine z_istore_n (ls' := [some (.ref 50), some (.int x1), some (.ref r2), some (.int y2)]) d_Net_meet_73 (Nat.le_of_ble_eq_true rfl) rfl rfl ?_
  refine z_aload_n d_Net_meet_74 rfl ?_
  refine z_aload_n d_Net_meet_75 rfl ?_
  refine z_getr f_Net_17 rfl d_Net_meet_76 (tA_50 k) (tr_50_3 k) ?_
  refine z_iload_n d_Net_meet_79 rfl ?_
  obtain ⟨j3, hj3, ej3, h⟩ := h
  refine y_iaload j3 d_Net_meet_80 (ta_52 k) hj3 ej3 ?_
  refine z_puti (p_Net_212 rfl) rfl d_Net_meet_81 h2.1 rfl rfl ?_
  refine z_mem (fun M4 eM4 => ?_)
  replace h := h M4 eM4
  refine z_aload_n d_Net_meet_84 rfl ?_
  refine z_getr f_Net_17 rfl d_Net_meet_85 (tA_50 k) (tr_50_3 k) ?_
  refine z_iload_n d_Net_meet_88 rfl ?_
  refine z_aload_n d_Net_meet_89 rfl ?_
  refine z_geti f_Net_47 rfl d_Net_meet_90 (tA_50 k) ?_
  obtain ⟨j5, hj5, ej5, h⟩ := h
  refine y_iastore j5 d_Net_meet_93 (ta_52 k) hj5 ej5 ?_
  refine z_mem (fun M6 eM6 => ?_)
  replace h := h M6 eM6
  refine z_aload_n d_Net_meet_94 rfl ?_
  refine z_dup d_Net_meet_95 rfl ?_
  refine z_geti f_Net_47 rfl d_Net_meet_96 (tA_50 k) ?_
  refine z_iconst 1 d_Net_meet_99 (by decide) ?_
  refine z_iadd d_Net_meet_100 ?_
  refine z_puti (p_Net_47 rfl) rfl d_Net_meet_101 (tA_50 k) rfl rfl ?_
  refine z_mem (fun M7 eM7 => ?_)
  replace h := h M7 eM7
  refine z_aload_n d_Net_meet_104 rfl ?_
  exact z_aret (some r2) rfl d_Net_meet_105 h
