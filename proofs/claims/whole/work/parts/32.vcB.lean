set_option maxRecDepth 20000 in
theorem vc_Shorts_forget_0 (E : ZE) (k : Nat) (M : ZM)  (Φ : Option Value → ZS → ZM → Prop)  (h : ∀ M1 : ZM, M1 = zms M 45 6 0 → Φ none (zSt k) M1) : zW E m_Shorts_forget 0 (zSt k) M 0 [some (.ref 45)] [] Φ := by
  refine z_aload_n d_Shorts_forget_0 rfl ?_
  refine z_iconst 0 d_Shorts_forget_1 (by decide) ?_
  refine z_puti (p_Shorts_30 rfl) rfl d_Shorts_forget_2 (tA_45 k) rfl rfl ?_
  refine z_mem (fun M1 eM1 => ?_)
  replace h := h M1 eM1
  exact z_vret rfl d_Shorts_forget_5 h

set_option maxRecDepth 20000 in
theorem vc_Shorts_refresh_0 (E : ZE) (k : Nat) (M : ZM)  (Φ : Option Value → ZS → ZM → Prop)  (h : ((M 45 6) = 0 → zW E m_Arr_fill 0 (zSt k) M 0 [some (.ref 49), some (.int (-1)), none, none] [] (fun q2 T2 M2 => q2 = none ∧ (zSt k) = T2 ∧ ∀ M3 : ZM, M3 = zms M2 45 5 0 → zW E m_Shorts_meet 0 (zSt k) M3 0 [some (.ref 45), some (.int 273), some (.int (-6)), some (.int (-6)), none] [] (fun q4 T4 M4 => q4 = none ∧ (zSt k) = T4 ∧ zW E m_Shorts_refresh 2 (zSt k) M4 34 [some (.ref 45), some (.int 0), none] [] Φ))) ∧ (¬ (M 45 6) = 0 → Φ none (zSt k) M)) : zW E m_Shorts_refresh 2 (zSt k) M 0 [some (.ref 45), none, none] [] Φ := by
  refine z_aload_n d_Shorts_refresh_0 rfl ?_
  refine z_geti f_Shorts_30 rfl d_Shorts_refresh_1 (tA_45 k) ?_
  refine z_if_eq 8 d_Shorts_refresh_4 rfl ⟨fun c1 => ?_, fun c1 => ?_⟩
  · replace h := h.1 c1
    refine z_aload_n d_Shorts_refresh_8 rfl ?_
    refine z_getr f_Shorts_23 rfl d_Shorts_refresh_9 (tA_45 k) (tr_45_4 k) ?_
    refine z_iconst (-1) d_Shorts_refresh_12 (by decide) ?_
    refine z_callS (as := [.ref 49, .int (-1)]) (st := []) i_Arr_fill s_Arr_fill l_Shorts_34 d_Shorts_refresh_13 (by decide) rfl (Nat.le_of_ble_eq_true rfl) (Nat.le_of_ble_eq_true rfl) h (fun q2 T2 M2 h => ?_)
    obtain ⟨rfl, rfl, h⟩ := h
    refine z_aload_n d_Shorts_refresh_16 rfl ?_
    refine z_iconst 0 d_Shorts_refresh_17 (by decide) ?_
    refine z_puti (p_Shorts_40 rfl) rfl d_Shorts_refresh_18 (tA_45 k) rfl rfl ?_
    refine z_mem (fun M3 eM3 => ?_)
    replace h := h M3 eM3
    refine z_aload_n d_Shorts_refresh_21 rfl ?_
    refine z_sipush 273 d_Shorts_refresh_22 (by decide) ?_
    refine z_bipush (-6) d_Shorts_refresh_25 (by decide) ?_
    refine z_bipush (-6) d_Shorts_refresh_27 (by decide) ?_
    refine z_callV (as := [.int 273, .int (-6), .int (-6)]) (st := []) i_Shorts_meet ⟨rfl, rfl⟩ v_Shorts_meet w_Shorts_meet l_Shorts_44 d_Shorts_refresh_29 (by decide) (tA_45 k) rfl (Nat.le_of_ble_eq_true rfl) (Nat.le_of_ble_eq_true rfl) h (fun q4 T4 M4 h => ?_)
    obtain ⟨rfl, rfl, h⟩ := h
    refine z_iconst 0 d_Shorts_refresh_32 (by decide) ?_
    refine z_istore_n (ls' := [some (.ref 45), some (.int 0), none]) d_Shorts_refresh_33 (Nat.le_of_ble_eq_true rfl) rfl rfl ?_
    exact z_forget [some (.ref 45), some (.int 0), none] (And.intro rfl (And.intro rfl (trivial))) h
  · replace h := h.2 c1
    exact z_vret rfl d_Shorts_refresh_7 h

set_option maxRecDepth 20000 in
theorem vc_Shorts_refresh_34 (E : ZE) (k : Nat) (M : ZM) (x1 : Int32) (Φ : Option Value → ZS → ZM → Prop)  (h : (27 ≤ x1 → ∀ M2 : ZM, M2 = zms M 45 6 1 → Φ none (zSt k) M2) ∧ (¬ 27 ≤ x1 → ((M 45 5) ≤ x1 → ∀ M4 : ZM, M4 = zms M 45 6 1 → Φ none (zSt k) M4) ∧ (¬ (M 45 5) ≤ x1 → zW E m_Shorts_refresh 2 (zSt k) M 50 [some (.ref 45), some (.int x1), some (.int 0)] [] Φ))) : zW E m_Shorts_refresh 2 (zSt k) M 34 [some (.ref 45), some (.int x1), none] [] Φ := by
  refine z_iload_n d_Shorts_refresh_34 rfl ?_
  refine z_bipush 27 d_Shorts_refresh_35 (by decide) ?_
  refine z_icmp_ge 87 d_Shorts_refresh_37 rfl ⟨fun c1 => ?_, fun c1 => ?_⟩
  · replace h := h.1 c1
    refine z_aload_n d_Shorts_refresh_87 rfl ?_
    refine z_iconst 1 d_Shorts_refresh_88 (by decide) ?_
    refine z_puti (p_Shorts_30 rfl) rfl d_Shorts_refresh_89 (tA_45 k) rfl rfl ?_
    refine z_mem (fun M2 eM2 => ?_)
    replace h := h M2 eM2
    exact z_vret rfl d_Shorts_refresh_92 h
  · replace h := h.2 c1
    refine z_iload_n d_Shorts_refresh_40 rfl ?_
    refine z_aload_n d_Shorts_refresh_41 rfl ?_
    refine z_geti f_Shorts_40 rfl d_Shorts_refresh_42 (tA_45 k) ?_
    refine z_icmp_ge 87 d_Shorts_refresh_45 rfl ⟨fun c3 => ?_, fun c3 => ?_⟩
    · replace h := h.1 c3
      refine z_aload_n d_Shorts_refresh_87 rfl ?_
      refine z_iconst 1 d_Shorts_refresh_88 (by decide) ?_
      refine z_puti (p_Shorts_30 rfl) rfl d_Shorts_refresh_89 (tA_45 k) rfl rfl ?_
      refine z_mem (fun M4 eM4 => ?_)
      replace h := h M4 eM4
      exact z_vret rfl d_Shorts_refresh_92 h
    · replace h := h.2 c3
      refine z_iconst 0 d_Shorts_refresh_48 (by decide) ?_
      refine z_istore_n (ls' := [some (.ref 45), some (.int x1), some (.int 0)]) d_Shorts_refresh_49 (Nat.le_of_ble_eq_true rfl) rfl rfl ?_
      exact z_forget [some (.ref 45), some (.int x1), some (.int 0)] (And.intro rfl (And.intro rfl (And.intro rfl (trivial)))) h

set_option maxRecDepth 20000 in
theorem vc_Shorts_refresh_50 (E : ZE) (k : Nat) (M : ZM) (x1 : Int32) (x2 : Int32) (Φ : Option Value → ZS → ZM → Prop)  (h : (2 ≤ x2 → ∀ y2 : Int32, y2 = x1 + 1 → zW E m_Shorts_refresh 2 (zSt k) M 34 [some (.ref 45), some (.int y2), none] [] Φ) ∧ (¬ 2 ≤ x2 → ∃ j3 : Nat, j3 < 27 ∧ x1 = nI j3 ∧ (zW E m_Machine_mapBehind 1 (zSt k) M 0 [some (.ref 8), some (.int (M 46 j3)), some (.int x2), none, none, none] [] (fun q4 T4 M4 => ∃ y4 : Int32, q4 = some (.int y4) ∧ (zSt k) = T4 ∧ zW E m_Shorts_meet 0 (zSt k) M4 0 [some (.ref 45), some (.int y4), some (.int x1), some (.int x2), none] [] (fun q5 T5 M5 => q5 = none ∧ (zSt k) = T5 ∧ ∀ y6 : Int32, y6 = x2 + 1 → zW E m_Shorts_refresh 2 (zSt k) M5 50 [some (.ref 45), some (.int x1), some (.int y6)] [] Φ))))) : zW E m_Shorts_refresh 2 (zSt k) M 50 [some (.ref 45), some (.int x1), some (.int x2)] [] Φ := by
  refine z_iload_n d_Shorts_refresh_50 rfl ?_
  refine z_iconst 2 d_Shorts_refresh_51 (by decide) ?_
  refine z_icmp_ge 81 d_Shorts_refresh_52 rfl ⟨fun c1 => ?_, fun c1 => ?_⟩
  · replace h := h.1 c1
    obtain ⟨y2, ey2⟩ : ∃ q : Int32, q = x1 + 1 := ⟨_, rfl⟩
    replace h := h y2 ey2
    refine z_iinc (ls' := [some (.ref 45), some (.int y2), some (.int x2)]) y2 d_Shorts_refresh_81 rfl (ey2 ▸ rfl) (Nat.le_of_ble_eq_true rfl) rfl rfl ?_
    refine z_goto 34 d_Shorts_refresh_84 rfl ?_
    exact z_forget [some (.ref 45), some (.int y2), none] (And.intro rfl (And.intro rfl (trivial))) h
  · replace h := h.2 c1
    refine z_aload_n d_Shorts_refresh_55 rfl ?_
    refine z_aload_n d_Shorts_refresh_56 rfl ?_
    refine z_getr f_Shorts_26 rfl d_Shorts_refresh_57 (tA_45 k) (tr_45_0 k) ?_
    refine z_aload_n d_Shorts_refresh_60 rfl ?_
    refine z_getr f_Shorts_11 rfl d_Shorts_refresh_61 (tA_45 k) (tr_45_1 k) ?_
    refine z_iload_n d_Shorts_refresh_64 rfl ?_
    obtain ⟨j3, hj3, ej3, h⟩ := h
    refine y_iaload j3 d_Shorts_refresh_65 (ta_46 k) hj3 ej3 ?_
    refine z_iload_n d_Shorts_refresh_66 rfl ?_
    refine z_callV (as := [.int (M 46 j3), .int x2]) (st := [.ref 45]) i_Machine_mapBehind ⟨rfl, rfl⟩ v_Machine_mapBehind w_Machine_mapBehind l_Shorts_48 d_Shorts_refresh_67 (by decide) (tA_8 k) rfl (Nat.le_of_ble_eq_true rfl) (Nat.le_of_ble_eq_true rfl) h (fun q4 T4 M4 h => ?_)
    obtain ⟨y4, rfl, rfl, h⟩ := h
    refine z_iload_n d_Shorts_refresh_70 rfl ?_
    refine z_iload_n d_Shorts_refresh_71 rfl ?_
    refine z_callV (as := [.int y4, .int x1, .int x2]) (st := []) i_Shorts_meet ⟨rfl, rfl⟩ v_Shorts_meet w_Shorts_meet l_Shorts_44 d_Shorts_refresh_72 (by decide) (tA_45 k) rfl (Nat.le_of_ble_eq_true rfl) (Nat.le_of_ble_eq_true rfl) h (fun q5 T5 M5 h => ?_)
    obtain ⟨rfl, rfl, h⟩ := h
    obtain ⟨y6, ey6⟩ : ∃ q : Int32, q = x2 + 1 := ⟨_, rfl⟩
    replace h := h y6 ey6
    refine z_iinc (ls' := [some (.ref 45), some (.int x1), some (.int y6)]) y6 d_Shorts_refresh_75 rfl (ey6 ▸ rfl) (Nat.le_of_ble_eq_true rfl) rfl rfl ?_
    refine z_goto 50 d_Shorts_refresh_78 rfl ?_
    exact z_forget [some (.ref 45), some (.int x1), some (.int y6)] (And.intro rfl (And.intro rfl (And.intro rfl (trivial)))) h

set_option maxRecDepth 20000 in
theorem vc_Shorts_meet_0 (E : ZE) (k : Nat) (M : ZM) (x1 : Int32) (x2 : Int32) (x3 : Int32) (Φ : Option Value → ZS → ZM → Prop)  (h : zW E m_Shorts_meet 0 (zSt k) M 3 [some (.ref 45), some (.int x1), some (.int x2), some (.int x3), some (.int 0)] [] Φ) : zW E m_Shorts_meet 0 (zSt k) M 0 [some (.ref 45), some (.int x1), some (.int x2), some (.int x3), none] [] Φ := by
  refine z_iconst 0 d_Shorts_meet_0 (by decide) ?_
  refine z_istore (ls' := [some (.ref 45), some (.int x1), some (.int x2), some (.int x3), some (.int 0)]) d_Shorts_meet_1 (Nat.le_of_ble_eq_true rfl) rfl rfl ?_
  exact z_forget [some (.ref 45), some (.int x1), some (.int x2), some (.int x3), some (.int 0)] (And.intro rfl (And.intro rfl (And.intro rfl (And.intro rfl (And.intro rfl (trivial)))))) h

set_option maxRecDepth 20000 in
theorem vc_Shorts_meet_3 (E : ZE) (k : Nat) (M : ZM) (x1 : Int32) (x2 : Int32) (x3 : Int32) (x4 : Int32) (Φ : Option Value → ZS → ZM → Prop)  (h : ((M 45 5) ≤ x4 → ((M 45 5) < 0 → Φ none (zSt k) M) ∧ (¬ (M 45 5) < 0 → ((M 45 5) < 27 → ∃ j4 : Nat, j4 < 27 ∧ (M 45 5) = nI j4 ∧ (∀ M5 : ZM, M5 = zms M 46 j4 x1 → ∃ j6 : Nat, j6 < 27 ∧ (M5 45 5) = nI j6 ∧ (∀ M7 : ZM, M7 = zms M5 47 j6 x2 → ∃ j8 : Nat, j8 < 27 ∧ (M7 45 5) = nI j8 ∧ (∀ M9 : ZM, M9 = zms M7 48 j8 x3 → ∀ M10 : ZM, M10 = zms M9 45 5 ((M9 45 5) + 1) → Φ none (zSt k) M10)))) ∧ (¬ (M 45 5) < 27 → Φ none (zSt k) M))) ∧ (¬ (M 45 5) ≤ x4 → (27 ≤ x4 → ((M 45 5) < 0 → Φ none (zSt k) M) ∧ (¬ (M 45 5) < 0 → ((M 45 5) < 27 → ∃ j14 : Nat, j14 < 27 ∧ (M 45 5) = nI j14 ∧ (∀ M15 : ZM, M15 = zms M 46 j14 x1 → ∃ j16 : Nat, j16 < 27 ∧ (M15 45 5) = nI j16 ∧ (∀ M17 : ZM, M17 = zms M15 47 j16 x2 → ∃ j18 : Nat, j18 < 27 ∧ (M17 45 5) = nI j18 ∧ (∀ M19 : ZM, M19 = zms M17 48 j18 x3 → ∀ M20 : ZM, M20 = zms M19 45 5 ((M19 45 5) + 1) → Φ none (zSt k) M20)))) ∧ (¬ (M 45 5) < 27 → Φ none (zSt k) M))) ∧ (¬ 27 ≤ x4 → ∃ j21 : Nat, j21 < 27 ∧ x4 = nI j21 ∧ ((¬ (M 46 j21) = x1 → ∀ y23 : Int32, y23 = x4 + 1 → zW E m_Shorts_meet 0 (zSt k) M 3 [some (.ref 45), some (.int x1), some (.int x2), some (.int x3), some (.int y23)] [] Φ) ∧ ((M 46 j21) = x1 → Φ none (zSt k) M))))) : zW E m_Shorts_meet 0 (zSt k) M 3 [some (.ref 45), some (.int x1), some (.int x2), some (.int x3), some (.int x4)] [] Φ := by
  refine z_iload d_Shorts_meet_3 rfl ?_
  refine z_aload_n d_Shorts_meet_5 rfl ?_
  refine z_geti f_Shorts_40 rfl d_Shorts_meet_6 (tA_45 k) ?_
  refine z_icmp_ge 37 d_Shorts_meet_9 rfl ⟨fun c1 => ?_, fun c1 => ?_⟩
  · replace h := h.1 c1
    refine z_aload_n d_Shorts_meet_37 rfl ?_
    refine z_geti f_Shorts_40 rfl d_Shorts_meet_38 (tA_45 k) ?_
    refine z_if_lt 53 d_Shorts_meet_41 rfl ⟨fun c2 => ?_, fun c2 => ?_⟩
    · replace h := h.1 c2
      exact z_vret rfl d_Shorts_meet_53 h
    · replace h := h.2 c2
      refine z_aload_n d_Shorts_meet_44 rfl ?_
      refine z_geti f_Shorts_40 rfl d_Shorts_meet_45 (tA_45 k) ?_
      refine z_bipush 27 d_Shorts_meet_48 (by decide) ?_
      refine z_icmp_lt 54 d_Shorts_meet_50 rfl ⟨fun c3 => ?_, fun c3 => ?_⟩
      · replace h := h.1 c3
        refine z_aload_n d_Shorts_meet_54 rfl ?_
        refine z_getr f_Shorts_11 rfl d_Shorts_meet_55 (tA_45 k) (tr_45_1 k) ?_
        refine z_aload_n d_Shorts_meet_58 rfl ?_
        refine z_geti f_Shorts_40 rfl d_Shorts_meet_59 (tA_45 k) ?_
        refine z_iload_n d_Shorts_meet_62 rfl ?_
        obtain ⟨j4, hj4, ej4, h⟩ := h
        refine y_iastore j4 d_Shorts_meet_63 (ta_46 k) hj4 ej4 ?_
        refine z_mem (fun M5 eM5 => ?_)
        replace h := h M5 eM5
        refine z_aload_n d_Shorts_meet_64 rfl ?_
        refine z_getr f_Shorts_15 rfl d_Shorts_meet_65 (tA_45 k) (tr_45_2 k) ?_
        refine z_aload_n d_Shorts_meet_68 rfl ?_
        refine z_geti f_Shorts_40 rfl d_Shorts_meet_69 (tA_45 k) ?_
        refine z_iload_n d_Shorts_meet_72 rfl ?_
        obtain ⟨j6, hj6, ej6, h⟩ := h
        refine y_iastore j6 d_Shorts_meet_73 (ta_47 k) hj6 ej6 ?_
        refine z_mem (fun M7 eM7 => ?_)
        replace h := h M7 eM7
        refine z_aload_n d_Shorts_meet_74 rfl ?_
        refine z_getr f_Shorts_18 rfl d_Shorts_meet_75 (tA_45 k) (tr_45_3 k) ?_
        refine z_aload_n d_Shorts_meet_78 rfl ?_
        refine z_geti f_Shorts_40 rfl d_Shorts_meet_79 (tA_45 k) ?_
        refine z_iload_n d_Shorts_meet_82 rfl ?_
        obtain ⟨j8, hj8, ej8, h⟩ := h
        refine y_iastore j8 d_Shorts_meet_83 (ta_48 k) hj8 ej8 ?_
        refine z_mem (fun M9 eM9 => ?_)
        replace h := h M9 eM9
        refine z_aload_n d_Shorts_meet_84 rfl ?_
        refine z_dup d_Shorts_meet_85 rfl ?_
        refine z_geti f_Shorts_40 rfl d_Shorts_meet_86 (tA_45 k) ?_
        refine z_iconst 1 d_Shorts_meet_89 (by decide) ?_
        refine z_iadd d_Shorts_meet_90 ?_
        refine z_puti (p_Shorts_40 rfl) rfl d_Shorts_meet_91 (tA_45 k) rfl rfl ?_
        refine z_mem (fun M10 eM10 => ?_)
        replace h := h M10 eM10
        exact z_vret rfl d_Shorts_meet_94 h
      · replace h := h.2 c3
        exact z_vret rfl d_Shorts_meet_53 h
  · replace h := h.2 c1
    refine z_iload d_Shorts_meet_12 rfl ?_
    refine z_bipush 27 d_Shorts_meet_14 (by decide) ?_
    refine z_icmp_ge 37 d_Shorts_meet_16 rfl ⟨fun c11 => ?_, fun c11 => ?_⟩
    · replace h := h.1 c11
      refine z_aload_n d_Shorts_meet_37 rfl ?_
      refine z_geti f_Shorts_40 rfl d_Shorts_meet_38 (tA_45 k) ?_
      refine z_if_lt 53 d_Shorts_meet_41 rfl ⟨fun c12 => ?_, fun c12 => ?_⟩
      · replace h := h.1 c12
        exact z_vret rfl d_Shorts_meet_53 h
      · replace h := h.2 c12
        refine z_aload_n d_Shorts_meet_44 rfl ?_
        refine z_geti f_Shorts_40 rfl d_Shorts_meet_45 (tA_45 k) ?_
        refine z_bipush 27 d_Shorts_meet_48 (by decide) ?_
        refine z_icmp_lt 54 d_Shorts_meet_50 rfl ⟨fun c13 => ?_, fun c13 => ?_⟩
        · replace h := h.1 c13
          refine z_aload_n d_Shorts_meet_54 rfl ?_
          refine z_getr f_Shorts_11 rfl d_Shorts_meet_55 (tA_45 k) (tr_45_1 k) ?_
          refine z_aload_n d_Shorts_meet_58 rfl ?_
          refine z_geti f_Shorts_40 rfl d_Shorts_meet_59 (tA_45 k) ?_
          refine z_iload_n d_Shorts_meet_62 rfl ?_
          obtain ⟨j14, hj14, ej14, h⟩ := h
          refine y_iastore j14 d_Shorts_meet_63 (ta_46 k) hj14 ej14 ?_
          refine z_mem (fun M15 eM15 => ?_)
          replace h := h M15 eM15
          refine z_aload_n d_Shorts_meet_64 rfl ?_
          refine z_getr f_Shorts_15 rfl d_Shorts_meet_65 (tA_45 k) (tr_45_2 k) ?_
          refine z_aload_n d_Shorts_meet_68 rfl ?_
          refine z_geti f_Shorts_40 rfl d_Shorts_meet_69 (tA_45 k) ?_
          refine z_iload_n d_Shorts_meet_72 rfl ?_
          obtain ⟨j16, hj16, ej16, h⟩ := h
          refine y_iastore j16 d_Shorts_meet_73 (ta_47 k) hj16 ej16 ?_
          refine z_mem (fun M17 eM17 => ?_)
          replace h := h M17 eM17
          refine z_aload_n d_Shorts_meet_74 rfl ?_
          refine z_getr f_Shorts_18 rfl d_Shorts_meet_75 (tA_45 k) (tr_45_3 k) ?_
          refine z_aload_n d_Shorts_meet_78 rfl ?_
          refine z_geti f_Shorts_40 rfl d_Shorts_meet_79 (tA_45 k) ?_
          refine z_iload_n d_Shorts_meet_82 rfl ?_
          obtain ⟨j18, hj18, ej18, h⟩ := h
          refine y_iastore j18 d_Shorts_meet_83 (ta_48 k) hj18 ej18 ?_
          refine z_mem (fun M19 eM19 => ?_)
          replace h := h M19 eM19
          refine z_aload_n d_Shorts_meet_84 rfl ?_
          refine z_dup d_Shorts_meet_85 rfl ?_
          refine z_geti f_Shorts_40 rfl d_Shorts_meet_86 (tA_45 k) ?_
          refine z_iconst 1 d_Shorts_meet_89 (by decide) ?_
          refine z_iadd d_Shorts_meet_90 ?_
          refine z_puti (p_Shorts_40 rfl) rfl d_Shorts_meet_91 (tA_45 k) rfl rfl ?_
          refine z_mem (fun M20 eM20 => ?_)
          replace h := h M20 eM20
          exact z_vret rfl d_Shorts_meet_94 h
        · replace h := h.2 c13
          exact z_vret rfl d_Shorts_meet_53 h
    · replace h := h.2 c11
      refine z_aload_n d_Shorts_meet_19 rfl ?_
      refine z_getr f_Shorts_11 rfl d_Shorts_meet_20 (tA_45 k) (tr_45_1 k) ?_
      refine z_iload d_Shorts_meet_23 rfl ?_
      obtain ⟨j21, hj21, ej21, h⟩ := h
      refine y_iaload j21 d_Shorts_meet_25 (ta_46 k) hj21 ej21 ?_
      refine z_iload_n d_Shorts_meet_26 rfl ?_
      refine z_icmp_ne 31 d_Shorts_meet_27 rfl ⟨fun c22 => ?_, fun c22 => ?_⟩
      · replace h := h.1 c22
        obtain ⟨y23, ey23⟩ : ∃ q : Int32, q = x4 + 1 := ⟨_, rfl⟩
        replace h := h y23 ey23
        refine z_iinc (ls' := [some (.ref 45), some (.int x1), some (.int x2), some (.int x3), some (.int y23)]) y23 d_Shorts_meet_31 rfl (ey23 ▸ rfl) (Nat.le_of_ble_eq_true rfl) rfl rfl ?_
        refine z_goto 3 d_Shorts_meet_34 rfl ?_
        exact z_forget [some (.ref 45), some (.int x1), some (.int x2), some (.int x3), some (.int y23)] (And.intro rfl (And.intro rfl (And.intro rfl (And.intro rfl (And.intro rfl (trivial)))))) h
      · replace h := h.2 c22
        exact z_vret rfl d_Shorts_meet_30 h

set_option maxRecDepth 20000 in
theorem vc_Shorts_firstFit_0 (E : ZE) (k : Nat) (M : ZM) (x1 : Int32) (Φ : Option Value → ZS → ZM → Prop)  (h : ∀ y1 : Int32, y1 = (x1 &&& 511) → ∃ j2 : Nat, j2 < 512 ∧ y1 = nI j2 ∧ ((¬ (M 49 j2) = (-1) → ∃ j4 : Nat, j4 < 512 ∧ y1 = nI j4 ∧ (Φ (some (.int (M 49 j4))) (zSt k) M)) ∧ ((M 49 j2) = (-1) → ∃ j5 : Nat, j5 < 512 ∧ y1 = nI j5 ∧ (∀ M6 : ZM, M6 = zms M 49 j5 (-6) → zW E m_Shorts_firstFit 1 (zSt k) M6 26 [some (.ref 45), some (.int x1), some (.int y1), some (.int 0)] [] Φ)))) : zW E m_Shorts_firstFit 1 (zSt k) M 0 [some (.ref 45), some (.int x1), none, none] [] Φ := by
  refine z_iload_n d_Shorts_firstFit_0 rfl ?_
  refine z_sipush 511 d_Shorts_firstFit_1 (by decide) ?_
  refine z_iand d_Shorts_firstFit_4 ?_
  refine z_name (fun y1 ey1 => ?_)
  replace h := h y1 ey1
  refine z_istore_n (ls' := [some (.ref 45), some (.int x1), some (.int y1), none]) d_Shorts_firstFit_5 (Nat.le_of_ble_eq_true rfl) rfl rfl ?_
  refine z_aload_n d_Shorts_firstFit_6 rfl ?_
  refine z_getr f_Shorts_23 rfl d_Shorts_firstFit_7 (tA_45 k) (tr_45_4 k) ?_
  refine z_iload_n d_Shorts_firstFit_10 rfl ?_
  obtain ⟨j2, hj2, ej2, h⟩ := h
  refine y_iaload j2 d_Shorts_firstFit_11 (ta_49 k) hj2 ej2 ?_
  refine z_iconst (-1) d_Shorts_firstFit_12 (by decide) ?_
  refine z_icmp_ne 69 d_Shorts_firstFit_13 rfl ⟨fun c3 => ?_, fun c3 => ?_⟩
  · replace h := h.1 c3
    refine z_aload_n d_Shorts_firstFit_69 rfl ?_
    refine z_getr f_Shorts_23 rfl d_Shorts_firstFit_70 (tA_45 k) (tr_45_4 k) ?_
    refine z_iload_n d_Shorts_firstFit_73 rfl ?_
    obtain ⟨j4, hj4, ej4, h⟩ := h
    refine y_iaload j4 d_Shorts_firstFit_74 (ta_49 k) hj4 ej4 ?_
    exact z_iret rfl d_Shorts_firstFit_75 h
  · replace h := h.2 c3
    refine z_aload_n d_Shorts_firstFit_16 rfl ?_
    refine z_getr f_Shorts_23 rfl d_Shorts_firstFit_17 (tA_45 k) (tr_45_4 k) ?_
    refine z_iload_n d_Shorts_firstFit_20 rfl ?_
    refine z_bipush (-6) d_Shorts_firstFit_21 (by decide) ?_
    obtain ⟨j5, hj5, ej5, h⟩ := h
    refine y_iastore j5 d_Shorts_firstFit_23 (ta_49 k) hj5 ej5 ?_
    refine z_mem (fun M6 eM6 => ?_)
    replace h := h M6 eM6
    refine z_iconst 0 d_Shorts_firstFit_24 (by decide) ?_
    refine z_istore_n (ls' := [some (.ref 45), some (.int x1), some (.int y1), some (.int 0)]) d_Shorts_firstFit_25 (Nat.le_of_ble_eq_true rfl) rfl rfl ?_
    exact z_forget [some (.ref 45), some (.int x1), some (.int y1), some (.int 0)] (And.intro rfl (And.intro rfl (And.intro rfl (And.intro rfl (trivial))))) h

set_option maxRecDepth 20000 in
theorem vc_Shorts_firstFit_26 (E : ZE) (k : Nat) (M : ZM) (x1 : Int32) (x2 : Int32) (x3 : Int32) (Φ : Option Value → ZS → ZM → Prop)  (h : ((M 45 5) ≤ x3 → ∃ j2 : Nat, j2 < 512 ∧ x2 = nI j2 ∧ (Φ (some (.int (M 49 j2))) (zSt k) M)) ∧ (¬ (M 45 5) ≤ x3 → (27 ≤ x3 → ∃ j4 : Nat, j4 < 512 ∧ x2 = nI j4 ∧ (Φ (some (.int (M 49 j4))) (zSt k) M)) ∧ (¬ 27 ≤ x3 → ∃ j5 : Nat, j5 < 27 ∧ x3 = nI j5 ∧ (zW E m_Need_allows 0 (zSt k) M 0 [some (.int x1), some (.int (M 46 j5))] [] (fun q6 T6 M6 => ∃ y6 : Int32, q6 = some (.int y6) ∧ (zSt k) = T6 ∧ (y6 = 0 → ∀ y8 : Int32, y8 = x3 + 1 → zW E m_Shorts_firstFit 1 (zSt k) M6 26 [some (.ref 45), some (.int x1), some (.int x2), some (.int y8)] [] Φ) ∧ (¬ y6 = 0 → ∃ j9 : Nat, j9 < 512 ∧ x2 = nI j9 ∧ (∀ M10 : ZM, M10 = zms M6 49 j9 x3 → ∃ j11 : Nat, j11 < 512 ∧ x2 = nI j11 ∧ (Φ (some (.int (M10 49 j11))) (zSt k) M10)))))))) : zW E m_Shorts_firstFit 1 (zSt k) M 26 [some (.ref 45), some (.int x1), some (.int x2), some (.int x3)] [] Φ := by
  refine z_iload_n d_Shorts_firstFit_26 rfl ?_
  refine z_aload_n d_Shorts_firstFit_27 rfl ?_
  refine z_geti f_Shorts_40 rfl d_Shorts_firstFit_28 (tA_45 k) ?_
  refine z_icmp_ge 69 d_Shorts_firstFit_31 rfl ⟨fun c1 => ?_, fun c1 => ?_⟩
  · replace h := h.1 c1
    refine z_aload_n d_Shorts_firstFit_69 rfl ?_
    refine z_getr f_Shorts_23 rfl d_Shorts_firstFit_70 (tA_45 k) (tr_45_4 k) ?_
    refine z_iload_n d_Shorts_firstFit_73 rfl ?_
    obtain ⟨j2, hj2, ej2, h⟩ := h
    refine y_iaload j2 d_Shorts_firstFit_74 (ta_49 k) hj2 ej2 ?_
    exact z_iret rfl d_Shorts_firstFit_75 h
  · replace h := h.2 c1
    refine z_iload_n d_Shorts_firstFit_34 rfl ?_
    refine z_bipush 27 d_Shorts_firstFit_35 (by decide) ?_
    refine z_icmp_ge 69 d_Shorts_firstFit_37 rfl ⟨fun c3 => ?_, fun c3 => ?_⟩
    · replace h := h.1 c3
      refine z_aload_n d_Shorts_firstFit_69 rfl ?_
      refine z_getr f_Shorts_23 rfl d_Shorts_firstFit_70 (tA_45 k) (tr_45_4 k) ?_
      refine z_iload_n d_Shorts_firstFit_73 rfl ?_
      obtain ⟨j4, hj4, ej4, h⟩ := h
      refine y_iaload j4 d_Shorts_firstFit_74 (ta_49 k) hj4 ej4 ?_
      exact z_iret rfl d_Shorts_firstFit_75 h
    · replace h := h.2 c3
      refine z_iload_n d_Shorts_firstFit_40 rfl ?_
      refine z_aload_n d_Shorts_firstFit_41 rfl ?_
      refine z_getr f_Shorts_11 rfl d_Shorts_firstFit_42 (tA_45 k) (tr_45_1 k) ?_
      refine z_iload_n d_Shorts_firstFit_45 rfl ?_
      obtain ⟨j5, hj5, ej5, h⟩ := h
      refine y_iaload j5 d_Shorts_firstFit_46 (ta_46 k) hj5 ej5 ?_
      refine z_callS (as := [.int x1, .int (M 46 j5)]) (st := []) i_Need_allows s_Need_allows l_Shorts_54 d_Shorts_firstFit_47 (by decide) rfl (Nat.le_of_ble_eq_true rfl) (Nat.le_of_ble_eq_true rfl) h (fun q6 T6 M6 h => ?_)
      obtain ⟨y6, rfl, rfl, h⟩ := h
      refine z_if_eq 63 d_Shorts_firstFit_50 rfl ⟨fun c7 => ?_, fun c7 => ?_⟩
      · replace h := h.1 c7
        obtain ⟨y8, ey8⟩ : ∃ q : Int32, q = x3 + 1 := ⟨_, rfl⟩
        replace h := h y8 ey8
        refine z_iinc (ls' := [some (.ref 45), some (.int x1), some (.int x2), some (.int y8)]) y8 d_Shorts_firstFit_63 rfl (ey8 ▸ rfl) (Nat.le_of_ble_eq_true rfl) rfl rfl ?_
        refine z_goto 26 d_Shorts_firstFit_66 rfl ?_
        exact z_forget [some (.ref 45), some (.int x1), some (.int x2), some (.int y8)] (And.intro rfl (And.intro rfl (And.intro rfl (And.intro rfl (trivial))))) h
      · replace h := h.2 c7
        refine z_aload_n d_Shorts_firstFit_53 rfl ?_
        refine z_getr f_Shorts_23 rfl d_Shorts_firstFit_54 (tA_45 k) (tr_45_4 k) ?_
        refine z_iload_n d_Shorts_firstFit_57 rfl ?_
        refine z_iload_n d_Shorts_firstFit_58 rfl ?_
        obtain ⟨j9, hj9, ej9, h⟩ := h
        refine y_iastore j9 d_Shorts_firstFit_59 (ta_49 k) hj9 ej9 ?_
        refine z_mem (fun M10 eM10 => ?_)
        replace h := h M10 eM10
        refine z_goto 69 d_Shorts_firstFit_60 rfl ?_
        refine z_aload_n d_Shorts_firstFit_69 rfl ?_
        refine z_getr f_Shorts_23 rfl d_Shorts_firstFit_70 (tA_45 k) (tr_45_4 k) ?_
        refine z_iload_n d_Shorts_firstFit_73 rfl ?_
        obtain ⟨j11, hj11, ej11, h⟩ := h
        refine y_iaload j11 d_Shorts_firstFit_74 (ta_49 k) hj11 ej11 ?_
        exact z_iret rfl d_Shorts_firstFit_75 h

set_option maxRecDepth 20000 in
theorem vc_Shorts_anyHopeless_0 (E : ZE) (k : Nat) (M : ZM) (x1 : Int32) (Φ : Option Value → ZS → ZM → Prop)  (h : zW E m_Shorts_anyHopeless 2 (zSt k) M 2 [some (.ref 45), some (.int x1), some (.int 0)] [] Φ) : zW E m_Shorts_anyHopeless 2 (zSt k) M 0 [some (.ref 45), some (.int x1), none] [] Φ := by
  refine z_iconst 0 d_Shorts_anyHopeless_0 (by decide) ?_
  refine z_istore_n (ls' := [some (.ref 45), some (.int x1), some (.int 0)]) d_Shorts_anyHopeless_1 (Nat.le_of_ble_eq_true rfl) rfl rfl ?_
  exact z_forget [some (.ref 45), some (.int x1), some (.int 0)] (And.intro rfl (And.intro rfl (And.intro rfl (trivial)))) h

set_option maxRecDepth 20000 in
theorem vc_Shorts_anyHopeless_2 (E : ZE) (k : Nat) (M : ZM) (x1 : Int32) (x2 : Int32) (Φ : Option Value → ZS → ZM → Prop)  (h : (3 ≤ x2 → Φ (some (.int 0)) (zSt k) M) ∧ (¬ 3 ≤ x2 → zW E m_Need_ofVariable 0 (zSt k) M 0 [some (.int x1), some (.int x2)] [] (fun q2 T2 M2 => ∃ y2 : Int32, q2 = some (.int y2) ∧ (zSt k) = T2 ∧ zW E m_Shorts_firstFit 1 (zSt k) M2 0 [some (.ref 45), some (.int y2), none, none] [] (fun q3 T3 M3 => ∃ y3 : Int32, q3 = some (.int y3) ∧ (zSt k) = T3 ∧ (¬ y3 = (-6) → ∀ y5 : Int32, y5 = x2 + 1 → zW E m_Shorts_anyHopeless 2 (zSt k) M3 2 [some (.ref 45), some (.int x1), some (.int y5)] [] Φ) ∧ (y3 = (-6) → Φ (some (.int 1)) (zSt k) M3))))) : zW E m_Shorts_anyHopeless 2 (zSt k) M 2 [some (.ref 45), some (.int x1), some (.int x2)] [] Φ := by
  refine z_iload_n d_Shorts_anyHopeless_2 rfl ?_
  refine z_iconst 3 d_Shorts_anyHopeless_3 (by decide) ?_
  refine z_icmp_ge 29 d_Shorts_anyHopeless_4 rfl ⟨fun c1 => ?_, fun c1 => ?_⟩
  · replace h := h.1 c1
    refine z_iconst 0 d_Shorts_anyHopeless_29 (by decide) ?_
    exact z_zret rfl d_Shorts_anyHopeless_30 rfl h
  · replace h := h.2 c1
    refine z_aload_n d_Shorts_anyHopeless_7 rfl ?_
    refine z_iload_n d_Shorts_anyHopeless_8 rfl ?_
    refine z_iload_n d_Shorts_anyHopeless_9 rfl ?_
    refine z_callS (as := [.int x1, .int x2]) (st := [.ref 45]) i_Need_ofVariable s_Need_ofVariable l_Shorts_58 d_Shorts_anyHopeless_10 (by decide) rfl (Nat.le_of_ble_eq_true rfl) (Nat.le_of_ble_eq_true rfl) h (fun q2 T2 M2 h => ?_)
    obtain ⟨y2, rfl, rfl, h⟩ := h
    refine z_callV (as := [.int y2]) (st := []) i_Shorts_firstFit ⟨rfl, rfl⟩ v_Shorts_firstFit w_Shorts_firstFit l_Shorts_61 d_Shorts_anyHopeless_13 (by decide) (tA_45 k) rfl (Nat.le_of_ble_eq_true rfl) (Nat.le_of_ble_eq_true rfl) h (fun q3 T3 M3 h => ?_)
    obtain ⟨y3, rfl, rfl, h⟩ := h
    refine z_bipush (-6) d_Shorts_anyHopeless_16 (by decide) ?_
    refine z_icmp_ne 23 d_Shorts_anyHopeless_18 rfl ⟨fun c4 => ?_, fun c4 => ?_⟩
    · replace h := h.1 c4
      obtain ⟨y5, ey5⟩ : ∃ q : Int32, q = x2 + 1 := ⟨_, rfl⟩
      replace h := h y5 ey5
      refine z_iinc (ls' := [some (.ref 45), some (.int x1), some (.int y5)]) y5 d_Shorts_anyHopeless_23 rfl (ey5 ▸ rfl) (Nat.le_of_ble_eq_true rfl) rfl rfl ?_
      refine z_goto 2 d_Shorts_anyHopeless_26 rfl ?_
      exact z_forget [some (.ref 45), some (.int x1), some (.int y5)] (And.intro rfl (And.intro rfl (And.intro rfl (trivial)))) h
    · replace h := h.2 c4
      refine z_iconst 1 d_Shorts_anyHopeless_21 (by decide) ?_
      exact z_zret rfl d_Shorts_anyHopeless_22 rfl h

set_option maxRecDepth 20000 in
theorem vc_Shorts_write_0 (E : ZE) (k : Nat) (M : ZM) (x1 : Int32) (r2 L2 : Nat) (Φ : Option Value → ZS → ZM → Prop) (h2 : zRow (zSt k) r2 L2) (h : zW E m_Row_makeEmpty 0 (zSt k) M 0 [some (.ref r2)] [] (fun q1 T1 M1 => q1 = none ∧ (zSt k) = T1 ∧ zW E m_Shorts_write 2 (zSt k) M1 9 [some (.ref 45), none, some (.ref r2), some (.int x1), some (.int 0)] [] Φ)) : zW E m_Shorts_write 2 (zSt k) M 0 [some (.ref 45), some (.int x1), some (.ref r2), none, none] [] Φ := by
  refine z_aload_n d_Shorts_write_0 rfl ?_
  refine z_callV (as := []) (st := []) i_Row_makeEmpty ⟨rfl, rfl⟩ v_Row_makeEmpty w_Row_makeEmpty l_Shorts_65 d_Shorts_write_1 (by decide) h2.1 rfl (Nat.le_of_ble_eq_true rfl) (Nat.le_of_ble_eq_true rfl) h (fun q1 T1 M1 h => ?_)
  obtain ⟨rfl, rfl, h⟩ := h
  refine z_iload_n d_Shorts_write_4 rfl ?_
  refine z_istore_n (ls' := [some (.ref 45), some (.int x1), some (.ref r2), some (.int x1), none]) d_Shorts_write_5 (Nat.le_of_ble_eq_true rfl) rfl rfl ?_
  refine z_iconst 0 d_Shorts_write_6 (by decide) ?_
  refine z_istore (ls' := [some (.ref 45), some (.int x1), some (.ref r2), some (.int x1), some (.int 0)]) d_Shorts_write_7 (Nat.le_of_ble_eq_true rfl) rfl rfl ?_
  exact z_forget [some (.ref 45), none, some (.ref r2), some (.int x1), some (.int 0)] (And.intro rfl (And.intro rfl (And.intro rfl (And.intro rfl (trivial))))) h

set_option maxRecDepth 20000 in
theorem vc_Shorts_write_9 (E : ZE) (k : Nat) (M : ZM) (r2 L2 : Nat) (x3 : Int32) (x4 : Int32) (Φ : Option Value → ZS → ZM → Prop) (h2 : zRow (zSt k) r2 L2) (h : (27 ≤ x4 → Φ none (zSt k) M) ∧ (¬ 27 ≤ x4 → (x3 ≤ 0 → Φ none (zSt k) M) ∧ (¬ x3 ≤ 0 → (27 ≤ x3 → Φ none (zSt k) M) ∧ (¬ 27 ≤ x3 → ∃ j4 : Nat, j4 < 27 ∧ x3 = nI j4 ∧ (zW E m_Row_pushAhead 1 (zSt k) M 0 [some (.ref r2), some (.int (M 48 j4))] [] (fun q5 T5 M5 => ∃ y5 : Int32, q5 = some (.int y5) ∧ (zSt k) = T5 ∧ ∃ j6 : Nat, j6 < 27 ∧ x3 = nI j6 ∧ (∀ y7 : Int32, y7 = (M5 47 j6) → ∀ y8 : Int32, y8 = x4 + 1 → zW E m_Shorts_write 2 (zSt k) M5 9 [some (.ref 45), none, some (.ref r2), some (.int y7), some (.int y8)] [] Φ))))))) : zW E m_Shorts_write 2 (zSt k) M 9 [some (.ref 45), none, some (.ref r2), some (.int x3), some (.int x4)] [] Φ := by
  refine z_iload d_Shorts_write_9 rfl ?_
  refine z_bipush 27 d_Shorts_write_11 (by decide) ?_
  refine z_icmp_ge 50 d_Shorts_write_13 rfl ⟨fun c1 => ?_, fun c1 => ?_⟩
  · replace h := h.1 c1
    exact z_vret rfl d_Shorts_write_50 h
  · replace h := h.2 c1
    refine z_iload_n d_Shorts_write_16 rfl ?_
    refine z_if_le 50 d_Shorts_write_17 rfl ⟨fun c2 => ?_, fun c2 => ?_⟩
    · replace h := h.1 c2
      exact z_vret rfl d_Shorts_write_50 h
    · replace h := h.2 c2
      refine z_iload_n d_Shorts_write_20 rfl ?_
      refine z_bipush 27 d_Shorts_write_21 (by decide) ?_
      refine z_icmp_ge 50 d_Shorts_write_23 rfl ⟨fun c3 => ?_, fun c3 => ?_⟩
      · replace h := h.1 c3
        exact z_vret rfl d_Shorts_write_50 h
      · replace h := h.2 c3
        refine z_aload_n d_Shorts_write_26 rfl ?_
        refine z_aload_n d_Shorts_write_27 rfl ?_
        refine z_getr f_Shorts_18 rfl d_Shorts_write_28 (tA_45 k) (tr_45_3 k) ?_
        refine z_iload_n d_Shorts_write_31 rfl ?_
        obtain ⟨j4, hj4, ej4, h⟩ := h
        refine y_iaload j4 d_Shorts_write_32 (ta_48 k) hj4 ej4 ?_
        refine z_callV (as := [.int (M 48 j4)]) (st := []) i_Row_pushAhead ⟨rfl, rfl⟩ v_Row_pushAhead w_Row_pushAhead l_Shorts_70 d_Shorts_write_33 (by decide) h2.1 rfl (Nat.le_of_ble_eq_true rfl) (Nat.le_of_ble_eq_true rfl) h (fun q5 T5 M5 h => ?_)
        obtain ⟨y5, rfl, rfl, h⟩ := h
        refine z_pop d_Shorts_write_36 rfl ?_
        refine z_aload_n d_Shorts_write_37 rfl ?_
        refine z_getr f_Shorts_15 rfl d_Shorts_write_38 (tA_45 k) (tr_45_2 k) ?_
        refine z_iload_n d_Shorts_write_41 rfl ?_
        obtain ⟨j6, hj6, ej6, h⟩ := h
        refine y_iaload j6 d_Shorts_write_42 (ta_47 k) hj6 ej6 ?_
        refine z_name (fun y7 ey7 => ?_)
        replace h := h y7 ey7
        refine z_istore_n (ls' := [some (.ref 45), none, some (.ref r2), some (.int y7), some (.int x4)]) d_Shorts_write_43 (Nat.le_of_ble_eq_true rfl) rfl rfl ?_
        obtain ⟨y8, ey8⟩ : ∃ q : Int32, q = x4 + 1 := ⟨_, rfl⟩
        replace h := h y8 ey8
        refine z_iinc (ls' := [some (.ref 45), none, some (.ref r2), some (.int y7), some (.int y8)]) y8 d_Shorts_write_44 rfl (ey8 ▸ rfl) (Nat.le_of_ble_eq_true rfl) rfl rfl ?_
        refine z_goto 9 d_Shorts_write_47 rfl ?_
        exact z_forget [some (.ref 45), none, some (.ref r2), some (.int y7), some (.int y8)] (And.intro rfl (And.intro rfl (And.intro rfl (And.intro rfl (trivial))))) h

set_option maxRecDepth 20000 in
theorem vc_Tally_count_0 (E : ZE) (k : Nat) (M : ZM) (r1 : Nat) (Φ : Option Value → ZS → ZM → Prop) (h1 : zBook (zSt k) r1) (h : zW E m_Arr_fill 0 (zSt k) M 0 [some (.ref 75), some (.int 0), none, none] [] (fun q1 T1 M1 => q1 = none ∧ (zSt k) = T1 ∧ zW E m_Arr_fill 0 (zSt k) M1 0 [some (.ref 76), some (.int 0), none, none] [] (fun q2 T2 M2 => q2 = none ∧ (zSt k) = T2 ∧ zW E m_Tally_countRow 1 (zSt k) M2 0 [some (.ref 74), some (.ref (r1 + 1)), some (.int 1), none, none] [] (fun q3 T3 M3 => q3 = none ∧ (zSt k) = T3 ∧ zW E m_Tally_countRow 1 (zSt k) M3 0 [some (.ref 74), some (.ref (r1 + 3)), some (.int (-1)), none, none] [] (fun q4 T4 M4 => q4 = none ∧ (zSt k) = T4 ∧ Φ none (zSt k) M4))))) : zW E m_Tally_count 2 (zSt k) M 0 [some (.ref 74), some (.ref r1)] [] Φ := by
  refine z_aload_n d_Tally_count_0 rfl ?_
  refine z_getr f_Tally_9 rfl d_Tally_count_1 (tA_74 k) (tr_74_0 k) ?_
  refine z_iconst 0 d_Tally_count_4 (by decide) ?_
  refine z_callS (as := [.ref 75, .int 0]) (st := []) i_Arr_fill s_Arr_fill l_Tally_18 d_Tally_count_5 (by decide) rfl (Nat.le_of_ble_eq_true rfl) (Nat.le_of_ble_eq_true rfl) h (fun q1 T1 M1 h => ?_)
  obtain ⟨rfl, rfl, h⟩ := h
  refine z_aload_n d_Tally_count_8 rfl ?_
  refine z_getr f_Tally_15 rfl d_Tally_count_9 (tA_74 k) (tr_74_1 k) ?_
  refine z_iconst 0 d_Tally_count_12 (by decide) ?_
  refine z_callS (as := [.ref 76, .int 0]) (st := []) i_Arr_fill s_Arr_fill l_Tally_18 d_Tally_count_13 (by decide) rfl (Nat.le_of_ble_eq_true rfl) (Nat.le_of_ble_eq_true rfl) h (fun q2 T2 M2 h => ?_)
  obtain ⟨rfl, rfl, h⟩ := h
  refine z_aload_n d_Tally_count_16 rfl ?_
  refine z_aload_n d_Tally_count_17 rfl ?_
  refine z_getr f_Tally_24 rfl d_Tally_count_18 h1.1 h1.2.1.1 ?_
  refine z_iconst 1 d_Tally_count_21 (by decide) ?_
  refine z_callV (as := [.ref (r1 + 1), .int 1]) (st := []) i_Tally_countRow ⟨rfl, rfl⟩ v_Tally_countRow w_Tally_countRow l_Tally_30 d_Tally_count_22 (by decide) (tA_74 k) rfl (Nat.le_of_ble_eq_true rfl) (Nat.le_of_ble_eq_true rfl) h (fun q3 T3 M3 h => ?_)
  obtain ⟨rfl, rfl, h⟩ := h
  refine z_aload_n d_Tally_count_25 rfl ?_
  refine z_aload_n d_Tally_count_26 rfl ?_
  refine z_getr f_Tally_34 rfl d_Tally_count_27 h1.1 h1.2.2.1.1 ?_
  refine z_iconst (-1) d_Tally_count_30 (by decide) ?_
  refine z_callV (as := [.ref (r1 + 3), .int (-1)]) (st := []) i_Tally_countRow ⟨rfl, rfl⟩ v_Tally_countRow w_Tally_countRow l_Tally_30 d_Tally_count_31 (by decide) (tA_74 k) rfl (Nat.le_of_ble_eq_true rfl) (Nat.le_of_ble_eq_true rfl) h (fun q4 T4 M4 h => ?_)
  obtain ⟨rfl, rfl, h⟩ := h
  exact z_vret rfl d_Tally_count_34 h

set_option maxRecDepth 20000 in
theorem vc_Tally_countRow_0 (E : ZE) (k : Nat) (M : ZM) (r1 L1 : Nat) (x2 : Int32) (Φ : Option Value → ZS → ZM → Prop) (h1 : zRow (zSt k) r1 L1) (h : zW E m_Tally_countRow 1 (zSt k) M 2 [some (.ref 74), some (.ref r1), some (.int x2), some (.int 0), none] [] Φ) : zW E m_Tally_countRow 1 (zSt k) M 0 [some (.ref 74), some (.ref r1), some (.int x2), none, none] [] Φ := by
  refine z_iconst 0 d_Tally_countRow_0 (by decide) ?_
  refine z_istore_n (ls' := [some (.ref 74), some (.ref r1), some (.int x2), some (.int 0), none]) d_Tally_countRow_1 (Nat.le_of_ble_eq_true rfl) rfl rfl ?_
  exact z_forget [some (.ref 74), some (.ref r1), some (.int x2), some (.int 0), none] (And.intro rfl (And.intro rfl (And.intro rfl (And.intro rfl (trivial))))) h

set_option maxRecDepth 20000 in
theorem vc_Tally_countRow_2 (E : ZE) (k : Nat) (M : ZM) (r1 L1 : Nat) (x2 : Int32) (x3 : Int32) (Φ : Option Value → ZS → ZM → Prop) (h1 : zRow (zSt k) r1 L1) (h : zW E m_Row_size 0 (zSt k) M 0 [some (.ref r1)] [] (fun q1 T1 M1 => ∃ y1 : Int32, q1 = some (.int y1) ∧ (zSt k) = T1 ∧ (y1 ≤ x3 → Φ none (zSt k) M1) ∧ (¬ y1 ≤ x3 → zW E m_Row_at 0 (zSt k) M1 0 [some (.ref r1), some (.int x3)] [] (fun q3 T3 M3 => ∃ y3 : Int32, q3 = some (.int y3) ∧ (zSt k) = T3 ∧ (y3 < 0 → ∀ y5 : Int32, y5 = x3 + 1 → zW E m_Tally_countRow 1 (zSt k) M3 2 [some (.ref 74), some (.ref r1), some (.int x2), some (.int y5), none] [] Φ) ∧ (¬ y3 < 0 → (5 ≤ y3 → ∀ y7 : Int32, y7 = x3 + 1 → zW E m_Tally_countRow 1 (zSt k) M3 2 [some (.ref 74), some (.ref r1), some (.int x2), some (.int y7), none] [] Φ) ∧ (¬ 5 ≤ y3 → ∃ j8 : Nat, j8 < 5 ∧ y3 = nI j8 ∧ (∃ j9 : Nat, j9 < 5 ∧ y3 = nI j9 ∧ (∀ M10 : ZM, M10 = zms M3 75 j9 ((M3 75 j8) + 1) → ∃ j11 : Nat, j11 < 5 ∧ y3 = nI j11 ∧ (∃ j12 : Nat, j12 < 5 ∧ y3 = nI j12 ∧ (∀ M13 : ZM, M13 = zms M10 76 j12 ((M10 76 j11) + x2) → ∀ y14 : Int32, y14 = x3 + 1 → zW E m_Tally_countRow 1 (zSt k) M13 2 [some (.ref 74), some (.ref r1), some (.int x2), some (.int y14), none] [] Φ)))))))))) : zW E m_Tally_countRow 1 (zSt k) M 2 [some (.ref 74), some (.ref r1), some (.int x2), some (.int x3), none] [] Φ := by
  refine z_iload_n d_Tally_countRow_2 rfl ?_
  refine z_aload_n d_Tally_countRow_3 rfl ?_
  refine z_callV (as := []) (st := [.int x3]) i_Row_size ⟨rfl, rfl⟩ v_Row_size w_Row_size l_Tally_37 d_Tally_countRow_4 (by decide) h1.1 rfl (Nat.le_of_ble_eq_true rfl) (Nat.le_of_ble_eq_true rfl) h (fun q1 T1 M1 h => ?_)
  obtain ⟨y1, rfl, rfl, h⟩ := h
  refine z_icmp_ge 56 d_Tally_countRow_7 rfl ⟨fun c2 => ?_, fun c2 => ?_⟩
  · replace h := h.1 c2
    exact z_vret rfl d_Tally_countRow_56 h
  · replace h := h.2 c2
    refine z_aload_n d_Tally_countRow_10 rfl ?_
    refine z_iload_n d_Tally_countRow_11 rfl ?_
    refine z_callV (as := [.int x3]) (st := []) i_Row_at ⟨rfl, rfl⟩ v_Row_at w_Row_at l_Tally_43 d_Tally_countRow_12 (by decide) h1.1 rfl (Nat.le_of_ble_eq_true rfl) (Nat.le_of_ble_eq_true rfl) h (fun q3 T3 M3 h => ?_)
    obtain ⟨y3, rfl, rfl, h⟩ := h
    refine z_istore (ls' := [some (.ref 74), some (.ref r1), some (.int x2), some (.int x3), some (.int y3)]) d_Tally_countRow_15 (Nat.le_of_ble_eq_true rfl) rfl rfl ?_
    refine z_iload d_Tally_countRow_17 rfl ?_
    refine z_if_lt 50 d_Tally_countRow_19 rfl ⟨fun c4 => ?_, fun c4 => ?_⟩
    · replace h := h.1 c4
      obtain ⟨y5, ey5⟩ : ∃ q : Int32, q = x3 + 1 := ⟨_, rfl⟩
      replace h := h y5 ey5
      refine z_iinc (ls' := [some (.ref 74), some (.ref r1), some (.int x2), some (.int y5), some (.int y3)]) y5 d_Tally_countRow_50 rfl (ey5 ▸ rfl) (Nat.le_of_ble_eq_true rfl) rfl rfl ?_
      refine z_goto 2 d_Tally_countRow_53 rfl ?_
      exact z_forget [some (.ref 74), some (.ref r1), some (.int x2), some (.int y5), none] (And.intro rfl (And.intro rfl (And.intro rfl (And.intro rfl (trivial))))) h
    · replace h := h.2 c4
      refine z_iload d_Tally_countRow_22 rfl ?_
      refine z_iconst 5 d_Tally_countRow_24 (by decide) ?_
      refine z_icmp_ge 50 d_Tally_countRow_25 rfl ⟨fun c6 => ?_, fun c6 => ?_⟩
      · replace h := h.1 c6
        obtain ⟨y7, ey7⟩ : ∃ q : Int32, q = x3 + 1 := ⟨_, rfl⟩
        replace h := h y7 ey7
        refine z_iinc (ls' := [some (.ref 74), some (.ref r1), some (.int x2), some (.int y7), some (.int y3)]) y7 d_Tally_countRow_50 rfl (ey7 ▸ rfl) (Nat.le_of_ble_eq_true rfl) rfl rfl ?_
        refine z_goto 2 d_Tally_countRow_53 rfl ?_
        exact z_forget [some (.ref 74), some (.ref r1), some (.int x2), some (.int y7), none] (And.intro rfl (And.intro rfl (And.intro rfl (And.intro rfl (trivial))))) h
      · replace h := h.2 c6
        refine z_aload_n d_Tally_countRow_28 rfl ?_
        refine z_getr f_Tally_9 rfl d_Tally_countRow_29 (tA_74 k) (tr_74_0 k) ?_
        refine z_iload d_Tally_countRow_32 rfl ?_
        refine z_dup2 d_Tally_countRow_34 rfl rfl ?_
        obtain ⟨j8, hj8, ej8, h⟩ := h
        refine y_iaload j8 d_Tally_countRow_35 (ta_75 k) hj8 ej8 ?_
        refine z_iconst 1 d_Tally_countRow_36 (by decide) ?_
        refine z_iadd d_Tally_countRow_37 ?_
        obtain ⟨j9, hj9, ej9, h⟩ := h
        refine y_iastore j9 d_Tally_countRow_38 (ta_75 k) hj9 ej9 ?_
        refine z_mem (fun M10 eM10 => ?_)
        replace h := h M10 eM10
        refine z_aload_n d_Tally_countRow_39 rfl ?_
        refine z_getr f_Tally_15 rfl d_Tally_countRow_40 (tA_74 k) (tr_74_1 k) ?_
        refine z_iload d_Tally_countRow_43 rfl ?_
        refine z_dup2 d_Tally_countRow_45 rfl rfl ?_
        obtain ⟨j11, hj11, ej11, h⟩ := h
        refine y_iaload j11 d_Tally_countRow_46 (ta_76 k) hj11 ej11 ?_
        refine z_iload_n d_Tally_countRow_47 rfl ?_
        refine z_iadd d_Tally_countRow_48 ?_
        obtain ⟨j12, hj12, ej12, h⟩ := h
        refine y_iastore j12 d_Tally_countRow_49 (ta_76 k) hj12 ej12 ?_
        refine z_mem (fun M13 eM13 => ?_)
        replace h := h M13 eM13
        obtain ⟨y14, ey14⟩ : ∃ q : Int32, q = x3 + 1 := ⟨_, rfl⟩
        replace h := h y14 ey14
        refine z_iinc (ls' := [some (.ref 74), some (.ref r1), some (.int x2), some (.int y14), some (.int y3)]) y14 d_Tally_countRow_50 rfl (ey14 ▸ rfl) (Nat.le_of_ble_eq_true rfl) rfl rfl ?_
        refine z_goto 2 d_Tally_countRow_53 rfl ?_
        exact z_forget [some (.ref 74), some (.ref r1), some (.int x2), some (.int y14), none] (And.intro rfl (And.intro rfl (And.intro rfl (And.intro rfl (trivial))))) h

set_option maxRecDepth 20000 in
theorem vc_Tally_mostOfAVariable_0 (E : ZE) (k : Nat) (M : ZM)  (Φ : Option Value → ZS → ZM → Prop)  (h : Φ (some (.int (if (M 75 2) < (if (M 75 3) < (M 75 4) then (M 75 4) else (M 75 3)) then (if (M 75 3) < (M 75 4) then (M 75 4) else (M 75 3)) else (M 75 2)))) (zSt k) M) : zW E m_Tally_mostOfAVariable 1 (zSt k) M 0 [some (.ref 74)] [] Φ := by
  refine z_aload_n d_Tally_mostOfAVariable_0 rfl ?_
  refine z_getr f_Tally_9 rfl d_Tally_mostOfAVariable_1 (tA_74 k) (tr_74_0 k) ?_
  refine z_iconst 2 d_Tally_mostOfAVariable_4 (by decide) ?_
  refine y_iaload 2 d_Tally_mostOfAVariable_5 (ta_75 k) (by decide) (by decide) ?_
  refine z_aload_n d_Tally_mostOfAVariable_6 rfl ?_
  refine z_getr f_Tally_9 rfl d_Tally_mostOfAVariable_7 (tA_74 k) (tr_74_0 k) ?_
  refine z_iconst 3 d_Tally_mostOfAVariable_10 (by decide) ?_
  refine y_iaload 3 d_Tally_mostOfAVariable_11 (ta_75 k) (by decide) (by decide) ?_
  refine z_aload_n d_Tally_mostOfAVariable_12 rfl ?_
  refine z_getr f_Tally_9 rfl d_Tally_mostOfAVariable_13 (tA_74 k) (tr_74_0 k) ?_
  refine z_iconst 4 d_Tally_mostOfAVariable_16 (by decide) ?_
  refine y_iaload 4 d_Tally_mostOfAVariable_17 (ta_75 k) (by decide) (by decide) ?_
  refine z_mmax l_Tally_47 mx_1 mx_2 mx_3 d_Tally_mostOfAVariable_18 (by decide) (Nat.le_of_ble_eq_true rfl) ?_
  refine z_mmax l_Tally_47 mx_1 mx_2 mx_3 d_Tally_mostOfAVariable_21 (by decide) (Nat.le_of_ble_eq_true rfl) ?_
  exact z_iret rfl d_Tally_mostOfAVariable_24 h

set_option maxRecDepth 20000 in
theorem vc_Tally_wordsGive_0 (E : ZE) (k : Nat) (M : ZM) (x1 : Int32) (x2 : Int32) (x3 : Int32) (Φ : Option Value → ZS → ZM → Prop)  (h : Φ (some (.int (((x1 * (M 76 2)) + (x2 * (M 76 3))) + (x3 * (M 76 4))))) (zSt k) M) : zW E m_Tally_wordsGive 0 (zSt k) M 0 [some (.ref 74), some (.int x1), some (.int x2), some (.int x3)] [] Φ := by
  refine z_iload_n d_Tally_wordsGive_0 rfl ?_
  refine z_aload_n d_Tally_wordsGive_1 rfl ?_
  refine z_getr f_Tally_15 rfl d_Tally_wordsGive_2 (tA_74 k) (tr_74_1 k) ?_
  refine z_iconst 2 d_Tally_wordsGive_5 (by decide) ?_
  refine y_iaload 2 d_Tally_wordsGive_6 (ta_76 k) (by decide) (by decide) ?_
  refine z_imul d_Tally_wordsGive_7 ?_
  refine z_iload_n d_Tally_wordsGive_8 rfl ?_
  refine z_aload_n d_Tally_wordsGive_9 rfl ?_
  refine z_getr f_Tally_15 rfl d_Tally_wordsGive_10 (tA_74 k) (tr_74_1 k) ?_
  refine z_iconst 3 d_Tally_wordsGive_13 (by decide) ?_
  refine y_iaload 3 d_Tally_wordsGive_14 (ta_76 k) (by decide) (by decide) ?_
  refine z_imul d_Tally_wordsGive_15 ?_
  refine z_iadd d_Tally_wordsGive_16 ?_
  refine z_iload_n d_Tally_wordsGive_17 rfl ?_
  refine z_aload_n d_Tally_wordsGive_18 rfl ?_
  refine z_getr f_Tally_15 rfl d_Tally_wordsGive_19 (tA_74 k) (tr_74_1 k) ?_
  refine z_iconst 4 d_Tally_wordsGive_22 (by decide) ?_
  refine y_iaload 4 d_Tally_wordsGive_23 (ta_76 k) (by decide) (by decide) ?_
  refine z_imul d_Tally_wordsGive_24 ?_
  refine z_iadd d_Tally_wordsGive_25 ?_
  exact z_iret rfl d_Tally_wordsGive_26 h

set_option maxRecDepth 20000 in
theorem vc_Tally_lacking_0 (E : ZE) (k : Nat) (M : ZM) (x1 : Int32) (Φ : Option Value → ZS → ZM → Prop)  (h : (¬ x1 = 0 → (¬ x1 = 1 → ∀ y3 : Int32, y3 = (M 76 1) → (¬ x1 = 1 → ∀ y5 : Int32, y5 = (M 76 0) → (¬ y5 = 0 → Φ (some (.int 1000)) (zSt k) M) ∧ (y5 = 0 → Φ (some (.int (-y3))) (zSt k) M)) ∧ (x1 = 1 → ∀ y7 : Int32, y7 = (M 76 1) → (¬ y7 = 0 → Φ (some (.int 1000)) (zSt k) M) ∧ (y7 = 0 → Φ (some (.int (-y3))) (zSt k) M))) ∧ (x1 = 1 → ∀ y9 : Int32, y9 = (M 76 0) → (¬ x1 = 1 → ∀ y11 : Int32, y11 = (M 76 0) → (¬ y11 = 0 → Φ (some (.int 1000)) (zSt k) M) ∧ (y11 = 0 → Φ (some (.int (-y9))) (zSt k) M)) ∧ (x1 = 1 → ∀ y13 : Int32, y13 = (M 76 1) → (¬ y13 = 0 → Φ (some (.int 1000)) (zSt k) M) ∧ (y13 = 0 → Φ (some (.int (-y9))) (zSt k) M)))) ∧ (x1 = 0 → Φ (some (.int ((-(M 76 0)) - (M 76 1)))) (zSt k) M)) : zW E m_Tally_lacking 0 (zSt k) M 0 [some (.ref 74), some (.int x1), none, none] [] Φ := by
  refine z_iload_n d_Tally_lacking_0 rfl ?_
  refine z_if_ne 19 d_Tally_lacking_1 rfl ⟨fun c1 => ?_, fun c1 => ?_⟩
  · replace h := h.1 c1
    refine z_iload_n d_Tally_lacking_19 rfl ?_
    refine z_iconst 1 d_Tally_lacking_20 (by decide) ?_
    refine z_icmp_ne 33 d_Tally_lacking_21 rfl ⟨fun c2 => ?_, fun c2 => ?_⟩
    · replace h := h.1 c2
      refine z_aload_n d_Tally_lacking_33 rfl ?_
      refine z_getr f_Tally_15 rfl d_Tally_lacking_34 (tA_74 k) (tr_74_1 k) ?_
      refine z_iconst 1 d_Tally_lacking_37 (by decide) ?_
      refine y_iaload 1 d_Tally_lacking_38 (ta_76 k) (by decide) (by decide) ?_
      refine z_name (fun y3 ey3 => ?_)
      replace h := h y3 ey3
      refine z_istore_n (ls' := [some (.ref 74), some (.int x1), some (.int y3), none]) d_Tally_lacking_39 (Nat.le_of_ble_eq_true rfl) rfl rfl ?_
      refine z_iload_n d_Tally_lacking_40 rfl ?_
      refine z_iconst 1 d_Tally_lacking_41 (by decide) ?_
      refine z_icmp_ne 54 d_Tally_lacking_42 rfl ⟨fun c4 => ?_, fun c4 => ?_⟩
      · replace h := h.1 c4
        refine z_aload_n d_Tally_lacking_54 rfl ?_
        refine z_getr f_Tally_15 rfl d_Tally_lacking_55 (tA_74 k) (tr_74_1 k) ?_
        refine z_iconst 0 d_Tally_lacking_58 (by decide) ?_
        refine y_iaload 0 d_Tally_lacking_59 (ta_76 k) (by decide) (by decide) ?_
        refine z_name (fun y5 ey5 => ?_)
        replace h := h y5 ey5
        refine z_istore_n (ls' := [some (.ref 74), some (.int x1), some (.int y3), some (.int y5)]) d_Tally_lacking_60 (Nat.le_of_ble_eq_true rfl) rfl rfl ?_
        refine z_iload_n d_Tally_lacking_61 rfl ?_
        refine z_if_ne 70 d_Tally_lacking_62 rfl ⟨fun c6 => ?_, fun c6 => ?_⟩
        · replace h := h.1 c6
          refine z_sipush 1000 d_Tally_lacking_70 (by decide) ?_
          exact z_iret rfl d_Tally_lacking_73 h
        · replace h := h.2 c6
          refine z_iload_n d_Tally_lacking_65 rfl ?_
          refine z_ineg d_Tally_lacking_66 ?_
          refine z_goto 73 d_Tally_lacking_67 rfl ?_
          exact z_iret rfl d_Tally_lacking_73 h
      · replace h := h.2 c4
        refine z_aload_n d_Tally_lacking_45 rfl ?_
        refine z_getr f_Tally_15 rfl d_Tally_lacking_46 (tA_74 k) (tr_74_1 k) ?_
        refine z_iconst 1 d_Tally_lacking_49 (by decide) ?_
        refine y_iaload 1 d_Tally_lacking_50 (ta_76 k) (by decide) (by decide) ?_
        refine z_goto 60 d_Tally_lacking_51 rfl ?_
        refine z_name (fun y7 ey7 => ?_)
        replace h := h y7 ey7
        refine z_istore_n (ls' := [some (.ref 74), some (.int x1), some (.int y3), some (.int y7)]) d_Tally_lacking_60 (Nat.le_of_ble_eq_true rfl) rfl rfl ?_
        refine z_iload_n d_Tally_lacking_61 rfl ?_
        refine z_if_ne 70 d_Tally_lacking_62 rfl ⟨fun c8 => ?_, fun c8 => ?_⟩
        · replace h := h.1 c8
          refine z_sipush 1000 d_Tally_lacking_70 (by decide) ?_
          exact z_iret rfl d_Tally_lacking_73 h
        · replace h := h.2 c8
          refine z_iload_n d_Tally_lacking_65 rfl ?_
          refine z_ineg d_Tally_lacking_66 ?_
          refine z_goto 73 d_Tally_lacking_67 rfl ?_
          exact z_iret rfl d_Tally_lacking_73 h
    · replace h := h.2 c2
      refine z_aload_n d_Tally_lacking_24 rfl ?_
      refine z_getr f_Tally_15 rfl d_Tally_lacking_25 (tA_74 k) (tr_74_1 k) ?_
      refine z_iconst 0 d_Tally_lacking_28 (by decide) ?_
      refine y_iaload 0 d_Tally_lacking_29 (ta_76 k) (by decide) (by decide) ?_
      refine z_goto 39 d_Tally_lacking_30 rfl ?_
      refine z_name (fun y9 ey9 => ?_)
      replace h := h y9 ey9
      refine z_istore_n (ls' := [some (.ref 74), some (.int x1), some (.int y9), none]) d_Tally_lacking_39 (Nat.le_of_ble_eq_true rfl) rfl rfl ?_
      refine z_iload_n d_Tally_lacking_40 rfl ?_
      refine z_iconst 1 d_Tally_lacking_41 (by decide) ?_
      refine z_icmp_ne 54 d_Tally_lacking_42 rfl ⟨fun c10 => ?_, fun c10 => ?_⟩
      · replace h := h.1 c10
        refine z_aload_n d_Tally_lacking_54 rfl ?_
        refine z_getr f_Tally_15 rfl d_Tally_lacking_55 (tA_74 k) (tr_74_1 k) ?_
        refine z_iconst 0 d_Tally_lacking_58 (by decide) ?_
        refine y_iaload 0 d_Tally_lacking_59 (ta_76 k) (by decide) (by decide) ?_
        refine z_name (fun y11 ey11 => ?_)
        replace h := h y11 ey11
        refine z_istore_n (ls' := [some (.ref 74), some (.int x1), some (.int y9), some (.int y11)]) d_Tally_lacking_60 (Nat.le_of_ble_eq_true rfl) rfl rfl ?_
        refine z_iload_n d_Tally_lacking_61 rfl ?_
        refine z_if_ne 70 d_Tally_lacking_62 rfl ⟨fun c12 => ?_, fun c12 => ?_⟩
        · replace h := h.1 c12
          refine z_sipush 1000 d_Tally_lacking_70 (by decide) ?_
          exact z_iret rfl d_Tally_lacking_73 h
        · replace h := h.2 c12
          refine z_iload_n d_Tally_lacking_65 rfl ?_
          refine z_ineg d_Tally_lacking_66 ?_
          refine z_goto 73 d_Tally_lacking_67 rfl ?_
          exact z_iret rfl d_Tally_lacking_73 h
      · replace h := h.2 c10
        refine z_aload_n d_Tally_lacking_45 rfl ?_
        refine z_getr f_Tally_15 rfl d_Tally_lacking_46 (tA_74 k) (tr_74_1 k) ?_
        refine z_iconst 1 d_Tally_lacking_49 (by decide) ?_
        refine y_iaload 1 d_Tally_lacking_50 (ta_76 k) (by decide) (by decide) ?_
        refine z_goto 60 d_Tally_lacking_51 rfl ?_
        refine z_name (fun y13 ey13 => ?_)
        replace h := h y13 ey13
        refine z_istore_n (ls' := [some (.ref 74), some (.int x1), some (.int y9), some (.int y13)]) d_Tally_lacking_60 (Nat.le_of_ble_eq_true rfl) rfl rfl ?_
        refine z_iload_n d_Tally_lacking_61 rfl ?_
        refine z_if_ne 70 d_Tally_lacking_62 rfl ⟨fun c14 => ?_, fun c14 => ?_⟩
        · replace h := h.1 c14
          refine z_sipush 1000 d_Tally_lacking_70 (by decide) ?_
          exact z_iret rfl d_Tally_lacking_73 h
        · replace h := h.2 c14
          refine z_iload_n d_Tally_lacking_65 rfl ?_
          refine z_ineg d_Tally_lacking_66 ?_
          refine z_goto 73 d_Tally_lacking_67 rfl ?_
          exact z_iret rfl d_Tally_lacking_73 h
  · replace h := h.2 c1
    refine z_aload_n d_Tally_lacking_4 rfl ?_
    refine z_getr f_Tally_15 rfl d_Tally_lacking_5 (tA_74 k) (tr_74_1 k) ?_
    refine z_iconst 0 d_Tally_lacking_8 (by decide) ?_
    refine y_iaload 0 d_Tally_lacking_9 (ta_76 k) (by decide) (by decide) ?_
    refine z_ineg d_Tally_lacking_10 ?_
    refine z_aload_n d_Tally_lacking_11 rfl ?_
    refine z_getr f_Tally_15 rfl d_Tally_lacking_12 (tA_74 k) (tr_74_1 k) ?_
    refine z_iconst 1 d_Tally_lacking_15 (by decide) ?_
    refine y_iaload 1 d_Tally_lacking_16 (ta_76 k) (by decide) (by decide) ?_
    refine z_isub d_Tally_lacking_17 ?_
    exact z_iret rfl d_Tally_lacking_18 h

set_option maxRecDepth 20000 in
theorem vc_Trial_seek_0 (E : ZE) (k : Nat) (M : ZM) (r1 : Nat) (Φ : Option Value → ZS → ZM → Prop) (h1 : zBook (zSt k) r1) (h : zW E m_Trial_findMaps 2 (zSt k) M 0 [some (.ref 69), some (.ref (r1 + 5)), none] [] (fun q1 T1 M1 => q1 = none ∧ (zSt k) = T1 ∧ zW E m_Trial_seek 4 (zSt k) M1 10 [some (.ref 69), some (.ref r1), some (.ref 74), some (.int 0)] [] Φ)) : zW E m_Trial_seek 4 (zSt k) M 0 [some (.ref 69), some (.ref r1), some (.ref 74), none] [] Φ := by
  refine z_aload_n d_Trial_seek_0 rfl ?_
  refine z_aload_n d_Trial_seek_1 rfl ?_
  refine z_getr f_Trial_24 rfl d_Trial_seek_2 h1.1 h1.2.2.2.1.1 ?_
  refine z_callV (as := [.ref (r1 + 5)]) (st := []) i_Trial_findMaps ⟨rfl, rfl⟩ v_Trial_findMaps w_Trial_findMaps l_Trial_30 d_Trial_seek_5 (by decide) (tA_69 k) rfl (Nat.le_of_ble_eq_true rfl) (Nat.le_of_ble_eq_true rfl) h (fun q1 T1 M1 h => ?_)
  obtain ⟨rfl, rfl, h⟩ := h
  refine z_iconst 0 d_Trial_seek_8 (by decide) ?_
  refine z_istore_n (ls' := [some (.ref 69), some (.ref r1), some (.ref 74), some (.int 0)]) d_Trial_seek_9 (Nat.le_of_ble_eq_true rfl) rfl rfl ?_
  exact z_forget [some (.ref 69), some (.ref r1), some (.ref 74), some (.int 0)] (And.intro rfl (And.intro rfl (And.intro rfl (And.intro rfl (trivial))))) h

set_option maxRecDepth 20000 in
theorem vc_Trial_seek_10 (E : ZE) (k : Nat) (M : ZM) (r1 : Nat) (x3 : Int32) (Φ : Option Value → ZS → ZM → Prop) (h1 : zBook (zSt k) r1) (h : (3 ≤ x3 → zW E m_Trial_seek 4 (zSt k) M 41 [some (.ref 69), some (.ref r1), some (.ref 74), some (.int 0)] [] Φ) ∧ (¬ 3 ≤ x3 → zW E m_Need_ofVariable 0 (zSt k) M 0 [some (.int (M r1 4)), some (.int x3)] [] (fun q2 T2 M2 => ∃ y2 : Int32, q2 = some (.int y2) ∧ (zSt k) = T2 ∧ zW E m_Trial_allowedWords 1 (zSt k) M2 0 [some (.ref 69), some (.int y2), none, none] [] (fun q3 T3 M3 => ∃ y3 : Int32, q3 = some (.int y3) ∧ (zSt k) = T3 ∧ ∃ j4 : Nat, j4 < 3 ∧ x3 = nI j4 ∧ (∀ M5 : ZM, M5 = zms M3 71 j4 y3 → ∀ y6 : Int32, y6 = x3 + 1 → zW E m_Trial_seek 4 (zSt k) M5 10 [some (.ref 69), some (.ref r1), some (.ref 74), some (.int y6)] [] Φ))))) : zW E m_Trial_seek 4 (zSt k) M 10 [some (.ref 69), some (.ref r1), some (.ref 74), some (.int x3)] [] Φ := by
  refine z_iload_n d_Trial_seek_10 rfl ?_
  refine z_iconst 3 d_Trial_seek_11 (by decide) ?_
  refine z_icmp_ge 39 d_Trial_seek_12 rfl ⟨fun c1 => ?_, fun c1 => ?_⟩
  · replace h := h.1 c1
    refine z_iconst 0 d_Trial_seek_39 (by decide) ?_
    refine z_istore_n (ls' := [some (.ref 69), some (.ref r1), some (.ref 74), some (.int 0)]) d_Trial_seek_40 (Nat.le_of_ble_eq_true rfl) rfl rfl ?_
    exact z_forget [some (.ref 69), some (.ref r1), some (.ref 74), some (.int 0)] (And.intro rfl (And.intro rfl (And.intro rfl (And.intro rfl (trivial))))) h
  · replace h := h.2 c1
    refine z_aload_n d_Trial_seek_15 rfl ?_
    refine z_getr f_Trial_15 rfl d_Trial_seek_16 (tA_69 k) (tr_69_1 k) ?_
    refine z_iload_n d_Trial_seek_19 rfl ?_
    refine z_aload_n d_Trial_seek_20 rfl ?_
    refine z_aload_n d_Trial_seek_21 rfl ?_
    refine z_geti f_Trial_34 rfl d_Trial_seek_22 h1.1 ?_
    refine z_iload_n d_Trial_seek_25 rfl ?_
    refine z_callS (as := [.int (M r1 4), .int x3]) (st := [.ref 69, .int x3, .ref 71]) i_Need_ofVariable s_Need_ofVariable l_Trial_38 d_Trial_seek_26 (by decide) rfl (Nat.le_of_ble_eq_true rfl) (Nat.le_of_ble_eq_true rfl) h (fun q2 T2 M2 h => ?_)
    obtain ⟨y2, rfl, rfl, h⟩ := h
    refine z_callV (as := [.int y2]) (st := [.int x3, .ref 71]) i_Trial_allowedWords ⟨rfl, rfl⟩ v_Trial_allowedWords w_Trial_allowedWords l_Trial_44 d_Trial_seek_29 (by decide) (tA_69 k) rfl (Nat.le_of_ble_eq_true rfl) (Nat.le_of_ble_eq_true rfl) h (fun q3 T3 M3 h => ?_)
    obtain ⟨y3, rfl, rfl, h⟩ := h
    obtain ⟨j4, hj4, ej4, h⟩ := h
    refine y_iastore j4 d_Trial_seek_32 (ta_71 k) hj4 ej4 ?_
    refine z_mem (fun M5 eM5 => ?_)
    replace h := h M5 eM5
    obtain ⟨y6, ey6⟩ : ∃ q : Int32, q = x3 + 1 := ⟨_, rfl⟩
    replace h := h y6 ey6
    refine z_iinc (ls' := [some (.ref 69), some (.ref r1), some (.ref 74), some (.int y6)]) y6 d_Trial_seek_33 rfl (ey6 ▸ rfl) (Nat.le_of_ble_eq_true rfl) rfl rfl ?_
    refine z_goto 10 d_Trial_seek_36 rfl ?_
    exact z_forget [some (.ref 69), some (.ref r1), some (.ref 74), some (.int y6)] (And.intro rfl (And.intro rfl (And.intro rfl (And.intro rfl (trivial))))) h

set_option maxRecDepth 20000 in
theorem vc_Trial_seek_41 (E : ZE) (k : Nat) (M : ZM) (r1 : Nat) (x3 : Int32) (Φ : Option Value → ZS → ZM → Prop) (h1 : zBook (zSt k) r1) (h : (9 < x3 → ∀ M2 : ZM, M2 = zms M 69 4 (-6) → Φ none (zSt k) M2) ∧ (¬ 9 < x3 → zW E m_Trial_seekOfSize 3 (zSt k) M 0 [some (.ref 69), some (.ref r1), some (.ref 74), some (.int x3), none, none, none] [] (fun q3 T3 M3 => ∃ y3 : Int32, q3 = some (.int y3) ∧ (zSt k) = T3 ∧ (y3 = 0 → ∀ y5 : Int32, y5 = x3 + 1 → zW E m_Trial_seek 4 (zSt k) M3 41 [some (.ref 69), some (.ref r1), some (.ref 74), some (.int y5)] [] Φ) ∧ (¬ y3 = 0 → ∀ M6 : ZM, M6 = zms M3 69 4 x3 → Φ none (zSt k) M6)))) : zW E m_Trial_seek 4 (zSt k) M 41 [some (.ref 69), some (.ref r1), some (.ref 74), some (.int x3)] [] Φ := by
  refine z_iload_n d_Trial_seek_41 rfl ?_
  refine z_bipush 9 d_Trial_seek_42 (by decide) ?_
  refine z_icmp_gt 69 d_Trial_seek_44 rfl ⟨fun c1 => ?_, fun c1 => ?_⟩
  · replace h := h.1 c1
    refine z_aload_n d_Trial_seek_69 rfl ?_
    refine z_bipush (-6) d_Trial_seek_70 (by decide) ?_
    refine z_puti (p_Trial_52 rfl) rfl d_Trial_seek_72 (tA_69 k) rfl rfl ?_
    refine z_mem (fun M2 eM2 => ?_)
    replace h := h M2 eM2
    exact z_vret rfl d_Trial_seek_75 h
  · replace h := h.2 c1
    refine z_aload_n d_Trial_seek_47 rfl ?_
    refine z_aload_n d_Trial_seek_48 rfl ?_
    refine z_aload_n d_Trial_seek_49 rfl ?_
    refine z_iload_n d_Trial_seek_50 rfl ?_
    refine z_callV (as := [.ref r1, .ref 74, .int x3]) (st := []) i_Trial_seekOfSize ⟨rfl, rfl⟩ v_Trial_seekOfSize w_Trial_seekOfSize l_Trial_48 d_Trial_seek_51 (by decide) (tA_69 k) rfl (Nat.le_of_ble_eq_true rfl) (Nat.le_of_ble_eq_true rfl) h (fun q3 T3 M3 h => ?_)
    obtain ⟨y3, rfl, rfl, h⟩ := h
    refine z_if_eq 63 d_Trial_seek_54 rfl ⟨fun c4 => ?_, fun c4 => ?_⟩
    · replace h := h.1 c4
      obtain ⟨y5, ey5⟩ : ∃ q : Int32, q = x3 + 1 := ⟨_, rfl⟩
      replace h := h y5 ey5
      refine z_iinc (ls' := [some (.ref 69), some (.ref r1), some (.ref 74), some (.int y5)]) y5 d_Trial_seek_63 rfl (ey5 ▸ rfl) (Nat.le_of_ble_eq_true rfl) rfl rfl ?_
      refine z_goto 41 d_Trial_seek_66 rfl ?_
      exact z_forget [some (.ref 69), some (.ref r1), some (.ref 74), some (.int y5)] (And.intro rfl (And.intro rfl (And.intro rfl (And.intro rfl (trivial))))) h
    · replace h := h.2 c4
      refine z_aload_n d_Trial_seek_57 rfl ?_
      refine z_iload_n d_Trial_seek_58 rfl ?_
      refine z_puti (p_Trial_52 rfl) rfl d_Trial_seek_59 (tA_69 k) rfl rfl ?_
      refine z_mem (fun M6 eM6 => ?_)
      replace h := h M6 eM6
      exact z_vret rfl d_Trial_seek_62 h

set_option maxRecDepth 20000 in
theorem vc_Trial_seekOfSize_0 (E : ZE) (k : Nat) (M : ZM) (r1 : Nat) (x3 : Int32) (Φ : Option Value → ZS → ZM → Prop) (h1 : zBook (zSt k) r1) (h : zW E m_Trial_seekOfSize 3 (zSt k) M 3 [some (.ref 69), some (.ref r1), some (.ref 74), some (.int x3), some (.int 0), none, none] [] Φ) : zW E m_Trial_seekOfSize 3 (zSt k) M 0 [some (.ref 69), some (.ref r1), some (.ref 74), some (.int x3), none, none, none] [] Φ := by
  refine z_iconst 0 d_Trial_seekOfSize_0 (by decide) ?_
  refine z_istore (ls' := [some (.ref 69), some (.ref r1), some (.ref 74), some (.int x3), some (.int 0), none, none]) d_Trial_seekOfSize_1 (Nat.le_of_ble_eq_true rfl) rfl rfl ?_
  exact z_forget [some (.ref 69), some (.ref r1), some (.ref 74), some (.int x3), some (.int 0), none, none] (And.intro rfl (And.intro rfl (And.intro rfl (And.intro rfl (And.intro rfl (trivial)))))) h

set_option maxRecDepth 20000 in
theorem vc_Trial_seekOfSize_3 (E : ZE) (k : Nat) (M : ZM) (r1 : Nat) (x3 : Int32) (x4 : Int32) (Φ : Option Value → ZS → ZM → Prop) (h1 : zBook (zSt k) r1) (h : (15 ≤ x4 → Φ (some (.int 0)) (zSt k) M) ∧ (¬ 15 ≤ x4 → zW E m_Trial_choose 1 (zSt k) M 0 [some (.ref 69), some (.int 0), some (.int x4)] [] (fun q2 T2 M2 => ∃ y2 : Int32, q2 = some (.int y2) ∧ (zSt k) = T2 ∧ (¬ y2 = 0 → zW E m_Trial_seekOfSize 3 (zSt k) M2 26 [some (.ref 69), some (.ref r1), some (.ref 74), some (.int x3), some (.int x4), some (.int 0), none] [] Φ) ∧ (y2 = 0 → ∀ y4 : Int32, y4 = x4 + 1 → zW E m_Trial_seekOfSize 3 (zSt k) M2 3 [some (.ref 69), some (.ref r1), some (.ref 74), some (.int x3), some (.int y4), none, none] [] Φ)))) : zW E m_Trial_seekOfSize 3 (zSt k) M 3 [some (.ref 69), some (.ref r1), some (.ref 74), some (.int x3), some (.int x4), none, none] [] Φ := by
  refine z_iload d_Trial_seekOfSize_3 rfl ?_
  refine z_bipush 15 d_Trial_seekOfSize_5 (by decide) ?_
  refine z_icmp_ge 120 d_Trial_seekOfSize_7 rfl ⟨fun c1 => ?_, fun c1 => ?_⟩
  · replace h := h.1 c1
    refine z_iconst 0 d_Trial_seekOfSize_120 (by decide) ?_
    exact z_zret rfl d_Trial_seekOfSize_121 rfl h
  · replace h := h.2 c1
    refine z_aload_n d_Trial_seekOfSize_10 rfl ?_
    refine z_iconst 0 d_Trial_seekOfSize_11 (by decide) ?_
    refine z_iload d_Trial_seekOfSize_12 rfl ?_
    refine z_callV (as := [.int 0, .int x4]) (st := []) i_Trial_choose ⟨rfl, rfl⟩ v_Trial_choose w_Trial_choose l_Trial_55 d_Trial_seekOfSize_14 (by decide) (tA_69 k) rfl (Nat.le_of_ble_eq_true rfl) (Nat.le_of_ble_eq_true rfl) h (fun q2 T2 M2 h => ?_)
    obtain ⟨y2, rfl, rfl, h⟩ := h
    refine z_if_ne 23 d_Trial_seekOfSize_17 rfl ⟨fun c3 => ?_, fun c3 => ?_⟩
    · replace h := h.1 c3
      refine z_iconst 0 d_Trial_seekOfSize_23 (by decide) ?_
      refine z_istore (ls' := [some (.ref 69), some (.ref r1), some (.ref 74), some (.int x3), some (.int x4), some (.int 0), none]) d_Trial_seekOfSize_24 (Nat.le_of_ble_eq_true rfl) rfl rfl ?_
      exact z_forget [some (.ref 69), some (.ref r1), some (.ref 74), some (.int x3), some (.int x4), some (.int 0), none] (And.intro rfl (And.intro rfl (And.intro rfl (And.intro rfl (And.intro rfl (And.intro rfl (trivial))))))) h
    · replace h := h.2 c3
      refine z_goto 114 d_Trial_seekOfSize_20 rfl ?_
      obtain ⟨y4, ey4⟩ : ∃ q : Int32, q = x4 + 1 := ⟨_, rfl⟩
      replace h := h y4 ey4
      refine z_iinc (ls' := [some (.ref 69), some (.ref r1), some (.ref 74), some (.int x3), some (.int y4), none, none]) y4 d_Trial_seekOfSize_114 rfl (ey4 ▸ rfl) (Nat.le_of_ble_eq_true rfl) rfl rfl ?_
      refine z_goto 3 d_Trial_seekOfSize_117 rfl ?_
      exact z_forget [some (.ref 69), some (.ref r1), some (.ref 74), some (.int x3), some (.int y4), none, none] (And.intro rfl (And.intro rfl (And.intro rfl (And.intro rfl (And.intro rfl (trivial)))))) h

set_option maxRecDepth 20000 in
theorem vc_Trial_seekOfSize_26 (E : ZE) (k : Nat) (M : ZM) (r1 : Nat) (x3 : Int32) (x4 : Int32) (x5 : Int32) (Φ : Option Value → ZS → ZM → Prop) (h1 : zBook (zSt k) r1) (h : (15 ≤ x5 → ∀ y2 : Int32, y2 = x4 + 1 → zW E m_Trial_seekOfSize 3 (zSt k) M 3 [some (.ref 69), some (.ref r1), some (.ref 74), some (.int x3), some (.int y2), none, none] [] Φ) ∧ (¬ 15 ≤ x5 → zW E m_Trial_choose 1 (zSt k) M 0 [some (.ref 69), some (.int 1), some (.int x5)] [] (fun q3 T3 M3 => ∃ y3 : Int32, q3 = some (.int y3) ∧ (zSt k) = T3 ∧ (¬ y3 = 0 → zW E m_Trial_sizeOf 0 (zSt k) M3 0 [some (.int x4)] [] (fun q5 T5 M5 => ∃ y5 : Int32, q5 = some (.int y5) ∧ (zSt k) = T5 ∧ zW E m_Trial_sizeOf 0 (zSt k) M5 0 [some (.int x5)] [] (fun q6 T6 M6 => ∃ y6 : Int32, q6 = some (.int y6) ∧ (zSt k) = T6 ∧ ∀ y7 : Int32, y7 = ((x3 - y5) - y6) → (y7 < 0 → ∀ y9 : Int32, y9 = x5 + 1 → zW E m_Trial_seekOfSize 3 (zSt k) M6 26 [some (.ref 69), some (.ref r1), some (.ref 74), some (.int x3), some (.int x4), some (.int y9), none] [] Φ) ∧ (¬ y7 < 0 → (3 < y7 → ∀ y11 : Int32, y11 = x5 + 1 → zW E m_Trial_seekOfSize 3 (zSt k) M6 26 [some (.ref 69), some (.ref r1), some (.ref 74), some (.int x3), some (.int x4), some (.int y11), none] [] Φ) ∧ (¬ 3 < y7 → zW E m_Trial_sizeOf 0 (zSt k) M6 0 [some (.int x4)] [] (fun q12 T12 M12 => ∃ y12 : Int32, q12 = some (.int y12) ∧ (zSt k) = T12 ∧ zW E m_Trial_sizeOf 0 (zSt k) M12 0 [some (.int x5)] [] (fun q13 T13 M13 => ∃ y13 : Int32, q13 = some (.int y13) ∧ (zSt k) = T13 ∧ zW E m_Tally_wordsGive 0 (zSt k) M13 0 [some (.ref 74), some (.int y12), some (.int y13), some (.int y7)] [] (fun q14 T14 M14 => ∃ y14 : Int32, q14 = some (.int y14) ∧ (zSt k) = T14 ∧ zW E m_Tally_lacking 0 (zSt k) M14 0 [some (.ref 74), some (.int 0), none, none] [] (fun q15 T15 M15 => ∃ y15 : Int32, q15 = some (.int y15) ∧ (zSt k) = T15 ∧ (¬ y14 = y15 → ∀ y17 : Int32, y17 = x5 + 1 → zW E m_Trial_seekOfSize 3 (zSt k) M15 26 [some (.ref 69), some (.ref r1), some (.ref 74), some (.int x3), some (.int x4), some (.int y17), none] [] Φ) ∧ (y14 = y15 → zW E m_Trial_seekLast 2 (zSt k) M15 0 [some (.ref 69), some (.ref r1), some (.int y7), none] [] (fun q18 T18 M18 => ∃ y18 : Int32, q18 = some (.int y18) ∧ (zSt k) = T18 ∧ (y18 = 0 → ∀ y20 : Int32, y20 = x5 + 1 → zW E m_Trial_seekOfSize 3 (zSt k) M18 26 [some (.ref 69), some (.ref r1), some (.ref 74), some (.int x3), some (.int x4), some (.int y20), none] [] Φ) ∧ (¬ y18 = 0 → Φ (some (.int 1)) (zSt k) M18)))))))))))) ∧ (y3 = 0 → ∀ y21 : Int32, y21 = x5 + 1 → zW E m_Trial_seekOfSize 3 (zSt k) M3 26 [some (.ref 69), some (.ref r1), some (.ref 74), some (.int x3), some (.int x4), some (.int y21), none] [] Φ)))) : zW E m_Trial_seekOfSize 3 (zSt k) M 26 [some (.ref 69), some (.ref r1), some (.ref 74), some (.int x3), some (.int x4), some (.int x5), none] [] Φ := by
  refine z_iload d_Trial_seekOfSize_26 rfl ?_
  refine z_bipush 15 d_Trial_seekOfSize_28 (by decide) ?_
  refine z_icmp_ge 114 d_Trial_seekOfSize_30 rfl ⟨fun c1 => ?_, fun c1 => ?_⟩
  · replace h := h.1 c1
    obtain ⟨y2, ey2⟩ : ∃ q : Int32, q = x4 + 1 := ⟨_, rfl⟩
    replace h := h y2 ey2
    refine z_iinc (ls' := [some (.ref 69), some (.ref r1), some (.ref 74), some (.int x3), some (.int y2), some (.int x5), none]) y2 d_Trial_seekOfSize_114 rfl (ey2 ▸ rfl) (Nat.le_of_ble_eq_true rfl) rfl rfl ?_
    refine z_goto 3 d_Trial_seekOfSize_117 rfl ?_
    exact z_forget [some (.ref 69), some (.ref r1), some (.ref 74), some (.int x3), some (.int y2), none, none] (And.intro rfl (And.intro rfl (And.intro rfl (And.intro rfl (And.intro rfl (trivial)))))) h
  · replace h := h.2 c1
    refine z_aload_n d_Trial_seekOfSize_33 rfl ?_
    refine z_iconst 1 d_Trial_seekOfSize_34 (by decide) ?_
    refine z_iload d_Trial_seekOfSize_35 rfl ?_
    refine z_callV (as := [.int 1, .int x5]) (st := []) i_Trial_choose ⟨rfl, rfl⟩ v_Trial_choose w_Trial_choose l_Trial_55 d_Trial_seekOfSize_37 (by decide) (tA_69 k) rfl (Nat.le_of_ble_eq_true rfl) (Nat.le_of_ble_eq_true rfl) h (fun q3 T3 M3 h => ?_)
    obtain ⟨y3, rfl, rfl, h⟩ := h
    refine z_if_ne 46 d_Trial_seekOfSize_40 rfl ⟨fun c4 => ?_, fun c4 => ?_⟩
    · replace h := h.1 c4
      refine z_iload_n d_Trial_seekOfSize_46 rfl ?_
      refine z_iload d_Trial_seekOfSize_47 rfl ?_
      refine z_callS (as := [.int x4]) (st := [.int x3]) i_Trial_sizeOf s_Trial_sizeOf l_Trial_59 d_Trial_seekOfSize_49 (by decide) rfl (Nat.le_of_ble_eq_true rfl) (Nat.le_of_ble_eq_true rfl) h (fun q5 T5 M5 h => ?_)
      obtain ⟨y5, rfl, rfl, h⟩ := h
      refine z_isub d_Trial_seekOfSize_52 ?_
      refine z_iload d_Trial_seekOfSize_53 rfl ?_
      refine z_callS (as := [.int x5]) (st := [.int (x3 - y5)]) i_Trial_sizeOf s_Trial_sizeOf l_Trial_59 d_Trial_seekOfSize_55 (by decide) rfl (Nat.le_of_ble_eq_true rfl) (Nat.le_of_ble_eq_true rfl) h (fun q6 T6 M6 h => ?_)
      obtain ⟨y6, rfl, rfl, h⟩ := h
      refine z_isub d_Trial_seekOfSize_58 ?_
      refine z_name (fun y7 ey7 => ?_)
      replace h := h y7 ey7
      refine z_istore (ls' := [some (.ref 69), some (.ref r1), some (.ref 74), some (.int x3), some (.int x4), some (.int x5), some (.int y7)]) d_Trial_seekOfSize_59 (Nat.le_of_ble_eq_true rfl) rfl rfl ?_
      refine z_iload d_Trial_seekOfSize_61 rfl ?_
      refine z_if_lt 108 d_Trial_seekOfSize_63 rfl ⟨fun c8 => ?_, fun c8 => ?_⟩
      · replace h := h.1 c8
        obtain ⟨y9, ey9⟩ : ∃ q : Int32, q = x5 + 1 := ⟨_, rfl⟩
        replace h := h y9 ey9
        refine z_iinc (ls' := [some (.ref 69), some (.ref r1), some (.ref 74), some (.int x3), some (.int x4), some (.int y9), some (.int y7)]) y9 d_Trial_seekOfSize_108 rfl (ey9 ▸ rfl) (Nat.le_of_ble_eq_true rfl) rfl rfl ?_
        refine z_goto 26 d_Trial_seekOfSize_111 rfl ?_
        exact z_forget [some (.ref 69), some (.ref r1), some (.ref 74), some (.int x3), some (.int x4), some (.int y9), none] (And.intro rfl (And.intro rfl (And.intro rfl (And.intro rfl (And.intro rfl (And.intro rfl (trivial))))))) h
      · replace h := h.2 c8
        refine z_iload d_Trial_seekOfSize_66 rfl ?_
        refine z_iconst 3 d_Trial_seekOfSize_68 (by decide) ?_
        refine z_icmp_gt 108 d_Trial_seekOfSize_69 rfl ⟨fun c10 => ?_, fun c10 => ?_⟩
        · replace h := h.1 c10
          obtain ⟨y11, ey11⟩ : ∃ q : Int32, q = x5 + 1 := ⟨_, rfl⟩
          replace h := h y11 ey11
          refine z_iinc (ls' := [some (.ref 69), some (.ref r1), some (.ref 74), some (.int x3), some (.int x4), some (.int y11), some (.int y7)]) y11 d_Trial_seekOfSize_108 rfl (ey11 ▸ rfl) (Nat.le_of_ble_eq_true rfl) rfl rfl ?_
          refine z_goto 26 d_Trial_seekOfSize_111 rfl ?_
          exact z_forget [some (.ref 69), some (.ref r1), some (.ref 74), some (.int x3), some (.int x4), some (.int y11), none] (And.intro rfl (And.intro rfl (And.intro rfl (And.intro rfl (And.intro rfl (And.intro rfl (trivial))))))) h
        · replace h := h.2 c10
          refine z_aload_n d_Trial_seekOfSize_72 rfl ?_
          refine z_iload d_Trial_seekOfSize_73 rfl ?_
          refine z_callS (as := [.int x4]) (st := [.ref 74]) i_Trial_sizeOf s_Trial_sizeOf l_Trial_59 d_Trial_seekOfSize_75 (by decide) rfl (Nat.le_of_ble_eq_true rfl) (Nat.le_of_ble_eq_true rfl) h (fun q12 T12 M12 h => ?_)
          obtain ⟨y12, rfl, rfl, h⟩ := h
          refine z_iload d_Trial_seekOfSize_78 rfl ?_
          refine z_callS (as := [.int x5]) (st := [.int y12, .ref 74]) i_Trial_sizeOf s_Trial_sizeOf l_Trial_59 d_Trial_seekOfSize_80 (by decide) rfl (Nat.le_of_ble_eq_true rfl) (Nat.le_of_ble_eq_true rfl) h (fun q13 T13 M13 h => ?_)
          obtain ⟨y13, rfl, rfl, h⟩ := h
          refine z_iload d_Trial_seekOfSize_83 rfl ?_
          refine z_callV (as := [.int y12, .int y13, .int y7]) (st := []) i_Tally_wordsGive ⟨rfl, rfl⟩ v_Tally_wordsGive w_Tally_wordsGive l_Trial_62 d_Trial_seekOfSize_85 (by decide) (tA_74 k) rfl (Nat.le_of_ble_eq_true rfl) (Nat.le_of_ble_eq_true rfl) h (fun q14 T14 M14 h => ?_)
          obtain ⟨y14, rfl, rfl, h⟩ := h
          refine z_aload_n d_Trial_seekOfSize_88 rfl ?_
          refine z_iconst 0 d_Trial_seekOfSize_89 (by decide) ?_
          refine z_callV (as := [.int 0]) (st := [.int y14]) i_Tally_lacking ⟨rfl, rfl⟩ v_Tally_lacking w_Tally_lacking l_Trial_68 d_Trial_seekOfSize_90 (by decide) (tA_74 k) rfl (Nat.le_of_ble_eq_true rfl) (Nat.le_of_ble_eq_true rfl) h (fun q15 T15 M15 h => ?_)
          obtain ⟨y15, rfl, rfl, h⟩ := h
          refine z_icmp_ne 108 d_Trial_seekOfSize_93 rfl ⟨fun c16 => ?_, fun c16 => ?_⟩
          · replace h := h.1 c16
            obtain ⟨y17, ey17⟩ : ∃ q : Int32, q = x5 + 1 := ⟨_, rfl⟩
            replace h := h y17 ey17
            refine z_iinc (ls' := [some (.ref 69), some (.ref r1), some (.ref 74), some (.int x3), some (.int x4), some (.int y17), some (.int y7)]) y17 d_Trial_seekOfSize_108 rfl (ey17 ▸ rfl) (Nat.le_of_ble_eq_true rfl) rfl rfl ?_
            refine z_goto 26 d_Trial_seekOfSize_111 rfl ?_
            exact z_forget [some (.ref 69), some (.ref r1), some (.ref 74), some (.int x3), some (.int x4), some (.int y17), none] (And.intro rfl (And.intro rfl (And.intro rfl (And.intro rfl (And.intro rfl (And.intro rfl (trivial))))))) h
          · replace h := h.2 c16
            refine z_aload_n d_Trial_seekOfSize_96 rfl ?_
            refine z_aload_n d_Trial_seekOfSize_97 rfl ?_
            refine z_iload d_Trial_seekOfSize_98 rfl ?_
            refine z_callV (as := [.ref r1, .int y7]) (st := []) i_Trial_seekLast ⟨rfl, rfl⟩ v_Trial_seekLast w_Trial_seekLast l_Trial_71 d_Trial_seekOfSize_100 (by decide) (tA_69 k) rfl (Nat.le_of_ble_eq_true rfl) (Nat.le_of_ble_eq_true rfl) h (fun q18 T18 M18 h => ?_)
            obtain ⟨y18, rfl, rfl, h⟩ := h
            refine z_if_eq 108 d_Trial_seekOfSize_103 rfl ⟨fun c19 => ?_, fun c19 => ?_⟩
            · replace h := h.1 c19
              obtain ⟨y20, ey20⟩ : ∃ q : Int32, q = x5 + 1 := ⟨_, rfl⟩
              replace h := h y20 ey20
              refine z_iinc (ls' := [some (.ref 69), some (.ref r1), some (.ref 74), some (.int x3), some (.int x4), some (.int y20), some (.int y7)]) y20 d_Trial_seekOfSize_108 rfl (ey20 ▸ rfl) (Nat.le_of_ble_eq_true rfl) rfl rfl ?_
              refine z_goto 26 d_Trial_seekOfSize_111 rfl ?_
              exact z_forget [some (.ref 69), some (.ref r1), some (.ref 74), some (.int x3), some (.int x4), some (.int y20), none] (And.intro rfl (And.intro rfl (And.intro rfl (And.intro rfl (And.intro rfl (And.intro rfl (trivial))))))) h
            · replace h := h.2 c19
              refine z_iconst 1 d_Trial_seekOfSize_106 (by decide) ?_
              exact z_zret rfl d_Trial_seekOfSize_107 rfl h
    · replace h := h.2 c4
      refine z_goto 108 d_Trial_seekOfSize_43 rfl ?_
      obtain ⟨y21, ey21⟩ : ∃ q : Int32, q = x5 + 1 := ⟨_, rfl⟩
      replace h := h y21 ey21
      refine z_iinc (ls' := [some (.ref 69), some (.ref r1), some (.ref 74), some (.int x3), some (.int x4), some (.int y21), none]) y21 d_Trial_seekOfSize_108 rfl (ey21 ▸ rfl) (Nat.le_of_ble_eq_true rfl) rfl rfl ?_
      refine z_goto 26 d_Trial_seekOfSize_111 rfl ?_
      exact z_forget [some (.ref 69), some (.ref r1), some (.ref 74), some (.int x3), some (.int x4), some (.int y21), none] (And.intro rfl (And.intro rfl (And.intro rfl (And.intro rfl (And.intro rfl (And.intro rfl (trivial))))))) h

set_option maxRecDepth 20000 in
theorem vc_Trial_seekLast_0 (E : ZE) (k : Nat) (M : ZM) (r1 : Nat) (x2 : Int32) (Φ : Option Value → ZS → ZM → Prop) (h1 : zBook (zSt k) r1) (h : ∀ y1 : Int32, y1 = (((1 : Int32) <<< (x2 &&& 31)) - 1) → zW E m_Trial_seekLast 2 (zSt k) M 6 [some (.ref 69), some (.ref r1), some (.int x2), some (.int y1)] [] Φ) : zW E m_Trial_seekLast 2 (zSt k) M 0 [some (.ref 69), some (.ref r1), some (.int x2), none] [] Φ := by
  refine z_iconst 1 d_Trial_seekLast_0 (by decide) ?_
  refine z_iload_n d_Trial_seekLast_1 rfl ?_
  refine z_ishl d_Trial_seekLast_2 ?_
  refine z_iconst 1 d_Trial_seekLast_3 (by decide) ?_
  refine z_isub d_Trial_seekLast_4 ?_
  refine z_name (fun y1 ey1 => ?_)
  replace h := h y1 ey1
  refine z_istore_n (ls' := [some (.ref 69), some (.ref r1), some (.int x2), some (.int y1)]) d_Trial_seekLast_5 (Nat.le_of_ble_eq_true rfl) rfl rfl ?_
  exact z_forget [some (.ref 69), some (.ref r1), some (.int x2), some (.int y1)] (And.intro rfl (And.intro rfl (And.intro rfl (And.intro rfl (trivial))))) h

set_option maxRecDepth 20000 in
theorem vc_Trial_seekLast_6 (E : ZE) (k : Nat) (M : ZM) (r1 : Nat) (x2 : Int32) (x3 : Int32) (Φ : Option Value → ZS → ZM → Prop) (h1 : zBook (zSt k) r1) (h : ((((2 : Int32) <<< (x2 &&& 31)) - 1) ≤ x3 → Φ (some (.int 0)) (zSt k) M) ∧ (¬ (((2 : Int32) <<< (x2 &&& 31)) - 1) ≤ x3 → zW E m_Trial_choose 1 (zSt k) M 0 [some (.ref 69), some (.int 2), some (.int x3)] [] (fun q2 T2 M2 => ∃ y2 : Int32, q2 = some (.int y2) ∧ (zSt k) = T2 ∧ (y2 = 0 → ∀ y4 : Int32, y4 = x3 + 1 → zW E m_Trial_seekLast 2 (zSt k) M2 6 [some (.ref 69), some (.ref r1), some (.int x2), some (.int y4)] [] Φ) ∧ (¬ y2 = 0 → zW E m_Trial_spelled 1 (zSt k) M2 0 [some (.ref 69), some (.ref (r1 + 1)), none, none, none, none] [] (fun q5 T5 M5 => ∃ y5 : Int64, q5 = some (.long y5) ∧ (zSt k) = T5 ∧ zW E m_Trial_spelled 1 (zSt k) M5 0 [some (.ref 69), some (.ref (r1 + 3)), none, none, none, none] [] (fun q6 T6 M6 => ∃ y6 : Int64, q6 = some (.long y6) ∧ (zSt k) = T6 ∧ (¬ (lg_cmp y5 y6) = 0 → ∀ y8 : Int32, y8 = x3 + 1 → zW E m_Trial_seekLast 2 (zSt k) M6 6 [some (.ref 69), some (.ref r1), some (.int x2), some (.int y8)] [] Φ) ∧ ((lg_cmp y5 y6) = 0 → Φ (some (.int 1)) (zSt k) M6))))))) : zW E m_Trial_seekLast 2 (zSt k) M 6 [some (.ref 69), some (.ref r1), some (.int x2), some (.int x3)] [] Φ := by
  refine z_iload_n d_Trial_seekLast_6 rfl ?_
  refine z_iconst 2 d_Trial_seekLast_7 (by decide) ?_
  refine z_iload_n d_Trial_seekLast_8 rfl ?_
  refine z_ishl d_Trial_seekLast_9 ?_
  refine z_iconst 1 d_Trial_seekLast_10 (by decide) ?_
  refine z_isub d_Trial_seekLast_11 ?_
  refine z_icmp_ge 52 d_Trial_seekLast_12 rfl ⟨fun c1 => ?_, fun c1 => ?_⟩
  · replace h := h.1 c1
    refine z_iconst 0 d_Trial_seekLast_52 (by decide) ?_
    exact z_zret rfl d_Trial_seekLast_53 rfl h
  · replace h := h.2 c1
    refine z_aload_n d_Trial_seekLast_15 rfl ?_
    refine z_iconst 2 d_Trial_seekLast_16 (by decide) ?_
    refine z_iload_n d_Trial_seekLast_17 rfl ?_
    refine z_callV (as := [.int 2, .int x3]) (st := []) i_Trial_choose ⟨rfl, rfl⟩ v_Trial_choose w_Trial_choose l_Trial_55 d_Trial_seekLast_18 (by decide) (tA_69 k) rfl (Nat.le_of_ble_eq_true rfl) (Nat.le_of_ble_eq_true rfl) h (fun q2 T2 M2 h => ?_)
    obtain ⟨y2, rfl, rfl, h⟩ := h
    refine z_if_eq 46 d_Trial_seekLast_21 rfl ⟨fun c3 => ?_, fun c3 => ?_⟩
    · replace h := h.1 c3
      obtain ⟨y4, ey4⟩ : ∃ q : Int32, q = x3 + 1 := ⟨_, rfl⟩
      replace h := h y4 ey4
      refine z_iinc (ls' := [some (.ref 69), some (.ref r1), some (.int x2), some (.int y4)]) y4 d_Trial_seekLast_46 rfl (ey4 ▸ rfl) (Nat.le_of_ble_eq_true rfl) rfl rfl ?_
      refine z_goto 6 d_Trial_seekLast_49 rfl ?_
      exact z_forget [some (.ref 69), some (.ref r1), some (.int x2), some (.int y4)] (And.intro rfl (And.intro rfl (And.intro rfl (And.intro rfl (trivial))))) h
    · replace h := h.2 c3
      refine z_aload_n d_Trial_seekLast_24 rfl ?_
      refine z_aload_n d_Trial_seekLast_25 rfl ?_
      refine z_getr f_Trial_75 rfl d_Trial_seekLast_26 h1.1 h1.2.1.1 ?_
      refine z_callV (as := [.ref (r1 + 1)]) (st := []) i_Trial_spelled ⟨rfl, rfl⟩ v_Trial_spelled w_Trial_spelled l_Trial_79 d_Trial_seekLast_29 (by decide) (tA_69 k) rfl (Nat.le_of_ble_eq_true rfl) (Nat.le_of_ble_eq_true rfl) h (fun q5 T5 M5 h => ?_)
      obtain ⟨y5, rfl, rfl, h⟩ := h
      refine z_aload_n d_Trial_seekLast_32 rfl ?_
      refine z_aload_n d_Trial_seekLast_33 rfl ?_
      refine z_getr f_Trial_83 rfl d_Trial_seekLast_34 h1.1 h1.2.2.1.1 ?_
      refine z_callV (as := [.ref (r1 + 3)]) (st := [.long y5]) i_Trial_spelled ⟨rfl, rfl⟩ v_Trial_spelled w_Trial_spelled l_Trial_79 d_Trial_seekLast_37 (by decide) (tA_69 k) rfl (Nat.le_of_ble_eq_true rfl) (Nat.le_of_ble_eq_true rfl) h (fun q6 T6 M6 h => ?_)
      obtain ⟨y6, rfl, rfl, h⟩ := h
      refine z_lcmp d_Trial_seekLast_40 ?_
      refine z_if_ne 46 d_Trial_seekLast_41 rfl ⟨fun c7 => ?_, fun c7 => ?_⟩
      · replace h := h.1 c7
        obtain ⟨y8, ey8⟩ : ∃ q : Int32, q = x3 + 1 := ⟨_, rfl⟩
        replace h := h y8 ey8
        refine z_iinc (ls' := [some (.ref 69), some (.ref r1), some (.int x2), some (.int y8)]) y8 d_Trial_seekLast_46 rfl (ey8 ▸ rfl) (Nat.le_of_ble_eq_true rfl) rfl rfl ?_
        refine z_goto 6 d_Trial_seekLast_49 rfl ?_
        exact z_forget [some (.ref 69), some (.ref r1), some (.int x2), some (.int y8)] (And.intro rfl (And.intro rfl (And.intro rfl (And.intro rfl (trivial))))) h
      · replace h := h.2 c7
        refine z_iconst 1 d_Trial_seekLast_44 (by decide) ?_
        exact z_zret rfl d_Trial_seekLast_45 rfl h

set_option maxRecDepth 20000 in
theorem vc_Trial_choose_0 (E : ZE) (k : Nat) (M : ZM) (x1 : Int32) (x2 : Int32) (Φ : Option Value → ZS → ZM → Prop)  (h : zW E m_H_isVariable 0 (zSt k) M 0 [some (.int x1)] [] (fun q1 T1 M1 => ∃ y1 : Int32, q1 = some (.int y1) ∧ (zSt k) = T1 ∧ (y1 = 0 → Φ (some (.int 0)) (zSt k) M1) ∧ (¬ y1 = 0 → ∃ j3 : Nat, j3 < 3 ∧ x1 = nI j3 ∧ ((¬ ((((M1 71 j3) : Int32) >>> (x2 &&& 31)) &&& 1) = 0 → zW E m_Trial_sizeOf 0 (zSt k) M1 0 [some (.int x2)] [] (fun q5 T5 M5 => ∃ y5 : Int32, q5 = some (.int y5) ∧ (zSt k) = T5 ∧ ∃ j6 : Nat, j6 < 5 ∧ (x1 + 2) = nI j6 ∧ (∀ M7 : ZM, M7 = zms M5 72 j6 y5 → zW E m_Trial_sizeOf 0 (zSt k) M7 0 [some (.int x2)] [] (fun q8 T8 M8 => ∃ y8 : Int32, q8 = some (.int y8) ∧ (zSt k) = T8 ∧ ∃ j9 : Nat, j9 < 5 ∧ (x1 + 2) = nI j9 ∧ (∀ M10 : ZM, M10 = zms M8 73 j9 ((x2 + 1) - ((1 : Int32) <<< (y8 &&& 31))) → Φ (some (.int 1)) (zSt k) M10))))) ∧ (((((M1 71 j3) : Int32) >>> (x2 &&& 31)) &&& 1) = 0 → Φ (some (.int 0)) (zSt k) M1))))) : zW E m_Trial_choose 1 (zSt k) M 0 [some (.ref 69), some (.int x1), some (.int x2)] [] Φ := by
  refine z_iload_n d_Trial_choose_0 rfl ?_
  refine z_callS (as := [.int x1]) (st := []) i_H_isVariable s_H_isVariable l_Trial_86 d_Trial_choose_1 (by decide) rfl (Nat.le_of_ble_eq_true rfl) (Nat.le_of_ble_eq_true rfl) h (fun q1 T1 M1 h => ?_)
  obtain ⟨y1, rfl, rfl, h⟩ := h
  refine z_if_eq 20 d_Trial_choose_4 rfl ⟨fun c2 => ?_, fun c2 => ?_⟩
  · replace h := h.1 c2
    refine z_iconst 0 d_Trial_choose_20 (by decide) ?_
    exact z_zret rfl d_Trial_choose_21 rfl h
  · replace h := h.2 c2
    refine z_aload_n d_Trial_choose_7 rfl ?_
    refine z_getr f_Trial_15 rfl d_Trial_choose_8 (tA_69 k) (tr_69_1 k) ?_
    refine z_iload_n d_Trial_choose_11 rfl ?_
    obtain ⟨j3, hj3, ej3, h⟩ := h
    refine y_iaload j3 d_Trial_choose_12 (ta_71 k) hj3 ej3 ?_
    refine z_iload_n d_Trial_choose_13 rfl ?_
    refine z_ishr d_Trial_choose_14 ?_
    refine z_iconst 1 d_Trial_choose_15 (by decide) ?_
    refine z_iand d_Trial_choose_16 ?_
    refine z_if_ne 22 d_Trial_choose_17 rfl ⟨fun c4 => ?_, fun c4 => ?_⟩
    · replace h := h.1 c4
      refine z_aload_n d_Trial_choose_22 rfl ?_
      refine z_getr f_Trial_18 rfl d_Trial_choose_23 (tA_69 k) (tr_69_2 k) ?_
      refine z_iload_n d_Trial_choose_26 rfl ?_
      refine z_iconst 2 d_Trial_choose_27 (by decide) ?_
      refine z_iadd d_Trial_choose_28 ?_
      refine z_iload_n d_Trial_choose_29 rfl ?_
      refine z_callS (as := [.int x2]) (st := [.int (x1 + 2), .ref 72]) i_Trial_sizeOf s_Trial_sizeOf l_Trial_59 d_Trial_choose_30 (by decide) rfl (Nat.le_of_ble_eq_true rfl) (Nat.le_of_ble_eq_true rfl) h (fun q5 T5 M5 h => ?_)
      obtain ⟨y5, rfl, rfl, h⟩ := h
      obtain ⟨j6, hj6, ej6, h⟩ := h
      refine y_iastore j6 d_Trial_choose_33 (ta_72 k) hj6 ej6 ?_
      refine z_mem (fun M7 eM7 => ?_)
      replace h := h M7 eM7
      refine z_aload_n d_Trial_choose_34 rfl ?_
      refine z_getr f_Trial_21 rfl d_Trial_choose_35 (tA_69 k) (tr_69_3 k) ?_
      refine z_iload_n d_Trial_choose_38 rfl ?_
      refine z_iconst 2 d_Trial_choose_39 (by decide) ?_
      refine z_iadd d_Trial_choose_40 ?_
      refine z_iload_n d_Trial_choose_41 rfl ?_
      refine z_iconst 1 d_Trial_choose_42 (by decide) ?_
      refine z_iadd d_Trial_choose_43 ?_
      refine z_iconst 1 d_Trial_choose_44 (by decide) ?_
      refine z_iload_n d_Trial_choose_45 rfl ?_
      refine z_callS (as := [.int x2]) (st := [.int 1, .int (x2 + 1), .int (x1 + 2), .ref 73]) i_Trial_sizeOf s_Trial_sizeOf l_Trial_59 d_Trial_choose_46 (by decide) rfl (Nat.le_of_ble_eq_true rfl) (Nat.le_of_ble_eq_true rfl) h (fun q8 T8 M8 h => ?_)
      obtain ⟨y8, rfl, rfl, h⟩ := h
      refine z_ishl d_Trial_choose_49 ?_
      refine z_isub d_Trial_choose_50 ?_
      obtain ⟨j9, hj9, ej9, h⟩ := h
      refine y_iastore j9 d_Trial_choose_51 (ta_73 k) hj9 ej9 ?_
      refine z_mem (fun M10 eM10 => ?_)
      replace h := h M10 eM10
      refine z_iconst 1 d_Trial_choose_52 (by decide) ?_
      exact z_zret rfl d_Trial_choose_53 rfl h
    · replace h := h.2 c4
      refine z_iconst 0 d_Trial_choose_20 (by decide) ?_
      exact z_zret rfl d_Trial_choose_21 rfl h

set_option maxRecDepth 20000 in
theorem vc_Trial_spelled_0 (E : ZE) (k : Nat) (M : ZM) (r1 L1 : Nat) (Φ : Option Value → ZS → ZM → Prop) (h1 : zRow (zSt k) r1 L1) (h : zW E m_Trial_spelled 1 (zSt k) M 5 [some (.ref 69), some (.ref r1), some (.long 1), none, some (.int 0), none] [] Φ) : zW E m_Trial_spelled 1 (zSt k) M 0 [some (.ref 69), some (.ref r1), none, none, none, none] [] Φ := by
  refine z_lconst 1 d_Trial_spelled_0 (by decide) ?_
  refine z_lstore_n (ls' := [some (.ref 69), some (.ref r1), some (.long 1), none, none, none]) d_Trial_spelled_1 (Nat.le_of_ble_eq_true rfl) rfl rfl ?_
  refine z_iconst 0 d_Trial_spelled_2 (by decide) ?_
  refine z_istore (ls' := [some (.ref 69), some (.ref r1), some (.long 1), none, some (.int 0), none]) d_Trial_spelled_3 (Nat.le_of_ble_eq_true rfl) rfl rfl ?_
  exact z_forget [some (.ref 69), some (.ref r1), some (.long 1), none, some (.int 0), none] (And.intro rfl (And.intro rfl (And.intro rfl (And.intro rfl (trivial))))) h

set_option maxRecDepth 20000 in
theorem vc_Trial_spelled_5 (E : ZE) (k : Nat) (M : ZM) (r1 L1 : Nat) (w2 : Int64) (x4 : Int32) (Φ : Option Value → ZS → ZM → Prop) (h1 : zRow (zSt k) r1 L1) (h : zW E m_Row_size 0 (zSt k) M 0 [some (.ref r1)] [] (fun q1 T1 M1 => ∃ y1 : Int32, q1 = some (.int y1) ∧ (zSt k) = T1 ∧ (y1 ≤ x4 → Φ (some (.long w2)) (zSt k) M1) ∧ (¬ y1 ≤ x4 → zW E m_Row_at 0 (zSt k) M1 0 [some (.ref r1), some (.int x4)] [] (fun q3 T3 M3 => ∃ y3 : Int32, q3 = some (.int y3) ∧ (zSt k) = T3 ∧ (y3 < 0 → ∀ y5 : Int32, y5 = x4 + 1 → zW E m_Trial_spelled 1 (zSt k) M3 5 [some (.ref 69), some (.ref r1), some (.long w2), none, some (.int y5), none] [] Φ) ∧ (¬ y3 < 0 → (5 ≤ y3 → ∀ y7 : Int32, y7 = x4 + 1 → zW E m_Trial_spelled 1 (zSt k) M3 5 [some (.ref 69), some (.ref r1), some (.long w2), none, some (.int y7), none] [] Φ) ∧ (¬ 5 ≤ y3 → ∃ j8 : Nat, j8 < 5 ∧ y3 = nI j8 ∧ (∃ j9 : Nat, j9 < 5 ∧ y3 = nI j9 ∧ (∀ y10 : Int64, y10 = (((w2 : Int64) <<< (Int32.toInt64 (M3 72 j8) &&& 63)) + (Int32.toInt64 (M3 73 j9))) → ∀ y11 : Int32, y11 = x4 + 1 → zW E m_Trial_spelled 1 (zSt k) M3 5 [some (.ref 69), some (.ref r1), some (.long y10), none, some (.int y11), none] [] Φ)))))))) : zW E m_Trial_spelled 1 (zSt k) M 5 [some (.ref 69), some (.ref r1), some (.long w2), none, some (.int x4), none] [] Φ := by
  refine z_iload d_Trial_spelled_5 rfl ?_
  refine z_aload_n d_Trial_spelled_7 rfl ?_
  refine z_callV (as := []) (st := [.int x4]) i_Row_size ⟨rfl, rfl⟩ v_Row_size w_Row_size l_Trial_90 d_Trial_spelled_8 (by decide) h1.1 rfl (Nat.le_of_ble_eq_true rfl) (Nat.le_of_ble_eq_true rfl) h (fun q1 T1 M1 h => ?_)
  obtain ⟨y1, rfl, rfl, h⟩ := h
  refine z_icmp_ge 58 d_Trial_spelled_11 rfl ⟨fun c2 => ?_, fun c2 => ?_⟩
  · replace h := h.1 c2
    refine z_lload_n d_Trial_spelled_58 rfl ?_
    exact z_lret rfl d_Trial_spelled_59 h
  · replace h := h.2 c2
    refine z_aload_n d_Trial_spelled_14 rfl ?_
    refine z_iload d_Trial_spelled_15 rfl ?_
    refine z_callV (as := [.int x4]) (st := []) i_Row_at ⟨rfl, rfl⟩ v_Row_at w_Row_at l_Trial_96 d_Trial_spelled_17 (by decide) h1.1 rfl (Nat.le_of_ble_eq_true rfl) (Nat.le_of_ble_eq_true rfl) h (fun q3 T3 M3 h => ?_)
    obtain ⟨y3, rfl, rfl, h⟩ := h
    refine z_istore (ls' := [some (.ref 69), some (.ref r1), some (.long w2), none, some (.int x4), some (.int y3)]) d_Trial_spelled_20 (Nat.le_of_ble_eq_true rfl) rfl rfl ?_
    refine z_iload d_Trial_spelled_22 rfl ?_
    refine z_if_lt 52 d_Trial_spelled_24 rfl ⟨fun c4 => ?_, fun c4 => ?_⟩
    · replace h := h.1 c4
      obtain ⟨y5, ey5⟩ : ∃ q : Int32, q = x4 + 1 := ⟨_, rfl⟩
      replace h := h y5 ey5
      refine z_iinc (ls' := [some (.ref 69), some (.ref r1), some (.long w2), none, some (.int y5), some (.int y3)]) y5 d_Trial_spelled_52 rfl (ey5 ▸ rfl) (Nat.le_of_ble_eq_true rfl) rfl rfl ?_
      refine z_goto 5 d_Trial_spelled_55 rfl ?_
      exact z_forget [some (.ref 69), some (.ref r1), some (.long w2), none, some (.int y5), none] (And.intro rfl (And.intro rfl (And.intro rfl (And.intro rfl (trivial))))) h
    · replace h := h.2 c4
      refine z_iload d_Trial_spelled_27 rfl ?_
      refine z_iconst 5 d_Trial_spelled_29 (by decide) ?_
      refine z_icmp_ge 52 d_Trial_spelled_30 rfl ⟨fun c6 => ?_, fun c6 => ?_⟩
      · replace h := h.1 c6
        obtain ⟨y7, ey7⟩ : ∃ q : Int32, q = x4 + 1 := ⟨_, rfl⟩
        replace h := h y7 ey7
        refine z_iinc (ls' := [some (.ref 69), some (.ref r1), some (.long w2), none, some (.int y7), some (.int y3)]) y7 d_Trial_spelled_52 rfl (ey7 ▸ rfl) (Nat.le_of_ble_eq_true rfl) rfl rfl ?_
        refine z_goto 5 d_Trial_spelled_55 rfl ?_
        exact z_forget [some (.ref 69), some (.ref r1), some (.long w2), none, some (.int y7), none] (And.intro rfl (And.intro rfl (And.intro rfl (And.intro rfl (trivial))))) h
      · replace h := h.2 c6
        refine z_lload_n d_Trial_spelled_33 rfl ?_
        refine z_aload_n d_Trial_spelled_34 rfl ?_
        refine z_getr f_Trial_18 rfl d_Trial_spelled_35 (tA_69 k) (tr_69_2 k) ?_
        refine z_iload d_Trial_spelled_38 rfl ?_
        obtain ⟨j8, hj8, ej8, h⟩ := h
        refine y_iaload j8 d_Trial_spelled_40 (ta_72 k) hj8 ej8 ?_
        refine z_lshl d_Trial_spelled_41 ?_
        refine z_aload_n d_Trial_spelled_42 rfl ?_
        refine z_getr f_Trial_21 rfl d_Trial_spelled_43 (tA_69 k) (tr_69_3 k) ?_
        refine z_iload d_Trial_spelled_46 rfl ?_
        obtain ⟨j9, hj9, ej9, h⟩ := h
        refine y_iaload j9 d_Trial_spelled_48 (ta_73 k) hj9 ej9 ?_
        refine z_i2l d_Trial_spelled_49 ?_
        refine z_ladd d_Trial_spelled_50 ?_
        refine z_namel (fun y10 ey10 => ?_)
        replace h := h y10 ey10
        refine z_lstore_n (ls' := [some (.ref 69), some (.ref r1), some (.long y10), none, some (.int x4), some (.int y3)]) d_Trial_spelled_51 (Nat.le_of_ble_eq_true rfl) rfl rfl ?_
        obtain ⟨y11, ey11⟩ : ∃ q : Int32, q = x4 + 1 := ⟨_, rfl⟩
        replace h := h y11 ey11
        refine z_iinc (ls' := [some (.ref 69), some (.ref r1), some (.long y10), none, some (.int y11), some (.int y3)]) y11 d_Trial_spelled_52 rfl (ey11 ▸ rfl) (Nat.le_of_ble_eq_true rfl) rfl rfl ?_
        refine z_goto 5 d_Trial_spelled_55 rfl ?_
        exact z_forget [some (.ref 69), some (.ref r1), some (.long y10), none, some (.int y11), none] (And.intro rfl (And.intro rfl (And.intro rfl (And.intro rfl (trivial))))) h

set_option maxRecDepth 20000 in
theorem vc_Trial_sizeOf_0 (E : ZE) (k : Nat) (M : ZM) (x0 : Int32) (Φ : Option Value → ZS → ZM → Prop)  (h : (1 ≤ x0 → (3 ≤ x0 → (7 ≤ x0 → Φ (some (.int 3)) (zSt k) M) ∧ (¬ 7 ≤ x0 → Φ (some (.int 2)) (zSt k) M)) ∧ (¬ 3 ≤ x0 → Φ (some (.int 1)) (zSt k) M)) ∧ (¬ 1 ≤ x0 → Φ (some (.int 0)) (zSt k) M)) : zW E m_Trial_sizeOf 0 (zSt k) M 0 [some (.int x0)] [] Φ := by
  refine z_iload_n d_Trial_sizeOf_0 rfl ?_
  refine z_iconst 1 d_Trial_sizeOf_1 (by decide) ?_
  refine z_icmp_ge 9 d_Trial_sizeOf_2 rfl ⟨fun c1 => ?_, fun c1 => ?_⟩
  · replace h := h.1 c1
    refine z_iload_n d_Trial_sizeOf_9 rfl ?_
    refine z_iconst 3 d_Trial_sizeOf_10 (by decide) ?_
    refine z_icmp_ge 18 d_Trial_sizeOf_11 rfl ⟨fun c2 => ?_, fun c2 => ?_⟩
    · replace h := h.1 c2
      refine z_iload_n d_Trial_sizeOf_18 rfl ?_
      refine z_bipush 7 d_Trial_sizeOf_19 (by decide) ?_
      refine z_icmp_ge 28 d_Trial_sizeOf_21 rfl ⟨fun c3 => ?_, fun c3 => ?_⟩
      · replace h := h.1 c3
        refine z_iconst 3 d_Trial_sizeOf_28 (by decide) ?_
        exact z_iret rfl d_Trial_sizeOf_29 h
      · replace h := h.2 c3
        refine z_iconst 2 d_Trial_sizeOf_24 (by decide) ?_
        refine z_goto 29 d_Trial_sizeOf_25 rfl ?_
        exact z_iret rfl d_Trial_sizeOf_29 h
    · replace h := h.2 c2
      refine z_iconst 1 d_Trial_sizeOf_14 (by decide) ?_
      refine z_goto 29 d_Trial_sizeOf_15 rfl ?_
      exact z_iret rfl d_Trial_sizeOf_29 h
  · replace h := h.2 c1
    refine z_iconst 0 d_Trial_sizeOf_5 (by decide) ?_
    refine z_goto 29 d_Trial_sizeOf_6 rfl ?_
    exact z_iret rfl d_Trial_sizeOf_29 h

set_option maxRecDepth 20000 in
theorem vc_Trial_findMaps_0 (E : ZE) (k : Nat) (M : ZM) (r1 : Nat) (Φ : Option Value → ZS → ZM → Prop) (h1 : zMach (zSt k) r1) (h : ∀ M1 : ZM, M1 = zms M 70 0 273 → zW E m_Trial_findMaps 2 (zSt k) M1 11 [some (.ref 69), some (.ref r1), some (.int 1)] [] Φ) : zW E m_Trial_findMaps 2 (zSt k) M 0 [some (.ref 69), some (.ref r1), none] [] Φ := by
  refine z_aload_n d_Trial_findMaps_0 rfl ?_
  refine z_getr f_Trial_11 rfl d_Trial_findMaps_1 (tA_69 k) (tr_69_0 k) ?_
  refine z_iconst 0 d_Trial_findMaps_4 (by decide) ?_
  refine z_sipush 273 d_Trial_findMaps_5 (by decide) ?_
  refine y_iastore 0 d_Trial_findMaps_8 (ta_70 k) (by decide) (by decide) ?_
  refine z_mem (fun M1 eM1 => ?_)
  replace h := h M1 eM1
  refine z_iconst 1 d_Trial_findMaps_9 (by decide) ?_
  refine z_istore_n (ls' := [some (.ref 69), some (.ref r1), some (.int 1)]) d_Trial_findMaps_10 (Nat.le_of_ble_eq_true rfl) rfl rfl ?_
  exact z_forget [some (.ref 69), some (.ref r1), some (.int 1)] (And.intro rfl (And.intro rfl (And.intro rfl (trivial)))) h

set_option maxRecDepth 20000 in
theorem vc_Trial_findMaps_11 (E : ZE) (k : Nat) (M : ZM) (r1 : Nat) (x2 : Int32) (Φ : Option Value → ZS → ZM → Prop) (h1 : zMach (zSt k) r1) (h : (15 ≤ x2 → Φ none (zSt k) M) ∧ (¬ 15 ≤ x2 → ∃ j2 : Nat, j2 < 15 ∧ ((x2 - 1) / 2) = nI j2 ∧ (zW E m_Machine_mapBehind 1 (zSt k) M 0 [some (.ref r1), some (.int (M 70 j2)), some (.int ((x2 - 1) - (x2 - 1) / 2 * 2)), none, none, none] [] (fun q3 T3 M3 => ∃ y3 : Int32, q3 = some (.int y3) ∧ (zSt k) = T3 ∧ ∃ j4 : Nat, j4 < 15 ∧ x2 = nI j4 ∧ (∀ M5 : ZM, M5 = zms M3 70 j4 y3 → ∀ y6 : Int32, y6 = x2 + 1 → zW E m_Trial_findMaps 2 (zSt k) M5 11 [some (.ref 69), some (.ref r1), some (.int y6)] [] Φ))))) : zW E m_Trial_findMaps 2 (zSt k) M 11 [some (.ref 69), some (.ref r1), some (.int x2)] [] Φ := by
  refine z_iload_n d_Trial_findMaps_11 rfl ?_
  refine z_bipush 15 d_Trial_findMaps_12 (by decide) ?_
  refine z_icmp_ge 48 d_Trial_findMaps_14 rfl ⟨fun c1 => ?_, fun c1 => ?_⟩
  · replace h := h.1 c1
    exact z_vret rfl d_Trial_findMaps_48 h
  · replace h := h.2 c1
    refine z_aload_n d_Trial_findMaps_17 rfl ?_
    refine z_getr f_Trial_11 rfl d_Trial_findMaps_18 (tA_69 k) (tr_69_0 k) ?_
    refine z_iload_n d_Trial_findMaps_21 rfl ?_
    refine z_aload_n d_Trial_findMaps_22 rfl ?_
    refine z_aload_n d_Trial_findMaps_23 rfl ?_
    refine z_getr f_Trial_11 rfl d_Trial_findMaps_24 (tA_69 k) (tr_69_0 k) ?_
    refine z_iload_n d_Trial_findMaps_27 rfl ?_
    refine z_iconst 1 d_Trial_findMaps_28 (by decide) ?_
    refine z_isub d_Trial_findMaps_29 ?_
    refine z_iconst 2 d_Trial_findMaps_30 (by decide) ?_
    refine z_idiv d_Trial_findMaps_31 (by decide) ?_
    obtain ⟨j2, hj2, ej2, h⟩ := h
    refine y_iaload j2 d_Trial_findMaps_32 (ta_70 k) hj2 ej2 ?_
    refine z_iload_n d_Trial_findMaps_33 rfl ?_
    refine z_iconst 1 d_Trial_findMaps_34 (by decide) ?_
    refine z_isub d_Trial_findMaps_35 ?_
    refine z_iconst 2 d_Trial_findMaps_36 (by decide) ?_
    refine z_irem d_Trial_findMaps_37 (by decide) ?_
    refine z_callV (as := [.int (M 70 j2), .int ((x2 - 1) - (x2 - 1) / 2 * 2)]) (st := [.int x2, .ref 70]) i_Machine_mapBehind ⟨rfl, rfl⟩ v_Machine_mapBehind w_Machine_mapBehind l_Trial_99 d_Trial_findMaps_38 (by decide) h1.1 rfl (Nat.le_of_ble_eq_true rfl) (Nat.le_of_ble_eq_true rfl) h (fun q3 T3 M3 h => ?_)
    obtain ⟨y3, rfl, rfl, h⟩ := h
    obtain ⟨j4, hj4, ej4, h⟩ := h
    refine y_iastore j4 d_Trial_findMaps_41 (ta_70 k) hj4 ej4 ?_
    refine z_mem (fun M5 eM5 => ?_)
    replace h := h M5 eM5
    obtain ⟨y6, ey6⟩ : ∃ q : Int32, q = x2 + 1 := ⟨_, rfl⟩
    replace h := h y6 ey6
    refine z_iinc (ls' := [some (.ref 69), some (.ref r1), some (.int y6)]) y6 d_Trial_findMaps_42 rfl (ey6 ▸ rfl) (Nat.le_of_ble_eq_true rfl) rfl rfl ?_
    refine z_goto 11 d_Trial_findMaps_45 rfl ?_
    exact z_forget [some (.ref 69), some (.ref r1), some (.int y6)] (And.intro rfl (And.intro rfl (And.intro rfl (trivial)))) h

set_option maxRecDepth 20000 in
theorem vc_Trial_allowedWords_0 (E : ZE) (k : Nat) (M : ZM) (x1 : Int32) (Φ : Option Value → ZS → ZM → Prop)  (h : zW E m_Trial_allowedWords 1 (zSt k) M 4 [some (.ref 69), some (.int x1), some (.int 0), some (.int 0)] [] Φ) : zW E m_Trial_allowedWords 1 (zSt k) M 0 [some (.ref 69), some (.int x1), none, none] [] Φ := by
  refine z_iconst 0 d_Trial_allowedWords_0 (by decide) ?_
  refine z_istore_n (ls' := [some (.ref 69), some (.int x1), some (.int 0), none]) d_Trial_allowedWords_1 (Nat.le_of_ble_eq_true rfl) rfl rfl ?_
  refine z_iconst 0 d_Trial_allowedWords_2 (by decide) ?_
  refine z_istore_n (ls' := [some (.ref 69), some (.int x1), some (.int 0), some (.int 0)]) d_Trial_allowedWords_3 (Nat.le_of_ble_eq_true rfl) rfl rfl ?_
  exact z_forget [some (.ref 69), some (.int x1), some (.int 0), some (.int 0)] (And.intro rfl (And.intro rfl (And.intro rfl (And.intro rfl (trivial))))) h

set_option maxRecDepth 20000 in
theorem vc_Trial_allowedWords_4 (E : ZE) (k : Nat) (M : ZM) (x1 : Int32) (x2 : Int32) (x3 : Int32) (Φ : Option Value → ZS → ZM → Prop)  (h : (15 ≤ x3 → Φ (some (.int x2)) (zSt k) M) ∧ (¬ 15 ≤ x3 → ∃ j2 : Nat, j2 < 15 ∧ x3 = nI j2 ∧ (zW E m_Need_allows 0 (zSt k) M 0 [some (.int x1), some (.int (M 70 j2))] [] (fun q3 T3 M3 => ∃ y3 : Int32, q3 = some (.int y3) ∧ (zSt k) = T3 ∧ (y3 = 0 → ∀ y5 : Int32, y5 = x3 + 1 → zW E m_Trial_allowedWords 1 (zSt k) M3 4 [some (.ref 69), some (.int x1), some (.int x2), some (.int y5)] [] Φ) ∧ (¬ y3 = 0 → ∀ y6 : Int32, y6 = (x2 ||| ((1 : Int32) <<< (x3 &&& 31))) → ∀ y7 : Int32, y7 = x3 + 1 → zW E m_Trial_allowedWords 1 (zSt k) M3 4 [some (.ref 69), some (.int x1), some (.int y6), some (.int y7)] [] Φ))))) : zW E m_Trial_allowedWords 1 (zSt k) M 4 [some (.ref 69), some (.int x1), some (.int x2), some (.int x3)] [] Φ := by
  refine z_iload_n d_Trial_allowedWords_4 rfl ?_
  refine z_bipush 15 d_Trial_allowedWords_5 (by decide) ?_
  refine z_icmp_ge 35 d_Trial_allowedWords_7 rfl ⟨fun c1 => ?_, fun c1 => ?_⟩
  · replace h := h.1 c1
    refine z_iload_n d_Trial_allowedWords_35 rfl ?_
    exact z_iret rfl d_Trial_allowedWords_36 h
  · replace h := h.2 c1
    refine z_iload_n d_Trial_allowedWords_10 rfl ?_
    refine z_aload_n d_Trial_allowedWords_11 rfl ?_
    refine z_getr f_Trial_11 rfl d_Trial_allowedWords_12 (tA_69 k) (tr_69_0 k) ?_
    refine z_iload_n d_Trial_allowedWords_15 rfl ?_
    obtain ⟨j2, hj2, ej2, h⟩ := h
    refine y_iaload j2 d_Trial_allowedWords_16 (ta_70 k) hj2 ej2 ?_
    refine z_callS (as := [.int x1, .int (M 70 j2)]) (st := []) i_Need_allows s_Need_allows l_Trial_104 d_Trial_allowedWords_17 (by decide) rfl (Nat.le_of_ble_eq_true rfl) (Nat.le_of_ble_eq_true rfl) h (fun q3 T3 M3 h => ?_)
    obtain ⟨y3, rfl, rfl, h⟩ := h
    refine z_if_eq 29 d_Trial_allowedWords_20 rfl ⟨fun c4 => ?_, fun c4 => ?_⟩
    · replace h := h.1 c4
      obtain ⟨y5, ey5⟩ : ∃ q : Int32, q = x3 + 1 := ⟨_, rfl⟩
      replace h := h y5 ey5
      refine z_iinc (ls' := [some (.ref 69), some (.int x1), some (.int x2), some (.int y5)]) y5 d_Trial_allowedWords_29 rfl (ey5 ▸ rfl) (Nat.le_of_ble_eq_true rfl) rfl rfl ?_
      refine z_goto 4 d_Trial_allowedWords_32 rfl ?_
      exact z_forget [some (.ref 69), some (.int x1), some (.int x2), some (.int y5)] (And.intro rfl (And.intro rfl (And.intro rfl (And.intro rfl (trivial))))) h
    · replace h := h.2 c4
      refine z_iload_n d_Trial_allowedWords_23 rfl ?_
      refine z_iconst 1 d_Trial_allowedWords_24 (by decide) ?_
      refine z_iload_n d_Trial_allowedWords_25 rfl ?_
      refine z_ishl d_Trial_allowedWords_26 ?_
      refine z_ior d_Trial_allowedWords_27 ?_
      refine z_name (fun y6 ey6 => ?_)
      replace h := h y6 ey6
      refine z_istore_n (ls' := [some (.ref 69), some (.int x1), some (.int y6), some (.int x3)]) d_Trial_allowedWords_28 (Nat.le_of_ble_eq_true rfl) rfl rfl ?_
      obtain ⟨y7, ey7⟩ : ∃ q : Int32, q = x3 + 1 := ⟨_, rfl⟩
      replace h := h y7 ey7
      refine z_iinc (ls' := [some (.ref 69), some (.int x1), some (.int y6), some (.int y7)]) y7 d_Trial_allowedWords_29 rfl (ey7 ▸ rfl) (Nat.le_of_ble_eq_true rfl) rfl rfl ?_
      refine z_goto 4 d_Trial_allowedWords_32 rfl ?_
      exact z_forget [some (.ref 69), some (.int x1), some (.int y6), some (.int y7)] (And.intro rfl (And.intro rfl (And.intro rfl (And.intro rfl (trivial))))) h

set_option maxRecDepth 20000 in
theorem vc_Trial_codeOf_0 (E : ZE) (k : Nat) (M : ZM) (x1 : Int32) (Φ : Option Value → ZS → ZM → Prop)  (h : zW E m_H_isVariable 0 (zSt k) M 0 [some (.int x1)] [] (fun q1 T1 M1 => ∃ y1 : Int32, q1 = some (.int y1) ∧ (zSt k) = T1 ∧ (¬ y1 = 0 → ∃ j3 : Nat, j3 < 5 ∧ (x1 + 2) = nI j3 ∧ (∀ y4 : Int32, y4 = (M1 72 j3) → zW E m_Trial_codeOf 1 (zSt k) M1 24 [some (.ref 69), some (.int x1), some (.int y4), some (.int 0), some (.int 0)] [] Φ)) ∧ (y1 = 0 → Φ (some (.int (-6))) (zSt k) M1))) : zW E m_Trial_codeOf 1 (zSt k) M 0 [some (.ref 69), some (.int x1), none, none, none] [] Φ := by
  refine z_iload_n d_Trial_codeOf_0 rfl ?_
  refine z_callS (as := [.int x1]) (st := []) i_H_isVariable s_H_isVariable l_Trial_86 d_Trial_codeOf_1 (by decide) rfl (Nat.le_of_ble_eq_true rfl) (Nat.le_of_ble_eq_true rfl) h (fun q1 T1 M1 h => ?_)
  obtain ⟨y1, rfl, rfl, h⟩ := h
  refine z_if_ne 10 d_Trial_codeOf_4 rfl ⟨fun c2 => ?_, fun c2 => ?_⟩
  · replace h := h.1 c2
    refine z_aload_n d_Trial_codeOf_10 rfl ?_
    refine z_getr f_Trial_18 rfl d_Trial_codeOf_11 (tA_69 k) (tr_69_2 k) ?_
    refine z_iload_n d_Trial_codeOf_14 rfl ?_
    refine z_iconst 2 d_Trial_codeOf_15 (by decide) ?_
    refine z_iadd d_Trial_codeOf_16 ?_
    obtain ⟨j3, hj3, ej3, h⟩ := h
    refine y_iaload j3 d_Trial_codeOf_17 (ta_72 k) hj3 ej3 ?_
    refine z_name (fun y4 ey4 => ?_)
    replace h := h y4 ey4
    refine z_istore_n (ls' := [some (.ref 69), some (.int x1), some (.int y4), none, none]) d_Trial_codeOf_18 (Nat.le_of_ble_eq_true rfl) rfl rfl ?_
    refine z_iconst 0 d_Trial_codeOf_19 (by decide) ?_
    refine z_istore_n (ls' := [some (.ref 69), some (.int x1), some (.int y4), some (.int 0), none]) d_Trial_codeOf_20 (Nat.le_of_ble_eq_true rfl) rfl rfl ?_
    refine z_iconst 0 d_Trial_codeOf_21 (by decide) ?_
    refine z_istore (ls' := [some (.ref 69), some (.int x1), some (.int y4), some (.int 0), some (.int 0)]) d_Trial_codeOf_22 (Nat.le_of_ble_eq_true rfl) rfl rfl ?_
    exact z_forget [some (.ref 69), some (.int x1), some (.int y4), some (.int 0), some (.int 0)] (And.intro rfl (And.intro rfl (And.intro rfl (And.intro rfl (And.intro rfl (trivial)))))) h
  · replace h := h.2 c2
    refine z_bipush (-6) d_Trial_codeOf_7 (by decide) ?_
    exact z_iret rfl d_Trial_codeOf_9 h

set_option maxRecDepth 20000 in
theorem vc_Trial_codeOf_24 (E : ZE) (k : Nat) (M : ZM) (x1 : Int32) (x2 : Int32) (x3 : Int32) (x4 : Int32) (Φ : Option Value → ZS → ZM → Prop)  (h : (x2 ≤ x4 → Φ (some (.int ((100 * x2) + x3))) (zSt k) M) ∧ (¬ x2 ≤ x4 → ∃ j2 : Nat, j2 < 5 ∧ (x1 + 2) = nI j2 ∧ (∀ y3 : Int32, y3 = ((2 * x3) + ((((M 73 j2) : Int32) >>> (x4 &&& 31)) &&& 1)) → ∀ y4 : Int32, y4 = x4 + 1 → zW E m_Trial_codeOf 1 (zSt k) M 24 [some (.ref 69), some (.int x1), some (.int x2), some (.int y3), some (.int y4)] [] Φ))) : zW E m_Trial_codeOf 1 (zSt k) M 24 [some (.ref 69), some (.int x1), some (.int x2), some (.int x3), some (.int x4)] [] Φ := by
  refine z_iload d_Trial_codeOf_24 rfl ?_
  refine z_iload_n d_Trial_codeOf_26 rfl ?_
  refine z_icmp_ge 54 d_Trial_codeOf_27 rfl ⟨fun c1 => ?_, fun c1 => ?_⟩
  · replace h := h.1 c1
    refine z_bipush 100 d_Trial_codeOf_54 (by decide) ?_
    refine z_iload_n d_Trial_codeOf_56 rfl ?_
    refine z_imul d_Trial_codeOf_57 ?_
    refine z_iload_n d_Trial_codeOf_58 rfl ?_
    refine z_iadd d_Trial_codeOf_59 ?_
    exact z_iret rfl d_Trial_codeOf_60 h
  · replace h := h.2 c1
    refine z_iconst 2 d_Trial_codeOf_30 (by decide) ?_
    refine z_iload_n d_Trial_codeOf_31 rfl ?_
    refine z_imul d_Trial_codeOf_32 ?_
    refine z_aload_n d_Trial_codeOf_33 rfl ?_
    refine z_getr f_Trial_21 rfl d_Trial_codeOf_34 (tA_69 k) (tr_69_3 k) ?_
    refine z_iload_n d_Trial_codeOf_37 rfl ?_
    refine z_iconst 2 d_Trial_codeOf_38 (by decide) ?_
    refine z_iadd d_Trial_codeOf_39 ?_
    obtain ⟨j2, hj2, ej2, h⟩ := h
    refine y_iaload j2 d_Trial_codeOf_40 (ta_73 k) hj2 ej2 ?_
    refine z_iload d_Trial_codeOf_41 rfl ?_
    refine z_ishr d_Trial_codeOf_43 ?_
    refine z_iconst 1 d_Trial_codeOf_44 (by decide) ?_
    refine z_iand d_Trial_codeOf_45 ?_
    refine z_iadd d_Trial_codeOf_46 ?_
    refine z_name (fun y3 ey3 => ?_)
    replace h := h y3 ey3
    refine z_istore_n (ls' := [some (.ref 69), some (.int x1), some (.int x2), some (.int y3), some (.int x4)]) d_Trial_codeOf_47 (Nat.le_of_ble_eq_true rfl) rfl rfl ?_
    obtain ⟨y4, ey4⟩ : ∃ q : Int32, q = x4 + 1 := ⟨_, rfl⟩
    replace h := h y4 ey4
    refine z_iinc (ls' := [some (.ref 69), some (.int x1), some (.int x2), some (.int y3), some (.int y4)]) y4 d_Trial_codeOf_48 rfl (ey4 ▸ rfl) (Nat.le_of_ble_eq_true rfl) rfl rfl ?_
    refine z_goto 24 d_Trial_codeOf_51 rfl ?_
    exact z_forget [some (.ref 69), some (.int x1), some (.int x2), some (.int y3), some (.int y4)] (And.intro rfl (And.intro rfl (And.intro rfl (And.intro rfl (And.intro rfl (trivial)))))) h

set_option maxRecDepth 20000 in
theorem vc_Answer_trace_0 (E : ZE) (k : Nat) (M : ZM)  (Φ : Option Value → ZS → ZM → Prop)  (h : ∀ M1 : ZM, M1 = zms M 61 3 0 → zW E m_Net_at 0 (zSt k) M1 0 [some (.ref 50), some (.int (M1 50 10))] [] (fun q2 T2 M2 => ∃ o2 : Option Nat, q2 = some (va_rf o2) ∧ (zSt k) = T2 ∧ (o2 = none → Φ none (zSt k) M2) ∧ (∀ b2 : Nat, o2 = some b2 → zNode (zSt k) b2 ∧ (zW E m_Answer_trace 3 (zSt k) M2 27 [some (.ref 61), some (.ref b2), some (.int 0), none] [] Φ)))) : zW E m_Answer_trace 3 (zSt k) M 0 [some (.ref 61), none, none, none] [] Φ := by
  refine z_aload_n d_Answer_trace_0 rfl ?_
  refine z_iconst 0 d_Answer_trace_1 (by decide) ?_
  refine z_puti (p_Answer_28 rfl) rfl d_Answer_trace_2 (tA_61 k) rfl rfl ?_
  refine z_mem (fun M1 eM1 => ?_)
  replace h := h M1 eM1
  refine z_aload_n d_Answer_trace_5 rfl ?_
  refine z_getr f_Answer_20 rfl d_Answer_trace_6 (tA_61 k) (tr_61_0 k) ?_
  refine z_aload_n d_Answer_trace_9 rfl ?_
  refine z_getr f_Answer_20 rfl d_Answer_trace_10 (tA_61 k) (tr_61_0 k) ?_
  refine z_geti f_Answer_32 rfl d_Answer_trace_13 (tA_50 k) ?_
  refine z_callV (as := [.int (M1 50 10)]) (st := []) i_Net_at ⟨rfl, rfl⟩ v_Net_at w_Net_at l_Answer_38 d_Answer_trace_16 (by decide) (tA_50 k) rfl (Nat.le_of_ble_eq_true rfl) (Nat.le_of_ble_eq_true rfl) h (fun q2 T2 M2 h => ?_)
  obtain ⟨o2, rfl, rfl, h⟩ := h
  cases o2 with
  | none =>
    replace h := h.1 rfl
    refine z_astore_nN (ls' := [some (.ref 61), some .null, none, none]) d_Answer_trace_19 (Nat.le_of_ble_eq_true rfl) rfl rfl ?_
    refine z_aload_nN d_Answer_trace_20 rfl ?_
    refine z_ifnonnullN d_Answer_trace_21 ?_
    exact z_vret rfl d_Answer_trace_24 h
  | some b2 =>
    obtain ⟨zb2, h⟩ := h.2 b2 rfl
    refine z_astore_n (ls' := [some (.ref 61), some (.ref b2), none, none]) d_Answer_trace_19 (Nat.le_of_ble_eq_true rfl) rfl rfl ?_
    refine z_aload_n d_Answer_trace_20 rfl ?_
    refine z_ifnonnull 25 d_Answer_trace_21 rfl ?_
    refine z_iconst 0 d_Answer_trace_25 (by decide) ?_
    refine z_istore_n (ls' := [some (.ref 61), some (.ref b2), some (.int 0), none]) d_Answer_trace_26 (Nat.le_of_ble_eq_true rfl) rfl rfl ?_
    exact z_forget [some (.ref 61), some (.ref b2), some (.int 0), none] (And.intro rfl (And.intro rfl (And.intro rfl (trivial)))) h

set_option maxRecDepth 20000 in
theorem vc_Answer_trace_27 (E : ZE) (k : Nat) (M : ZM) (r1 : Nat) (x2 : Int32) (Φ : Option Value → ZS → ZM → Prop) (h1 : zNode (zSt k) r1) (h : (3 ≤ x2 → zW E m_Answer_trace 3 (zSt k) M 70 [some (.ref 61), some (.ref r1), some (.int 0), none] [] Φ) ∧ (¬ 3 ≤ x2 → zW E m_Need_ofVariable 0 (zSt k) M 0 [some (.int (M r1 5)), some (.int x2)] [] (fun q2 T2 M2 => ∃ y2 : Int32, q2 = some (.int y2) ∧ (zSt k) = T2 ∧ zW E m_Shorts_firstFit 1 (zSt k) M2 0 [some (.ref 45), some (.int y2), none, none] [] (fun q3 T3 M3 => ∃ y3 : Int32, q3 = some (.int y3) ∧ (zSt k) = T3 ∧ zW E m_Words_of 0 (zSt k) M3 0 [some (.ref 62), some (.int x2)] [] (fun q4 T4 M4 => ∃ b4 L4 : Nat, q4 = some (.ref b4) ∧ (zSt k) = T4 ∧ zRow (zSt k) b4 L4 ∧ (zW E m_Shorts_write 2 (zSt k) M4 0 [some (.ref 45), some (.int y3), some (.ref b4), none, none] [] (fun q5 T5 M5 => q5 = none ∧ (zSt k) = T5 ∧ ∀ y6 : Int32, y6 = x2 + 1 → zW E m_Answer_trace 3 (zSt k) M5 27 [some (.ref 61), some (.ref r1), some (.int y6), none] [] Φ))))))) : zW E m_Answer_trace 3 (zSt k) M 27 [some (.ref 61), some (.ref r1), some (.int x2), none] [] Φ := by
  refine z_iload_n d_Answer_trace_27 rfl ?_
  refine z_iconst 3 d_Answer_trace_28 (by decide) ?_
  refine z_icmp_ge 68 d_Answer_trace_29 rfl ⟨fun c1 => ?_, fun c1 => ?_⟩
  · replace h := h.1 c1
    refine z_iconst 0 d_Answer_trace_68 (by decide) ?_
    refine z_istore_n (ls' := [some (.ref 61), some (.ref r1), some (.int 0), none]) d_Answer_trace_69 (Nat.le_of_ble_eq_true rfl) rfl rfl ?_
    exact z_forget [some (.ref 61), some (.ref r1), some (.int 0), none] (And.intro rfl (And.intro rfl (And.intro rfl (trivial)))) h
  · replace h := h.2 c1
    refine z_aload_n d_Answer_trace_32 rfl ?_
    refine z_getr f_Answer_24 rfl d_Answer_trace_33 (tA_61 k) (tr_61_1 k) ?_
    refine z_aload_n d_Answer_trace_36 rfl ?_
    refine z_getr f_Answer_24 rfl d_Answer_trace_37 (tA_61 k) (tr_61_1 k) ?_
    refine z_aload_n d_Answer_trace_40 rfl ?_
    refine z_geti f_Answer_42 rfl d_Answer_trace_41 h1.1 ?_
    refine z_iload_n d_Answer_trace_44 rfl ?_
    refine z_callS (as := [.int (M r1 5), .int x2]) (st := [.ref 45, .ref 45]) i_Need_ofVariable s_Need_ofVariable l_Answer_47 d_Answer_trace_45 (by decide) rfl (Nat.le_of_ble_eq_true rfl) (Nat.le_of_ble_eq_true rfl) h (fun q2 T2 M2 h => ?_)
    obtain ⟨y2, rfl, rfl, h⟩ := h
    refine z_callV (as := [.int y2]) (st := [.ref 45]) i_Shorts_firstFit ⟨rfl, rfl⟩ v_Shorts_firstFit w_Shorts_firstFit l_Answer_53 d_Answer_trace_48 (by decide) (tA_45 k) rfl (Nat.le_of_ble_eq_true rfl) (Nat.le_of_ble_eq_true rfl) h (fun q3 T3 M3 h => ?_)
    obtain ⟨y3, rfl, rfl, h⟩ := h
    refine z_aload_n d_Answer_trace_51 rfl ?_
    refine z_getr f_Answer_14 rfl d_Answer_trace_52 (tA_61 k) (tr_61_2 k) ?_
    refine z_iload_n d_Answer_trace_55 rfl ?_
    refine z_callV (as := [.int x2]) (st := [.int y3, .ref 45]) i_Words_of ⟨rfl, rfl⟩ v_Words_of w_Words_of l_Answer_59 d_Answer_trace_56 (by decide) (tA_62 k) rfl (Nat.le_of_ble_eq_true rfl) (Nat.le_of_ble_eq_true rfl) h (fun q4 T4 M4 h => ?_)
    obtain ⟨b4, L4, rfl, rfl, zb4, h⟩ := h
    refine z_callV (as := [.int y3, .ref b4]) (st := []) i_Shorts_write ⟨rfl, rfl⟩ v_Shorts_write w_Shorts_write l_Answer_63 d_Answer_trace_59 (by decide) (tA_45 k) rfl (Nat.le_of_ble_eq_true rfl) (Nat.le_of_ble_eq_true rfl) h (fun q5 T5 M5 h => ?_)
    obtain ⟨rfl, rfl, h⟩ := h
    obtain ⟨y6, ey6⟩ : ∃ q : Int32, q = x2 + 1 := ⟨_, rfl⟩
    replace h := h y6 ey6
    refine z_iinc (ls' := [some (.ref 61), some (.ref r1), some (.int y6), none]) y6 d_Answer_trace_62 rfl (ey6 ▸ rfl) (Nat.le_of_ble_eq_true rfl) rfl rfl ?_
    refine z_goto 27 d_Answer_trace_65 rfl ?_
    exact z_forget [some (.ref 61), some (.ref r1), some (.int y6), none] (And.intro rfl (And.intro rfl (And.intro rfl (trivial)))) h

set_option maxRecDepth 20000 in
theorem vc_Answer_trace_70 (E : ZE) (k : Nat) (M : ZM) (r1 : Nat) (x2 : Int32) (Φ : Option Value → ZS → ZM → Prop) (h1 : zNode (zSt k) r1) (h : (150 ≤ x2 → Φ none (zSt k) M) ∧ (¬ 150 ≤ x2 → zW E m_Net_at 0 (zSt k) M 0 [some (.ref 50), some (.int (M r1 7))] [] (fun q2 T2 M2 => ∃ o2 : Option Nat, q2 = some (va_rf o2) ∧ (zSt k) = T2 ∧ (o2 = none → ∀ M3 : ZM, M3 = zms M2 61 3 1 → Φ none (zSt k) M3) ∧ (∀ b2 : Nat, o2 = some b2 → zNode (zSt k) b2 ∧ (zW E m_Answer_goBack 2 (zSt k) M2 0 [some (.ref 61), some (.ref b2), some (.int (M2 r1 8)), none, none, none, none] [] (fun q4 T4 M4 => ∃ y4 : Int32, q4 = some (.int y4) ∧ (zSt k) = T4 ∧ (¬ y4 = 0 → ∀ y6 : Int32, y6 = x2 + 1 → zW E m_Answer_trace 3 (zSt k) M4 70 [some (.ref 61), some (.ref b2), some (.int y6), none] [] Φ) ∧ (y4 = 0 → Φ none (zSt k) M4))))))) : zW E m_Answer_trace 3 (zSt k) M 70 [some (.ref 61), some (.ref r1), some (.int x2), none] [] Φ := by
  refine z_iload_n d_Answer_trace_70 rfl ?_
  refine z_sipush 150 d_Answer_trace_71 (by decide) ?_
  refine z_icmp_ge 120 d_Answer_trace_74 rfl ⟨fun c1 => ?_, fun c1 => ?_⟩
  · replace h := h.1 c1
    exact z_vret rfl d_Answer_trace_120 h
  · replace h := h.2 c1
    refine z_aload_n d_Answer_trace_77 rfl ?_
    refine z_getr f_Answer_20 rfl d_Answer_trace_78 (tA_61 k) (tr_61_0 k) ?_
    refine z_aload_n d_Answer_trace_81 rfl ?_
    refine z_geti f_Answer_67 rfl d_Answer_trace_82 h1.1 ?_
    refine z_callV (as := [.int (M r1 7)]) (st := []) i_Net_at ⟨rfl, rfl⟩ v_Net_at w_Net_at l_Answer_38 d_Answer_trace_85 (by decide) (tA_50 k) rfl (Nat.le_of_ble_eq_true rfl) (Nat.le_of_ble_eq_true rfl) h (fun q2 T2 M2 h => ?_)
    obtain ⟨o2, rfl, rfl, h⟩ := h
    cases o2 with
    | none =>
      replace h := h.1 rfl
      refine z_astore_nN (ls' := [some (.ref 61), some (.ref r1), some (.int x2), some .null]) d_Answer_trace_88 (Nat.le_of_ble_eq_true rfl) rfl rfl ?_
      refine z_aload_nN d_Answer_trace_89 rfl ?_
      refine z_ifnonnullN d_Answer_trace_90 ?_
      refine z_aload_n d_Answer_trace_93 rfl ?_
      refine z_iconst 1 d_Answer_trace_94 (by decide) ?_
      refine z_puti (p_Answer_28 rfl) rfl d_Answer_trace_95 (tA_61 k) rfl rfl ?_
      refine z_mem (fun M3 eM3 => ?_)
      replace h := h M3 eM3
      exact z_vret rfl d_Answer_trace_98 h
    | some b2 =>
      obtain ⟨zb2, h⟩ := h.2 b2 rfl
      refine z_astore_n (ls' := [some (.ref 61), some (.ref r1), some (.int x2), some (.ref b2)]) d_Answer_trace_88 (Nat.le_of_ble_eq_true rfl) rfl rfl ?_
      refine z_aload_n d_Answer_trace_89 rfl ?_
      refine z_ifnonnull 99 d_Answer_trace_90 rfl ?_
      refine z_aload_n d_Answer_trace_99 rfl ?_
      refine z_aload_n d_Answer_trace_100 rfl ?_
      refine z_aload_n d_Answer_trace_101 rfl ?_
      refine z_geti f_Answer_70 rfl d_Answer_trace_102 h1.1 ?_
      refine z_callV (as := [.ref b2, .int (M2 r1 8)]) (st := []) i_Answer_goBack ⟨rfl, rfl⟩ v_Answer_goBack w_Answer_goBack l_Answer_73 d_Answer_trace_105 (by decide) (tA_61 k) rfl (Nat.le_of_ble_eq_true rfl) (Nat.le_of_ble_eq_true rfl) h (fun q4 T4 M4 h => ?_)
      obtain ⟨y4, rfl, rfl, h⟩ := h
      refine z_if_ne 112 d_Answer_trace_108 rfl ⟨fun c5 => ?_, fun c5 => ?_⟩
      · replace h := h.1 c5
        refine z_aload_n d_Answer_trace_112 rfl ?_
        refine z_astore_n (ls' := [some (.ref 61), some (.ref b2), some (.int x2), some (.ref b2)]) d_Answer_trace_113 (Nat.le_of_ble_eq_true rfl) rfl rfl ?_
        obtain ⟨y6, ey6⟩ : ∃ q : Int32, q = x2 + 1 := ⟨_, rfl⟩
        replace h := h y6 ey6
        refine z_iinc (ls' := [some (.ref 61), some (.ref b2), some (.int y6), some (.ref b2)]) y6 d_Answer_trace_114 rfl (ey6 ▸ rfl) (Nat.le_of_ble_eq_true rfl) rfl rfl ?_
        refine z_goto 70 d_Answer_trace_117 rfl ?_
        exact z_forget [some (.ref 61), some (.ref b2), some (.int y6), none] (And.intro rfl (And.intro rfl (And.intro rfl (trivial)))) h
      · replace h := h.2 c5
        exact z_vret rfl d_Answer_trace_111 h

set_option maxRecDepth 20000 in
theorem vc_Answer_goBack_0 (E : ZE) (k : Nat) (M : ZM) (r1 : Nat) (x2 : Int32) (Φ : Option Value → ZS → ZM → Prop) (h1 : zNode (zSt k) r1) (h : ∀ y1 : Int32, y1 = ((x2 / 100) - (x2 / 100) / 10 * 10) → zW E m_Words_of 0 (zSt k) M 0 [some (.ref 62), some (.int y1)] [] (fun q2 T2 M2 => ∃ b2 L2 : Nat, q2 = some (.ref b2) ∧ (zSt k) = T2 ∧ zRow (zSt k) b2 L2 ∧ ((1000 ≤ x2 → zW E m_Row_at 0 (zSt k) M2 0 [some (.ref (r1 + 1)), some (.int 0)] [] (fun q4 T4 M4 => ∃ y4 : Int32, q4 = some (.int y4) ∧ (zSt k) = T4 ∧ (¬ y4 = (y1 + 2) → zW E m_H_isVariable 0 (zSt k) M4 0 [some (.int (y4 - 2))] [] (fun q6 T6 M6 => ∃ y6 : Int32, q6 = some (.int y6) ∧ (zSt k) = T6 ∧ (y6 = 0 → zW E m_Row_pushAhead 1 (zSt k) M6 0 [some (.ref b2), some (.int y4)] [] (fun q8 T8 M8 => ∃ y8 : Int32, q8 = some (.int y8) ∧ (zSt k) = T8 ∧ (y8 = 0 ∨ y8 = 1) ∧ Φ (some (.int y8)) (zSt k) M8)) ∧ (¬ y6 = 0 → zW E m_Words_of 0 (zSt k) M6 0 [some (.ref 62), some (.int (y4 - 2))] [] (fun q9 T9 M9 => ∃ b9 L9 : Nat, q9 = some (.ref b9) ∧ (zSt k) = T9 ∧ zRow (zSt k) b9 L9 ∧ (zW E m_Row_putAhead 1 (zSt k) M9 0 [some (.ref b2), some (.ref b9), none, none] [] (fun q10 T10 M10 => ∃ y10 : Int32, q10 = some (.int y10) ∧ (zSt k) = T10 ∧ (y10 = 0 ∨ y10 = 1) ∧ Φ (some (.int y10)) (zSt k) M10)))))) ∧ (y4 = (y1 + 2) → zW E m_Row_at 0 (zSt k) M4 0 [some (.ref (r1 + 3)), some (.int 0)] [] (fun q11 T11 M11 => ∃ y11 : Int32, q11 = some (.int y11) ∧ (zSt k) = T11 ∧ zW E m_H_isVariable 0 (zSt k) M11 0 [some (.int (y11 - 2))] [] (fun q12 T12 M12 => ∃ y12 : Int32, q12 = some (.int y12) ∧ (zSt k) = T12 ∧ (y12 = 0 → zW E m_Row_pushAhead 1 (zSt k) M12 0 [some (.ref b2), some (.int y11)] [] (fun q14 T14 M14 => ∃ y14 : Int32, q14 = some (.int y14) ∧ (zSt k) = T14 ∧ (y14 = 0 ∨ y14 = 1) ∧ Φ (some (.int y14)) (zSt k) M14)) ∧ (¬ y12 = 0 → zW E m_Words_of 0 (zSt k) M12 0 [some (.ref 62), some (.int (y11 - 2))] [] (fun q15 T15 M15 => ∃ b15 L15 : Nat, q15 = some (.ref b15) ∧ (zSt k) = T15 ∧ zRow (zSt k) b15 L15 ∧ (zW E m_Row_putAhead 1 (zSt k) M15 0 [some (.ref b2), some (.ref b15), none, none] [] (fun q16 T16 M16 => ∃ y16 : Int32, q16 = some (.int y16) ∧ (zSt k) = T16 ∧ (y16 = 0 ∨ y16 = 1) ∧ Φ (some (.int y16)) (zSt k) M16))))))))) ∧ (¬ 1000 ≤ x2 → zW E m_Row_makeEmpty 0 (zSt k) M2 0 [some (.ref b2)] [] (fun q17 T17 M17 => q17 = none ∧ (zSt k) = T17 ∧ Φ (some (.int 1)) (zSt k) M17))))) : zW E m_Answer_goBack 2 (zSt k) M 0 [some (.ref 61), some (.ref r1), some (.int x2), none, none, none, none] [] Φ := by
  refine z_iload_n d_Answer_goBack_0 rfl ?_
  refine z_bipush 100 d_Answer_goBack_1 (by decide) ?_
  refine z_idiv d_Answer_goBack_3 (by decide) ?_
  refine z_bipush 10 d_Answer_goBack_4 (by decide) ?_
  refine z_irem d_Answer_goBack_6 (by decide) ?_
  refine z_name (fun y1 ey1 => ?_)
  replace h := h y1 ey1
  refine z_istore_n (ls' := [some (.ref 61), some (.ref r1), some (.int x2), some (.int y1), none, none, none]) d_Answer_goBack_7 (Nat.le_of_ble_eq_true rfl) rfl rfl ?_
  refine z_aload_n d_Answer_goBack_8 rfl ?_
  refine z_getr f_Answer_14 rfl d_Answer_goBack_9 (tA_61 k) (tr_61_2 k) ?_
  refine z_iload_n d_Answer_goBack_12 rfl ?_
  refine z_callV (as := [.int y1]) (st := []) i_Words_of ⟨rfl, rfl⟩ v_Words_of w_Words_of l_Answer_59 d_Answer_goBack_13 (by decide) (tA_62 k) rfl (Nat.le_of_ble_eq_true rfl) (Nat.le_of_ble_eq_true rfl) h (fun q2 T2 M2 h => ?_)
  obtain ⟨b2, L2, rfl, rfl, zb2, h⟩ := h
  refine z_astore (ls' := [some (.ref 61), some (.ref r1), some (.int x2), some (.int y1), some (.ref b2), none, none]) d_Answer_goBack_16 (Nat.le_of_ble_eq_true rfl) rfl rfl ?_
  refine z_iload_n d_Answer_goBack_18 rfl ?_
  refine z_sipush 1000 d_Answer_goBack_19 (by decide) ?_
  refine z_icmp_ge 32 d_Answer_goBack_22 rfl ⟨fun c3 => ?_, fun c3 => ?_⟩
  · replace h := h.1 c3
    refine z_aload_n d_Answer_goBack_32 rfl ?_
    refine z_getr f_Answer_82 rfl d_Answer_goBack_33 h1.1 h1.2.1.1 ?_
    refine z_iconst 0 d_Answer_goBack_36 (by decide) ?_
    refine z_callV (as := [.int 0]) (st := []) i_Row_at ⟨rfl, rfl⟩ v_Row_at w_Row_at l_Answer_86 d_Answer_goBack_37 (by decide) h1.2.1.2.1 rfl (Nat.le_of_ble_eq_true rfl) (Nat.le_of_ble_eq_true rfl) h (fun q4 T4 M4 h => ?_)
    obtain ⟨y4, rfl, rfl, h⟩ := h
    refine z_istore (ls' := [some (.ref 61), some (.ref r1), some (.int x2), some (.int y1), some (.ref b2), some (.int y4), none]) d_Answer_goBack_40 (Nat.le_of_ble_eq_true rfl) rfl rfl ?_
    refine z_iload d_Answer_goBack_42 rfl ?_
    refine z_iload_n d_Answer_goBack_44 rfl ?_
    refine z_iconst 2 d_Answer_goBack_45 (by decide) ?_
    refine z_iadd d_Answer_goBack_46 ?_
    refine z_icmp_ne 61 d_Answer_goBack_47 rfl ⟨fun c5 => ?_, fun c5 => ?_⟩
    · replace h := h.1 c5
      refine z_iload d_Answer_goBack_61 rfl ?_
      refine z_istore (ls' := [some (.ref 61), some (.ref r1), some (.int x2), some (.int y1), some (.ref b2), some (.int y4), some (.int y4)]) d_Answer_goBack_63 (Nat.le_of_ble_eq_true rfl) rfl rfl ?_
      refine z_iload d_Answer_goBack_65 rfl ?_
      refine z_iconst 2 d_Answer_goBack_67 (by decide) ?_
      refine z_isub d_Answer_goBack_68 ?_
      refine z_callS (as := [.int (y4 - 2)]) (st := []) i_H_isVariable s_H_isVariable l_Answer_91 d_Answer_goBack_69 (by decide) rfl (Nat.le_of_ble_eq_true rfl) (Nat.le_of_ble_eq_true rfl) h (fun q6 T6 M6 h => ?_)
      obtain ⟨y6, rfl, rfl, h⟩ := h
      refine z_if_eq 92 d_Answer_goBack_72 rfl ⟨fun c7 => ?_, fun c7 => ?_⟩
      · replace h := h.1 c7
        refine z_aload d_Answer_goBack_92 rfl ?_
        refine z_iload d_Answer_goBack_94 rfl ?_
        refine z_callV (as := [.int y4]) (st := []) i_Row_pushAhead ⟨rfl, rfl⟩ v_Row_pushAhead w_Row_pushAhead l_Answer_99 d_Answer_goBack_96 (by decide) zb2.1 rfl (Nat.le_of_ble_eq_true rfl) (Nat.le_of_ble_eq_true rfl) h (fun q8 T8 M8 h => ?_)
        obtain ⟨y8, rfl, rfl, h⟩ := h
        exact z_zret rfl d_Answer_goBack_99 (zbool h.1).1 h.2
      · replace h := h.2 c7
        refine z_aload d_Answer_goBack_75 rfl ?_
        refine z_aload_n d_Answer_goBack_77 rfl ?_
        refine z_getr f_Answer_14 rfl d_Answer_goBack_78 (tA_61 k) (tr_61_2 k) ?_
        refine z_iload d_Answer_goBack_81 rfl ?_
        refine z_iconst 2 d_Answer_goBack_83 (by decide) ?_
        refine z_isub d_Answer_goBack_84 ?_
        refine z_callV (as := [.int (y4 - 2)]) (st := [.ref b2]) i_Words_of ⟨rfl, rfl⟩ v_Words_of w_Words_of l_Answer_59 d_Answer_goBack_85 (by decide) (tA_62 k) rfl (Nat.le_of_ble_eq_true rfl) (Nat.le_of_ble_eq_true rfl) h (fun q9 T9 M9 h => ?_)
        obtain ⟨b9, L9, rfl, rfl, zb9, h⟩ := h
        refine z_callV (as := [.ref b9]) (st := []) i_Row_putAhead ⟨rfl, rfl⟩ v_Row_putAhead w_Row_putAhead l_Answer_95 d_Answer_goBack_88 (by decide) zb2.1 rfl (Nat.le_of_ble_eq_true rfl) (Nat.le_of_ble_eq_true rfl) h (fun q10 T10 M10 h => ?_)
        obtain ⟨y10, rfl, rfl, h⟩ := h
        exact z_zret rfl d_Answer_goBack_91 (zbool h.1).1 h.2
    · replace h := h.2 c5
      refine z_aload_n d_Answer_goBack_50 rfl ?_
      refine z_getr f_Answer_88 rfl d_Answer_goBack_51 h1.1 h1.2.2.1.1 ?_
      refine z_iconst 0 d_Answer_goBack_54 (by decide) ?_
      refine z_callV (as := [.int 0]) (st := []) i_Row_at ⟨rfl, rfl⟩ v_Row_at w_Row_at l_Answer_86 d_Answer_goBack_55 (by decide) h1.2.2.1.2.1 rfl (Nat.le_of_ble_eq_true rfl) (Nat.le_of_ble_eq_true rfl) h (fun q11 T11 M11 h => ?_)
      obtain ⟨y11, rfl, rfl, h⟩ := h
      refine z_goto 63 d_Answer_goBack_58 rfl ?_
      refine z_istore (ls' := [some (.ref 61), some (.ref r1), some (.int x2), some (.int y1), some (.ref b2), some (.int y4), some (.int y11)]) d_Answer_goBack_63 (Nat.le_of_ble_eq_true rfl) rfl rfl ?_
      refine z_iload d_Answer_goBack_65 rfl ?_
      refine z_iconst 2 d_Answer_goBack_67 (by decide) ?_
      refine z_isub d_Answer_goBack_68 ?_
      refine z_callS (as := [.int (y11 - 2)]) (st := []) i_H_isVariable s_H_isVariable l_Answer_91 d_Answer_goBack_69 (by decide) rfl (Nat.le_of_ble_eq_true rfl) (Nat.le_of_ble_eq_true rfl) h (fun q12 T12 M12 h => ?_)
      obtain ⟨y12, rfl, rfl, h⟩ := h
      refine z_if_eq 92 d_Answer_goBack_72 rfl ⟨fun c13 => ?_, fun c13 => ?_⟩
      · replace h := h.1 c13
        refine z_aload d_Answer_goBack_92 rfl ?_
        refine z_iload d_Answer_goBack_94 rfl ?_
        refine z_callV (as := [.int y11]) (st := []) i_Row_pushAhead ⟨rfl, rfl⟩ v_Row_pushAhead w_Row_pushAhead l_Answer_99 d_Answer_goBack_96 (by decide) zb2.1 rfl (Nat.le_of_ble_eq_true rfl) (Nat.le_of_ble_eq_true rfl) h (fun q14 T14 M14 h => ?_)
        obtain ⟨y14, rfl, rfl, h⟩ := h
        exact z_zret rfl d_Answer_goBack_99 (zbool h.1).1 h.2
      · replace h := h.2 c13
        refine z_aload d_Answer_goBack_75 rfl ?_
        refine z_aload_n d_Answer_goBack_77 rfl ?_
        refine z_getr f_Answer_14 rfl d_Answer_goBack_78 (tA_61 k) (tr_61_2 k) ?_
        refine z_iload d_Answer_goBack_81 rfl ?_
        refine z_iconst 2 d_Answer_goBack_83 (by decide) ?_
        refine z_isub d_Answer_goBack_84 ?_
        refine z_callV (as := [.int (y11 - 2)]) (st := [.ref b2]) i_Words_of ⟨rfl, rfl⟩ v_Words_of w_Words_of l_Answer_59 d_Answer_goBack_85 (by decide) (tA_62 k) rfl (Nat.le_of_ble_eq_true rfl) (Nat.le_of_ble_eq_true rfl) h (fun q15 T15 M15 h => ?_)
        obtain ⟨b15, L15, rfl, rfl, zb15, h⟩ := h
        refine z_callV (as := [.ref b15]) (st := []) i_Row_putAhead ⟨rfl, rfl⟩ v_Row_putAhead w_Row_putAhead l_Answer_95 d_Answer_goBack_88 (by decide) zb2.1 rfl (Nat.le_of_ble_eq_true rfl) (Nat.le_of_ble_eq_true rfl) h (fun q16 T16 M16 h => ?_)
        obtain ⟨y16, rfl, rfl, h⟩ := h
        exact z_zret rfl d_Answer_goBack_91 (zbool h.1).1 h.2
  · replace h := h.2 c3
    refine z_aload d_Answer_goBack_25 rfl ?_
    refine z_callV (as := []) (st := []) i_Row_makeEmpty ⟨rfl, rfl⟩ v_Row_makeEmpty w_Row_makeEmpty l_Answer_77 d_Answer_goBack_27 (by decide) zb2.1 rfl (Nat.le_of_ble_eq_true rfl) (Nat.le_of_ble_eq_true rfl) h (fun q17 T17 M17 h => ?_)
    obtain ⟨rfl, rfl, h⟩ := h
    refine z_iconst 1 d_Answer_goBack_30 (by decide) ?_
    exact z_zret rfl d_Answer_goBack_31 rfl h
