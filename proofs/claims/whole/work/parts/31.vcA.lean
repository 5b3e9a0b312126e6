set_option maxRecDepth 20000 in
theorem vc_Machine_after_0 (E : ZE) (S : ZS) (M : ZM) (r0 : Nat) (x1 : Int32) (x2 : Int32) (Φ : Option Value → ZS → ZM → Prop) (h0 : zMach S r0) (h : ∀ y1 : Int32, y1 = ((3 * x2) + x1) → (y1 < 0 → Φ (some (.int 0)) S M) ∧ (¬ y1 < 0 → (6 ≤ y1 → Φ (some (.int 0)) S M) ∧ (¬ 6 ≤ y1 → ∃ j4 : Nat, j4 < 6 ∧ y1 = nI j4 ∧ (Φ (some (.int (M (r0 + 1) j4))) S M)))) : zW E m_Machine_after 0 S M 0 [some (.ref r0), some (.int x1), some (.int x2), none] [] Φ := by
  refine z_iconst 3 d_Machine_after_0 (by decide) ?_
  refine z_iload_n d_Machine_after_1 rfl ?_
  refine z_imul d_Machine_after_2 ?_
  refine z_iload_n d_Machine_after_3 rfl ?_
  refine z_iadd d_Machine_after_4 ?_
  refine z_name (fun y1 ey1 => ?_)
  replace h := h y1 ey1
  refine z_istore_n (ls' := [some (.ref r0), some (.int x1), some (.int x2), some (.int y1)]) d_Machine_after_5 (Nat.le_of_ble_eq_true rfl) rfl rfl ?_
  refine z_iload_n d_Machine_after_6 rfl ?_
  refine z_if_lt 28 d_Machine_after_7 rfl ⟨fun c2 => ?_, fun c2 => ?_⟩
  · replace h := h.1 c2
    refine z_iconst 0 d_Machine_after_28 (by decide) ?_
    exact z_iret rfl d_Machine_after_29 h
  · replace h := h.2 c2
    refine z_iload_n d_Machine_after_10 rfl ?_
    refine z_aload_n d_Machine_after_11 rfl ?_
    refine z_getr f_Machine_9 rfl d_Machine_after_12 h0.1 h0.2.1 ?_
    refine y_alen 6 d_Machine_after_15 h0.2.2 rfl ?_
    refine z_icmp_ge 28 d_Machine_after_16 rfl ⟨fun c3 => ?_, fun c3 => ?_⟩
    · replace h := h.1 c3
      refine z_iconst 0 d_Machine_after_28 (by decide) ?_
      exact z_iret rfl d_Machine_after_29 h
    · replace h := h.2 c3
      refine z_aload_n d_Machine_after_19 rfl ?_
      refine z_getr f_Machine_9 rfl d_Machine_after_20 h0.1 h0.2.1 ?_
      refine z_iload_n d_Machine_after_23 rfl ?_
      obtain ⟨j4, hj4, ej4, h⟩ := h
      refine y_iaload j4 d_Machine_after_24 h0.2.2 hj4 ej4 ?_
      refine z_goto 29 d_Machine_after_25 rfl ?_
      exact z_iret rfl d_Machine_after_29 h

set_option maxRecDepth 20000 in
theorem vc_Machine_turn_0 (E : ZE) (S : ZS) (M : ZM) (r0 : Nat) (x1 : Int32) (x2 : Int32) (x3 : Int32) (Φ : Option Value → ZS → ZM → Prop) (h0 : zMach S r0) (h : ∀ y1 : Int32, y1 = ((3 * x2) + x1) → (y1 < 0 → Φ none S M) ∧ (¬ y1 < 0 → (6 ≤ y1 → Φ none S M) ∧ (¬ 6 ≤ y1 → ∃ j4 : Nat, j4 < 6 ∧ y1 = nI j4 ∧ (∀ M5 : ZM, M5 = zms M (r0 + 1) j4 x3 → Φ none S M5)))) : zW E m_Machine_turn 0 S M 0 [some (.ref r0), some (.int x1), some (.int x2), some (.int x3), none] [] Φ := by
  refine z_iconst 3 d_Machine_turn_0 (by decide) ?_
  refine z_iload_n d_Machine_turn_1 rfl ?_
  refine z_imul d_Machine_turn_2 ?_
  refine z_iload_n d_Machine_turn_3 rfl ?_
  refine z_iadd d_Machine_turn_4 ?_
  refine z_name (fun y1 ey1 => ?_)
  replace h := h y1 ey1
  refine z_istore (ls' := [some (.ref r0), some (.int x1), some (.int x2), some (.int x3), some (.int y1)]) d_Machine_turn_5 (Nat.le_of_ble_eq_true rfl) rfl rfl ?_
  refine z_iload d_Machine_turn_7 rfl ?_
  refine z_if_lt 30 d_Machine_turn_9 rfl ⟨fun c2 => ?_, fun c2 => ?_⟩
  · replace h := h.1 c2
    exact z_vret rfl d_Machine_turn_30 h
  · replace h := h.2 c2
    refine z_iload d_Machine_turn_12 rfl ?_
    refine z_aload_n d_Machine_turn_14 rfl ?_
    refine z_getr f_Machine_9 rfl d_Machine_turn_15 h0.1 h0.2.1 ?_
    refine y_alen 6 d_Machine_turn_18 h0.2.2 rfl ?_
    refine z_icmp_ge 30 d_Machine_turn_19 rfl ⟨fun c3 => ?_, fun c3 => ?_⟩
    · replace h := h.1 c3
      exact z_vret rfl d_Machine_turn_30 h
    · replace h := h.2 c3
      refine z_aload_n d_Machine_turn_22 rfl ?_
      refine z_getr f_Machine_9 rfl d_Machine_turn_23 h0.1 h0.2.1 ?_
      refine z_iload d_Machine_turn_26 rfl ?_
      refine z_iload_n d_Machine_turn_28 rfl ?_
      obtain ⟨j4, hj4, ej4, h⟩ := h
      refine y_iastore j4 d_Machine_turn_29 h0.2.2 hj4 ej4 ?_
      refine z_mem (fun M5 eM5 => ?_)
      replace h := h M5 eM5
      exact z_vret rfl d_Machine_turn_30 h

set_option maxRecDepth 20000 in
theorem vc_Machine_mapBehind_0 (E : ZE) (S : ZS) (M : ZM) (r0 : Nat) (x1 : Int32) (x2 : Int32) (Φ : Option Value → ZS → ZM → Prop) (h0 : zMach S r0) (h : zW E m_Machine_mapBehind 1 S M 5 [some (.ref r0), some (.int x1), some (.int x2), some (.int 0), some (.int 0), none] [] Φ) : zW E m_Machine_mapBehind 1 S M 0 [some (.ref r0), some (.int x1), some (.int x2), none, none, none] [] Φ := by
  refine z_iconst 0 d_Machine_mapBehind_0 (by decide) ?_
  refine z_istore_n (ls' := [some (.ref r0), some (.int x1), some (.int x2), some (.int 0), none, none]) d_Machine_mapBehind_1 (Nat.le_of_ble_eq_true rfl) rfl rfl ?_
  refine z_iconst 0 d_Machine_mapBehind_2 (by decide) ?_
  refine z_istore (ls' := [some (.ref r0), some (.int x1), some (.int x2), some (.int 0), some (.int 0), none]) d_Machine_mapBehind_3 (Nat.le_of_ble_eq_true rfl) rfl rfl ?_
  exact z_forget [some (.ref r0), some (.int x1), some (.int x2), some (.int 0), some (.int 0), none] (And.intro rfl (And.intro rfl (And.intro rfl (And.intro rfl (And.intro rfl (trivial)))))) h

set_option maxRecDepth 20000 in
theorem vc_Machine_mapBehind_5 (E : ZE) (S : ZS) (M : ZM) (r0 : Nat) (x1 : Int32) (x2 : Int32) (x3 : Int32) (x4 : Int32) (Φ : Option Value → ZS → ZM → Prop) (h0 : zMach S r0) (h : (3 ≤ x4 → Φ (some (.int x3)) S M) ∧ (¬ 3 ≤ x4 → zW E m_Machine_mapBehind 1 S M 14 [some (.ref r0), some (.int x1), some (.int x2), some (.int x3), some (.int x4), some (.int 0)] [] Φ)) : zW E m_Machine_mapBehind 1 S M 5 [some (.ref r0), some (.int x1), some (.int x2), some (.int x3), some (.int x4), none] [] Φ := by
  refine z_iload d_Machine_mapBehind_5 rfl ?_
  refine z_iconst 3 d_Machine_mapBehind_7 (by decide) ?_
  refine z_icmp_ge 64 d_Machine_mapBehind_8 rfl ⟨fun c1 => ?_, fun c1 => ?_⟩
  · replace h := h.1 c1
    refine z_iload_n d_Machine_mapBehind_64 rfl ?_
    exact z_iret rfl d_Machine_mapBehind_65 h
  · replace h := h.2 c1
    refine z_iconst 0 d_Machine_mapBehind_11 (by decide) ?_
    refine z_istore (ls' := [some (.ref r0), some (.int x1), some (.int x2), some (.int x3), some (.int x4), some (.int 0)]) d_Machine_mapBehind_12 (Nat.le_of_ble_eq_true rfl) rfl rfl ?_
    exact z_forget [some (.ref r0), some (.int x1), some (.int x2), some (.int x3), some (.int x4), some (.int 0)] (And.intro rfl (And.intro rfl (And.intro rfl (And.intro rfl (And.intro rfl (And.intro rfl (trivial))))))) h

set_option maxRecDepth 20000 in
theorem vc_Machine_mapBehind_14 (E : ZE) (S : ZS) (M : ZM) (r0 : Nat) (x1 : Int32) (x2 : Int32) (x3 : Int32) (x4 : Int32) (x5 : Int32) (Φ : Option Value → ZS → ZM → Prop) (h0 : zMach S r0) (h : (3 ≤ x5 → ∀ y2 : Int32, y2 = x4 + 1 → zW E m_Machine_mapBehind 1 S M 5 [some (.ref r0), some (.int x1), some (.int x2), some (.int x3), some (.int y2), none] [] Φ) ∧ (¬ 3 ≤ x5 → (¬ (((x1 : Int32) >>> (((3 * x4) + x5) &&& 31)) &&& 1) = 1 → ∀ y4 : Int32, y4 = x5 + 1 → zW E m_Machine_mapBehind 1 S M 14 [some (.ref r0), some (.int x1), some (.int x2), some (.int x3), some (.int x4), some (.int y4)] [] Φ) ∧ ((((x1 : Int32) >>> (((3 * x4) + x5) &&& 31)) &&& 1) = 1 → zW E m_Machine_after 0 S M 0 [some (.ref r0), some (.int x5), some (.int x2), none] [] (fun q5 T5 M5 => ∃ y5 : Int32, q5 = some (.int y5) ∧ S = T5 ∧ ∀ y6 : Int32, y6 = (x3 ||| ((1 : Int32) <<< (((3 * x4) + y5) &&& 31))) → ∀ y7 : Int32, y7 = x5 + 1 → zW E m_Machine_mapBehind 1 S M5 14 [some (.ref r0), some (.int x1), some (.int x2), some (.int y6), some (.int x4), some (.int y7)] [] Φ)))) : zW E m_Machine_mapBehind 1 S M 14 [some (.ref r0), some (.int x1), some (.int x2), some (.int x3), some (.int x4), some (.int x5)] [] Φ := by
  refine z_iload d_Machine_mapBehind_14 rfl ?_
  refine z_iconst 3 d_Machine_mapBehind_16 (by decide) ?_
  refine z_icmp_ge 58 d_Machine_mapBehind_17 rfl ⟨fun c1 => ?_, fun c1 => ?_⟩
  · replace h := h.1 c1
    obtain ⟨y2, ey2⟩ : ∃ q : Int32, q = x4 + 1 := ⟨_, rfl⟩
    replace h := h y2 ey2
    refine z_iinc (ls' := [some (.ref r0), some (.int x1), some (.int x2), some (.int x3), some (.int y2), some (.int x5)]) y2 d_Machine_mapBehind_58 rfl (ey2 ▸ rfl) (Nat.le_of_ble_eq_true rfl) rfl rfl ?_
    refine z_goto 5 d_Machine_mapBehind_61 rfl ?_
    exact z_forget [some (.ref r0), some (.int x1), some (.int x2), some (.int x3), some (.int y2), none] (And.intro rfl (And.intro rfl (And.intro rfl (And.intro rfl (And.intro rfl (trivial)))))) h
  · replace h := h.2 c1
    refine z_iload_n d_Machine_mapBehind_20 rfl ?_
    refine z_iconst 3 d_Machine_mapBehind_21 (by decide) ?_
    refine z_iload d_Machine_mapBehind_22 rfl ?_
    refine z_imul d_Machine_mapBehind_24 ?_
    refine z_iload d_Machine_mapBehind_25 rfl ?_
    refine z_iadd d_Machine_mapBehind_27 ?_
    refine z_ishr d_Machine_mapBehind_28 ?_
    refine z_iconst 1 d_Machine_mapBehind_29 (by decide) ?_
    refine z_iand d_Machine_mapBehind_30 ?_
    refine z_iconst 1 d_Machine_mapBehind_31 (by decide) ?_
    refine z_icmp_ne 52 d_Machine_mapBehind_32 rfl ⟨fun c3 => ?_, fun c3 => ?_⟩
    · replace h := h.1 c3
      obtain ⟨y4, ey4⟩ : ∃ q : Int32, q = x5 + 1 := ⟨_, rfl⟩
      replace h := h y4 ey4
      refine z_iinc (ls' := [some (.ref r0), some (.int x1), some (.int x2), some (.int x3), some (.int x4), some (.int y4)]) y4 d_Machine_mapBehind_52 rfl (ey4 ▸ rfl) (Nat.le_of_ble_eq_true rfl) rfl rfl ?_
      refine z_goto 14 d_Machine_mapBehind_55 rfl ?_
      exact z_forget [some (.ref r0), some (.int x1), some (.int x2), some (.int x3), some (.int x4), some (.int y4)] (And.intro rfl (And.intro rfl (And.intro rfl (And.intro rfl (And.intro rfl (And.intro rfl (trivial))))))) h
    · replace h := h.2 c3
      refine z_iload_n d_Machine_mapBehind_35 rfl ?_
      refine z_iconst 1 d_Machine_mapBehind_36 (by decide) ?_
      refine z_iconst 3 d_Machine_mapBehind_37 (by decide) ?_
      refine z_iload d_Machine_mapBehind_38 rfl ?_
      refine z_imul d_Machine_mapBehind_40 ?_
      refine z_aload_n d_Machine_mapBehind_41 rfl ?_
      refine z_iload d_Machine_mapBehind_42 rfl ?_
      refine z_iload_n d_Machine_mapBehind_44 rfl ?_
      refine z_callV (as := [.int x5, .int x2]) (st := [.int (3 * x4), .int 1, .int x3]) i_Machine_after ⟨rfl, rfl⟩ v_Machine_after w_Machine_after l_Machine_15 d_Machine_mapBehind_45 (by decide) h0.1 rfl (Nat.le_of_ble_eq_true rfl) (Nat.le_of_ble_eq_true rfl) h (fun q5 T5 M5 h => ?_)
      obtain ⟨y5, rfl, rfl, h⟩ := h
      refine z_iadd d_Machine_mapBehind_48 ?_
      refine z_ishl d_Machine_mapBehind_49 ?_
      refine z_ior d_Machine_mapBehind_50 ?_
      refine z_name (fun y6 ey6 => ?_)
      replace h := h y6 ey6
      refine z_istore_n (ls' := [some (.ref r0), some (.int x1), some (.int x2), some (.int y6), some (.int x4), some (.int x5)]) d_Machine_mapBehind_51 (Nat.le_of_ble_eq_true rfl) rfl rfl ?_
      obtain ⟨y7, ey7⟩ : ∃ q : Int32, q = x5 + 1 := ⟨_, rfl⟩
      replace h := h y7 ey7
      refine z_iinc (ls' := [some (.ref r0), some (.int x1), some (.int x2), some (.int y6), some (.int x4), some (.int y7)]) y7 d_Machine_mapBehind_52 rfl (ey7 ▸ rfl) (Nat.le_of_ble_eq_true rfl) rfl rfl ?_
      refine z_goto 14 d_Machine_mapBehind_55 rfl ?_
      exact z_forget [some (.ref r0), some (.int x1), some (.int x2), some (.int y6), some (.int x4), some (.int y7)] (And.intro rfl (And.intro rfl (And.intro rfl (And.intro rfl (And.intro rfl (And.intro rfl (trivial))))))) h

set_option maxRecDepth 20000 in
theorem vc_Machine_copy_0 (E : ZE) (S : ZS) (M : ZM) (r0 : Nat) (r1 : Nat) (Φ : Option Value → ZS → ZM → Prop) (h0 : zMach S r0) (h1 : zMach S r1) (h : zW E m_Machine_copy 0 S M 2 [some (.ref r0), some (.ref r1), some (.int 0)] [] Φ) : zW E m_Machine_copy 0 S M 0 [some (.ref r0), some (.ref r1), none] [] Φ := by
  refine z_iconst 0 d_Machine_copy_0 (by decide) ?_
  refine z_istore_n (ls' := [some (.ref r0), some (.ref r1), some (.int 0)]) d_Machine_copy_1 (Nat.le_of_ble_eq_true rfl) rfl rfl ?_
  exact z_forget [some (.ref r0), some (.ref r1), some (.int 0)] (And.intro rfl (And.intro rfl (And.intro rfl (trivial)))) h

set_option maxRecDepth 20000 in
theorem vc_Machine_copy_2 (E : ZE) (S : ZS) (M : ZM) (r0 : Nat) (r1 : Nat) (x2 : Int32) (Φ : Option Value → ZS → ZM → Prop) (h0 : zMach S r0) (h1 : zMach S r1) (h : (6 ≤ x2 → Φ none S M) ∧ (¬ 6 ≤ x2 → (6 ≤ x2 → Φ none S M) ∧ (¬ 6 ≤ x2 → ∃ j3 : Nat, j3 < 6 ∧ x2 = nI j3 ∧ (∃ j4 : Nat, j4 < 6 ∧ x2 = nI j4 ∧ (∀ M5 : ZM, M5 = zms M (r0 + 1) j4 (M (r1 + 1) j3) → ∀ y6 : Int32, y6 = x2 + 1 → zW E m_Machine_copy 0 S M5 2 [some (.ref r0), some (.ref r1), some (.int y6)] [] Φ))))) : zW E m_Machine_copy 0 S M 2 [some (.ref r0), some (.ref r1), some (.int x2)] [] Φ := by
  refine z_iload_n d_Machine_copy_2 rfl ?_
  refine z_aload_n d_Machine_copy_3 rfl ?_
  refine z_getr f_Machine_9 rfl d_Machine_copy_4 h0.1 h0.2.1 ?_
  refine y_alen 6 d_Machine_copy_7 h0.2.2 rfl ?_
  refine z_icmp_ge 38 d_Machine_copy_8 rfl ⟨fun c1 => ?_, fun c1 => ?_⟩
  · replace h := h.1 c1
    exact z_vret rfl d_Machine_copy_38 h
  · replace h := h.2 c1
    refine z_iload_n d_Machine_copy_11 rfl ?_
    refine z_aload_n d_Machine_copy_12 rfl ?_
    refine z_getr f_Machine_9 rfl d_Machine_copy_13 h1.1 h1.2.1 ?_
    refine y_alen 6 d_Machine_copy_16 h1.2.2 rfl ?_
    refine z_icmp_ge 38 d_Machine_copy_17 rfl ⟨fun c2 => ?_, fun c2 => ?_⟩
    · replace h := h.1 c2
      exact z_vret rfl d_Machine_copy_38 h
    · replace h := h.2 c2
      refine z_aload_n d_Machine_copy_20 rfl ?_
      refine z_getr f_Machine_9 rfl d_Machine_copy_21 h0.1 h0.2.1 ?_
      refine z_iload_n d_Machine_copy_24 rfl ?_
      refine z_aload_n d_Machine_copy_25 rfl ?_
      refine z_getr f_Machine_9 rfl d_Machine_copy_26 h1.1 h1.2.1 ?_
      refine z_iload_n d_Machine_copy_29 rfl ?_
      obtain ⟨j3, hj3, ej3, h⟩ := h
      refine y_iaload j3 d_Machine_copy_30 h1.2.2 hj3 ej3 ?_
      obtain ⟨j4, hj4, ej4, h⟩ := h
      refine y_iastore j4 d_Machine_copy_31 h0.2.2 hj4 ej4 ?_
      refine z_mem (fun M5 eM5 => ?_)
      replace h := h M5 eM5
      obtain ⟨y6, ey6⟩ : ∃ q : Int32, q = x2 + 1 := ⟨_, rfl⟩
      replace h := h y6 ey6
      refine z_iinc (ls' := [some (.ref r0), some (.ref r1), some (.int y6)]) y6 d_Machine_copy_32 rfl (ey6 ▸ rfl) (Nat.le_of_ble_eq_true rfl) rfl rfl ?_
      refine z_goto 2 d_Machine_copy_35 rfl ?_
      exact z_forget [some (.ref r0), some (.ref r1), some (.int y6)] (And.intro rfl (And.intro rfl (And.intro rfl (trivial)))) h

set_option maxRecDepth 20000 in
theorem vc_Need_ofVariable_0 (E : ZE) (S : ZS) (M : ZM) (x0 : Int32) (x1 : Int32) (Φ : Option Value → ZS → ZM → Prop)  (h : Φ (some (.int (((x0 : Int32) >>> ((9 * x1) &&& 31)) &&& 511))) S M) : zW E m_Need_ofVariable 0 S M 0 [some (.int x0), some (.int x1)] [] Φ := by
  refine z_iload_n d_Need_ofVariable_0 rfl ?_
  refine z_bipush 9 d_Need_ofVariable_1 (by decide) ?_
  refine z_iload_n d_Need_ofVariable_3 rfl ?_
  refine z_imul d_Need_ofVariable_4 ?_
  refine z_ishr d_Need_ofVariable_5 ?_
  refine z_sipush 511 d_Need_ofVariable_6 (by decide) ?_
  refine z_iand d_Need_ofVariable_9 ?_
  exact z_iret rfl d_Need_ofVariable_10 h

set_option maxRecDepth 20000 in
theorem vc_Need_ofState_0 (E : ZE) (S : ZS) (M : ZM) (x0 : Int32) (x1 : Int32) (Φ : Option Value → ZS → ZM → Prop)  (h : Φ (some (.int (((x0 : Int32) >>> ((3 * x1) &&& 31)) &&& 7))) S M) : zW E m_Need_ofState 0 S M 0 [some (.int x0), some (.int x1)] [] Φ := by
  refine z_iload_n d_Need_ofState_0 rfl ?_
  refine z_iconst 3 d_Need_ofState_1 (by decide) ?_
  refine z_iload_n d_Need_ofState_2 rfl ?_
  refine z_imul d_Need_ofState_3 ?_
  refine z_ishr d_Need_ofState_4 ?_
  refine z_bipush 7 d_Need_ofState_5 (by decide) ?_
  refine z_iand d_Need_ofState_7 ?_
  exact z_iret rfl d_Need_ofState_8 h

set_option maxRecDepth 20000 in
theorem vc_Need_withVariable_0 (E : ZE) (S : ZS) (M : ZM) (x0 : Int32) (x1 : Int32) (x2 : Int32) (Φ : Option Value → ZS → ZM → Prop)  (h : Φ (some (.int ((x0 &&& (((511 : Int32) <<< ((9 * x1) &&& 31)) ^^^ (-1))) ||| ((x2 : Int32) <<< ((9 * x1) &&& 31))))) S M) : zW E m_Need_withVariable 0 S M 0 [some (.int x0), some (.int x1), some (.int x2)] [] Φ := by
  refine z_iload_n d_Need_withVariable_0 rfl ?_
  refine z_sipush 511 d_Need_withVariable_1 (by decide) ?_
  refine z_bipush 9 d_Need_withVariable_4 (by decide) ?_
  refine z_iload_n d_Need_withVariable_6 rfl ?_
  refine z_imul d_Need_withVariable_7 ?_
  refine z_ishl d_Need_withVariable_8 ?_
  refine z_iconst (-1) d_Need_withVariable_9 (by decide) ?_
  refine z_ixor d_Need_withVariable_10 ?_
  refine z_iand d_Need_withVariable_11 ?_
  refine z_iload_n d_Need_withVariable_12 rfl ?_
  refine z_bipush 9 d_Need_withVariable_13 (by decide) ?_
  refine z_iload_n d_Need_withVariable_15 rfl ?_
  refine z_imul d_Need_withVariable_16 ?_
  refine z_ishl d_Need_withVariable_17 ?_
  refine z_ior d_Need_withVariable_18 ?_
  exact z_iret rfl d_Need_withVariable_19 h

set_option maxRecDepth 20000 in
theorem vc_Need_withState_0 (E : ZE) (S : ZS) (M : ZM) (x0 : Int32) (x1 : Int32) (x2 : Int32) (x3 : Int32) (Φ : Option Value → ZS → ZM → Prop)  (h : ∀ y1 : Int32, y1 = ((9 * x1) + (3 * x2)) → Φ (some (.int ((x0 &&& (((7 : Int32) <<< (y1 &&& 31)) ^^^ (-1))) ||| ((x3 : Int32) <<< (y1 &&& 31))))) S M) : zW E m_Need_withState 0 S M 0 [some (.int x0), some (.int x1), some (.int x2), some (.int x3), none] [] Φ := by
  refine z_bipush 9 d_Need_withState_0 (by decide) ?_
  refine z_iload_n d_Need_withState_2 rfl ?_
  refine z_imul d_Need_withState_3 ?_
  refine z_iconst 3 d_Need_withState_4 (by decide) ?_
  refine z_iload_n d_Need_withState_5 rfl ?_
  refine z_imul d_Need_withState_6 ?_
  refine z_iadd d_Need_withState_7 ?_
  refine z_name (fun y1 ey1 => ?_)
  replace h := h y1 ey1
  refine z_istore (ls' := [some (.int x0), some (.int x1), some (.int x2), some (.int x3), some (.int y1)]) d_Need_withState_8 (Nat.le_of_ble_eq_true rfl) rfl rfl ?_
  refine z_iload_n d_Need_withState_10 rfl ?_
  refine z_bipush 7 d_Need_withState_11 (by decide) ?_
  refine z_iload d_Need_withState_13 rfl ?_
  refine z_ishl d_Need_withState_15 ?_
  refine z_iconst (-1) d_Need_withState_16 (by decide) ?_
  refine z_ixor d_Need_withState_17 ?_
  refine z_iand d_Need_withState_18 ?_
  refine z_iload_n d_Need_withState_19 rfl ?_
  refine z_iload d_Need_withState_20 rfl ?_
  refine z_ishl d_Need_withState_22 ?_
  refine z_ior d_Need_withState_23 ?_
  exact z_iret rfl d_Need_withState_24 h

set_option maxRecDepth 20000 in
theorem vc_Need_allows_0 (E : ZE) (S : ZS) (M : ZM) (x0 : Int32) (x1 : Int32) (Φ : Option Value → ZS → ZM → Prop)  (h : (¬ (x1 &&& (x0 ^^^ (-1))) = 0 → Φ (some (.int 0)) S M) ∧ ((x1 &&& (x0 ^^^ (-1))) = 0 → Φ (some (.int 1)) S M)) : zW E m_Need_allows 0 S M 0 [some (.int x0), some (.int x1)] [] Φ := by
  refine z_iload_n d_Need_allows_0 rfl ?_
  refine z_iload_n d_Need_allows_1 rfl ?_
  refine z_iconst (-1) d_Need_allows_2 (by decide) ?_
  refine z_ixor d_Need_allows_3 ?_
  refine z_iand d_Need_allows_4 ?_
  refine z_if_ne 12 d_Need_allows_5 rfl ⟨fun c1 => ?_, fun c1 => ?_⟩
  · replace h := h.1 c1
    refine z_iconst 0 d_Need_allows_12 (by decide) ?_
    exact z_zret rfl d_Need_allows_13 rfl h
  · replace h := h.2 c1
    refine z_iconst 1 d_Need_allows_8 (by decide) ?_
    refine z_goto 13 d_Need_allows_9 rfl ?_
    exact z_zret rfl d_Need_allows_13 rfl h

set_option maxRecDepth 20000 in
theorem vc_Need_narrowed_0 (E : ZE) (S : ZS) (M : ZM) (x0 : Int32) (x1 : Int32) (x2 : Int32) (Φ : Option Value → ZS → ZM → Prop)  (h : Φ (some (.int (x0 &&& ((((7 &&& (x2 ^^^ (-1))) : Int32) <<< ((3 * x1) &&& 31)) ^^^ (-1))))) S M) : zW E m_Need_narrowed 0 S M 0 [some (.int x0), some (.int x1), some (.int x2)] [] Φ := by
  refine z_iload_n d_Need_narrowed_0 rfl ?_
  refine z_bipush 7 d_Need_narrowed_1 (by decide) ?_
  refine z_iload_n d_Need_narrowed_3 rfl ?_
  refine z_iconst (-1) d_Need_narrowed_4 (by decide) ?_
  refine z_ixor d_Need_narrowed_5 ?_
  refine z_iand d_Need_narrowed_6 ?_
  refine z_iconst 3 d_Need_narrowed_7 (by decide) ?_
  refine z_iload_n d_Need_narrowed_8 rfl ?_
  refine z_imul d_Need_narrowed_9 ?_
  refine z_ishl d_Need_narrowed_10 ?_
  refine z_iconst (-1) d_Need_narrowed_11 (by decide) ?_
  refine z_ixor d_Need_narrowed_12 ?_
  refine z_iand d_Need_narrowed_13 ?_
  exact z_iret rfl d_Need_narrowed_14 h

set_option maxRecDepth 20000 in
theorem vc_Need_behindLetter_0 (E : ZE) (S : ZS) (M : ZM) (x0 : Int32) (x1 : Int32) (r2 : Nat) (Φ : Option Value → ZS → ZM → Prop) (h2 : zMach S r2) (h : zW E m_Need_behindLetter 1 S M 7 [some (.int x0), some (.int x1), some (.ref r2), some (.int 511), some (.int 0)] [] Φ) : zW E m_Need_behindLetter 1 S M 0 [some (.int x0), some (.int x1), some (.ref r2), none, none] [] Φ := by
  refine z_sipush 511 d_Need_behindLetter_0 (by decide) ?_
  refine z_istore_n (ls' := [some (.int x0), some (.int x1), some (.ref r2), some (.int 511), none]) d_Need_behindLetter_3 (Nat.le_of_ble_eq_true rfl) rfl rfl ?_
  refine z_iconst 0 d_Need_behindLetter_4 (by decide) ?_
  refine z_istore (ls' := [some (.int x0), some (.int x1), some (.ref r2), some (.int 511), some (.int 0)]) d_Need_behindLetter_5 (Nat.le_of_ble_eq_true rfl) rfl rfl ?_
  exact z_forget [some (.int x0), some (.int x1), some (.ref r2), some (.int 511), some (.int 0)] (And.intro rfl (And.intro rfl (And.intro rfl (And.intro rfl (And.intro rfl (trivial)))))) h

set_option maxRecDepth 20000 in
theorem vc_Need_behindLetter_7 (E : ZE) (S : ZS) (M : ZM) (x0 : Int32) (x1 : Int32) (r2 : Nat) (x3 : Int32) (x4 : Int32) (Φ : Option Value → ZS → ZM → Prop) (h2 : zMach S r2) (h : (3 ≤ x4 → Φ (some (.int x3)) S M) ∧ (¬ 3 ≤ x4 → zW E m_Machine_after 0 S M 0 [some (.ref r2), some (.int x4), some (.int x1), none] [] (fun q2 T2 M2 => ∃ y2 : Int32, q2 = some (.int y2) ∧ S = T2 ∧ zW E m_Need_ofState 0 S M2 0 [some (.int x0), some (.int x4)] [] (fun q3 T3 M3 => ∃ y3 : Int32, q3 = some (.int y3) ∧ S = T3 ∧ zW E m_Need_narrowed 0 S M3 0 [some (.int x3), some (.int y2), some (.int y3)] [] (fun q4 T4 M4 => ∃ y4 : Int32, q4 = some (.int y4) ∧ S = T4 ∧ ∀ y5 : Int32, y5 = x4 + 1 → zW E m_Need_behindLetter 1 S M4 7 [some (.int x0), some (.int x1), some (.ref r2), some (.int y4), some (.int y5)] [] Φ))))) : zW E m_Need_behindLetter 1 S M 7 [some (.int x0), some (.int x1), some (.ref r2), some (.int x3), some (.int x4)] [] Φ := by
  refine z_iload d_Need_behindLetter_7 rfl ?_
  refine z_iconst 3 d_Need_behindLetter_9 (by decide) ?_
  refine z_icmp_ge 37 d_Need_behindLetter_10 rfl ⟨fun c1 => ?_, fun c1 => ?_⟩
  · replace h := h.1 c1
    refine z_iload_n d_Need_behindLetter_37 rfl ?_
    exact z_iret rfl d_Need_behindLetter_38 h
  · replace h := h.2 c1
    refine z_iload_n d_Need_behindLetter_13 rfl ?_
    refine z_aload_n d_Need_behindLetter_14 rfl ?_
    refine z_iload d_Need_behindLetter_15 rfl ?_
    refine z_iload_n d_Need_behindLetter_17 rfl ?_
    refine z_callV (as := [.int x4, .int x1]) (st := [.int x3]) i_Machine_after ⟨rfl, rfl⟩ v_Machine_after w_Machine_after l_Need_11 d_Need_behindLetter_18 (by decide) h2.1 rfl (Nat.le_of_ble_eq_true rfl) (Nat.le_of_ble_eq_true rfl) h (fun q2 T2 M2 h => ?_)
    obtain ⟨y2, rfl, rfl, h⟩ := h
    refine z_iload_n d_Need_behindLetter_21 rfl ?_
    refine z_iload d_Need_behindLetter_22 rfl ?_
    refine z_callS (as := [.int x0, .int x4]) (st := [.int y2, .int x3]) i_Need_ofState s_Need_ofState l_Need_17 d_Need_behindLetter_24 (by decide) rfl (Nat.le_of_ble_eq_true rfl) (Nat.le_of_ble_eq_true rfl) h (fun q3 T3 M3 h => ?_)
    obtain ⟨y3, rfl, rfl, h⟩ := h
    refine z_callS (as := [.int x3, .int y2, .int y3]) (st := []) i_Need_narrowed s_Need_narrowed l_Need_20 d_Need_behindLetter_27 (by decide) rfl (Nat.le_of_ble_eq_true rfl) (Nat.le_of_ble_eq_true rfl) h (fun q4 T4 M4 h => ?_)
    obtain ⟨y4, rfl, rfl, h⟩ := h
    refine z_istore_n (ls' := [some (.int x0), some (.int x1), some (.ref r2), some (.int y4), some (.int x4)]) d_Need_behindLetter_30 (Nat.le_of_ble_eq_true rfl) rfl rfl ?_
    obtain ⟨y5, ey5⟩ : ∃ q : Int32, q = x4 + 1 := ⟨_, rfl⟩
    replace h := h y5 ey5
    refine z_iinc (ls' := [some (.int x0), some (.int x1), some (.ref r2), some (.int y4), some (.int y5)]) y5 d_Need_behindLetter_31 rfl (ey5 ▸ rfl) (Nat.le_of_ble_eq_true rfl) rfl rfl ?_
    refine z_goto 7 d_Need_behindLetter_34 rfl ?_
    exact z_forget [some (.int x0), some (.int x1), some (.ref r2), some (.int y4), some (.int y5)] (And.intro rfl (And.intro rfl (And.intro rfl (And.intro rfl (And.intro rfl (trivial)))))) h

set_option maxRecDepth 20000 in
theorem vc_Need_stateOfTurn_0 (E : ZE) (S : ZS) (M : ZM) (x0 : Int32) (x1 : Int32) (Φ : Option Value → ZS → ZM → Prop)  (h : (¬ x1 = 0 → (¬ x1 = 1 → Φ (some (.int ((x0 / 9) - (x0 / 9) / 3 * 3))) S M) ∧ (x1 = 1 → Φ (some (.int ((x0 / 3) - (x0 / 3) / 3 * 3))) S M)) ∧ (x1 = 0 → Φ (some (.int (x0 - x0 / 3 * 3))) S M)) : zW E m_Need_stateOfTurn 0 S M 0 [some (.int x0), some (.int x1)] [] Φ := by
  refine z_iload_n d_Need_stateOfTurn_0 rfl ?_
  refine z_if_ne 10 d_Need_stateOfTurn_1 rfl ⟨fun c1 => ?_, fun c1 => ?_⟩
  · replace h := h.1 c1
    refine z_iload_n d_Need_stateOfTurn_10 rfl ?_
    refine z_iconst 1 d_Need_stateOfTurn_11 (by decide) ?_
    refine z_icmp_ne 23 d_Need_stateOfTurn_12 rfl ⟨fun c2 => ?_, fun c2 => ?_⟩
    · replace h := h.1 c2
      refine z_iload_n d_Need_stateOfTurn_23 rfl ?_
      refine z_bipush 9 d_Need_stateOfTurn_24 (by decide) ?_
      refine z_idiv d_Need_stateOfTurn_26 (by decide) ?_
      refine z_iconst 3 d_Need_stateOfTurn_27 (by decide) ?_
      refine z_irem d_Need_stateOfTurn_28 (by decide) ?_
      exact z_iret rfl d_Need_stateOfTurn_29 h
    · replace h := h.2 c2
      refine z_iload_n d_Need_stateOfTurn_15 rfl ?_
      refine z_iconst 3 d_Need_stateOfTurn_16 (by decide) ?_
      refine z_idiv d_Need_stateOfTurn_17 (by decide) ?_
      refine z_iconst 3 d_Need_stateOfTurn_18 (by decide) ?_
      refine z_irem d_Need_stateOfTurn_19 (by decide) ?_
      refine z_goto 29 d_Need_stateOfTurn_20 rfl ?_
      exact z_iret rfl d_Need_stateOfTurn_29 h
  · replace h := h.2 c1
    refine z_iload_n d_Need_stateOfTurn_4 rfl ?_
    refine z_iconst 3 d_Need_stateOfTurn_5 (by decide) ?_
    refine z_irem d_Need_stateOfTurn_6 (by decide) ?_
    refine z_goto 29 d_Need_stateOfTurn_7 rfl ?_
    exact z_iret rfl d_Need_stateOfTurn_29 h

set_option maxRecDepth 20000 in
theorem vc_Need_isTurn_0 (E : ZE) (S : ZS) (M : ZM) (x0 : Int32) (x1 : Int32) (Φ : Option Value → ZS → ZM → Prop)  (h : zW E m_Need_isTurn 1 S M 2 [some (.int x0), some (.int x1), some (.int 0)] [] Φ) : zW E m_Need_isTurn 1 S M 0 [some (.int x0), some (.int x1), none] [] Φ := by
  refine z_iconst 0 d_Need_isTurn_0 (by decide) ?_
  refine z_istore_n (ls' := [some (.int x0), some (.int x1), some (.int 0)]) d_Need_isTurn_1 (Nat.le_of_ble_eq_true rfl) rfl rfl ?_
  exact z_forget [some (.int x0), some (.int x1), some (.int 0)] (And.intro rfl (And.intro rfl (And.intro rfl (trivial)))) h

set_option maxRecDepth 20000 in
theorem vc_Need_isTurn_2 (E : ZE) (S : ZS) (M : ZM) (x0 : Int32) (x1 : Int32) (x2 : Int32) (Φ : Option Value → ZS → ZM → Prop)  (h : (3 ≤ x2 → Φ (some (.int 1)) S M) ∧ (¬ 3 ≤ x2 → zW E m_Need_ofState 0 S M 0 [some (.int x0), some (.int x2)] [] (fun q2 T2 M2 => ∃ y2 : Int32, q2 = some (.int y2) ∧ S = T2 ∧ (¬ y2 = 7 → ∀ y4 : Int32, y4 = x2 + 1 → zW E m_Need_isTurn 1 S M2 2 [some (.int x0), some (.int x1), some (.int y4)] [] Φ) ∧ (y2 = 7 → zW E m_Need_stateOfTurn 0 S M2 0 [some (.int x1), some (.int x2)] [] (fun q5 T5 M5 => ∃ y5 : Int32, q5 = some (.int y5) ∧ S = T5 ∧ (y5 = 0 → ∀ y7 : Int32, y7 = x2 + 1 → zW E m_Need_isTurn 1 S M5 2 [some (.int x0), some (.int x1), some (.int y7)] [] Φ) ∧ (¬ y5 = 0 → Φ (some (.int 0)) S M5)))))) : zW E m_Need_isTurn 1 S M 2 [some (.int x0), some (.int x1), some (.int x2)] [] Φ := by
  refine z_iload_n d_Need_isTurn_2 rfl ?_
  refine z_iconst 3 d_Need_isTurn_3 (by decide) ?_
  refine z_icmp_ge 33 d_Need_isTurn_4 rfl ⟨fun c1 => ?_, fun c1 => ?_⟩
  · replace h := h.1 c1
    refine z_iconst 1 d_Need_isTurn_33 (by decide) ?_
    exact z_zret rfl d_Need_isTurn_34 rfl h
  · replace h := h.2 c1
    refine z_iload_n d_Need_isTurn_7 rfl ?_
    refine z_iload_n d_Need_isTurn_8 rfl ?_
    refine z_callS (as := [.int x0, .int x2]) (st := []) i_Need_ofState s_Need_ofState l_Need_17 d_Need_isTurn_9 (by decide) rfl (Nat.le_of_ble_eq_true rfl) (Nat.le_of_ble_eq_true rfl) h (fun q2 T2 M2 h => ?_)
    obtain ⟨y2, rfl, rfl, h⟩ := h
    refine z_bipush 7 d_Need_isTurn_12 (by decide) ?_
    refine z_icmp_ne 27 d_Need_isTurn_14 rfl ⟨fun c3 => ?_, fun c3 => ?_⟩
    · replace h := h.1 c3
      obtain ⟨y4, ey4⟩ : ∃ q : Int32, q = x2 + 1 := ⟨_, rfl⟩
      replace h := h y4 ey4
      refine z_iinc (ls' := [some (.int x0), some (.int x1), some (.int y4)]) y4 d_Need_isTurn_27 rfl (ey4 ▸ rfl) (Nat.le_of_ble_eq_true rfl) rfl rfl ?_
      refine z_goto 2 d_Need_isTurn_30 rfl ?_
      exact z_forget [some (.int x0), some (.int x1), some (.int y4)] (And.intro rfl (And.intro rfl (And.intro rfl (trivial)))) h
    · replace h := h.2 c3
      refine z_iload_n d_Need_isTurn_17 rfl ?_
      refine z_iload_n d_Need_isTurn_18 rfl ?_
      refine z_callS (as := [.int x1, .int x2]) (st := []) i_Need_stateOfTurn s_Need_stateOfTurn l_Need_24 d_Need_isTurn_19 (by decide) rfl (Nat.le_of_ble_eq_true rfl) (Nat.le_of_ble_eq_true rfl) h (fun q5 T5 M5 h => ?_)
      obtain ⟨y5, rfl, rfl, h⟩ := h
      refine z_if_eq 27 d_Need_isTurn_22 rfl ⟨fun c6 => ?_, fun c6 => ?_⟩
      · replace h := h.1 c6
        obtain ⟨y7, ey7⟩ : ∃ q : Int32, q = x2 + 1 := ⟨_, rfl⟩
        replace h := h y7 ey7
        refine z_iinc (ls' := [some (.int x0), some (.int x1), some (.int y7)]) y7 d_Need_isTurn_27 rfl (ey7 ▸ rfl) (Nat.le_of_ble_eq_true rfl) rfl rfl ?_
        refine z_goto 2 d_Need_isTurn_30 rfl ?_
        exact z_forget [some (.int x0), some (.int x1), some (.int y7)] (And.intro rfl (And.intro rfl (And.intro rfl (trivial)))) h
      · replace h := h.2 c6
        refine z_iconst 0 d_Need_isTurn_25 (by decide) ?_
        exact z_zret rfl d_Need_isTurn_26 rfl h

set_option maxRecDepth 20000 in
theorem vc_Need_behindTurn_0 (E : ZE) (S : ZS) (M : ZM) (x0 : Int32) (x1 : Int32) (Φ : Option Value → ZS → ZM → Prop)  (h : zW E m_Need_behindTurn 1 S M 6 [some (.int x0), some (.int x1), some (.int 511), some (.int 0)] [] Φ) : zW E m_Need_behindTurn 1 S M 0 [some (.int x0), some (.int x1), none, none] [] Φ := by
  refine z_sipush 511 d_Need_behindTurn_0 (by decide) ?_
  refine z_istore_n (ls' := [some (.int x0), some (.int x1), some (.int 511), none]) d_Need_behindTurn_3 (Nat.le_of_ble_eq_true rfl) rfl rfl ?_
  refine z_iconst 0 d_Need_behindTurn_4 (by decide) ?_
  refine z_istore_n (ls' := [some (.int x0), some (.int x1), some (.int 511), some (.int 0)]) d_Need_behindTurn_5 (Nat.le_of_ble_eq_true rfl) rfl rfl ?_
  exact z_forget [some (.int x0), some (.int x1), some (.int 511), some (.int 0)] (And.intro rfl (And.intro rfl (And.intro rfl (And.intro rfl (trivial))))) h

set_option maxRecDepth 20000 in
theorem vc_Need_behindTurn_6 (E : ZE) (S : ZS) (M : ZM) (x0 : Int32) (x1 : Int32) (x2 : Int32) (x3 : Int32) (Φ : Option Value → ZS → ZM → Prop)  (h : (3 ≤ x3 → Φ (some (.int x2)) S M) ∧ (¬ 3 ≤ x3 → zW E m_Need_stateOfTurn 0 S M 0 [some (.int x1), some (.int x3)] [] (fun q2 T2 M2 => ∃ y2 : Int32, q2 = some (.int y2) ∧ S = T2 ∧ zW E m_Need_ofState 0 S M2 0 [some (.int x0), some (.int x3)] [] (fun q3 T3 M3 => ∃ y3 : Int32, q3 = some (.int y3) ∧ S = T3 ∧ zW E m_Need_narrowed 0 S M3 0 [some (.int x2), some (.int y2), some (.int y3)] [] (fun q4 T4 M4 => ∃ y4 : Int32, q4 = some (.int y4) ∧ S = T4 ∧ ∀ y5 : Int32, y5 = x3 + 1 → zW E m_Need_behindTurn 1 S M4 6 [some (.int x0), some (.int x1), some (.int y4), some (.int y5)] [] Φ))))) : zW E m_Need_behindTurn 1 S M 6 [some (.int x0), some (.int x1), some (.int x2), some (.int x3)] [] Φ := by
  refine z_iload_n d_Need_behindTurn_6 rfl ?_
  refine z_iconst 3 d_Need_behindTurn_7 (by decide) ?_
  refine z_icmp_ge 32 d_Need_behindTurn_8 rfl ⟨fun c1 => ?_, fun c1 => ?_⟩
  · replace h := h.1 c1
    refine z_iload_n d_Need_behindTurn_32 rfl ?_
    exact z_iret rfl d_Need_behindTurn_33 h
  · replace h := h.2 c1
    refine z_iload_n d_Need_behindTurn_11 rfl ?_
    refine z_iload_n d_Need_behindTurn_12 rfl ?_
    refine z_iload_n d_Need_behindTurn_13 rfl ?_
    refine z_callS (as := [.int x1, .int x3]) (st := [.int x2]) i_Need_stateOfTurn s_Need_stateOfTurn l_Need_24 d_Need_behindTurn_14 (by decide) rfl (Nat.le_of_ble_eq_true rfl) (Nat.le_of_ble_eq_true rfl) h (fun q2 T2 M2 h => ?_)
    obtain ⟨y2, rfl, rfl, h⟩ := h
    refine z_iload_n d_Need_behindTurn_17 rfl ?_
    refine z_iload_n d_Need_behindTurn_18 rfl ?_
    refine z_callS (as := [.int x0, .int x3]) (st := [.int y2, .int x2]) i_Need_ofState s_Need_ofState l_Need_17 d_Need_behindTurn_19 (by decide) rfl (Nat.le_of_ble_eq_true rfl) (Nat.le_of_ble_eq_true rfl) h (fun q3 T3 M3 h => ?_)
    obtain ⟨y3, rfl, rfl, h⟩ := h
    refine z_callS (as := [.int x2, .int y2, .int y3]) (st := []) i_Need_narrowed s_Need_narrowed l_Need_20 d_Need_behindTurn_22 (by decide) rfl (Nat.le_of_ble_eq_true rfl) (Nat.le_of_ble_eq_true rfl) h (fun q4 T4 M4 h => ?_)
    obtain ⟨y4, rfl, rfl, h⟩ := h
    refine z_istore_n (ls' := [some (.int x0), some (.int x1), some (.int y4), some (.int x3)]) d_Need_behindTurn_25 (Nat.le_of_ble_eq_true rfl) rfl rfl ?_
    obtain ⟨y5, ey5⟩ : ∃ q : Int32, q = x3 + 1 := ⟨_, rfl⟩
    replace h := h y5 ey5
    refine z_iinc (ls' := [some (.int x0), some (.int x1), some (.int y4), some (.int y5)]) y5 d_Need_behindTurn_26 rfl (ey5 ▸ rfl) (Nat.le_of_ble_eq_true rfl) rfl rfl ?_
    refine z_goto 6 d_Need_behindTurn_29 rfl ?_
    exact z_forget [some (.int x0), some (.int x1), some (.int y4), some (.int y5)] (And.intro rfl (And.intro rfl (And.intro rfl (And.intro rfl (trivial))))) h

set_option maxRecDepth 20000 in
theorem vc_Need_aheadOfTurn_0 (E : ZE) (S : ZS) (M : ZM) (x0 : Int32) (x1 : Int32) (x2 : Int32) (Φ : Option Value → ZS → ZM → Prop)  (h : zW E m_Need_aheadOfTurn 1 S M 5 [none, some (.int x1), some (.int x2), some (.int x0), some (.int 0)] [] Φ) : zW E m_Need_aheadOfTurn 1 S M 0 [some (.int x0), some (.int x1), some (.int x2), none, none] [] Φ := by
  refine z_iload_n d_Need_aheadOfTurn_0 rfl ?_
  refine z_istore_n (ls' := [some (.int x0), some (.int x1), some (.int x2), some (.int x0), none]) d_Need_aheadOfTurn_1 (Nat.le_of_ble_eq_true rfl) rfl rfl ?_
  refine z_iconst 0 d_Need_aheadOfTurn_2 (by decide) ?_
  refine z_istore (ls' := [some (.int x0), some (.int x1), some (.int x2), some (.int x0), some (.int 0)]) d_Need_aheadOfTurn_3 (Nat.le_of_ble_eq_true rfl) rfl rfl ?_
  exact z_forget [none, some (.int x1), some (.int x2), some (.int x0), some (.int 0)] (And.intro rfl (And.intro rfl (And.intro rfl (And.intro rfl (trivial))))) h

set_option maxRecDepth 20000 in
theorem vc_Need_aheadOfTurn_5 (E : ZE) (S : ZS) (M : ZM) (x1 : Int32) (x2 : Int32) (x3 : Int32) (x4 : Int32) (Φ : Option Value → ZS → ZM → Prop)  (h : (3 ≤ x4 → Φ (some (.int x3)) S M) ∧ (¬ 3 ≤ x4 → zW E m_Need_ofState 0 S M 0 [some (.int x1), some (.int x4)] [] (fun q2 T2 M2 => ∃ y2 : Int32, q2 = some (.int y2) ∧ S = T2 ∧ (y2 = 7 → ∀ y4 : Int32, y4 = x4 + 1 → zW E m_Need_aheadOfTurn 1 S M2 5 [none, some (.int x1), some (.int x2), some (.int x3), some (.int y4)] [] Φ) ∧ (¬ y2 = 7 → zW E m_Need_stateOfTurn 0 S M2 0 [some (.int x2), some (.int x4)] [] (fun q5 T5 M5 => ∃ y5 : Int32, q5 = some (.int y5) ∧ S = T5 ∧ zW E m_Need_narrowed 0 S M5 0 [some (.int x3), some (.int x4), some (.int ((1 : Int32) <<< (y5 &&& 31)))] [] (fun q6 T6 M6 => ∃ y6 : Int32, q6 = some (.int y6) ∧ S = T6 ∧ ∀ y7 : Int32, y7 = x4 + 1 → zW E m_Need_aheadOfTurn 1 S M6 5 [none, some (.int x1), some (.int x2), some (.int y6), some (.int y7)] [] Φ)))))) : zW E m_Need_aheadOfTurn 1 S M 5 [none, some (.int x1), some (.int x2), some (.int x3), some (.int x4)] [] Φ := by
  refine z_iload d_Need_aheadOfTurn_5 rfl ?_
  refine z_iconst 3 d_Need_aheadOfTurn_7 (by decide) ?_
  refine z_icmp_ge 43 d_Need_aheadOfTurn_8 rfl ⟨fun c1 => ?_, fun c1 => ?_⟩
  · replace h := h.1 c1
    refine z_iload_n d_Need_aheadOfTurn_43 rfl ?_
    exact z_iret rfl d_Need_aheadOfTurn_44 h
  · replace h := h.2 c1
    refine z_iload_n d_Need_aheadOfTurn_11 rfl ?_
    refine z_iload d_Need_aheadOfTurn_12 rfl ?_
    refine z_callS (as := [.int x1, .int x4]) (st := []) i_Need_ofState s_Need_ofState l_Need_17 d_Need_aheadOfTurn_14 (by decide) rfl (Nat.le_of_ble_eq_true rfl) (Nat.le_of_ble_eq_true rfl) h (fun q2 T2 M2 h => ?_)
    obtain ⟨y2, rfl, rfl, h⟩ := h
    refine z_bipush 7 d_Need_aheadOfTurn_17 (by decide) ?_
    refine z_icmp_eq 37 d_Need_aheadOfTurn_19 rfl ⟨fun c3 => ?_, fun c3 => ?_⟩
    · replace h := h.1 c3
      obtain ⟨y4, ey4⟩ : ∃ q : Int32, q = x4 + 1 := ⟨_, rfl⟩
      replace h := h y4 ey4
      refine z_iinc (ls' := [none, some (.int x1), some (.int x2), some (.int x3), some (.int y4)]) y4 d_Need_aheadOfTurn_37 rfl (ey4 ▸ rfl) (Nat.le_of_ble_eq_true rfl) rfl rfl ?_
      refine z_goto 5 d_Need_aheadOfTurn_40 rfl ?_
      exact z_forget [none, some (.int x1), some (.int x2), some (.int x3), some (.int y4)] (And.intro rfl (And.intro rfl (And.intro rfl (And.intro rfl (trivial))))) h
    · replace h := h.2 c3
      refine z_iload_n d_Need_aheadOfTurn_22 rfl ?_
      refine z_iload d_Need_aheadOfTurn_23 rfl ?_
      refine z_iconst 1 d_Need_aheadOfTurn_25 (by decide) ?_
      refine z_iload_n d_Need_aheadOfTurn_26 rfl ?_
      refine z_iload d_Need_aheadOfTurn_27 rfl ?_
      refine z_callS (as := [.int x2, .int x4]) (st := [.int 1, .int x4, .int x3]) i_Need_stateOfTurn s_Need_stateOfTurn l_Need_24 d_Need_aheadOfTurn_29 (by decide) rfl (Nat.le_of_ble_eq_true rfl) (Nat.le_of_ble_eq_true rfl) h (fun q5 T5 M5 h => ?_)
      obtain ⟨y5, rfl, rfl, h⟩ := h
      refine z_ishl d_Need_aheadOfTurn_32 ?_
      refine z_callS (as := [.int x3, .int x4, .int ((1 : Int32) <<< (y5 &&& 31))]) (st := []) i_Need_narrowed s_Need_narrowed l_Need_20 d_Need_aheadOfTurn_33 (by decide) rfl (Nat.le_of_ble_eq_true rfl) (Nat.le_of_ble_eq_true rfl) h (fun q6 T6 M6 h => ?_)
      obtain ⟨y6, rfl, rfl, h⟩ := h
      refine z_istore_n (ls' := [none, some (.int x1), some (.int x2), some (.int y6), some (.int x4)]) d_Need_aheadOfTurn_36 (Nat.le_of_ble_eq_true rfl) rfl rfl ?_
      obtain ⟨y7, ey7⟩ : ∃ q : Int32, q = x4 + 1 := ⟨_, rfl⟩
      replace h := h y7 ey7
      refine z_iinc (ls' := [none, some (.int x1), some (.int x2), some (.int y6), some (.int y7)]) y7 d_Need_aheadOfTurn_37 rfl (ey7 ▸ rfl) (Nat.le_of_ble_eq_true rfl) rfl rfl ?_
      refine z_goto 5 d_Need_aheadOfTurn_40 rfl ?_
      exact z_forget [none, some (.int x1), some (.int x2), some (.int y6), some (.int y7)] (And.intro rfl (And.intro rfl (And.intro rfl (And.intro rfl (trivial))))) h

set_option maxRecDepth 20000 in
theorem vc_Words_of_0 (E : ZE) (S : ZS) (M : ZM) (r0 L0 : Nat) (x1 : Int32) (Φ : Option Value → ZS → ZM → Prop) (h0 : zWords S r0 L0) (h : (¬ x1 = 0 → (¬ x1 = 1 → Φ (some (va_rf (some (r0 + 5)))) S M) ∧ (x1 = 1 → Φ (some (va_rf (some (r0 + 3)))) S M)) ∧ (x1 = 0 → Φ (some (va_rf (some (r0 + 1)))) S M)) : zW E m_Words_of 0 S M 0 [some (.ref r0), some (.int x1)] [] Φ := by
  refine z_iload_n d_Words_of_0 rfl ?_
  refine z_if_ne 11 d_Words_of_1 rfl ⟨fun c1 => ?_, fun c1 => ?_⟩
  · replace h := h.1 c1
    refine z_iload_n d_Words_of_11 rfl ?_
    refine z_iconst 1 d_Words_of_12 (by decide) ?_
    refine z_icmp_ne 23 d_Words_of_13 rfl ⟨fun c2 => ?_, fun c2 => ?_⟩
    · replace h := h.1 c2
      refine z_aload_n d_Words_of_23 rfl ?_
      refine z_getr f_Words_23 rfl d_Words_of_24 h0.1 h0.2.2.2.1 ?_
      exact z_aret (some (r0 + 5)) rfl d_Words_of_27 h
    · replace h := h.2 c2
      refine z_aload_n d_Words_of_16 rfl ?_
      refine z_getr f_Words_20 rfl d_Words_of_17 h0.1 h0.2.2.1.1 ?_
      refine z_goto 27 d_Words_of_20 rfl ?_
      exact z_aret (some (r0 + 3)) rfl d_Words_of_27 h
  · replace h := h.2 c1
    refine z_aload_n d_Words_of_4 rfl ?_
    refine z_getr f_Words_14 rfl d_Words_of_5 h0.1 h0.2.1.1 ?_
    refine z_goto 27 d_Words_of_8 rfl ?_
    exact z_aret (some (r0 + 1)) rfl d_Words_of_27 h

set_option maxRecDepth 20000 in
theorem vc_Words_copy_0 (E : ZE) (S : ZS) (M : ZM) (r0 L0 : Nat) (r1 L1 : Nat) (Φ : Option Value → ZS → ZM → Prop) (h0 : zWords S r0 L0) (h1 : zWords S r1 L1) (h : zW E m_Row_copy 0 S M 0 [some (.ref (r0 + 1)), some (.ref (r1 + 1)), none] [] (fun q1 T1 M1 => q1 = none ∧ S = T1 ∧ zW E m_Row_copy 0 S M1 0 [some (.ref (r0 + 3)), some (.ref (r1 + 3)), none] [] (fun q2 T2 M2 => q2 = none ∧ S = T2 ∧ zW E m_Row_copy 0 S M2 0 [some (.ref (r0 + 5)), some (.ref (r1 + 5)), none] [] (fun q3 T3 M3 => q3 = none ∧ S = T3 ∧ Φ none S M3)))) : zW E m_Words_copy 1 S M 0 [some (.ref r0), some (.ref r1)] [] Φ := by
  refine z_aload_n d_Words_copy_0 rfl ?_
  refine z_getr f_Words_14 rfl d_Words_copy_1 h0.1 h0.2.1.1 ?_
  refine z_aload_n d_Words_copy_4 rfl ?_
  refine z_getr f_Words_14 rfl d_Words_copy_5 h1.1 h1.2.1.1 ?_
  refine z_callV (as := [.ref (r1 + 1)]) (st := []) i_Row_copy ⟨rfl, rfl⟩ v_Row_copy w_Row_copy l_Words_26 d_Words_copy_8 (by decide) h0.2.1.2.1 rfl (Nat.le_of_ble_eq_true rfl) (Nat.le_of_ble_eq_true rfl) h (fun q1 T1 M1 h => ?_)
  obtain ⟨rfl, rfl, h⟩ := h
  refine z_aload_n d_Words_copy_11 rfl ?_
  refine z_getr f_Words_20 rfl d_Words_copy_12 h0.1 h0.2.2.1.1 ?_
  refine z_aload_n d_Words_copy_15 rfl ?_
  refine z_getr f_Words_20 rfl d_Words_copy_16 h1.1 h1.2.2.1.1 ?_
  refine z_callV (as := [.ref (r1 + 3)]) (st := []) i_Row_copy ⟨rfl, rfl⟩ v_Row_copy w_Row_copy l_Words_26 d_Words_copy_19 (by decide) h0.2.2.1.2.1 rfl (Nat.le_of_ble_eq_true rfl) (Nat.le_of_ble_eq_true rfl) h (fun q2 T2 M2 h => ?_)
  obtain ⟨rfl, rfl, h⟩ := h
  refine z_aload_n d_Words_copy_22 rfl ?_
  refine z_getr f_Words_23 rfl d_Words_copy_23 h0.1 h0.2.2.2.1 ?_
  refine z_aload_n d_Words_copy_26 rfl ?_
  refine z_getr f_Words_23 rfl d_Words_copy_27 h1.1 h1.2.2.2.1 ?_
  refine z_callV (as := [.ref (r1 + 5)]) (st := []) i_Row_copy ⟨rfl, rfl⟩ v_Row_copy w_Row_copy l_Words_26 d_Words_copy_30 (by decide) h0.2.2.2.2.1 rfl (Nat.le_of_ble_eq_true rfl) (Nat.le_of_ble_eq_true rfl) h (fun q3 T3 M3 h => ?_)
  obtain ⟨rfl, rfl, h⟩ := h
  exact z_vret rfl d_Words_copy_33 h

set_option maxRecDepth 20000 in
theorem vc_Words_together_0 (E : ZE) (S : ZS) (M : ZM) (r0 L0 : Nat) (Φ : Option Value → ZS → ZM → Prop) (h0 : zWords S r0 L0) (h : zW E m_Row_size 0 S M 0 [some (.ref (r0 + 1))] [] (fun q1 T1 M1 => ∃ y1 : Int32, q1 = some (.int y1) ∧ S = T1 ∧ zW E m_Row_size 0 S M1 0 [some (.ref (r0 + 3))] [] (fun q2 T2 M2 => ∃ y2 : Int32, q2 = some (.int y2) ∧ S = T2 ∧ zW E m_Row_size 0 S M2 0 [some (.ref (r0 + 5))] [] (fun q3 T3 M3 => ∃ y3 : Int32, q3 = some (.int y3) ∧ S = T3 ∧ Φ (some (.int ((y1 + y2) + y3))) S M3)))) : zW E m_Words_together 1 S M 0 [some (.ref r0)] [] Φ := by
  refine z_aload_n d_Words_together_0 rfl ?_
  refine z_getr f_Words_14 rfl d_Words_together_1 h0.1 h0.2.1.1 ?_
  refine z_callV (as := []) (st := []) i_Row_size ⟨rfl, rfl⟩ v_Row_size w_Row_size l_Words_30 d_Words_together_4 (by decide) h0.2.1.2.1 rfl (Nat.le_of_ble_eq_true rfl) (Nat.le_of_ble_eq_true rfl) h (fun q1 T1 M1 h => ?_)
  obtain ⟨y1, rfl, rfl, h⟩ := h
  refine z_aload_n d_Words_together_7 rfl ?_
  refine z_getr f_Words_20 rfl d_Words_together_8 h0.1 h0.2.2.1.1 ?_
  refine z_callV (as := []) (st := [.int y1]) i_Row_size ⟨rfl, rfl⟩ v_Row_size w_Row_size l_Words_30 d_Words_together_11 (by decide) h0.2.2.1.2.1 rfl (Nat.le_of_ble_eq_true rfl) (Nat.le_of_ble_eq_true rfl) h (fun q2 T2 M2 h => ?_)
  obtain ⟨y2, rfl, rfl, h⟩ := h
  refine z_iadd d_Words_together_14 ?_
  refine z_aload_n d_Words_together_15 rfl ?_
  refine z_getr f_Words_23 rfl d_Words_together_16 h0.1 h0.2.2.2.1 ?_
  refine z_callV (as := []) (st := [.int (y1 + y2)]) i_Row_size ⟨rfl, rfl⟩ v_Row_size w_Row_size l_Words_30 d_Words_together_19 (by decide) h0.2.2.2.2.1 rfl (Nat.le_of_ble_eq_true rfl) (Nat.le_of_ble_eq_true rfl) h (fun q3 T3 M3 h => ?_)
  obtain ⟨y3, rfl, rfl, h⟩ := h
  refine z_iadd d_Words_together_22 ?_
  exact z_iret rfl d_Words_together_23 h

set_option maxRecDepth 20000 in
theorem vc_Words_longest_0 (E : ZE) (S : ZS) (M : ZM) (r0 L0 : Nat) (Φ : Option Value → ZS → ZM → Prop) (h0 : zWords S r0 L0) (h : zW E m_Row_size 0 S M 0 [some (.ref (r0 + 1))] [] (fun q1 T1 M1 => ∃ y1 : Int32, q1 = some (.int y1) ∧ S = T1 ∧ zW E m_Row_size 0 S M1 0 [some (.ref (r0 + 3))] [] (fun q2 T2 M2 => ∃ y2 : Int32, q2 = some (.int y2) ∧ S = T2 ∧ zW E m_Row_size 0 S M2 0 [some (.ref (r0 + 5))] [] (fun q3 T3 M3 => ∃ y3 : Int32, q3 = some (.int y3) ∧ S = T3 ∧ Φ (some (.int (if y1 < (if y2 < y3 then y3 else y2) then (if y2 < y3 then y3 else y2) else y1))) S M3)))) : zW E m_Words_longest 1 S M 0 [some (.ref r0)] [] Φ := by
  refine z_aload_n d_Words_longest_0 rfl ?_
  refine z_getr f_Words_14 rfl d_Words_longest_1 h0.1 h0.2.1.1 ?_
  refine z_callV (as := []) (st := []) i_Row_size ⟨rfl, rfl⟩ v_Row_size w_Row_size l_Words_30 d_Words_longest_4 (by decide) h0.2.1.2.1 rfl (Nat.le_of_ble_eq_true rfl) (Nat.le_of_ble_eq_true rfl) h (fun q1 T1 M1 h => ?_)
  obtain ⟨y1, rfl, rfl, h⟩ := h
  refine z_aload_n d_Words_longest_7 rfl ?_
  refine z_getr f_Words_20 rfl d_Words_longest_8 h0.1 h0.2.2.1.1 ?_
  refine z_callV (as := []) (st := [.int y1]) i_Row_size ⟨rfl, rfl⟩ v_Row_size w_Row_size l_Words_30 d_Words_longest_11 (by decide) h0.2.2.1.2.1 rfl (Nat.le_of_ble_eq_true rfl) (Nat.le_of_ble_eq_true rfl) h (fun q2 T2 M2 h => ?_)
  obtain ⟨y2, rfl, rfl, h⟩ := h
  refine z_aload_n d_Words_longest_14 rfl ?_
  refine z_getr f_Words_23 rfl d_Words_longest_15 h0.1 h0.2.2.2.1 ?_
  refine z_callV (as := []) (st := [.int y2, .int y1]) i_Row_size ⟨rfl, rfl⟩ v_Row_size w_Row_size l_Words_30 d_Words_longest_18 (by decide) h0.2.2.2.2.1 rfl (Nat.le_of_ble_eq_true rfl) (Nat.le_of_ble_eq_true rfl) h (fun q3 T3 M3 h => ?_)
  obtain ⟨y3, rfl, rfl, h⟩ := h
  refine z_mmax l_Words_34 mx_1 mx_2 mx_3 d_Words_longest_21 (by decide) (Nat.le_of_ble_eq_true rfl) ?_
  refine z_mmax l_Words_34 mx_1 mx_2 mx_3 d_Words_longest_24 (by decide) (Nat.le_of_ble_eq_true rfl) ?_
  exact z_iret rfl d_Words_longest_27 h

set_option maxRecDepth 20000 in
theorem vc_Words_spellOut_0 (E : ZE) (S : ZS) (M : ZM) (r0 L0 : Nat) (r1 L1 : Nat) (r2 L2 : Nat) (Φ : Option Value → ZS → ZM → Prop) (h0 : zWords S r0 L0) (h1 : zRow S r1 L1) (h2 : zRow S r2 L2) (h : zW E m_Row_makeEmpty 0 S M 0 [some (.ref r2)] [] (fun q1 T1 M1 => q1 = none ∧ S = T1 ∧ zW E m_Words_spellOut 1 S M1 6 [some (.ref r0), some (.ref r1), some (.ref r2), some (.int 0), none] [] Φ)) : zW E m_Words_spellOut 1 S M 0 [some (.ref r0), some (.ref r1), some (.ref r2), none, none] [] Φ := by
  refine z_aload_n d_Words_spellOut_0 rfl ?_
  refine z_callV (as := []) (st := []) i_Row_makeEmpty ⟨rfl, rfl⟩ v_Row_makeEmpty w_Row_makeEmpty l_Words_40 d_Words_spellOut_1 (by decide) h2.1 rfl (Nat.le_of_ble_eq_true rfl) (Nat.le_of_ble_eq_true rfl) h (fun q1 T1 M1 h => ?_)
  obtain ⟨rfl, rfl, h⟩ := h
  refine z_iconst 0 d_Words_spellOut_4 (by decide) ?_
  refine z_istore_n (ls' := [some (.ref r0), some (.ref r1), some (.ref r2), some (.int 0), none]) d_Words_spellOut_5 (Nat.le_of_ble_eq_true rfl) rfl rfl ?_
  exact z_forget [some (.ref r0), some (.ref r1), some (.ref r2), some (.int 0), none] (And.intro rfl (And.intro rfl (And.intro rfl (And.intro rfl (trivial))))) h

set_option maxRecDepth 20000 in
theorem vc_Words_spellOut_6 (E : ZE) (S : ZS) (M : ZM) (r0 L0 : Nat) (r1 L1 : Nat) (r2 L2 : Nat) (x3 : Int32) (Φ : Option Value → ZS → ZM → Prop) (h0 : zWords S r0 L0) (h1 : zRow S r1 L1) (h2 : zRow S r2 L2) (h : zW E m_Row_size 0 S M 0 [some (.ref r1)] [] (fun q1 T1 M1 => ∃ y1 : Int32, q1 = some (.int y1) ∧ S = T1 ∧ (y1 ≤ x3 → Φ none S M1) ∧ (¬ y1 ≤ x3 → zW E m_Row_at 0 S M1 0 [some (.ref r1), some (.int x3)] [] (fun q3 T3 M3 => ∃ y3 : Int32, q3 = some (.int y3) ∧ S = T3 ∧ (2 ≤ y3 → zW E m_Words_of 0 S M3 0 [some (.ref r0), some (.int (y3 - 2))] [] (fun q5 T5 M5 => ∃ b5 L5 : Nat, q5 = some (.ref b5) ∧ S = T5 ∧ zRow S b5 L5 ∧ (zW E m_Row_add 0 S M5 0 [some (.ref r2), some (.ref b5), none] [] (fun q6 T6 M6 => q6 = none ∧ S = T6 ∧ ∀ y7 : Int32, y7 = x3 + 1 → zW E m_Words_spellOut 1 S M6 6 [some (.ref r0), some (.ref r1), some (.ref r2), some (.int y7), none] [] Φ)))) ∧ (¬ 2 ≤ y3 → zW E m_Row_push 0 S M3 0 [some (.ref r2), some (.int y3)] [] (fun q8 T8 M8 => ∃ y8 : Int32, q8 = some (.int y8) ∧ S = T8 ∧ ∀ y9 : Int32, y9 = x3 + 1 → zW E m_Words_spellOut 1 S M8 6 [some (.ref r0), some (.ref r1), some (.ref r2), some (.int y9), none] [] Φ)))))) : zW E m_Words_spellOut 1 S M 6 [some (.ref r0), some (.ref r1), some (.ref r2), some (.int x3), none] [] Φ := by
  refine z_iload_n d_Words_spellOut_6 rfl ?_
  refine z_aload_n d_Words_spellOut_7 rfl ?_
  refine z_callV (as := []) (st := [.int x3]) i_Row_size ⟨rfl, rfl⟩ v_Row_size w_Row_size l_Words_30 d_Words_spellOut_8 (by decide) h1.1 rfl (Nat.le_of_ble_eq_true rfl) (Nat.le_of_ble_eq_true rfl) h (fun q1 T1 M1 h => ?_)
  obtain ⟨y1, rfl, rfl, h⟩ := h
  refine z_icmp_ge 55 d_Words_spellOut_11 rfl ⟨fun c2 => ?_, fun c2 => ?_⟩
  · replace h := h.1 c2
    exact z_vret rfl d_Words_spellOut_55 h
  · replace h := h.2 c2
    refine z_aload_n d_Words_spellOut_14 rfl ?_
    refine z_iload_n d_Words_spellOut_15 rfl ?_
    refine z_callV (as := [.int x3]) (st := []) i_Row_at ⟨rfl, rfl⟩ v_Row_at w_Row_at l_Words_43 d_Words_spellOut_16 (by decide) h1.1 rfl (Nat.le_of_ble_eq_true rfl) (Nat.le_of_ble_eq_true rfl) h (fun q3 T3 M3 h => ?_)
    obtain ⟨y3, rfl, rfl, h⟩ := h
    refine z_istore (ls' := [some (.ref r0), some (.ref r1), some (.ref r2), some (.int x3), some (.int y3)]) d_Words_spellOut_19 (Nat.le_of_ble_eq_true rfl) rfl rfl ?_
    refine z_iload d_Words_spellOut_21 rfl ?_
    refine z_iconst 2 d_Words_spellOut_23 (by decide) ?_
    refine z_icmp_ge 37 d_Words_spellOut_24 rfl ⟨fun c4 => ?_, fun c4 => ?_⟩
    · replace h := h.1 c4
      refine z_aload_n d_Words_spellOut_37 rfl ?_
      refine z_aload_n d_Words_spellOut_38 rfl ?_
      refine z_iload d_Words_spellOut_39 rfl ?_
      refine z_iconst 2 d_Words_spellOut_41 (by decide) ?_
      refine z_isub d_Words_spellOut_42 ?_
      refine z_callV (as := [.int (y3 - 2)]) (st := [.ref r2]) i_Words_of ⟨rfl, rfl⟩ v_Words_of w_Words_of l_Words_51 d_Words_spellOut_43 (by decide) h0.1 rfl (Nat.le_of_ble_eq_true rfl) (Nat.le_of_ble_eq_true rfl) h (fun q5 T5 M5 h => ?_)
      obtain ⟨b5, L5, rfl, rfl, zb5, h⟩ := h
      refine z_callV (as := [.ref b5]) (st := []) i_Row_add ⟨rfl, rfl⟩ v_Row_add w_Row_add l_Words_55 d_Words_spellOut_46 (by decide) h2.1 rfl (Nat.le_of_ble_eq_true rfl) (Nat.le_of_ble_eq_true rfl) h (fun q6 T6 M6 h => ?_)
      obtain ⟨rfl, rfl, h⟩ := h
      obtain ⟨y7, ey7⟩ : ∃ q : Int32, q = x3 + 1 := ⟨_, rfl⟩
      replace h := h y7 ey7
      refine z_iinc (ls' := [some (.ref r0), some (.ref r1), some (.ref r2), some (.int y7), some (.int y3)]) y7 d_Words_spellOut_49 rfl (ey7 ▸ rfl) (Nat.le_of_ble_eq_true rfl) rfl rfl ?_
      refine z_goto 6 d_Words_spellOut_52 rfl ?_
      exact z_forget [some (.ref r0), some (.ref r1), some (.ref r2), some (.int y7), none] (And.intro rfl (And.intro rfl (And.intro rfl (And.intro rfl (trivial))))) h
    · replace h := h.2 c4
      refine z_aload_n d_Words_spellOut_27 rfl ?_
      refine z_iload d_Words_spellOut_28 rfl ?_
      refine z_callV (as := [.int y3]) (st := []) i_Row_push ⟨rfl, rfl⟩ v_Row_push w_Row_push l_Words_47 d_Words_spellOut_30 (by decide) h2.1 rfl (Nat.le_of_ble_eq_true rfl) (Nat.le_of_ble_eq_true rfl) h (fun q8 T8 M8 h => ?_)
      obtain ⟨y8, rfl, rfl, h⟩ := h
      refine z_pop d_Words_spellOut_33 rfl ?_
      refine z_goto 49 d_Words_spellOut_34 rfl ?_
      obtain ⟨y9, ey9⟩ : ∃ q : Int32, q = x3 + 1 := ⟨_, rfl⟩
      replace h := h y9 ey9
      refine z_iinc (ls' := [some (.ref r0), some (.ref r1), some (.ref r2), some (.int y9), some (.int y3)]) y9 d_Words_spellOut_49 rfl (ey9 ▸ rfl) (Nat.le_of_ble_eq_true rfl) rfl rfl ?_
      refine z_goto 6 d_Words_spellOut_52 rfl ?_
      exact z_forget [some (.ref r0), some (.ref r1), some (.ref r2), some (.int y9), none] (And.intro rfl (And.intro rfl (And.intro rfl (And.intro rfl (trivial))))) h

set_option maxRecDepth 20000 in
theorem vc_Book_copy_0 (E : ZE) (S : ZS) (M : ZM) (r0 : Nat) (r1 : Nat) (Φ : Option Value → ZS → ZM → Prop) (h0 : zBook S r0) (h1 : zBook S r1) (h : zW E m_Row_copy 0 S M 0 [some (.ref (r0 + 1)), some (.ref (r1 + 1)), none] [] (fun q1 T1 M1 => q1 = none ∧ S = T1 ∧ zW E m_Row_copy 0 S M1 0 [some (.ref (r0 + 3)), some (.ref (r1 + 3)), none] [] (fun q2 T2 M2 => q2 = none ∧ S = T2 ∧ zW E m_Machine_copy 0 S M2 0 [some (.ref (r0 + 5)), some (.ref (r1 + 5)), none] [] (fun q3 T3 M3 => q3 = none ∧ S = T3 ∧ zW E m_Words_copy 1 S M3 0 [some (.ref (r0 + 7)), some (.ref (r1 + 7))] [] (fun q4 T4 M4 => q4 = none ∧ S = T4 ∧ ∀ M5 : ZM, M5 = zms M4 r0 4 (M4 r1 4) → Φ none S M5))))) : zW E m_Book_copy 2 S M 0 [some (.ref r0), some (.ref r1)] [] Φ := by
  refine z_aload_n d_Book_copy_0 rfl ?_
  refine z_getr f_Book_14 rfl d_Book_copy_1 h0.1 h0.2.1.1 ?_
  refine z_aload_n d_Book_copy_4 rfl ?_
  refine z_getr f_Book_14 rfl d_Book_copy_5 h1.1 h1.2.1.1 ?_
  refine z_callV (as := [.ref (r1 + 1)]) (st := []) i_Row_copy ⟨rfl, rfl⟩ v_Row_copy w_Row_copy l_Book_44 d_Book_copy_8 (by decide) h0.2.1.2.1 rfl (Nat.le_of_ble_eq_true rfl) (Nat.le_of_ble_eq_true rfl) h (fun q1 T1 M1 h => ?_)
  obtain ⟨rfl, rfl, h⟩ := h
  refine z_aload_n d_Book_copy_11 rfl ?_
  refine z_getr f_Book_20 rfl d_Book_copy_12 h0.1 h0.2.2.1.1 ?_
  refine z_aload_n d_Book_copy_15 rfl ?_
  refine z_getr f_Book_20 rfl d_Book_copy_16 h1.1 h1.2.2.1.1 ?_
  refine z_callV (as := [.ref (r1 + 3)]) (st := []) i_Row_copy ⟨rfl, rfl⟩ v_Row_copy w_Row_copy l_Book_44 d_Book_copy_19 (by decide) h0.2.2.1.2.1 rfl (Nat.le_of_ble_eq_true rfl) (Nat.le_of_ble_eq_true rfl) h (fun q2 T2 M2 h => ?_)
  obtain ⟨rfl, rfl, h⟩ := h
  refine z_aload_n d_Book_copy_22 rfl ?_
  refine z_getr f_Book_26 rfl d_Book_copy_23 h0.1 h0.2.2.2.1.1 ?_
  refine z_aload_n d_Book_copy_26 rfl ?_
  refine z_getr f_Book_26 rfl d_Book_copy_27 h1.1 h1.2.2.2.1.1 ?_
  refine z_callV (as := [.ref (r1 + 5)]) (st := []) i_Machine_copy ⟨rfl, rfl⟩ v_Machine_copy w_Machine_copy l_Book_48 d_Book_copy_30 (by decide) h0.2.2.2.1.2.1 rfl (Nat.le_of_ble_eq_true rfl) (Nat.le_of_ble_eq_true rfl) h (fun q3 T3 M3 h => ?_)
  obtain ⟨rfl, rfl, h⟩ := h
  refine z_aload_n d_Book_copy_33 rfl ?_
  refine z_getr f_Book_33 rfl d_Book_copy_34 h0.1 h0.2.2.2.2.1 ?_
  refine z_aload_n d_Book_copy_37 rfl ?_
  refine z_getr f_Book_33 rfl d_Book_copy_38 h1.1 h1.2.2.2.2.1 ?_
  refine z_callV (as := [.ref (r1 + 7)]) (st := []) i_Words_copy ⟨rfl, rfl⟩ v_Words_copy w_Words_copy l_Book_51 d_Book_copy_41 (by decide) h0.2.2.2.2.2.1 rfl (Nat.le_of_ble_eq_true rfl) (Nat.le_of_ble_eq_true rfl) h (fun q4 T4 M4 h => ?_)
  obtain ⟨rfl, rfl, h⟩ := h
  refine z_aload_n d_Book_copy_44 rfl ?_
  refine z_aload_n d_Book_copy_45 rfl ?_
  refine z_geti f_Book_40 rfl d_Book_copy_46 h1.1 ?_
  refine z_puti (p_Book_40 rfl) rfl d_Book_copy_49 h0.1 rfl rfl ?_
  refine z_mem (fun M5 eM5 => ?_)
  replace h := h M5 eM5
  exact z_vret rfl d_Book_copy_52 h

set_option maxRecDepth 20000 in
theorem vc_Book_wordsMeetNeeds_0 (E : ZE) (S : ZS) (M : ZM) (r0 : Nat) (Φ : Option Value → ZS → ZM → Prop) (h0 : zBook S r0) (h : zW E m_Book_wordsMeetNeeds 3 S M 2 [some (.ref r0), some (.int 0)] [] Φ) : zW E m_Book_wordsMeetNeeds 3 S M 0 [some (.ref r0), none] [] Φ := by
  refine z_iconst 0 d_Book_wordsMeetNeeds_0 (by decide) ?_
  refine z_istore_n (ls' := [some (.ref r0), some (.int 0)]) d_Book_wordsMeetNeeds_1 (Nat.le_of_ble_eq_true rfl) rfl rfl ?_
  exact z_forget [some (.ref r0), some (.int 0)] (And.intro rfl (And.intro rfl (trivial))) h

set_option maxRecDepth 20000 in
theorem vc_Book_wordsMeetNeeds_2 (E : ZE) (S : ZS) (M : ZM) (r0 : Nat) (x1 : Int32) (Φ : Option Value → ZS → ZM → Prop) (h0 : zBook S r0) (h : (3 ≤ x1 → Φ (some (.int 1)) S M) ∧ (¬ 3 ≤ x1 → zW E m_Need_ofVariable 0 S M 0 [some (.int (M r0 4)), some (.int x1)] [] (fun q2 T2 M2 => ∃ y2 : Int32, q2 = some (.int y2) ∧ S = T2 ∧ zW E m_Words_of 0 S M2 0 [some (.ref (r0 + 7)), some (.int x1)] [] (fun q3 T3 M3 => ∃ b3 L3 : Nat, q3 = some (.ref b3) ∧ S = T3 ∧ zRow S b3 L3 ∧ (zW E m_Book_mapOf 2 S M3 0 [some (.ref r0), some (.ref b3), none, none] [] (fun q4 T4 M4 => ∃ y4 : Int32, q4 = some (.int y4) ∧ S = T4 ∧ zW E m_Need_allows 0 S M4 0 [some (.int y2), some (.int y4)] [] (fun q5 T5 M5 => ∃ y5 : Int32, q5 = some (.int y5) ∧ S = T5 ∧ (¬ y5 = 0 → ∀ y7 : Int32, y7 = x1 + 1 → zW E m_Book_wordsMeetNeeds 3 S M5 2 [some (.ref r0), some (.int y7)] [] Φ) ∧ (y5 = 0 → Φ (some (.int 0)) S M5)))))))) : zW E m_Book_wordsMeetNeeds 3 S M 2 [some (.ref r0), some (.int x1)] [] Φ := by
  refine z_iload_n d_Book_wordsMeetNeeds_2 rfl ?_
  refine z_iconst 3 d_Book_wordsMeetNeeds_3 (by decide) ?_
  refine z_icmp_ge 41 d_Book_wordsMeetNeeds_4 rfl ⟨fun c1 => ?_, fun c1 => ?_⟩
  · replace h := h.1 c1
    refine z_iconst 1 d_Book_wordsMeetNeeds_41 (by decide) ?_
    exact z_zret rfl d_Book_wordsMeetNeeds_42 rfl h
  · replace h := h.2 c1
    refine z_aload_n d_Book_wordsMeetNeeds_7 rfl ?_
    refine z_geti f_Book_40 rfl d_Book_wordsMeetNeeds_8 h0.1 ?_
    refine z_iload_n d_Book_wordsMeetNeeds_11 rfl ?_
    refine z_callS (as := [.int (M r0 4), .int x1]) (st := []) i_Need_ofVariable s_Need_ofVariable l_Book_54 d_Book_wordsMeetNeeds_12 (by decide) rfl (Nat.le_of_ble_eq_true rfl) (Nat.le_of_ble_eq_true rfl) h (fun q2 T2 M2 h => ?_)
    obtain ⟨y2, rfl, rfl, h⟩ := h
    refine z_aload_n d_Book_wordsMeetNeeds_15 rfl ?_
    refine z_aload_n d_Book_wordsMeetNeeds_16 rfl ?_
    refine z_getr f_Book_33 rfl d_Book_wordsMeetNeeds_17 h0.1 h0.2.2.2.2.1 ?_
    refine z_iload_n d_Book_wordsMeetNeeds_20 rfl ?_
    refine z_callV (as := [.int x1]) (st := [.ref r0, .int y2]) i_Words_of ⟨rfl, rfl⟩ v_Words_of w_Words_of l_Book_58 d_Book_wordsMeetNeeds_21 (by decide) h0.2.2.2.2.2.1 rfl (Nat.le_of_ble_eq_true rfl) (Nat.le_of_ble_eq_true rfl) h (fun q3 T3 M3 h => ?_)
    obtain ⟨b3, L3, rfl, rfl, zb3, h⟩ := h
    refine z_callV (as := [.ref b3]) (st := [.int y2]) i_Book_mapOf ⟨rfl, rfl⟩ v_Book_mapOf w_Book_mapOf l_Book_62 d_Book_wordsMeetNeeds_24 (by decide) h0.1 rfl (Nat.le_of_ble_eq_true rfl) (Nat.le_of_ble_eq_true rfl) h (fun q4 T4 M4 h => ?_)
    obtain ⟨y4, rfl, rfl, h⟩ := h
    refine z_callS (as := [.int y2, .int y4]) (st := []) i_Need_allows s_Need_allows l_Book_66 d_Book_wordsMeetNeeds_27 (by decide) rfl (Nat.le_of_ble_eq_true rfl) (Nat.le_of_ble_eq_true rfl) h (fun q5 T5 M5 h => ?_)
    obtain ⟨y5, rfl, rfl, h⟩ := h
    refine z_if_ne 35 d_Book_wordsMeetNeeds_30 rfl ⟨fun c6 => ?_, fun c6 => ?_⟩
    · replace h := h.1 c6
      obtain ⟨y7, ey7⟩ : ∃ q : Int32, q = x1 + 1 := ⟨_, rfl⟩
      replace h := h y7 ey7
      refine z_iinc (ls' := [some (.ref r0), some (.int y7)]) y7 d_Book_wordsMeetNeeds_35 rfl (ey7 ▸ rfl) (Nat.le_of_ble_eq_true rfl) rfl rfl ?_
      refine z_goto 2 d_Book_wordsMeetNeeds_38 rfl ?_
      exact z_forget [some (.ref r0), some (.int y7)] (And.intro rfl (And.intro rfl (trivial))) h
    · replace h := h.2 c6
      refine z_iconst 0 d_Book_wordsMeetNeeds_33 (by decide) ?_
      exact z_zret rfl d_Book_wordsMeetNeeds_34 rfl h

set_option maxRecDepth 20000 in
theorem vc_Book_mapOf_0 (E : ZE) (S : ZS) (M : ZM) (r0 : Nat) (r1 L1 : Nat) (Φ : Option Value → ZS → ZM → Prop) (h0 : zBook S r0) (h1 : zRow S r1 L1) (h : zW E m_Book_mapOf 2 S M 6 [some (.ref r0), some (.ref r1), some (.int 273), some (.int 0)] [] Φ) : zW E m_Book_mapOf 2 S M 0 [some (.ref r0), some (.ref r1), none, none] [] Φ := by
  refine z_sipush 273 d_Book_mapOf_0 (by decide) ?_
  refine z_istore_n (ls' := [some (.ref r0), some (.ref r1), some (.int 273), none]) d_Book_mapOf_3 (Nat.le_of_ble_eq_true rfl) rfl rfl ?_
  refine z_iconst 0 d_Book_mapOf_4 (by decide) ?_
  refine z_istore_n (ls' := [some (.ref r0), some (.ref r1), some (.int 273), some (.int 0)]) d_Book_mapOf_5 (Nat.le_of_ble_eq_true rfl) rfl rfl ?_
  exact z_forget [some (.ref r0), some (.ref r1), some (.int 273), some (.int 0)] (And.intro rfl (And.intro rfl (And.intro rfl (And.intro rfl (trivial))))) h

set_option maxRecDepth 20000 in
theorem vc_Book_mapOf_6 (E : ZE) (S : ZS) (M : ZM) (r0 : Nat) (r1 L1 : Nat) (x2 : Int32) (x3 : Int32) (Φ : Option Value → ZS → ZM → Prop) (h0 : zBook S r0) (h1 : zRow S r1 L1) (h : zW E m_Row_size 0 S M 0 [some (.ref r1)] [] (fun q1 T1 M1 => ∃ y1 : Int32, q1 = some (.int y1) ∧ S = T1 ∧ (y1 ≤ x3 → Φ (some (.int x2)) S M1) ∧ (¬ y1 ≤ x3 → zW E m_Row_at 0 S M1 0 [some (.ref r1), some (.int x3)] [] (fun q3 T3 M3 => ∃ y3 : Int32, q3 = some (.int y3) ∧ S = T3 ∧ zW E m_Machine_mapBehind 1 S M3 0 [some (.ref (r0 + 5)), some (.int x2), some (.int y3), none, none, none] [] (fun q4 T4 M4 => ∃ y4 : Int32, q4 = some (.int y4) ∧ S = T4 ∧ ∀ y5 : Int32, y5 = x3 + 1 → zW E m_Book_mapOf 2 S M4 6 [some (.ref r0), some (.ref r1), some (.int y4), some (.int y5)] [] Φ))))) : zW E m_Book_mapOf 2 S M 6 [some (.ref r0), some (.ref r1), some (.int x2), some (.int x3)] [] Φ := by
  refine z_iload_n d_Book_mapOf_6 rfl ?_
  refine z_aload_n d_Book_mapOf_7 rfl ?_
  refine z_callV (as := []) (st := [.int x3]) i_Row_size ⟨rfl, rfl⟩ v_Row_size w_Row_size l_Book_70 d_Book_mapOf_8 (by decide) h1.1 rfl (Nat.le_of_ble_eq_true rfl) (Nat.le_of_ble_eq_true rfl) h (fun q1 T1 M1 h => ?_)
  obtain ⟨y1, rfl, rfl, h⟩ := h
  refine z_icmp_ge 34 d_Book_mapOf_11 rfl ⟨fun c2 => ?_, fun c2 => ?_⟩
  · replace h := h.1 c2
    refine z_iload_n d_Book_mapOf_34 rfl ?_
    exact z_iret rfl d_Book_mapOf_35 h
  · replace h := h.2 c2
    refine z_aload_n d_Book_mapOf_14 rfl ?_
    refine z_getr f_Book_26 rfl d_Book_mapOf_15 h0.1 h0.2.2.2.1.1 ?_
    refine z_iload_n d_Book_mapOf_18 rfl ?_
    refine z_aload_n d_Book_mapOf_19 rfl ?_
    refine z_iload_n d_Book_mapOf_20 rfl ?_
    refine z_callV (as := [.int x3]) (st := [.int x2, .ref (r0 + 5)]) i_Row_at ⟨rfl, rfl⟩ v_Row_at w_Row_at l_Book_74 d_Book_mapOf_21 (by decide) h1.1 rfl (Nat.le_of_ble_eq_true rfl) (Nat.le_of_ble_eq_true rfl) h (fun q3 T3 M3 h => ?_)
    obtain ⟨y3, rfl, rfl, h⟩ := h
    refine z_callV (as := [.int x2, .int y3]) (st := []) i_Machine_mapBehind ⟨rfl, rfl⟩ v_Machine_mapBehind w_Machine_mapBehind l_Book_78 d_Book_mapOf_24 (by decide) h0.2.2.2.1.2.1 rfl (Nat.le_of_ble_eq_true rfl) (Nat.le_of_ble_eq_true rfl) h (fun q4 T4 M4 h => ?_)
    obtain ⟨y4, rfl, rfl, h⟩ := h
    refine z_istore_n (ls' := [some (.ref r0), some (.ref r1), some (.int y4), some (.int x3)]) d_Book_mapOf_27 (Nat.le_of_ble_eq_true rfl) rfl rfl ?_
    obtain ⟨y5, ey5⟩ : ∃ q : Int32, q = x3 + 1 := ⟨_, rfl⟩
    replace h := h y5 ey5
    refine z_iinc (ls' := [some (.ref r0), some (.ref r1), some (.int y4), some (.int y5)]) y5 d_Book_mapOf_28 rfl (ey5 ▸ rfl) (Nat.le_of_ble_eq_true rfl) rfl rfl ?_
    refine z_goto 6 d_Book_mapOf_31 rfl ?_
    exact z_forget [some (.ref r0), some (.ref r1), some (.int y4), some (.int y5)] (And.intro rfl (And.intro rfl (And.intro rfl (And.intro rfl (trivial))))) h

set_option maxRecDepth 20000 in
theorem vc_Node_start_0 (E : ZE) (S : ZS) (M : ZM) (r0 : Nat) (x1 : Int32) (r2 L2 : Nat) (r3 L3 : Nat) (Φ : Option Value → ZS → ZM → Prop) (h0 : zNode S r0) (h2 : zRow S r2 L2) (h3 : zRow S r3 L3) (h : zW E m_Row_copy 0 S M 0 [some (.ref (r0 + 1)), some (.ref r2), none] [] (fun q1 T1 M1 => q1 = none ∧ S = T1 ∧ zW E m_Row_copy 0 S M1 0 [some (.ref (r0 + 3)), some (.ref r3), none] [] (fun q2 T2 M2 => q2 = none ∧ S = T2 ∧ zW E m_Row_makeEmpty 0 S M2 0 [some (.ref (r0 + 5))] [] (fun q3 T3 M3 => q3 = none ∧ S = T3 ∧ zW E m_Row_makeEmpty 0 S M3 0 [some (.ref (r0 + 7))] [] (fun q4 T4 M4 => q4 = none ∧ S = T4 ∧ ∀ M5 : ZM, M5 = zms M4 r0 5 x1 → ∀ M6 : ZM, M6 = zms M5 r0 6 0 → ∀ M7 : ZM, M7 = zms M6 r0 7 (-6) → ∀ M8 : ZM, M8 = zms M7 r0 8 (-6) → ∀ M9 : ZM, M9 = zms M8 r0 10 0 → Φ none S M9))))) : zW E m_Node_start 1 S M 0 [some (.ref r0), some (.int x1), some (.ref r2), some (.ref r3)] [] Φ := by
  refine z_aload_n d_Node_start_0 rfl ?_
  refine z_getr f_Node_14 rfl d_Node_start_1 h0.1 h0.2.1.1 ?_
  refine z_aload_n d_Node_start_4 rfl ?_
  refine z_callV (as := [.ref r2]) (st := []) i_Row_copy ⟨rfl, rfl⟩ v_Row_copy w_Row_copy l_Node_33 d_Node_start_5 (by decide) h0.2.1.2.1 rfl (Nat.le_of_ble_eq_true rfl) (Nat.le_of_ble_eq_true rfl) h (fun q1 T1 M1 h => ?_)
  obtain ⟨rfl, rfl, h⟩ := h
  refine z_aload_n d_Node_start_8 rfl ?_
  refine z_getr f_Node_20 rfl d_Node_start_9 h0.1 h0.2.2.1.1 ?_
  refine z_aload_n d_Node_start_12 rfl ?_
  refine z_callV (as := [.ref r3]) (st := []) i_Row_copy ⟨rfl, rfl⟩ v_Row_copy w_Row_copy l_Node_33 d_Node_start_13 (by decide) h0.2.2.1.2.1 rfl (Nat.le_of_ble_eq_true rfl) (Nat.le_of_ble_eq_true rfl) h (fun q2 T2 M2 h => ?_)
  obtain ⟨rfl, rfl, h⟩ := h
  refine z_aload_n d_Node_start_16 rfl ?_
  refine z_getr f_Node_23 rfl d_Node_start_17 h0.1 h0.2.2.2.1.1 ?_
  refine z_callV (as := []) (st := []) i_Row_makeEmpty ⟨rfl, rfl⟩ v_Row_makeEmpty w_Row_makeEmpty l_Node_37 d_Node_start_20 (by decide) h0.2.2.2.1.2.1 rfl (Nat.le_of_ble_eq_true rfl) (Nat.le_of_ble_eq_true rfl) h (fun q3 T3 M3 h => ?_)
  obtain ⟨rfl, rfl, h⟩ := h
  refine z_aload_n d_Node_start_23 rfl ?_
  refine z_getr f_Node_26 rfl d_Node_start_24 h0.1 h0.2.2.2.2.1 ?_
  refine z_callV (as := []) (st := []) i_Row_makeEmpty ⟨rfl, rfl⟩ v_Row_makeEmpty w_Row_makeEmpty l_Node_37 d_Node_start_27 (by decide) h0.2.2.2.2.2.1 rfl (Nat.le_of_ble_eq_true rfl) (Nat.le_of_ble_eq_true rfl) h (fun q4 T4 M4 h => ?_)
  obtain ⟨rfl, rfl, h⟩ := h
  refine z_aload_n d_Node_start_30 rfl ?_
  refine z_iload_n d_Node_start_31 rfl ?_
  refine z_puti (p_Node_40 rfl) rfl d_Node_start_32 h0.1 rfl rfl ?_
  refine z_mem (fun M5 eM5 => ?_)
  replace h := h M5 eM5
  refine z_aload_n d_Node_start_35 rfl ?_
  refine z_iconst 0 d_Node_start_36 (by decide) ?_
  refine z_puti (p_Node_43 rfl) rfl d_Node_start_37 h0.1 rfl rfl ?_
  refine z_mem (fun M6 eM6 => ?_)
  replace h := h M6 eM6
  refine z_aload_n d_Node_start_40 rfl ?_
  refine z_bipush (-6) d_Node_start_41 (by decide) ?_
  refine z_puti (p_Node_46 rfl) rfl d_Node_start_43 h0.1 rfl rfl ?_
  refine z_mem (fun M7 eM7 => ?_)
  replace h := h M7 eM7
  refine z_aload_n d_Node_start_46 rfl ?_
  refine z_bipush (-6) d_Node_start_47 (by decide) ?_
  refine z_puti (p_Node_49 rfl) rfl d_Node_start_49 h0.1 rfl rfl ?_
  refine z_mem (fun M8 eM8 => ?_)
  replace h := h M8 eM8
  refine z_aload_n d_Node_start_52 rfl ?_
  refine z_iconst 0 d_Node_start_53 (by decide) ?_
  refine z_puti (p_Node_52 rfl) rfl d_Node_start_54 h0.1 rfl rfl ?_
  refine z_mem (fun M9 eM9 => ?_)
  replace h := h M9 eM9
  exact z_vret rfl d_Node_start_57 h

set_option maxRecDepth 20000 in
theorem vc_Node_addMove_0 (E : ZE) (S : ZS) (M : ZM) (r0 : Nat) (r1 : Nat) (x2 : Int32) (Φ : Option Value → ZS → ZM → Prop) (h0 : zNode S r0) (h1 : zNode S r1) (h : (¬ (M r1 7) = (-6) → zW E m_Row_push 0 S M 0 [some (.ref (r0 + 5)), some (.int (M r1 0))] [] (fun q2 T2 M2 => ∃ y2 : Int32, q2 = some (.int y2) ∧ S = T2 ∧ zW E m_Row_push 0 S M2 0 [some (.ref (r0 + 7)), some (.int x2)] [] (fun q3 T3 M3 => ∃ y3 : Int32, q3 = some (.int y3) ∧ S = T3 ∧ Φ none S M3))) ∧ ((M r1 7) = (-6) → ((M r1 0) = 0 → zW E m_Row_push 0 S M 0 [some (.ref (r0 + 5)), some (.int (M r1 0))] [] (fun q5 T5 M5 => ∃ y5 : Int32, q5 = some (.int y5) ∧ S = T5 ∧ zW E m_Row_push 0 S M5 0 [some (.ref (r0 + 7)), some (.int x2)] [] (fun q6 T6 M6 => ∃ y6 : Int32, q6 = some (.int y6) ∧ S = T6 ∧ Φ none S M6))) ∧ (¬ (M r1 0) = 0 → ∀ M7 : ZM, M7 = zms M r1 7 (M r0 0) → ∀ M8 : ZM, M8 = zms M7 r1 8 x2 → ∀ M9 : ZM, M9 = zms M8 r1 6 ((M8 r0 6) + 1) → zW E m_Row_push 0 S M9 0 [some (.ref (r0 + 5)), some (.int (M9 r1 0))] [] (fun q10 T10 M10 => ∃ y10 : Int32, q10 = some (.int y10) ∧ S = T10 ∧ zW E m_Row_push 0 S M10 0 [some (.ref (r0 + 7)), some (.int x2)] [] (fun q11 T11 M11 => ∃ y11 : Int32, q11 = some (.int y11) ∧ S = T11 ∧ Φ none S M11))))) : zW E m_Node_addMove 1 S M 0 [some (.ref r0), some (.ref r1), some (.int x2)] [] Φ := by
  refine z_aload_n d_Node_addMove_0 rfl ?_
  refine z_geti f_Node_46 rfl d_Node_addMove_1 h1.1 ?_
  refine z_bipush (-6) d_Node_addMove_4 (by decide) ?_
  refine z_icmp_ne 39 d_Node_addMove_6 rfl ⟨fun c1 => ?_, fun c1 => ?_⟩
  · replace h := h.1 c1
    refine z_aload_n d_Node_addMove_39 rfl ?_
    refine z_getr f_Node_23 rfl d_Node_addMove_40 h0.1 h0.2.2.2.1.1 ?_
    refine z_aload_n d_Node_addMove_43 rfl ?_
    refine z_geti f_Node_29 rfl d_Node_addMove_44 h1.1 ?_
    refine z_callV (as := [.int (M r1 0)]) (st := []) i_Row_push ⟨rfl, rfl⟩ v_Row_push w_Row_push l_Node_56 d_Node_addMove_47 (by decide) h0.2.2.2.1.2.1 rfl (Nat.le_of_ble_eq_true rfl) (Nat.le_of_ble_eq_true rfl) h (fun q2 T2 M2 h => ?_)
    obtain ⟨y2, rfl, rfl, h⟩ := h
    refine z_pop d_Node_addMove_50 rfl ?_
    refine z_aload_n d_Node_addMove_51 rfl ?_
    refine z_getr f_Node_26 rfl d_Node_addMove_52 h0.1 h0.2.2.2.2.1 ?_
    refine z_iload_n d_Node_addMove_55 rfl ?_
    refine z_callV (as := [.int x2]) (st := []) i_Row_push ⟨rfl, rfl⟩ v_Row_push w_Row_push l_Node_56 d_Node_addMove_56 (by decide) h0.2.2.2.2.2.1 rfl (Nat.le_of_ble_eq_true rfl) (Nat.le_of_ble_eq_true rfl) h (fun q3 T3 M3 h => ?_)
    obtain ⟨y3, rfl, rfl, h⟩ := h
    refine z_pop d_Node_addMove_59 rfl ?_
    exact z_vret rfl d_Node_addMove_60 h
  · replace h := h.2 c1
    refine z_aload_n d_Node_addMove_9 rfl ?_
    refine z_geti f_Node_29 rfl d_Node_addMove_10 h1.1 ?_
    refine z_if_eq 39 d_Node_addMove_13 rfl ⟨fun c4 => ?_, fun c4 => ?_⟩
    · replace h := h.1 c4
      refine z_aload_n d_Node_addMove_39 rfl ?_
      refine z_getr f_Node_23 rfl d_Node_addMove_40 h0.1 h0.2.2.2.1.1 ?_
      refine z_aload_n d_Node_addMove_43 rfl ?_
      refine z_geti f_Node_29 rfl d_Node_addMove_44 h1.1 ?_
      refine z_callV (as := [.int (M r1 0)]) (st := []) i_Row_push ⟨rfl, rfl⟩ v_Row_push w_Row_push l_Node_56 d_Node_addMove_47 (by decide) h0.2.2.2.1.2.1 rfl (Nat.le_of_ble_eq_true rfl) (Nat.le_of_ble_eq_true rfl) h (fun q5 T5 M5 h => ?_)
      obtain ⟨y5, rfl, rfl, h⟩ := h
      refine z_pop d_Node_addMove_50 rfl ?_
      refine z_aload_n d_Node_addMove_51 rfl ?_
      refine z_getr f_Node_26 rfl d_Node_addMove_52 h0.1 h0.2.2.2.2.1 ?_
      refine z_iload_n d_Node_addMove_55 rfl ?_
      refine z_callV (as := [.int x2]) (st := []) i_Row_push ⟨rfl, rfl⟩ v_Row_push w_Row_push l_Node_56 d_Node_addMove_56 (by decide) h0.2.2.2.2.2.1 rfl (Nat.le_of_ble_eq_true rfl) (Nat.le_of_ble_eq_true rfl) h (fun q6 T6 M6 h => ?_)
      obtain ⟨y6, rfl, rfl, h⟩ := h
      refine z_pop d_Node_addMove_59 rfl ?_
      exact z_vret rfl d_Node_addMove_60 h
    · replace h := h.2 c4
      refine z_aload_n d_Node_addMove_16 rfl ?_
      refine z_aload_n d_Node_addMove_17 rfl ?_
      refine z_geti f_Node_29 rfl d_Node_addMove_18 h0.1 ?_
      refine z_puti (p_Node_46 rfl) rfl d_Node_addMove_21 h1.1 rfl rfl ?_
      refine z_mem (fun M7 eM7 => ?_)
      replace h := h M7 eM7
      refine z_aload_n d_Node_addMove_24 rfl ?_
      refine z_iload_n d_Node_addMove_25 rfl ?_
      refine z_puti (p_Node_49 rfl) rfl d_Node_addMove_26 h1.1 rfl rfl ?_
      refine z_mem (fun M8 eM8 => ?_)
      replace h := h M8 eM8
      refine z_aload_n d_Node_addMove_29 rfl ?_
      refine z_aload_n d_Node_addMove_30 rfl ?_
      refine z_geti f_Node_43 rfl d_Node_addMove_31 h0.1 ?_
      refine z_iconst 1 d_Node_addMove_34 (by decide) ?_
      refine z_iadd d_Node_addMove_35 ?_
      refine z_puti (p_Node_43 rfl) rfl d_Node_addMove_36 h1.1 rfl rfl ?_
      refine z_mem (fun M9 eM9 => ?_)
      replace h := h M9 eM9
      refine z_aload_n d_Node_addMove_39 rfl ?_
      refine z_getr f_Node_23 rfl d_Node_addMove_40 h0.1 h0.2.2.2.1.1 ?_
      refine z_aload_n d_Node_addMove_43 rfl ?_
      refine z_geti f_Node_29 rfl d_Node_addMove_44 h1.1 ?_
      refine z_callV (as := [.int (M9 r1 0)]) (st := []) i_Row_push ⟨rfl, rfl⟩ v_Row_push w_Row_push l_Node_56 d_Node_addMove_47 (by decide) h0.2.2.2.1.2.1 rfl (Nat.le_of_ble_eq_true rfl) (Nat.le_of_ble_eq_true rfl) h (fun q10 T10 M10 h => ?_)
      obtain ⟨y10, rfl, rfl, h⟩ := h
      refine z_pop d_Node_addMove_50 rfl ?_
      refine z_aload_n d_Node_addMove_51 rfl ?_
      refine z_getr f_Node_26 rfl d_Node_addMove_52 h0.1 h0.2.2.2.2.1 ?_
      refine z_iload_n d_Node_addMove_55 rfl ?_
      refine z_callV (as := [.int x2]) (st := []) i_Row_push ⟨rfl, rfl⟩ v_Row_push w_Row_push l_Node_56 d_Node_addMove_56 (by decide) h0.2.2.2.2.2.1 rfl (Nat.le_of_ble_eq_true rfl) (Nat.le_of_ble_eq_true rfl) h (fun q11 T11 M11 h => ?_)
      obtain ⟨y11, rfl, rfl, h⟩ := h
      refine z_pop d_Node_addMove_59 rfl ?_
      exact z_vret rfl d_Node_addMove_60 h

set_option maxRecDepth 20000 in
theorem vc_Arr_fill_0 (E : ZE) (S : ZS) (M : ZM) (r0 L0 : Nat) (x1 : Int32) (Φ : Option Value → ZS → ZM → Prop) (h0 : zArr S r0 L0) (h : ∀ y1 : Int32, y1 = (nI L0) → zW E m_Arr_fill 0 S M 5 [some (.ref r0), some (.int x1), some (.int 0), some (.int y1)] [] Φ) : zW E m_Arr_fill 0 S M 0 [some (.ref r0), some (.int x1), none, none] [] Φ := by
  refine z_iconst 0 d_Arr_fill_0 (by decide) ?_
  refine z_istore_n (ls' := [some (.ref r0), some (.int x1), some (.int 0), none]) d_Arr_fill_1 (Nat.le_of_ble_eq_true rfl) rfl rfl ?_
  refine z_aload_n d_Arr_fill_2 rfl ?_
  refine y_alen (nI L0) d_Arr_fill_3 h0 rfl ?_
  refine z_name (fun y1 ey1 => ?_)
  replace h := h y1 ey1
  refine z_istore_n (ls' := [some (.ref r0), some (.int x1), some (.int 0), some (.int y1)]) d_Arr_fill_4 (Nat.le_of_ble_eq_true rfl) rfl rfl ?_
  exact z_forget [some (.ref r0), some (.int x1), some (.int 0), some (.int y1)] (And.intro rfl (And.intro rfl (And.intro rfl (And.intro rfl (trivial))))) h

set_option maxRecDepth 20000 in
theorem vc_Arr_fill_5 (E : ZE) (S : ZS) (M : ZM) (r0 L0 : Nat) (x1 : Int32) (x2 : Int32) (x3 : Int32) (Φ : Option Value → ZS → ZM → Prop) (h0 : zArr S r0 L0) (h : (x3 ≤ x2 → Φ none S M) ∧ (¬ x3 ≤ x2 → ∃ j2 : Nat, j2 < L0 ∧ x2 = nI j2 ∧ (∀ M3 : ZM, M3 = zms M r0 j2 x1 → ∀ y4 : Int32, y4 = x2 + 1 → zW E m_Arr_fill 0 S M3 5 [some (.ref r0), some (.int x1), some (.int y4), some (.int x3)] [] Φ))) : zW E m_Arr_fill 0 S M 5 [some (.ref r0), some (.int x1), some (.int x2), some (.int x3)] [] Φ := by
  refine z_iload_n d_Arr_fill_5 rfl ?_
  refine z_iload_n d_Arr_fill_6 rfl ?_
  refine z_icmp_ge 20 d_Arr_fill_7 rfl ⟨fun c1 => ?_, fun c1 => ?_⟩
  · replace h := h.1 c1
    exact z_vret rfl d_Arr_fill_20 h
  · replace h := h.2 c1
    refine z_aload_n d_Arr_fill_10 rfl ?_
    refine z_iload_n d_Arr_fill_11 rfl ?_
    refine z_iload_n d_Arr_fill_12 rfl ?_
    obtain ⟨j2, hj2, ej2, h⟩ := h
    refine y_iastore j2 d_Arr_fill_13 h0 hj2 ej2 ?_
    refine z_mem (fun M3 eM3 => ?_)
    replace h := h M3 eM3
    obtain ⟨y4, ey4⟩ : ∃ q : Int32, q = x2 + 1 := ⟨_, rfl⟩
    replace h := h y4 ey4
    refine z_iinc (ls' := [some (.ref r0), some (.int x1), some (.int y4), some (.int x3)]) y4 d_Arr_fill_14 rfl (ey4 ▸ rfl) (Nat.le_of_ble_eq_true rfl) rfl rfl ?_
    refine z_goto 5 d_Arr_fill_17 rfl ?_
    exact z_forget [some (.ref r0), some (.int x1), some (.int y4), some (.int x3)] (And.intro rfl (And.intro rfl (And.intro rfl (And.intro rfl (trivial))))) h
