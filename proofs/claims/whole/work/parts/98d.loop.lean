/-! the law's loop -/
theorem lrm {k : Nat} {M : ZM} {a : AS} (h : zCI k M a) : (zSt k).1 ≤ 600000 ∧ zsl (zSt k) ≤ 7302250 := by
  have hk : k ≤ 150 := h.2.2.2.2.1.1
  have := zsl_k k hk
  refine ⟨?_, by omega⟩
  show 116 + 9 * k ≤ 600000
  omega
section LOOP
variable {p : Program} {e : Env} {s : State} {m : MethodId} {below : List Frame} {meth : Method} {c : Code} {b L : Nat} {xs : Nat → Int32} {E : ZE} {H : Heap} {locs : List Loc} {ls : Array Slot} {Q : State → Prop} {M : ZM} {k i : Nat} {a : AS}
theorem lbA (F : lF E p s m meth c b L xs) : ¬ (fun q : Nat => E.2.2.2 ≤ q) b := by
  have := F.1.2.2.2.2.2.2.2.1
  have e := F.2.2
  show ¬ E.2.2.2 ≤ b
  omega
theorem lin {j : Nat} (hL : L ≤ 2048) (h : i + j < L) : vp_in (nI i + nI j) L := by
  rw [nI_add]
  exact vp_in_nI h (by omega)

theorem lc_say (F : lF E p s m meth c b L xs) (hL : L ≤ 2048) (hi : i + 4 ≤ L) (hC : zCI k M a) (hR : zRI M a) (hH : zH E (zSt k) M s.heap H locs) (hl : lv_has ls 4 [(0, .ref b), (1, .ref (E.2.2.2 + 0)), (2, .ref (E.2.2.2 + 83)), (3, .int (nI i))]) (go : ∀ k' M' a' H' locs', zCI k' M' a' → zRI M' a' → zH E (zSt k') M' s.heap H' locs' → W p E.1 e room_1 s m #[Value.ref b] below meth c H' locs' (zSt k').1 (zsl (zSt k')) Q (F0 m 742 ls [])) : W p E.1 e room_1 s m #[Value.ref b] below meth c H locs (zSt k).1 (zsl (zSt k)) Q (F0 m 136 ls []) := by
  obtain ⟨hx, hb, hr, hml, hown, hts, hX, hbl, hlocks, hgv⟩ := id F.1
  have hbA := lbA F
  obtain ⟨z1, e1⟩ : ∃ z, xs (nI i + 1 : Int32).toNatClampNeg = z := ⟨_, rfl⟩
  refine lv_aload_n hx hb d_Law_law_136 rfl (lv_at hl 1 rfl) ?_
  refine lv_aload_n hx hb d_Law_law_137 rfl (lv_at hl 0 rfl) ?_
  refine lv_iload_n hx hb d_Law_law_138 rfl (lv_at hl 3 rfl) ?_
  refine lv_iconst (v := 1) hx hb d_Law_law_139 (by decide) ?_
  refine lv_iadd hx hb d_Law_law_140 ?_
  refine va_sld hx hb hX hbl hbA hH.2.2 (lin (j := 1) hL (by omega)) d_Law_law_141 ?_
  rw [e1]
  refine lcallV F hH hl.1 (as := [.int z1]) (a := 0) (ci := 10) (rest := []) i_H_say ⟨rfl, rfl⟩ v_H_say w_H_say l_Law_13 d_Law_law_142 (by decide) (tA_0 k) (Nat.le_of_ble_eq_true rfl) (Nat.le_of_ble_eq_true rfl) (H_say_ok (Φ := (fun r S' M' => ∃ k', S' = zSt k' ∧ zCI k' M' (aSay a z1).2 ∧ zMo M M' ∧ r = some (.int (aSay a z1).1))) hC (fun k' M' g1 g2 _ => ⟨k', rfl, g1, g2, rfl⟩)) (fun r S1 M1 h => by obtain ⟨k', rfl, g1, _⟩ := h; exact lrm g1) (fun r S1 M1 h H1 locs1 hH1 => ?_)
  obtain ⟨k1, rfl, c1, c2, rfl⟩ := h
  have hR1 := zRI_mo hR c2
  refine lv_aload_n hx hb d_Law_law_145 rfl (lv_at hl 2 rfl) ?_
  refine lv_aload_n hx hb d_Law_law_146 rfl (lv_at hl 0 rfl) ?_
  refine lv_iload_n hx hb d_Law_law_147 rfl (lv_at hl 3 rfl) ?_
  refine lv_iconst (v := 1) hx hb d_Law_law_148 (by decide) ?_
  refine lv_iadd hx hb d_Law_law_149 ?_
  refine va_sld hx hb hX hbl hbA hH1.2.2 (lin (j := 1) hL (by omega)) d_Law_law_150 ?_
  rw [e1]
  refine lcallV F hH1 hl.1 (as := [.int z1]) (a := 83) (ci := 11) (rest := [.int (aSay a z1).1]) i_Mo_say ⟨rfl, rfl⟩ v_Mo_say w_Mo_say l_Law_17 d_Law_law_151 (by decide) (tA_83 k1) (Nat.le_of_ble_eq_true rfl) (Nat.le_of_ble_eq_true rfl) (Mo_say_ok (Φ := (fun r S' M' => S' = zSt k1 ∧ zRI M' (aSay a z1).2 ∧ zMh M1 M' ∧ r = some (.int (aSay a z1).1))) hR1 (fun M' g1 g2 => ⟨rfl, g1, g2, rfl⟩)) (fun r S1 M1 h => by obtain ⟨rfl, _⟩ := h; exact lrm c1) (fun r S1 M2 h H2 locs2 hH2 => ?_)
  obtain ⟨rfl, r1, r2, rfl⟩ := h
  exact lv_icmp_eq (tgt := 742) hx hb d_Law_law_154 (by decide) (fun _ => go k1 M2 _ H2 locs2 (zCI_mh c1 r2) r1 hH2) (fun q => absurd rfl q)
theorem lc_wipe (F : lF E p s m meth c b L xs) (hL : L ≤ 2048) (hi : i + 4 ≤ L) (hC : zCI k M a) (hR : zRI M a) (hH : zH E (zSt k) M s.heap H locs) (hl : lv_has ls 4 [(0, .ref b), (1, .ref (E.2.2.2 + 0)), (2, .ref (E.2.2.2 + 83)), (3, .int (nI i))]) (go : ∀ k' M' a' H' locs', zCI k' M' a' → zRI M' a' → zH E (zSt k') M' s.heap H' locs' → W p E.1 e room_1 s m #[Value.ref b] below meth c H' locs' (zSt k').1 (zsl (zSt k')) Q (F0 m 742 ls [])) : W p E.1 e room_1 s m #[Value.ref b] below meth c H locs (zSt k).1 (zsl (zSt k)) Q (F0 m 159 ls []) := by
  obtain ⟨hx, hb, hr, hml, hown, hts, hX, hbl, hlocks, hgv⟩ := id F.1
  have hbA := lbA F
  refine lv_aload_n hx hb d_Law_law_159 rfl (lv_at hl 1 rfl) ?_
  refine lcallV F hH hl.1 (as := []) (a := 0) (ci := 10) (rest := []) i_H_wipe ⟨rfl, rfl⟩ v_H_wipe w_H_wipe l_Law_18 d_Law_law_160 (by decide) (tA_0 k) (Nat.le_of_ble_eq_true rfl) (Nat.le_of_ble_eq_true rfl) (H_wipe_ok (Φ := (fun r S' M' => ∃ k', S' = zSt k' ∧ zCI k' M' (aWipe a).2 ∧ zMo M M' ∧ r = some (.int (aWipe a).1))) hC (fun k' M' g1 g2 _ => ⟨k', rfl, g1, g2, rfl⟩)) (fun r S1 M1 h => by obtain ⟨k', rfl, g1, _⟩ := h; exact lrm g1) (fun r S1 M1 h H1 locs1 hH1 => ?_)
  obtain ⟨k1, rfl, c1, c2, rfl⟩ := h
  have hR1 := zRI_mo hR c2
  refine lv_aload_n hx hb d_Law_law_163 rfl (lv_at hl 2 rfl) ?_
  refine lcallV F hH1 hl.1 (as := []) (a := 83) (ci := 11) (rest := [.int (aWipe a).1]) i_Mo_wipe ⟨rfl, rfl⟩ v_Mo_wipe w_Mo_wipe l_Law_22 d_Law_law_164 (by decide) (tA_83 k1) (Nat.le_of_ble_eq_true rfl) (Nat.le_of_ble_eq_true rfl) (Mo_wipe_ok (Φ := (fun r S' M' => S' = zSt k1 ∧ zRI M' (aWipe a).2 ∧ zMh M1 M' ∧ r = some (.int (aWipe a).1))) hR1 (fun M' g1 g2 => ⟨rfl, g1, g2, rfl⟩)) (fun r S1 M1 h => by obtain ⟨rfl, _⟩ := h; exact lrm c1) (fun r S1 M2 h H2 locs2 hH2 => ?_)
  obtain ⟨rfl, r1, r2, rfl⟩ := h
  exact lv_icmp_eq (tgt := 742) hx hb d_Law_law_167 (by decide) (fun _ => go k1 M2 _ H2 locs2 (zCI_mh c1 r2) r1 hH2) (fun q => absurd rfl q)
theorem lc_fault (F : lF E p s m meth c b L xs) (hL : L ≤ 2048) (hi : i + 4 ≤ L) (hC : zCI k M a) (hR : zRI M a) (hH : zH E (zSt k) M s.heap H locs) (hl : lv_has ls 4 [(0, .ref b), (1, .ref (E.2.2.2 + 0)), (2, .ref (E.2.2.2 + 83)), (3, .int (nI i))]) (go : ∀ k' M' a' H' locs', zCI k' M' a' → zRI M' a' → zH E (zSt k') M' s.heap H' locs' → W p E.1 e room_1 s m #[Value.ref b] below meth c H' locs' (zSt k').1 (zsl (zSt k')) Q (F0 m 742 ls [])) : W p E.1 e room_1 s m #[Value.ref b] below meth c H locs (zSt k).1 (zsl (zSt k)) Q (F0 m 172 ls []) := by
  obtain ⟨hx, hb, hr, hml, hown, hts, hX, hbl, hlocks, hgv⟩ := id F.1
  have hbA := lbA F
  refine lv_aload_n hx hb d_Law_law_172 rfl (lv_at hl 1 rfl) ?_
  refine lcallV F hH hl.1 (as := []) (a := 0) (ci := 10) (rest := []) i_H_fault ⟨rfl, rfl⟩ v_H_fault w_H_fault l_Law_23 d_Law_law_173 (by decide) (tA_0 k) (Nat.le_of_ble_eq_true rfl) (Nat.le_of_ble_eq_true rfl) (H_fault_ok (Φ := (fun r S' M' => ∃ k', S' = zSt k' ∧ zCI k' M' (aFault a).2 ∧ zMo M M' ∧ r = some (.int (aFault a).1))) hC (fun k' M' g1 g2 _ => ⟨k', rfl, g1, g2, rfl⟩)) (fun r S1 M1 h => by obtain ⟨k', rfl, g1, _⟩ := h; exact lrm g1) (fun r S1 M1 h H1 locs1 hH1 => ?_)
  obtain ⟨k1, rfl, c1, c2, rfl⟩ := h
  have hR1 := zRI_mo hR c2
  refine lv_aload_n hx hb d_Law_law_176 rfl (lv_at hl 2 rfl) ?_
  refine lcallV F hH1 hl.1 (as := []) (a := 83) (ci := 11) (rest := [.int (aFault a).1]) i_Mo_fault ⟨rfl, rfl⟩ v_Mo_fault w_Mo_fault l_Law_26 d_Law_law_177 (by decide) (tA_83 k1) (Nat.le_of_ble_eq_true rfl) (Nat.le_of_ble_eq_true rfl) (Mo_fault_ok (Φ := (fun r S' M' => S' = zSt k1 ∧ zRI M' (aFault a).2 ∧ zMh M1 M' ∧ r = some (.int (aFault a).1))) hR1 (fun M' g1 g2 => ⟨rfl, g1, g2, rfl⟩)) (fun r S1 M1 h => by obtain ⟨rfl, _⟩ := h; exact lrm c1) (fun r S1 M2 h H2 locs2 hH2 => ?_)
  obtain ⟨rfl, r1, r2, rfl⟩ := h
  exact lv_icmp_eq (tgt := 742) hx hb d_Law_law_180 (by decide) (fun _ => go k1 M2 _ H2 locs2 (zCI_mh c1 r2) r1 hH2) (fun q => absurd rfl q)
theorem lc_load (F : lF E p s m meth c b L xs) (hL : L ≤ 2048) (hi : i + 4 ≤ L) (hC : zCI k M a) (hR : zRI M a) (hH : zH E (zSt k) M s.heap H locs) (hl : lv_has ls 4 [(0, .ref b), (1, .ref (E.2.2.2 + 0)), (2, .ref (E.2.2.2 + 83)), (3, .int (nI i))]) (go : ∀ k' M' a' H' locs', zCI k' M' a' → zRI M' a' → zH E (zSt k') M' s.heap H' locs' → W p E.1 e room_1 s m #[Value.ref b] below meth c H' locs' (zSt k').1 (zsl (zSt k')) Q (F0 m 742 ls [])) : W p E.1 e room_1 s m #[Value.ref b] below meth c H locs (zSt k).1 (zsl (zSt k)) Q (F0 m 185 ls []) := by
  obtain ⟨hx, hb, hr, hml, hown, hts, hX, hbl, hlocks, hgv⟩ := id F.1
  have hbA := lbA F
  refine lv_aload_n hx hb d_Law_law_185 rfl (lv_at hl 1 rfl) ?_
  refine lcallV F hH hl.1 (as := []) (a := 0) (ci := 10) (rest := []) i_H_load ⟨rfl, rfl⟩ v_H_load w_H_load l_Law_27 d_Law_law_186 (by decide) (tA_0 k) (Nat.le_of_ble_eq_true rfl) (Nat.le_of_ble_eq_true rfl) (H_load_ok (Φ := (fun r S' M' => ∃ k', S' = zSt k' ∧ zCI k' M' (aLoad a).2 ∧ zMo M M' ∧ r = some (.int (aLoad a).1))) hC (fun k' M' g1 g2 _ => ⟨k', rfl, g1, g2, rfl⟩)) (fun r S1 M1 h => by obtain ⟨k', rfl, g1, _⟩ := h; exact lrm g1) (fun r S1 M1 h H1 locs1 hH1 => ?_)
  obtain ⟨k1, rfl, c1, c2, rfl⟩ := h
  have hR1 := zRI_mo hR c2
  refine lv_aload_n hx hb d_Law_law_189 rfl (lv_at hl 2 rfl) ?_
  refine lcallV F hH1 hl.1 (as := []) (a := 83) (ci := 11) (rest := [.int (aLoad a).1]) i_Mo_load ⟨rfl, rfl⟩ v_Mo_load w_Mo_load l_Law_30 d_Law_law_190 (by decide) (tA_83 k1) (Nat.le_of_ble_eq_true rfl) (Nat.le_of_ble_eq_true rfl) (Mo_load_ok (Φ := (fun r S' M' => S' = zSt k1 ∧ zRI M' (aLoad a).2 ∧ zMh M1 M' ∧ r = some (.int (aLoad a).1))) hR1 c1.1 (fun M' g1 g2 => ⟨rfl, g1, g2, rfl⟩)) (fun r S1 M1 h => by obtain ⟨rfl, _⟩ := h; exact lrm c1) (fun r S1 M2 h H2 locs2 hH2 => ?_)
  obtain ⟨rfl, r1, r2, rfl⟩ := h
  exact lv_icmp_eq (tgt := 742) hx hb d_Law_law_193 (by decide) (fun _ => go k1 M2 _ H2 locs2 (zCI_mh c1 r2) r1 hH2) (fun q => absurd rfl q)
theorem lc_leads (F : lF E p s m meth c b L xs) (hL : L ≤ 2048) (hi : i + 4 ≤ L) (hC : zCI k M a) (hR : zRI M a) (hH : zH E (zSt k) M s.heap H locs) (hl : lv_has ls 4 [(0, .ref b), (1, .ref (E.2.2.2 + 0)), (2, .ref (E.2.2.2 + 83)), (3, .int (nI i))]) (go : ∀ k' M' a' H' locs', zCI k' M' a' → zRI M' a' → zH E (zSt k') M' s.heap H' locs' → W p E.1 e room_1 s m #[Value.ref b] below meth c H' locs' (zSt k').1 (zsl (zSt k')) Q (F0 m 742 ls [])) : W p E.1 e room_1 s m #[Value.ref b] below meth c H locs (zSt k).1 (zsl (zSt k)) Q (F0 m 198 ls []) := by
  obtain ⟨hx, hb, hr, hml, hown, hts, hX, hbl, hlocks, hgv⟩ := id F.1
  have hbA := lbA F
  obtain ⟨z1, e1⟩ : ∃ z, xs (nI i + 1 : Int32).toNatClampNeg = z := ⟨_, rfl⟩
  obtain ⟨z2, e2⟩ : ∃ z, xs (nI i + 2 : Int32).toNatClampNeg = z := ⟨_, rfl⟩
  obtain ⟨z3, e3⟩ : ∃ z, xs (nI i + 3 : Int32).toNatClampNeg = z := ⟨_, rfl⟩
  refine lv_aload_n hx hb d_Law_law_198 rfl (lv_at hl 1 rfl) ?_
  refine lv_aload_n hx hb d_Law_law_199 rfl (lv_at hl 0 rfl) ?_
  refine lv_iload_n hx hb d_Law_law_200 rfl (lv_at hl 3 rfl) ?_
  refine lv_iconst (v := 1) hx hb d_Law_law_201 (by decide) ?_
  refine lv_iadd hx hb d_Law_law_202 ?_
  refine va_sld hx hb hX hbl hbA hH.2.2 (lin (j := 1) hL (by omega)) d_Law_law_203 ?_
  rw [e1]
  refine lv_aload_n hx hb d_Law_law_204 rfl (lv_at hl 0 rfl) ?_
  refine lv_iload_n hx hb d_Law_law_205 rfl (lv_at hl 3 rfl) ?_
  refine lv_iconst (v := 2) hx hb d_Law_law_206 (by decide) ?_
  refine lv_iadd hx hb d_Law_law_207 ?_
  refine va_sld hx hb hX hbl hbA hH.2.2 (lin (j := 2) hL (by omega)) d_Law_law_208 ?_
  rw [e2]
  refine lv_aload_n hx hb d_Law_law_209 rfl (lv_at hl 0 rfl) ?_
  refine lv_iload_n hx hb d_Law_law_210 rfl (lv_at hl 3 rfl) ?_
  refine lv_iconst (v := 3) hx hb d_Law_law_211 (by decide) ?_
  refine lv_iadd hx hb d_Law_law_212 ?_
  refine va_sld hx hb hX hbl hbA hH.2.2 (lin (j := 3) hL (by omega)) d_Law_law_213 ?_
  rw [e3]
  refine lcallV F hH hl.1 (as := [.int z1, .int z2, .int z3]) (a := 0) (ci := 10) (rest := []) i_H_leads ⟨rfl, rfl⟩ v_H_leads w_H_leads l_Law_31 d_Law_law_214 (by decide) (tA_0 k) (Nat.le_of_ble_eq_true rfl) (Nat.le_of_ble_eq_true rfl) (H_leads_ok (Φ := (fun r S' M' => ∃ k', S' = zSt k' ∧ zCI k' M' (aLeads a z1 z2 z3).2 ∧ zMo M M' ∧ r = some (.int (aLeads a z1 z2 z3).1))) hC (fun k' M' g1 g2 _ => ⟨k', rfl, g1, g2, rfl⟩)) (fun r S1 M1 h => by obtain ⟨k', rfl, g1, _⟩ := h; exact lrm g1) (fun r S1 M1 h H1 locs1 hH1 => ?_)
  obtain ⟨k1, rfl, c1, c2, rfl⟩ := h
  have hR1 := zRI_mo hR c2
  refine lv_aload_n hx hb d_Law_law_217 rfl (lv_at hl 2 rfl) ?_
  refine lv_aload_n hx hb d_Law_law_218 rfl (lv_at hl 0 rfl) ?_
  refine lv_iload_n hx hb d_Law_law_219 rfl (lv_at hl 3 rfl) ?_
  refine lv_iconst (v := 1) hx hb d_Law_law_220 (by decide) ?_
  refine lv_iadd hx hb d_Law_law_221 ?_
  refine va_sld hx hb hX hbl hbA hH1.2.2 (lin (j := 1) hL (by omega)) d_Law_law_222 ?_
  rw [e1]
  refine lv_aload_n hx hb d_Law_law_223 rfl (lv_at hl 0 rfl) ?_
  refine lv_iload_n hx hb d_Law_law_224 rfl (lv_at hl 3 rfl) ?_
  refine lv_iconst (v := 2) hx hb d_Law_law_225 (by decide) ?_
  refine lv_iadd hx hb d_Law_law_226 ?_
  refine va_sld hx hb hX hbl hbA hH1.2.2 (lin (j := 2) hL (by omega)) d_Law_law_227 ?_
  rw [e2]
  refine lv_aload_n hx hb d_Law_law_228 rfl (lv_at hl 0 rfl) ?_
  refine lv_iload_n hx hb d_Law_law_229 rfl (lv_at hl 3 rfl) ?_
  refine lv_iconst (v := 3) hx hb d_Law_law_230 (by decide) ?_
  refine lv_iadd hx hb d_Law_law_231 ?_
  refine va_sld hx hb hX hbl hbA hH1.2.2 (lin (j := 3) hL (by omega)) d_Law_law_232 ?_
  rw [e3]
  refine lcallV F hH1 hl.1 (as := [.int z1, .int z2, .int z3]) (a := 83) (ci := 11) (rest := [.int (aLeads a z1 z2 z3).1]) i_Mo_leads ⟨rfl, rfl⟩ v_Mo_leads w_Mo_leads l_Law_35 d_Law_law_233 (by decide) (tA_83 k1) (Nat.le_of_ble_eq_true rfl) (Nat.le_of_ble_eq_true rfl) (Mo_leads_ok (Φ := (fun r S' M' => S' = zSt k1 ∧ zRI M' (aLeads a z1 z2 z3).2 ∧ zMh M1 M' ∧ r = some (.int (aLeads a z1 z2 z3).1))) hR1 c1.1 (fun M' g1 g2 => ⟨rfl, g1, g2, rfl⟩)) (fun r S1 M1 h => by obtain ⟨rfl, _⟩ := h; exact lrm c1) (fun r S1 M2 h H2 locs2 hH2 => ?_)
  obtain ⟨rfl, r1, r2, rfl⟩ := h
  exact lv_icmp_eq (tgt := 742) hx hb d_Law_law_236 (by decide) (fun _ => go k1 M2 _ H2 locs2 (zCI_mh c1 r2) r1 hH2) (fun q => absurd rfl q)
theorem lc_need (F : lF E p s m meth c b L xs) (hL : L ≤ 2048) (hi : i + 4 ≤ L) (hC : zCI k M a) (hR : zRI M a) (hH : zH E (zSt k) M s.heap H locs) (hl : lv_has ls 4 [(0, .ref b), (1, .ref (E.2.2.2 + 0)), (2, .ref (E.2.2.2 + 83)), (3, .int (nI i))]) (go : ∀ k' M' a' H' locs', zCI k' M' a' → zRI M' a' → zH E (zSt k') M' s.heap H' locs' → W p E.1 e room_1 s m #[Value.ref b] below meth c H' locs' (zSt k').1 (zsl (zSt k')) Q (F0 m 742 ls [])) : W p E.1 e room_1 s m #[Value.ref b] below meth c H locs (zSt k).1 (zsl (zSt k)) Q (F0 m 241 ls []) := by
  obtain ⟨hx, hb, hr, hml, hown, hts, hX, hbl, hlocks, hgv⟩ := id F.1
  have hbA := lbA F
  obtain ⟨z1, e1⟩ : ∃ z, xs (nI i + 1 : Int32).toNatClampNeg = z := ⟨_, rfl⟩
  obtain ⟨z2, e2⟩ : ∃ z, xs (nI i + 2 : Int32).toNatClampNeg = z := ⟨_, rfl⟩
  obtain ⟨z3, e3⟩ : ∃ z, xs (nI i + 3 : Int32).toNatClampNeg = z := ⟨_, rfl⟩
  refine lv_aload_n hx hb d_Law_law_241 rfl (lv_at hl 1 rfl) ?_
  refine lv_aload_n hx hb d_Law_law_242 rfl (lv_at hl 0 rfl) ?_
  refine lv_iload_n hx hb d_Law_law_243 rfl (lv_at hl 3 rfl) ?_
  refine lv_iconst (v := 1) hx hb d_Law_law_244 (by decide) ?_
  refine lv_iadd hx hb d_Law_law_245 ?_
  refine va_sld hx hb hX hbl hbA hH.2.2 (lin (j := 1) hL (by omega)) d_Law_law_246 ?_
  rw [e1]
  refine lv_aload_n hx hb d_Law_law_247 rfl (lv_at hl 0 rfl) ?_
  refine lv_iload_n hx hb d_Law_law_248 rfl (lv_at hl 3 rfl) ?_
  refine lv_iconst (v := 2) hx hb d_Law_law_249 (by decide) ?_
  refine lv_iadd hx hb d_Law_law_250 ?_
  refine va_sld hx hb hX hbl hbA hH.2.2 (lin (j := 2) hL (by omega)) d_Law_law_251 ?_
  rw [e2]
  refine lv_aload_n hx hb d_Law_law_252 rfl (lv_at hl 0 rfl) ?_
  refine lv_iload_n hx hb d_Law_law_253 rfl (lv_at hl 3 rfl) ?_
  refine lv_iconst (v := 3) hx hb d_Law_law_254 (by decide) ?_
  refine lv_iadd hx hb d_Law_law_255 ?_
  refine va_sld hx hb hX hbl hbA hH.2.2 (lin (j := 3) hL (by omega)) d_Law_law_256 ?_
  rw [e3]
  refine lcallV F hH hl.1 (as := [.int z1, .int z2, .int z3]) (a := 0) (ci := 10) (rest := []) i_H_need ⟨rfl, rfl⟩ v_H_need w_H_need l_Law_36 d_Law_law_257 (by decide) (tA_0 k) (Nat.le_of_ble_eq_true rfl) (Nat.le_of_ble_eq_true rfl) (H_need_ok (Φ := (fun r S' M' => ∃ k', S' = zSt k' ∧ zCI k' M' (aNeed a z1 z2 z3).2 ∧ zMo M M' ∧ r = some (.int (aNeed a z1 z2 z3).1))) hC (fun k' M' g1 g2 _ => ⟨k', rfl, g1, g2, rfl⟩)) (fun r S1 M1 h => by obtain ⟨k', rfl, g1, _⟩ := h; exact lrm g1) (fun r S1 M1 h H1 locs1 hH1 => ?_)
  obtain ⟨k1, rfl, c1, c2, rfl⟩ := h
  have hR1 := zRI_mo hR c2
  refine lv_aload_n hx hb d_Law_law_260 rfl (lv_at hl 2 rfl) ?_
  refine lv_aload_n hx hb d_Law_law_261 rfl (lv_at hl 0 rfl) ?_
  refine lv_iload_n hx hb d_Law_law_262 rfl (lv_at hl 3 rfl) ?_
  refine lv_iconst (v := 1) hx hb d_Law_law_263 (by decide) ?_
  refine lv_iadd hx hb d_Law_law_264 ?_
  refine va_sld hx hb hX hbl hbA hH1.2.2 (lin (j := 1) hL (by omega)) d_Law_law_265 ?_
  rw [e1]
  refine lv_aload_n hx hb d_Law_law_266 rfl (lv_at hl 0 rfl) ?_
  refine lv_iload_n hx hb d_Law_law_267 rfl (lv_at hl 3 rfl) ?_
  refine lv_iconst (v := 2) hx hb d_Law_law_268 (by decide) ?_
  refine lv_iadd hx hb d_Law_law_269 ?_
  refine va_sld hx hb hX hbl hbA hH1.2.2 (lin (j := 2) hL (by omega)) d_Law_law_270 ?_
  rw [e2]
  refine lv_aload_n hx hb d_Law_law_271 rfl (lv_at hl 0 rfl) ?_
  refine lv_iload_n hx hb d_Law_law_272 rfl (lv_at hl 3 rfl) ?_
  refine lv_iconst (v := 3) hx hb d_Law_law_273 (by decide) ?_
  refine lv_iadd hx hb d_Law_law_274 ?_
  refine va_sld hx hb hX hbl hbA hH1.2.2 (lin (j := 3) hL (by omega)) d_Law_law_275 ?_
  rw [e3]
  refine lcallV F hH1 hl.1 (as := [.int z1, .int z2, .int z3]) (a := 83) (ci := 11) (rest := [.int (aNeed a z1 z2 z3).1]) i_Mo_need ⟨rfl, rfl⟩ v_Mo_need w_Mo_need l_Law_39 d_Law_law_276 (by decide) (tA_83 k1) (Nat.le_of_ble_eq_true rfl) (Nat.le_of_ble_eq_true rfl) (Mo_need_ok (Φ := (fun r S' M' => S' = zSt k1 ∧ zRI M' (aNeed a z1 z2 z3).2 ∧ zMh M1 M' ∧ r = some (.int (aNeed a z1 z2 z3).1))) hR1 c1.1 (fun M' g1 g2 => ⟨rfl, g1, g2, rfl⟩)) (fun r S1 M1 h => by obtain ⟨rfl, _⟩ := h; exact lrm c1) (fun r S1 M2 h H2 locs2 hH2 => ?_)
  obtain ⟨rfl, r1, r2, rfl⟩ := h
  exact lv_icmp_eq (tgt := 742) hx hb d_Law_law_279 (by decide) (fun _ => go k1 M2 _ H2 locs2 (zCI_mh c1 r2) r1 hH2) (fun q => absurd rfl q)
theorem lc_brief (F : lF E p s m meth c b L xs) (hL : L ≤ 2048) (hi : i + 4 ≤ L) (hC : zCI k M a) (hR : zRI M a) (hH : zH E (zSt k) M s.heap H locs) (hl : lv_has ls 4 [(0, .ref b), (1, .ref (E.2.2.2 + 0)), (2, .ref (E.2.2.2 + 83)), (3, .int (nI i))]) (go : ∀ k' M' a' H' locs', zCI k' M' a' → zRI M' a' → zH E (zSt k') M' s.heap H' locs' → W p E.1 e room_1 s m #[Value.ref b] below meth c H' locs' (zSt k').1 (zsl (zSt k')) Q (F0 m 742 ls [])) : W p E.1 e room_1 s m #[Value.ref b] below meth c H locs (zSt k).1 (zsl (zSt k)) Q (F0 m 284 ls []) := by
  obtain ⟨hx, hb, hr, hml, hown, hts, hX, hbl, hlocks, hgv⟩ := id F.1
  have hbA := lbA F
  obtain ⟨z1, e1⟩ : ∃ z, xs (nI i + 1 : Int32).toNatClampNeg = z := ⟨_, rfl⟩
  obtain ⟨z2, e2⟩ : ∃ z, xs (nI i + 2 : Int32).toNatClampNeg = z := ⟨_, rfl⟩
  refine lv_aload_n hx hb d_Law_law_284 rfl (lv_at hl 1 rfl) ?_
  refine lv_aload_n hx hb d_Law_law_285 rfl (lv_at hl 0 rfl) ?_
  refine lv_iload_n hx hb d_Law_law_286 rfl (lv_at hl 3 rfl) ?_
  refine lv_iconst (v := 1) hx hb d_Law_law_287 (by decide) ?_
  refine lv_iadd hx hb d_Law_law_288 ?_
  refine va_sld hx hb hX hbl hbA hH.2.2 (lin (j := 1) hL (by omega)) d_Law_law_289 ?_
  rw [e1]
  refine lv_aload_n hx hb d_Law_law_290 rfl (lv_at hl 0 rfl) ?_
  refine lv_iload_n hx hb d_Law_law_291 rfl (lv_at hl 3 rfl) ?_
  refine lv_iconst (v := 2) hx hb d_Law_law_292 (by decide) ?_
  refine lv_iadd hx hb d_Law_law_293 ?_
  refine va_sld hx hb hX hbl hbA hH.2.2 (lin (j := 2) hL (by omega)) d_Law_law_294 ?_
  rw [e2]
  refine lcallV F hH hl.1 (as := [.int z1, .int z2]) (a := 0) (ci := 10) (rest := []) i_H_brief ⟨rfl, rfl⟩ v_H_brief w_H_brief l_Law_40 d_Law_law_295 (by decide) (tA_0 k) (Nat.le_of_ble_eq_true rfl) (Nat.le_of_ble_eq_true rfl) (H_brief_ok (Φ := (fun r S' M' => ∃ k', S' = zSt k' ∧ zCI k' M' a ∧ zMo M M' ∧ r = some (.int (aBrief a z1 z2)))) hC (fun k' M' g1 g2 _ => ⟨k', rfl, g1, g2, rfl⟩)) (fun r S1 M1 h => by obtain ⟨k', rfl, g1, _⟩ := h; exact lrm g1) (fun r S1 M1 h H1 locs1 hH1 => ?_)
  obtain ⟨k1, rfl, c1, c2, rfl⟩ := h
  have hR1 := zRI_mo hR c2
  refine lv_aload_n hx hb d_Law_law_298 rfl (lv_at hl 2 rfl) ?_
  refine lv_aload_n hx hb d_Law_law_299 rfl (lv_at hl 0 rfl) ?_
  refine lv_iload_n hx hb d_Law_law_300 rfl (lv_at hl 3 rfl) ?_
  refine lv_iconst (v := 1) hx hb d_Law_law_301 (by decide) ?_
  refine lv_iadd hx hb d_Law_law_302 ?_
  refine va_sld hx hb hX hbl hbA hH1.2.2 (lin (j := 1) hL (by omega)) d_Law_law_303 ?_
  rw [e1]
  refine lv_aload_n hx hb d_Law_law_304 rfl (lv_at hl 0 rfl) ?_
  refine lv_iload_n hx hb d_Law_law_305 rfl (lv_at hl 3 rfl) ?_
  refine lv_iconst (v := 2) hx hb d_Law_law_306 (by decide) ?_
  refine lv_iadd hx hb d_Law_law_307 ?_
  refine va_sld hx hb hX hbl hbA hH1.2.2 (lin (j := 2) hL (by omega)) d_Law_law_308 ?_
  rw [e2]
  refine lcallV F hH1 hl.1 (as := [.int z1, .int z2]) (a := 83) (ci := 11) (rest := [.int (aBrief a z1 z2)]) i_Mo_brief ⟨rfl, rfl⟩ v_Mo_brief w_Mo_brief l_Law_44 d_Law_law_309 (by decide) (tA_83 k1) (Nat.le_of_ble_eq_true rfl) (Nat.le_of_ble_eq_true rfl) (Mo_brief_ok (Φ := (fun r S' M' => S' = zSt k1 ∧ zRI M' a ∧ zMh M1 M' ∧ r = some (.int (aBrief a z1 z2)))) hR1 (fun M' g1 g2 => ⟨rfl, g1, g2, rfl⟩)) (fun r S1 M1 h => by obtain ⟨rfl, _⟩ := h; exact lrm c1) (fun r S1 M2 h H2 locs2 hH2 => ?_)
  obtain ⟨rfl, r1, r2, rfl⟩ := h
  exact lv_icmp_eq (tgt := 742) hx hb d_Law_law_312 (by decide) (fun _ => go k1 M2 _ H2 locs2 (zCI_mh c1 r2) r1 hH2) (fun q => absurd rfl q)
theorem lc_net (F : lF E p s m meth c b L xs) (hL : L ≤ 2048) (hi : i + 4 ≤ L) (hC : zCI k M a) (hR : zRI M a) (hH : zH E (zSt k) M s.heap H locs) (hl : lv_has ls 4 [(0, .ref b), (1, .ref (E.2.2.2 + 0)), (2, .ref (E.2.2.2 + 83)), (3, .int (nI i))]) (go : ∀ k' M' a' H' locs', zCI k' M' a' → zRI M' a' → zH E (zSt k') M' s.heap H' locs' → W p E.1 e room_1 s m #[Value.ref b] below meth c H' locs' (zSt k').1 (zsl (zSt k')) Q (F0 m 742 ls [])) : W p E.1 e room_1 s m #[Value.ref b] below meth c H locs (zSt k).1 (zsl (zSt k)) Q (F0 m 317 ls []) := by
  obtain ⟨hx, hb, hr, hml, hown, hts, hX, hbl, hlocks, hgv⟩ := id F.1
  have hbA := lbA F
  obtain ⟨z1, e1⟩ : ∃ z, xs (nI i + 1 : Int32).toNatClampNeg = z := ⟨_, rfl⟩
  refine lv_aload_n hx hb d_Law_law_317 rfl (lv_at hl 1 rfl) ?_
  refine lv_aload_n hx hb d_Law_law_318 rfl (lv_at hl 0 rfl) ?_
  refine lv_iload_n hx hb d_Law_law_319 rfl (lv_at hl 3 rfl) ?_
  refine lv_iconst (v := 1) hx hb d_Law_law_320 (by decide) ?_
  refine lv_iadd hx hb d_Law_law_321 ?_
  refine va_sld hx hb hX hbl hbA hH.2.2 (lin (j := 1) hL (by omega)) d_Law_law_322 ?_
  rw [e1]
  refine lcallV F hH hl.1 (as := [.int z1]) (a := 0) (ci := 10) (rest := []) i_H_net ⟨rfl, rfl⟩ v_H_net w_H_net l_Law_45 d_Law_law_323 (by decide) (tA_0 k) (Nat.le_of_ble_eq_true rfl) (Nat.le_of_ble_eq_true rfl) (H_net_ok (Φ := (fun r S' M' => ∃ k', S' = zSt k' ∧ zCI k' M' a ∧ zMo M M' ∧ r = some (.int (aNet a z1)))) hC (fun k' M' g1 g2 _ => ⟨k', rfl, g1, g2, rfl⟩)) (fun r S1 M1 h => by obtain ⟨k', rfl, g1, _⟩ := h; exact lrm g1) (fun r S1 M1 h H1 locs1 hH1 => ?_)
  obtain ⟨k1, rfl, c1, c2, rfl⟩ := h
  have hR1 := zRI_mo hR c2
  refine lv_aload_n hx hb d_Law_law_326 rfl (lv_at hl 2 rfl) ?_
  refine lv_aload_n hx hb d_Law_law_327 rfl (lv_at hl 0 rfl) ?_
  refine lv_iload_n hx hb d_Law_law_328 rfl (lv_at hl 3 rfl) ?_
  refine lv_iconst (v := 1) hx hb d_Law_law_329 (by decide) ?_
  refine lv_iadd hx hb d_Law_law_330 ?_
  refine va_sld hx hb hX hbl hbA hH1.2.2 (lin (j := 1) hL (by omega)) d_Law_law_331 ?_
  rw [e1]
  refine lcallV F hH1 hl.1 (as := [.int z1]) (a := 83) (ci := 11) (rest := [.int (aNet a z1)]) i_Mo_net ⟨rfl, rfl⟩ v_Mo_net w_Mo_net l_Law_48 d_Law_law_332 (by decide) (tA_83 k1) (Nat.le_of_ble_eq_true rfl) (Nat.le_of_ble_eq_true rfl) (Mo_net_ok (Φ := (fun r S' M' => S' = zSt k1 ∧ zRI M' a ∧ zMh M1 M' ∧ r = some (.int (aNet a z1)))) hR1 (fun M' g1 g2 => ⟨rfl, g1, g2, rfl⟩)) (fun r S1 M1 h => by obtain ⟨rfl, _⟩ := h; exact lrm c1) (fun r S1 M2 h H2 locs2 hH2 => ?_)
  obtain ⟨rfl, r1, r2, rfl⟩ := h
  exact lv_icmp_eq (tgt := 742) hx hb d_Law_law_335 (by decide) (fun _ => go k1 M2 _ H2 locs2 (zCI_mh c1 r2) r1 hH2) (fun q => absurd rfl q)
theorem lc_node (F : lF E p s m meth c b L xs) (hL : L ≤ 2048) (hi : i + 4 ≤ L) (hC : zCI k M a) (hR : zRI M a) (hH : zH E (zSt k) M s.heap H locs) (hl : lv_has ls 4 [(0, .ref b), (1, .ref (E.2.2.2 + 0)), (2, .ref (E.2.2.2 + 83)), (3, .int (nI i))]) (go : ∀ k' M' a' H' locs', zCI k' M' a' → zRI M' a' → zH E (zSt k') M' s.heap H' locs' → W p E.1 e room_1 s m #[Value.ref b] below meth c H' locs' (zSt k').1 (zsl (zSt k')) Q (F0 m 742 ls [])) : W p E.1 e room_1 s m #[Value.ref b] below meth c H locs (zSt k).1 (zsl (zSt k)) Q (F0 m 340 ls []) := by
  obtain ⟨hx, hb, hr, hml, hown, hts, hX, hbl, hlocks, hgv⟩ := id F.1
  have hbA := lbA F
  obtain ⟨z1, e1⟩ : ∃ z, xs (nI i + 1 : Int32).toNatClampNeg = z := ⟨_, rfl⟩
  obtain ⟨z2, e2⟩ : ∃ z, xs (nI i + 2 : Int32).toNatClampNeg = z := ⟨_, rfl⟩
  refine lv_aload_n hx hb d_Law_law_340 rfl (lv_at hl 1 rfl) ?_
  refine lv_aload_n hx hb d_Law_law_341 rfl (lv_at hl 0 rfl) ?_
  refine lv_iload_n hx hb d_Law_law_342 rfl (lv_at hl 3 rfl) ?_
  refine lv_iconst (v := 1) hx hb d_Law_law_343 (by decide) ?_
  refine lv_iadd hx hb d_Law_law_344 ?_
  refine va_sld hx hb hX hbl hbA hH.2.2 (lin (j := 1) hL (by omega)) d_Law_law_345 ?_
  rw [e1]
  refine lv_aload_n hx hb d_Law_law_346 rfl (lv_at hl 0 rfl) ?_
  refine lv_iload_n hx hb d_Law_law_347 rfl (lv_at hl 3 rfl) ?_
  refine lv_iconst (v := 2) hx hb d_Law_law_348 (by decide) ?_
  refine lv_iadd hx hb d_Law_law_349 ?_
  refine va_sld hx hb hX hbl hbA hH.2.2 (lin (j := 2) hL (by omega)) d_Law_law_350 ?_
  rw [e2]
  refine lcallV F hH hl.1 (as := [.int z1, .int z2]) (a := 0) (ci := 10) (rest := []) i_H_node ⟨rfl, rfl⟩ v_H_node w_H_node l_Law_49 d_Law_law_351 (by decide) (tA_0 k) (Nat.le_of_ble_eq_true rfl) (Nat.le_of_ble_eq_true rfl) (H_node_ok (Φ := (fun r S' M' => ∃ k', S' = zSt k' ∧ zCI k' M' a ∧ zMo M M' ∧ r = some (.int (aNode a z1 z2)))) hC (fun k' M' g1 g2 _ => ⟨k', rfl, g1, g2, rfl⟩)) (fun r S1 M1 h => by obtain ⟨k', rfl, g1, _⟩ := h; exact lrm g1) (fun r S1 M1 h H1 locs1 hH1 => ?_)
  obtain ⟨k1, rfl, c1, c2, rfl⟩ := h
  have hR1 := zRI_mo hR c2
  refine lv_aload_n hx hb d_Law_law_354 rfl (lv_at hl 2 rfl) ?_
  refine lv_aload_n hx hb d_Law_law_355 rfl (lv_at hl 0 rfl) ?_
  refine lv_iload_n hx hb d_Law_law_356 rfl (lv_at hl 3 rfl) ?_
  refine lv_iconst (v := 1) hx hb d_Law_law_357 (by decide) ?_
  refine lv_iadd hx hb d_Law_law_358 ?_
  refine va_sld hx hb hX hbl hbA hH1.2.2 (lin (j := 1) hL (by omega)) d_Law_law_359 ?_
  rw [e1]
  refine lv_aload_n hx hb d_Law_law_360 rfl (lv_at hl 0 rfl) ?_
  refine lv_iload_n hx hb d_Law_law_361 rfl (lv_at hl 3 rfl) ?_
  refine lv_iconst (v := 2) hx hb d_Law_law_362 (by decide) ?_
  refine lv_iadd hx hb d_Law_law_363 ?_
  refine va_sld hx hb hX hbl hbA hH1.2.2 (lin (j := 2) hL (by omega)) d_Law_law_364 ?_
  rw [e2]
  refine lcallV F hH1 hl.1 (as := [.int z1, .int z2]) (a := 83) (ci := 11) (rest := [.int (aNode a z1 z2)]) i_Mo_node ⟨rfl, rfl⟩ v_Mo_node w_Mo_node l_Law_52 d_Law_law_365 (by decide) (tA_83 k1) (Nat.le_of_ble_eq_true rfl) (Nat.le_of_ble_eq_true rfl) (Mo_node_ok (Φ := (fun r S' M' => S' = zSt k1 ∧ zRI M' a ∧ zMh M1 M' ∧ r = some (.int (aNode a z1 z2)))) hR1 (fun M' g1 g2 => ⟨rfl, g1, g2, rfl⟩)) (fun r S1 M1 h => by obtain ⟨rfl, _⟩ := h; exact lrm c1) (fun r S1 M2 h H2 locs2 hH2 => ?_)
  obtain ⟨rfl, r1, r2, rfl⟩ := h
  exact lv_icmp_eq (tgt := 742) hx hb d_Law_law_368 (by decide) (fun _ => go k1 M2 _ H2 locs2 (zCI_mh c1 r2) r1 hH2) (fun q => absurd rfl q)
theorem lc_symbol (F : lF E p s m meth c b L xs) (hL : L ≤ 2048) (hi : i + 4 ≤ L) (hC : zCI k M a) (hR : zRI M a) (hH : zH E (zSt k) M s.heap H locs) (hl : lv_has ls 4 [(0, .ref b), (1, .ref (E.2.2.2 + 0)), (2, .ref (E.2.2.2 + 83)), (3, .int (nI i))]) (go : ∀ k' M' a' H' locs', zCI k' M' a' → zRI M' a' → zH E (zSt k') M' s.heap H' locs' → W p E.1 e room_1 s m #[Value.ref b] below meth c H' locs' (zSt k').1 (zsl (zSt k')) Q (F0 m 742 ls [])) : W p E.1 e room_1 s m #[Value.ref b] below meth c H locs (zSt k).1 (zsl (zSt k)) Q (F0 m 373 ls []) := by
  obtain ⟨hx, hb, hr, hml, hown, hts, hX, hbl, hlocks, hgv⟩ := id F.1
  have hbA := lbA F
  obtain ⟨z1, e1⟩ : ∃ z, xs (nI i + 1 : Int32).toNatClampNeg = z := ⟨_, rfl⟩
  obtain ⟨z2, e2⟩ : ∃ z, xs (nI i + 2 : Int32).toNatClampNeg = z := ⟨_, rfl⟩
  obtain ⟨z3, e3⟩ : ∃ z, xs (nI i + 3 : Int32).toNatClampNeg = z := ⟨_, rfl⟩
  refine lv_aload_n hx hb d_Law_law_373 rfl (lv_at hl 1 rfl) ?_
  refine lv_aload_n hx hb d_Law_law_374 rfl (lv_at hl 0 rfl) ?_
  refine lv_iload_n hx hb d_Law_law_375 rfl (lv_at hl 3 rfl) ?_
  refine lv_iconst (v := 1) hx hb d_Law_law_376 (by decide) ?_
  refine lv_iadd hx hb d_Law_law_377 ?_
  refine va_sld hx hb hX hbl hbA hH.2.2 (lin (j := 1) hL (by omega)) d_Law_law_378 ?_
  rw [e1]
  refine lv_aload_n hx hb d_Law_law_379 rfl (lv_at hl 0 rfl) ?_
  refine lv_iload_n hx hb d_Law_law_380 rfl (lv_at hl 3 rfl) ?_
  refine lv_iconst (v := 2) hx hb d_Law_law_381 (by decide) ?_
  refine lv_iadd hx hb d_Law_law_382 ?_
  refine va_sld hx hb hX hbl hbA hH.2.2 (lin (j := 2) hL (by omega)) d_Law_law_383 ?_
  rw [e2]
  refine lv_aload_n hx hb d_Law_law_384 rfl (lv_at hl 0 rfl) ?_
  refine lv_iload_n hx hb d_Law_law_385 rfl (lv_at hl 3 rfl) ?_
  refine lv_iconst (v := 3) hx hb d_Law_law_386 (by decide) ?_
  refine lv_iadd hx hb d_Law_law_387 ?_
  refine va_sld hx hb hX hbl hbA hH.2.2 (lin (j := 3) hL (by omega)) d_Law_law_388 ?_
  rw [e3]
  refine lcallV F hH hl.1 (as := [.int z1, .int z2, .int z3]) (a := 0) (ci := 10) (rest := []) i_H_symbol ⟨rfl, rfl⟩ v_H_symbol w_H_symbol l_Law_53 d_Law_law_389 (by decide) (tA_0 k) (Nat.le_of_ble_eq_true rfl) (Nat.le_of_ble_eq_true rfl) (H_symbol_ok (Φ := (fun r S' M' => ∃ k', S' = zSt k' ∧ zCI k' M' a ∧ zMo M M' ∧ r = some (.int (aSymbol a z1 z2 z3)))) hC (fun k' M' g1 g2 _ => ⟨k', rfl, g1, g2, rfl⟩)) (fun r S1 M1 h => by obtain ⟨k', rfl, g1, _⟩ := h; exact lrm g1) (fun r S1 M1 h H1 locs1 hH1 => ?_)
  obtain ⟨k1, rfl, c1, c2, rfl⟩ := h
  have hR1 := zRI_mo hR c2
  refine lv_aload_n hx hb d_Law_law_392 rfl (lv_at hl 2 rfl) ?_
  refine lv_aload_n hx hb d_Law_law_393 rfl (lv_at hl 0 rfl) ?_
  refine lv_iload_n hx hb d_Law_law_394 rfl (lv_at hl 3 rfl) ?_
  refine lv_iconst (v := 1) hx hb d_Law_law_395 (by decide) ?_
  refine lv_iadd hx hb d_Law_law_396 ?_
  refine va_sld hx hb hX hbl hbA hH1.2.2 (lin (j := 1) hL (by omega)) d_Law_law_397 ?_
  rw [e1]
  refine lv_aload_n hx hb d_Law_law_398 rfl (lv_at hl 0 rfl) ?_
  refine lv_iload_n hx hb d_Law_law_399 rfl (lv_at hl 3 rfl) ?_
  refine lv_iconst (v := 2) hx hb d_Law_law_400 (by decide) ?_
  refine lv_iadd hx hb d_Law_law_401 ?_
  refine va_sld hx hb hX hbl hbA hH1.2.2 (lin (j := 2) hL (by omega)) d_Law_law_402 ?_
  rw [e2]
  refine lv_aload_n hx hb d_Law_law_403 rfl (lv_at hl 0 rfl) ?_
  refine lv_iload_n hx hb d_Law_law_404 rfl (lv_at hl 3 rfl) ?_
  refine lv_iconst (v := 3) hx hb d_Law_law_405 (by decide) ?_
  refine lv_iadd hx hb d_Law_law_406 ?_
  refine va_sld hx hb hX hbl hbA hH1.2.2 (lin (j := 3) hL (by omega)) d_Law_law_407 ?_
  rw [e3]
  refine lcallV F hH1 hl.1 (as := [.int z1, .int z2, .int z3]) (a := 83) (ci := 11) (rest := [.int (aSymbol a z1 z2 z3)]) i_Mo_symbol ⟨rfl, rfl⟩ v_Mo_symbol w_Mo_symbol l_Law_56 d_Law_law_408 (by decide) (tA_83 k1) (Nat.le_of_ble_eq_true rfl) (Nat.le_of_ble_eq_true rfl) (Mo_symbol_ok (Φ := (fun r S' M' => S' = zSt k1 ∧ zRI M' a ∧ zMh M1 M' ∧ r = some (.int (aSymbol a z1 z2 z3)))) hR1 (fun M' g1 g2 => ⟨rfl, g1, g2, rfl⟩)) (fun r S1 M1 h => by obtain ⟨rfl, _⟩ := h; exact lrm c1) (fun r S1 M2 h H2 locs2 hH2 => ?_)
  obtain ⟨rfl, r1, r2, rfl⟩ := h
  exact lv_icmp_eq (tgt := 742) hx hb d_Law_law_411 (by decide) (fun _ => go k1 M2 _ H2 locs2 (zCI_mh c1 r2) r1 hH2) (fun q => absurd rfl q)
theorem lc_needs (F : lF E p s m meth c b L xs) (hL : L ≤ 2048) (hi : i + 4 ≤ L) (hC : zCI k M a) (hR : zRI M a) (hH : zH E (zSt k) M s.heap H locs) (hl : lv_has ls 4 [(0, .ref b), (1, .ref (E.2.2.2 + 0)), (2, .ref (E.2.2.2 + 83)), (3, .int (nI i))]) (go : ∀ k' M' a' H' locs', zCI k' M' a' → zRI M' a' → zH E (zSt k') M' s.heap H' locs' → W p E.1 e room_1 s m #[Value.ref b] below meth c H' locs' (zSt k').1 (zsl (zSt k')) Q (F0 m 742 ls [])) : W p E.1 e room_1 s m #[Value.ref b] below meth c H locs (zSt k).1 (zsl (zSt k)) Q (F0 m 416 ls []) := by
  obtain ⟨hx, hb, hr, hml, hown, hts, hX, hbl, hlocks, hgv⟩ := id F.1
  have hbA := lbA F
  obtain ⟨z1, e1⟩ : ∃ z, xs (nI i + 1 : Int32).toNatClampNeg = z := ⟨_, rfl⟩
  obtain ⟨z2, e2⟩ : ∃ z, xs (nI i + 2 : Int32).toNatClampNeg = z := ⟨_, rfl⟩
  obtain ⟨z3, e3⟩ : ∃ z, xs (nI i + 3 : Int32).toNatClampNeg = z := ⟨_, rfl⟩
  refine lv_aload_n hx hb d_Law_law_416 rfl (lv_at hl 1 rfl) ?_
  refine lv_aload_n hx hb d_Law_law_417 rfl (lv_at hl 0 rfl) ?_
  refine lv_iload_n hx hb d_Law_law_418 rfl (lv_at hl 3 rfl) ?_
  refine lv_iconst (v := 1) hx hb d_Law_law_419 (by decide) ?_
  refine lv_iadd hx hb d_Law_law_420 ?_
  refine va_sld hx hb hX hbl hbA hH.2.2 (lin (j := 1) hL (by omega)) d_Law_law_421 ?_
  rw [e1]
  refine lv_aload_n hx hb d_Law_law_422 rfl (lv_at hl 0 rfl) ?_
  refine lv_iload_n hx hb d_Law_law_423 rfl (lv_at hl 3 rfl) ?_
  refine lv_iconst (v := 2) hx hb d_Law_law_424 (by decide) ?_
  refine lv_iadd hx hb d_Law_law_425 ?_
  refine va_sld hx hb hX hbl hbA hH.2.2 (lin (j := 2) hL (by omega)) d_Law_law_426 ?_
  rw [e2]
  refine lv_aload_n hx hb d_Law_law_427 rfl (lv_at hl 0 rfl) ?_
  refine lv_iload_n hx hb d_Law_law_428 rfl (lv_at hl 3 rfl) ?_
  refine lv_iconst (v := 3) hx hb d_Law_law_429 (by decide) ?_
  refine lv_iadd hx hb d_Law_law_430 ?_
  refine va_sld hx hb hX hbl hbA hH.2.2 (lin (j := 3) hL (by omega)) d_Law_law_431 ?_
  rw [e3]
  refine lcallV F hH hl.1 (as := [.int z1, .int z2, .int z3]) (a := 0) (ci := 10) (rest := []) i_H_needs ⟨rfl, rfl⟩ v_H_needs w_H_needs l_Law_57 d_Law_law_432 (by decide) (tA_0 k) (Nat.le_of_ble_eq_true rfl) (Nat.le_of_ble_eq_true rfl) (H_needs_ok (Φ := (fun r S' M' => ∃ k', S' = zSt k' ∧ zCI k' M' a ∧ zMo M M' ∧ r = some (.int (aNeeds a z1 z2 z3)))) hC (fun k' M' g1 g2 _ => ⟨k', rfl, g1, g2, rfl⟩)) (fun r S1 M1 h => by obtain ⟨k', rfl, g1, _⟩ := h; exact lrm g1) (fun r S1 M1 h H1 locs1 hH1 => ?_)
  obtain ⟨k1, rfl, c1, c2, rfl⟩ := h
  have hR1 := zRI_mo hR c2
  refine lv_aload_n hx hb d_Law_law_435 rfl (lv_at hl 2 rfl) ?_
  refine lv_aload_n hx hb d_Law_law_436 rfl (lv_at hl 0 rfl) ?_
  refine lv_iload_n hx hb d_Law_law_437 rfl (lv_at hl 3 rfl) ?_
  refine lv_iconst (v := 1) hx hb d_Law_law_438 (by decide) ?_
  refine lv_iadd hx hb d_Law_law_439 ?_
  refine va_sld hx hb hX hbl hbA hH1.2.2 (lin (j := 1) hL (by omega)) d_Law_law_440 ?_
  rw [e1]
  refine lv_aload_n hx hb d_Law_law_441 rfl (lv_at hl 0 rfl) ?_
  refine lv_iload_n hx hb d_Law_law_442 rfl (lv_at hl 3 rfl) ?_
  refine lv_iconst (v := 2) hx hb d_Law_law_443 (by decide) ?_
  refine lv_iadd hx hb d_Law_law_444 ?_
  refine va_sld hx hb hX hbl hbA hH1.2.2 (lin (j := 2) hL (by omega)) d_Law_law_445 ?_
  rw [e2]
  refine lv_aload_n hx hb d_Law_law_446 rfl (lv_at hl 0 rfl) ?_
  refine lv_iload_n hx hb d_Law_law_447 rfl (lv_at hl 3 rfl) ?_
  refine lv_iconst (v := 3) hx hb d_Law_law_448 (by decide) ?_
  refine lv_iadd hx hb d_Law_law_449 ?_
  refine va_sld hx hb hX hbl hbA hH1.2.2 (lin (j := 3) hL (by omega)) d_Law_law_450 ?_
  rw [e3]
  refine lcallV F hH1 hl.1 (as := [.int z1, .int z2, .int z3]) (a := 83) (ci := 11) (rest := [.int (aNeeds a z1 z2 z3)]) i_Mo_needs ⟨rfl, rfl⟩ v_Mo_needs w_Mo_needs l_Law_60 d_Law_law_451 (by decide) (tA_83 k1) (Nat.le_of_ble_eq_true rfl) (Nat.le_of_ble_eq_true rfl) (Mo_needs_ok (Φ := (fun r S' M' => S' = zSt k1 ∧ zRI M' a ∧ zMh M1 M' ∧ r = some (.int (aNeeds a z1 z2 z3)))) hR1 (fun M' g1 g2 => ⟨rfl, g1, g2, rfl⟩)) (fun r S1 M1 h => by obtain ⟨rfl, _⟩ := h; exact lrm c1) (fun r S1 M2 h H2 locs2 hH2 => ?_)
  obtain ⟨rfl, r1, r2, rfl⟩ := h
  exact lv_icmp_eq (tgt := 742) hx hb d_Law_law_454 (by decide) (fun _ => go k1 M2 _ H2 locs2 (zCI_mh c1 r2) r1 hH2) (fun q => absurd rfl q)
theorem lc_move (F : lF E p s m meth c b L xs) (hL : L ≤ 2048) (hi : i + 4 ≤ L) (hC : zCI k M a) (hR : zRI M a) (hH : zH E (zSt k) M s.heap H locs) (hl : lv_has ls 4 [(0, .ref b), (1, .ref (E.2.2.2 + 0)), (2, .ref (E.2.2.2 + 83)), (3, .int (nI i))]) (go : ∀ k' M' a' H' locs', zCI k' M' a' → zRI M' a' → zH E (zSt k') M' s.heap H' locs' → W p E.1 e room_1 s m #[Value.ref b] below meth c H' locs' (zSt k').1 (zsl (zSt k')) Q (F0 m 742 ls [])) : W p E.1 e room_1 s m #[Value.ref b] below meth c H locs (zSt k).1 (zsl (zSt k)) Q (F0 m 459 ls []) := by
  obtain ⟨hx, hb, hr, hml, hown, hts, hX, hbl, hlocks, hgv⟩ := id F.1
  have hbA := lbA F
  obtain ⟨z1, e1⟩ : ∃ z, xs (nI i + 1 : Int32).toNatClampNeg = z := ⟨_, rfl⟩
  obtain ⟨z2, e2⟩ : ∃ z, xs (nI i + 2 : Int32).toNatClampNeg = z := ⟨_, rfl⟩
  obtain ⟨z3, e3⟩ : ∃ z, xs (nI i + 3 : Int32).toNatClampNeg = z := ⟨_, rfl⟩
  refine lv_aload_n hx hb d_Law_law_459 rfl (lv_at hl 1 rfl) ?_
  refine lv_aload_n hx hb d_Law_law_460 rfl (lv_at hl 0 rfl) ?_
  refine lv_iload_n hx hb d_Law_law_461 rfl (lv_at hl 3 rfl) ?_
  refine lv_iconst (v := 1) hx hb d_Law_law_462 (by decide) ?_
  refine lv_iadd hx hb d_Law_law_463 ?_
  refine va_sld hx hb hX hbl hbA hH.2.2 (lin (j := 1) hL (by omega)) d_Law_law_464 ?_
  rw [e1]
  refine lv_aload_n hx hb d_Law_law_465 rfl (lv_at hl 0 rfl) ?_
  refine lv_iload_n hx hb d_Law_law_466 rfl (lv_at hl 3 rfl) ?_
  refine lv_iconst (v := 2) hx hb d_Law_law_467 (by decide) ?_
  refine lv_iadd hx hb d_Law_law_468 ?_
  refine va_sld hx hb hX hbl hbA hH.2.2 (lin (j := 2) hL (by omega)) d_Law_law_469 ?_
  rw [e2]
  refine lv_aload_n hx hb d_Law_law_470 rfl (lv_at hl 0 rfl) ?_
  refine lv_iload_n hx hb d_Law_law_471 rfl (lv_at hl 3 rfl) ?_
  refine lv_iconst (v := 3) hx hb d_Law_law_472 (by decide) ?_
  refine lv_iadd hx hb d_Law_law_473 ?_
  refine va_sld hx hb hX hbl hbA hH.2.2 (lin (j := 3) hL (by omega)) d_Law_law_474 ?_
  rw [e3]
  refine lcallV F hH hl.1 (as := [.int z1, .int z2, .int z3]) (a := 0) (ci := 10) (rest := []) i_H_move ⟨rfl, rfl⟩ v_H_move w_H_move l_Law_61 d_Law_law_475 (by decide) (tA_0 k) (Nat.le_of_ble_eq_true rfl) (Nat.le_of_ble_eq_true rfl) (H_move_ok (Φ := (fun r S' M' => ∃ k', S' = zSt k' ∧ zCI k' M' a ∧ zMo M M' ∧ r = some (.int (aMove a z1 z2 z3)))) hC (fun k' M' g1 g2 _ => ⟨k', rfl, g1, g2, rfl⟩)) (fun r S1 M1 h => by obtain ⟨k', rfl, g1, _⟩ := h; exact lrm g1) (fun r S1 M1 h H1 locs1 hH1 => ?_)
  obtain ⟨k1, rfl, c1, c2, rfl⟩ := h
  have hR1 := zRI_mo hR c2
  refine lv_aload_n hx hb d_Law_law_478 rfl (lv_at hl 2 rfl) ?_
  refine lv_aload_n hx hb d_Law_law_479 rfl (lv_at hl 0 rfl) ?_
  refine lv_iload_n hx hb d_Law_law_480 rfl (lv_at hl 3 rfl) ?_
  refine lv_iconst (v := 1) hx hb d_Law_law_481 (by decide) ?_
  refine lv_iadd hx hb d_Law_law_482 ?_
  refine va_sld hx hb hX hbl hbA hH1.2.2 (lin (j := 1) hL (by omega)) d_Law_law_483 ?_
  rw [e1]
  refine lv_aload_n hx hb d_Law_law_484 rfl (lv_at hl 0 rfl) ?_
  refine lv_iload_n hx hb d_Law_law_485 rfl (lv_at hl 3 rfl) ?_
  refine lv_iconst (v := 2) hx hb d_Law_law_486 (by decide) ?_
  refine lv_iadd hx hb d_Law_law_487 ?_
  refine va_sld hx hb hX hbl hbA hH1.2.2 (lin (j := 2) hL (by omega)) d_Law_law_488 ?_
  rw [e2]
  refine lv_aload_n hx hb d_Law_law_489 rfl (lv_at hl 0 rfl) ?_
  refine lv_iload_n hx hb d_Law_law_490 rfl (lv_at hl 3 rfl) ?_
  refine lv_iconst (v := 3) hx hb d_Law_law_491 (by decide) ?_
  refine lv_iadd hx hb d_Law_law_492 ?_
  refine va_sld hx hb hX hbl hbA hH1.2.2 (lin (j := 3) hL (by omega)) d_Law_law_493 ?_
  rw [e3]
  refine lcallV F hH1 hl.1 (as := [.int z1, .int z2, .int z3]) (a := 83) (ci := 11) (rest := [.int (aMove a z1 z2 z3)]) i_Mo_move ⟨rfl, rfl⟩ v_Mo_move w_Mo_move l_Law_64 d_Law_law_494 (by decide) (tA_83 k1) (Nat.le_of_ble_eq_true rfl) (Nat.le_of_ble_eq_true rfl) (Mo_move_ok (Φ := (fun r S' M' => S' = zSt k1 ∧ zRI M' a ∧ zMh M1 M' ∧ r = some (.int (aMove a z1 z2 z3)))) hR1 (fun M' g1 g2 => ⟨rfl, g1, g2, rfl⟩)) (fun r S1 M1 h => by obtain ⟨rfl, _⟩ := h; exact lrm c1) (fun r S1 M2 h H2 locs2 hH2 => ?_)
  obtain ⟨rfl, r1, r2, rfl⟩ := h
  exact lv_icmp_eq (tgt := 742) hx hb d_Law_law_497 (by decide) (fun _ => go k1 M2 _ H2 locs2 (zCI_mh c1 r2) r1 hH2) (fun q => absurd rfl q)
theorem lc_answer (F : lF E p s m meth c b L xs) (hL : L ≤ 2048) (hi : i + 4 ≤ L) (hC : zCI k M a) (hR : zRI M a) (hH : zH E (zSt k) M s.heap H locs) (hl : lv_has ls 4 [(0, .ref b), (1, .ref (E.2.2.2 + 0)), (2, .ref (E.2.2.2 + 83)), (3, .int (nI i))]) (go : ∀ k' M' a' H' locs', zCI k' M' a' → zRI M' a' → zH E (zSt k') M' s.heap H' locs' → W p E.1 e room_1 s m #[Value.ref b] below meth c H' locs' (zSt k').1 (zsl (zSt k')) Q (F0 m 742 ls [])) : W p E.1 e room_1 s m #[Value.ref b] below meth c H locs (zSt k).1 (zsl (zSt k)) Q (F0 m 502 ls []) := by
  obtain ⟨hx, hb, hr, hml, hown, hts, hX, hbl, hlocks, hgv⟩ := id F.1
  have hbA := lbA F
  obtain ⟨z1, e1⟩ : ∃ z, xs (nI i + 1 : Int32).toNatClampNeg = z := ⟨_, rfl⟩
  obtain ⟨z2, e2⟩ : ∃ z, xs (nI i + 2 : Int32).toNatClampNeg = z := ⟨_, rfl⟩
  refine lv_aload_n hx hb d_Law_law_502 rfl (lv_at hl 1 rfl) ?_
  refine lv_aload_n hx hb d_Law_law_503 rfl (lv_at hl 0 rfl) ?_
  refine lv_iload_n hx hb d_Law_law_504 rfl (lv_at hl 3 rfl) ?_
  refine lv_iconst (v := 1) hx hb d_Law_law_505 (by decide) ?_
  refine lv_iadd hx hb d_Law_law_506 ?_
  refine va_sld hx hb hX hbl hbA hH.2.2 (lin (j := 1) hL (by omega)) d_Law_law_507 ?_
  rw [e1]
  refine lv_aload_n hx hb d_Law_law_508 rfl (lv_at hl 0 rfl) ?_
  refine lv_iload_n hx hb d_Law_law_509 rfl (lv_at hl 3 rfl) ?_
  refine lv_iconst (v := 2) hx hb d_Law_law_510 (by decide) ?_
  refine lv_iadd hx hb d_Law_law_511 ?_
  refine va_sld hx hb hX hbl hbA hH.2.2 (lin (j := 2) hL (by omega)) d_Law_law_512 ?_
  rw [e2]
  refine lcallV F hH hl.1 (as := [.int z1, .int z2]) (a := 0) (ci := 10) (rest := []) i_H_answer ⟨rfl, rfl⟩ v_H_answer w_H_answer l_Law_65 d_Law_law_513 (by decide) (tA_0 k) (Nat.le_of_ble_eq_true rfl) (Nat.le_of_ble_eq_true rfl) (H_answer_ok (Φ := (fun r S' M' => ∃ k', S' = zSt k' ∧ zCI k' M' a ∧ zMo M M' ∧ r = some (.int (aAnswer a z1 z2)))) hC (fun k' M' g1 g2 _ => ⟨k', rfl, g1, g2, rfl⟩)) (fun r S1 M1 h => by obtain ⟨k', rfl, g1, _⟩ := h; exact lrm g1) (fun r S1 M1 h H1 locs1 hH1 => ?_)
  obtain ⟨k1, rfl, c1, c2, rfl⟩ := h
  have hR1 := zRI_mo hR c2
  refine lv_aload_n hx hb d_Law_law_516 rfl (lv_at hl 2 rfl) ?_
  refine lv_aload_n hx hb d_Law_law_517 rfl (lv_at hl 0 rfl) ?_
  refine lv_iload_n hx hb d_Law_law_518 rfl (lv_at hl 3 rfl) ?_
  refine lv_iconst (v := 1) hx hb d_Law_law_519 (by decide) ?_
  refine lv_iadd hx hb d_Law_law_520 ?_
  refine va_sld hx hb hX hbl hbA hH1.2.2 (lin (j := 1) hL (by omega)) d_Law_law_521 ?_
  rw [e1]
  refine lv_aload_n hx hb d_Law_law_522 rfl (lv_at hl 0 rfl) ?_
  refine lv_iload_n hx hb d_Law_law_523 rfl (lv_at hl 3 rfl) ?_
  refine lv_iconst (v := 2) hx hb d_Law_law_524 (by decide) ?_
  refine lv_iadd hx hb d_Law_law_525 ?_
  refine va_sld hx hb hX hbl hbA hH1.2.2 (lin (j := 2) hL (by omega)) d_Law_law_526 ?_
  rw [e2]
  refine lcallV F hH1 hl.1 (as := [.int z1, .int z2]) (a := 83) (ci := 11) (rest := [.int (aAnswer a z1 z2)]) i_Mo_answer ⟨rfl, rfl⟩ v_Mo_answer w_Mo_answer l_Law_68 d_Law_law_527 (by decide) (tA_83 k1) (Nat.le_of_ble_eq_true rfl) (Nat.le_of_ble_eq_true rfl) (Mo_answer_ok (Φ := (fun r S' M' => S' = zSt k1 ∧ zRI M' a ∧ zMh M1 M' ∧ r = some (.int (aAnswer a z1 z2)))) hR1 (fun M' g1 g2 => ⟨rfl, g1, g2, rfl⟩)) (fun r S1 M1 h => by obtain ⟨rfl, _⟩ := h; exact lrm c1) (fun r S1 M2 h H2 locs2 hH2 => ?_)
  obtain ⟨rfl, r1, r2, rfl⟩ := h
  exact lv_icmp_eq (tgt := 742) hx hb d_Law_law_530 (by decide) (fun _ => go k1 M2 _ H2 locs2 (zCI_mh c1 r2) r1 hH2) (fun q => absurd rfl q)
theorem lc_spell (F : lF E p s m meth c b L xs) (hL : L ≤ 2048) (hi : i + 4 ≤ L) (hC : zCI k M a) (hR : zRI M a) (hH : zH E (zSt k) M s.heap H locs) (hl : lv_has ls 4 [(0, .ref b), (1, .ref (E.2.2.2 + 0)), (2, .ref (E.2.2.2 + 83)), (3, .int (nI i))]) (go : ∀ k' M' a' H' locs', zCI k' M' a' → zRI M' a' → zH E (zSt k') M' s.heap H' locs' → W p E.1 e room_1 s m #[Value.ref b] below meth c H' locs' (zSt k').1 (zsl (zSt k')) Q (F0 m 742 ls [])) : W p E.1 e room_1 s m #[Value.ref b] below meth c H locs (zSt k).1 (zsl (zSt k)) Q (F0 m 535 ls []) := by
  obtain ⟨hx, hb, hr, hml, hown, hts, hX, hbl, hlocks, hgv⟩ := id F.1
  have hbA := lbA F
  obtain ⟨z1, e1⟩ : ∃ z, xs (nI i + 1 : Int32).toNatClampNeg = z := ⟨_, rfl⟩
  obtain ⟨z2, e2⟩ : ∃ z, xs (nI i + 2 : Int32).toNatClampNeg = z := ⟨_, rfl⟩
  refine lv_aload_n hx hb d_Law_law_535 rfl (lv_at hl 1 rfl) ?_
  refine lv_aload_n hx hb d_Law_law_536 rfl (lv_at hl 0 rfl) ?_
  refine lv_iload_n hx hb d_Law_law_537 rfl (lv_at hl 3 rfl) ?_
  refine lv_iconst (v := 1) hx hb d_Law_law_538 (by decide) ?_
  refine lv_iadd hx hb d_Law_law_539 ?_
  refine va_sld hx hb hX hbl hbA hH.2.2 (lin (j := 1) hL (by omega)) d_Law_law_540 ?_
  rw [e1]
  refine lv_aload_n hx hb d_Law_law_541 rfl (lv_at hl 0 rfl) ?_
  refine lv_iload_n hx hb d_Law_law_542 rfl (lv_at hl 3 rfl) ?_
  refine lv_iconst (v := 2) hx hb d_Law_law_543 (by decide) ?_
  refine lv_iadd hx hb d_Law_law_544 ?_
  refine va_sld hx hb hX hbl hbA hH.2.2 (lin (j := 2) hL (by omega)) d_Law_law_545 ?_
  rw [e2]
  refine lcallV F hH hl.1 (as := [.int z1, .int z2]) (a := 0) (ci := 10) (rest := []) i_H_spell ⟨rfl, rfl⟩ v_H_spell w_H_spell l_Law_69 d_Law_law_546 (by decide) (tA_0 k) (Nat.le_of_ble_eq_true rfl) (Nat.le_of_ble_eq_true rfl) (H_spell_ok (Φ := (fun r S' M' => ∃ k', S' = zSt k' ∧ zCI k' M' (aSpell a z1 z2).2 ∧ zMo M M' ∧ r = some (.int (aSpell a z1 z2).1))) hC (fun k' M' g1 g2 _ => ⟨k', rfl, g1, g2, rfl⟩)) (fun r S1 M1 h => by obtain ⟨k', rfl, g1, _⟩ := h; exact lrm g1) (fun r S1 M1 h H1 locs1 hH1 => ?_)
  obtain ⟨k1, rfl, c1, c2, rfl⟩ := h
  have hR1 := zRI_mo hR c2
  refine lv_aload_n hx hb d_Law_law_549 rfl (lv_at hl 2 rfl) ?_
  refine lv_aload_n hx hb d_Law_law_550 rfl (lv_at hl 0 rfl) ?_
  refine lv_iload_n hx hb d_Law_law_551 rfl (lv_at hl 3 rfl) ?_
  refine lv_iconst (v := 1) hx hb d_Law_law_552 (by decide) ?_
  refine lv_iadd hx hb d_Law_law_553 ?_
  refine va_sld hx hb hX hbl hbA hH1.2.2 (lin (j := 1) hL (by omega)) d_Law_law_554 ?_
  rw [e1]
  refine lv_aload_n hx hb d_Law_law_555 rfl (lv_at hl 0 rfl) ?_
  refine lv_iload_n hx hb d_Law_law_556 rfl (lv_at hl 3 rfl) ?_
  refine lv_iconst (v := 2) hx hb d_Law_law_557 (by decide) ?_
  refine lv_iadd hx hb d_Law_law_558 ?_
  refine va_sld hx hb hX hbl hbA hH1.2.2 (lin (j := 2) hL (by omega)) d_Law_law_559 ?_
  rw [e2]
  refine lcallV F hH1 hl.1 (as := [.int z1, .int z2]) (a := 83) (ci := 11) (rest := [.int (aSpell a z1 z2).1]) i_Mo_spell ⟨rfl, rfl⟩ v_Mo_spell w_Mo_spell l_Law_72 d_Law_law_560 (by decide) (tA_83 k1) (Nat.le_of_ble_eq_true rfl) (Nat.le_of_ble_eq_true rfl) (Mo_spell_ok (Φ := (fun r S' M' => S' = zSt k1 ∧ zRI M' (aSpell a z1 z2).2 ∧ zMh M1 M' ∧ r = some (.int (aSpell a z1 z2).1))) hR1 c1.1 (fun M' g1 g2 => ⟨rfl, g1, g2, rfl⟩)) (fun r S1 M1 h => by obtain ⟨rfl, _⟩ := h; exact lrm c1) (fun r S1 M2 h H2 locs2 hH2 => ?_)
  obtain ⟨rfl, r1, r2, rfl⟩ := h
  exact lv_icmp_eq (tgt := 742) hx hb d_Law_law_563 (by decide) (fun _ => go k1 M2 _ H2 locs2 (zCI_mh c1 r2) r1 hH2) (fun q => absurd rfl q)
theorem lc_clear (F : lF E p s m meth c b L xs) (hL : L ≤ 2048) (hi : i + 4 ≤ L) (hC : zCI k M a) (hR : zRI M a) (hH : zH E (zSt k) M s.heap H locs) (hl : lv_has ls 4 [(0, .ref b), (1, .ref (E.2.2.2 + 0)), (2, .ref (E.2.2.2 + 83)), (3, .int (nI i))]) (go : ∀ k' M' a' H' locs', zCI k' M' a' → zRI M' a' → zH E (zSt k') M' s.heap H' locs' → W p E.1 e room_1 s m #[Value.ref b] below meth c H' locs' (zSt k').1 (zsl (zSt k')) Q (F0 m 742 ls [])) : W p E.1 e room_1 s m #[Value.ref b] below meth c H locs (zSt k).1 (zsl (zSt k)) Q (F0 m 568 ls []) := by
  obtain ⟨hx, hb, hr, hml, hown, hts, hX, hbl, hlocks, hgv⟩ := id F.1
  have hbA := lbA F
  obtain ⟨z1, e1⟩ : ∃ z, xs (nI i + 1 : Int32).toNatClampNeg = z := ⟨_, rfl⟩
  refine lv_aload_n hx hb d_Law_law_568 rfl (lv_at hl 1 rfl) ?_
  refine lv_aload_n hx hb d_Law_law_569 rfl (lv_at hl 0 rfl) ?_
  refine lv_iload_n hx hb d_Law_law_570 rfl (lv_at hl 3 rfl) ?_
  refine lv_iconst (v := 1) hx hb d_Law_law_571 (by decide) ?_
  refine lv_iadd hx hb d_Law_law_572 ?_
  refine va_sld hx hb hX hbl hbA hH.2.2 (lin (j := 1) hL (by omega)) d_Law_law_573 ?_
  rw [e1]
  refine lcallV F hH hl.1 (as := [.int z1]) (a := 0) (ci := 10) (rest := []) i_H_clear ⟨rfl, rfl⟩ v_H_clear w_H_clear l_Law_73 d_Law_law_574 (by decide) (tA_0 k) (Nat.le_of_ble_eq_true rfl) (Nat.le_of_ble_eq_true rfl) (H_clear_ok (Φ := (fun r S' M' => ∃ k', S' = zSt k' ∧ zCI k' M' (aClear a z1).2 ∧ zMo M M' ∧ r = some (.int (aClear a z1).1))) hC (fun k' M' g1 g2 _ => ⟨k', rfl, g1, g2, rfl⟩)) (fun r S1 M1 h => by obtain ⟨k', rfl, g1, _⟩ := h; exact lrm g1) (fun r S1 M1 h H1 locs1 hH1 => ?_)
  obtain ⟨k1, rfl, c1, c2, rfl⟩ := h
  have hR1 := zRI_mo hR c2
  refine lv_aload_n hx hb d_Law_law_577 rfl (lv_at hl 2 rfl) ?_
  refine lv_aload_n hx hb d_Law_law_578 rfl (lv_at hl 0 rfl) ?_
  refine lv_iload_n hx hb d_Law_law_579 rfl (lv_at hl 3 rfl) ?_
  refine lv_iconst (v := 1) hx hb d_Law_law_580 (by decide) ?_
  refine lv_iadd hx hb d_Law_law_581 ?_
  refine va_sld hx hb hX hbl hbA hH1.2.2 (lin (j := 1) hL (by omega)) d_Law_law_582 ?_
  rw [e1]
  refine lcallV F hH1 hl.1 (as := [.int z1]) (a := 83) (ci := 11) (rest := [.int (aClear a z1).1]) i_Mo_clear ⟨rfl, rfl⟩ v_Mo_clear w_Mo_clear l_Law_76 d_Law_law_583 (by decide) (tA_83 k1) (Nat.le_of_ble_eq_true rfl) (Nat.le_of_ble_eq_true rfl) (Mo_clear_ok (Φ := (fun r S' M' => S' = zSt k1 ∧ zRI M' (aClear a z1).2 ∧ zMh M1 M' ∧ r = some (.int (aClear a z1).1))) hR1 c1.1 (fun M' g1 g2 => ⟨rfl, g1, g2, rfl⟩)) (fun r S1 M1 h => by obtain ⟨rfl, _⟩ := h; exact lrm c1) (fun r S1 M2 h H2 locs2 hH2 => ?_)
  obtain ⟨rfl, r1, r2, rfl⟩ := h
  exact lv_icmp_eq (tgt := 742) hx hb d_Law_law_586 (by decide) (fun _ => go k1 M2 _ H2 locs2 (zCI_mh c1 r2) r1 hH2) (fun q => absurd rfl q)
theorem lc_take (F : lF E p s m meth c b L xs) (hL : L ≤ 2048) (hi : i + 4 ≤ L) (hC : zCI k M a) (hR : zRI M a) (hH : zH E (zSt k) M s.heap H locs) (hl : lv_has ls 4 [(0, .ref b), (1, .ref (E.2.2.2 + 0)), (2, .ref (E.2.2.2 + 83)), (3, .int (nI i))]) (go : ∀ k' M' a' H' locs', zCI k' M' a' → zRI M' a' → zH E (zSt k') M' s.heap H' locs' → W p E.1 e room_1 s m #[Value.ref b] below meth c H' locs' (zSt k').1 (zsl (zSt k')) Q (F0 m 742 ls [])) : W p E.1 e room_1 s m #[Value.ref b] below meth c H locs (zSt k).1 (zsl (zSt k)) Q (F0 m 591 ls []) := by
  obtain ⟨hx, hb, hr, hml, hown, hts, hX, hbl, hlocks, hgv⟩ := id F.1
  have hbA := lbA F
  refine lv_aload_n hx hb d_Law_law_591 rfl (lv_at hl 1 rfl) ?_
  refine lcallV F hH hl.1 (as := []) (a := 0) (ci := 10) (rest := []) i_H_take ⟨rfl, rfl⟩ v_H_take w_H_take l_Law_77 d_Law_law_592 (by decide) (tA_0 k) (Nat.le_of_ble_eq_true rfl) (Nat.le_of_ble_eq_true rfl) (H_take_ok (Φ := (fun r S' M' => ∃ k', S' = zSt k' ∧ zCI k' M' (aTake a).2 ∧ zMo M M' ∧ r = some (.int (aTake a).1))) hC (fun k' M' g1 g2 _ => ⟨k', rfl, g1, g2, rfl⟩)) (fun r S1 M1 h => by obtain ⟨k', rfl, g1, _⟩ := h; exact lrm g1) (fun r S1 M1 h H1 locs1 hH1 => ?_)
  obtain ⟨k1, rfl, c1, c2, rfl⟩ := h
  have hR1 := zRI_mo hR c2
  refine lv_aload_n hx hb d_Law_law_595 rfl (lv_at hl 2 rfl) ?_
  refine lcallV F hH1 hl.1 (as := []) (a := 83) (ci := 11) (rest := [.int (aTake a).1]) i_Mo_take ⟨rfl, rfl⟩ v_Mo_take w_Mo_take l_Law_80 d_Law_law_596 (by decide) (tA_83 k1) (Nat.le_of_ble_eq_true rfl) (Nat.le_of_ble_eq_true rfl) (Mo_take_ok (Φ := (fun r S' M' => S' = zSt k1 ∧ zRI M' (aTake a).2 ∧ zMh M1 M' ∧ r = some (.int (aTake a).1))) hR1 c1.1 (fun M' g1 g2 => ⟨rfl, g1, g2, rfl⟩)) (fun r S1 M1 h => by obtain ⟨rfl, _⟩ := h; exact lrm c1) (fun r S1 M2 h H2 locs2 hH2 => ?_)
  obtain ⟨rfl, r1, r2, rfl⟩ := h
  exact lv_icmp_eq (tgt := 742) hx hb d_Law_law_599 (by decide) (fun _ => go k1 M2 _ H2 locs2 (zCI_mh c1 r2) r1 hH2) (fun q => absurd rfl q)
theorem lc_fits (F : lF E p s m meth c b L xs) (hL : L ≤ 2048) (hi : i + 4 ≤ L) (hC : zCI k M a) (hR : zRI M a) (hH : zH E (zSt k) M s.heap H locs) (hl : lv_has ls 4 [(0, .ref b), (1, .ref (E.2.2.2 + 0)), (2, .ref (E.2.2.2 + 83)), (3, .int (nI i))]) (go : ∀ k' M' a' H' locs', zCI k' M' a' → zRI M' a' → zH E (zSt k') M' s.heap H' locs' → W p E.1 e room_1 s m #[Value.ref b] below meth c H' locs' (zSt k').1 (zsl (zSt k')) Q (F0 m 742 ls [])) : W p E.1 e room_1 s m #[Value.ref b] below meth c H locs (zSt k).1 (zsl (zSt k)) Q (F0 m 604 ls []) := by
  obtain ⟨hx, hb, hr, hml, hown, hts, hX, hbl, hlocks, hgv⟩ := id F.1
  have hbA := lbA F
  refine lv_aload_n hx hb d_Law_law_604 rfl (lv_at hl 1 rfl) ?_
  refine lcallV F hH hl.1 (as := []) (a := 0) (ci := 10) (rest := []) i_H_fits ⟨rfl, rfl⟩ v_H_fits w_H_fits l_Law_81 d_Law_law_605 (by decide) (tA_0 k) (Nat.le_of_ble_eq_true rfl) (Nat.le_of_ble_eq_true rfl) (H_fits_ok (Φ := (fun r S' M' => ∃ k', S' = zSt k' ∧ zCI k' M' a ∧ zMo M M' ∧ r = some (.int (aFits a)))) hC (fun k' M' g1 g2 _ => ⟨k', rfl, g1, g2, rfl⟩)) (fun r S1 M1 h => by obtain ⟨k', rfl, g1, _⟩ := h; exact lrm g1) (fun r S1 M1 h H1 locs1 hH1 => ?_)
  obtain ⟨k1, rfl, c1, c2, rfl⟩ := h
  have hR1 := zRI_mo hR c2
  refine lv_aload_n hx hb d_Law_law_608 rfl (lv_at hl 2 rfl) ?_
  refine lcallV F hH1 hl.1 (as := []) (a := 83) (ci := 11) (rest := [.int (aFits a)]) i_Mo_fits ⟨rfl, rfl⟩ v_Mo_fits w_Mo_fits l_Law_84 d_Law_law_609 (by decide) (tA_83 k1) (Nat.le_of_ble_eq_true rfl) (Nat.le_of_ble_eq_true rfl) (Mo_fits_ok (Φ := (fun r S' M' => S' = zSt k1 ∧ zRI M' a ∧ zMh M1 M' ∧ r = some (.int (aFits a)))) hR1 (fun M' g1 g2 => ⟨rfl, g1, g2, rfl⟩)) (fun r S1 M1 h => by obtain ⟨rfl, _⟩ := h; exact lrm c1) (fun r S1 M2 h H2 locs2 hH2 => ?_)
  obtain ⟨rfl, r1, r2, rfl⟩ := h
  exact lv_icmp_eq (tgt := 742) hx hb d_Law_law_612 (by decide) (fun _ => go k1 M2 _ H2 locs2 (zCI_mh c1 r2) r1 hH2) (fun q => absurd rfl q)
theorem lc_lengths (F : lF E p s m meth c b L xs) (hL : L ≤ 2048) (hi : i + 4 ≤ L) (hC : zCI k M a) (hR : zRI M a) (hH : zH E (zSt k) M s.heap H locs) (hl : lv_has ls 4 [(0, .ref b), (1, .ref (E.2.2.2 + 0)), (2, .ref (E.2.2.2 + 83)), (3, .int (nI i))]) (go : ∀ k' M' a' H' locs', zCI k' M' a' → zRI M' a' → zH E (zSt k') M' s.heap H' locs' → W p E.1 e room_1 s m #[Value.ref b] below meth c H' locs' (zSt k').1 (zsl (zSt k')) Q (F0 m 742 ls [])) : W p E.1 e room_1 s m #[Value.ref b] below meth c H locs (zSt k).1 (zsl (zSt k)) Q (F0 m 617 ls []) := by
  obtain ⟨hx, hb, hr, hml, hown, hts, hX, hbl, hlocks, hgv⟩ := id F.1
  have hbA := lbA F
  obtain ⟨z1, e1⟩ : ∃ z, xs (nI i + 1 : Int32).toNatClampNeg = z := ⟨_, rfl⟩
  obtain ⟨z2, e2⟩ : ∃ z, xs (nI i + 2 : Int32).toNatClampNeg = z := ⟨_, rfl⟩
  refine lv_aload_n hx hb d_Law_law_617 rfl (lv_at hl 1 rfl) ?_
  refine lv_aload_n hx hb d_Law_law_618 rfl (lv_at hl 0 rfl) ?_
  refine lv_iload_n hx hb d_Law_law_619 rfl (lv_at hl 3 rfl) ?_
  refine lv_iconst (v := 1) hx hb d_Law_law_620 (by decide) ?_
  refine lv_iadd hx hb d_Law_law_621 ?_
  refine va_sld hx hb hX hbl hbA hH.2.2 (lin (j := 1) hL (by omega)) d_Law_law_622 ?_
  rw [e1]
  refine lv_aload_n hx hb d_Law_law_623 rfl (lv_at hl 0 rfl) ?_
  refine lv_iload_n hx hb d_Law_law_624 rfl (lv_at hl 3 rfl) ?_
  refine lv_iconst (v := 2) hx hb d_Law_law_625 (by decide) ?_
  refine lv_iadd hx hb d_Law_law_626 ?_
  refine va_sld hx hb hX hbl hbA hH.2.2 (lin (j := 2) hL (by omega)) d_Law_law_627 ?_
  rw [e2]
  refine lcallV F hH hl.1 (as := [.int z1, .int z2]) (a := 0) (ci := 10) (rest := []) i_H_lengths ⟨rfl, rfl⟩ v_H_lengths w_H_lengths l_Law_85 d_Law_law_628 (by decide) (tA_0 k) (Nat.le_of_ble_eq_true rfl) (Nat.le_of_ble_eq_true rfl) (H_lengths_ok (Φ := (fun r S' M' => ∃ k', S' = zSt k' ∧ zCI k' M' a ∧ zMo M M' ∧ r = some (.int (aLengths a z1 z2)))) hC (fun k' M' g1 g2 _ => ⟨k', rfl, g1, g2, rfl⟩)) (fun r S1 M1 h => by obtain ⟨k', rfl, g1, _⟩ := h; exact lrm g1) (fun r S1 M1 h H1 locs1 hH1 => ?_)
  obtain ⟨k1, rfl, c1, c2, rfl⟩ := h
  have hR1 := zRI_mo hR c2
  refine lv_aload_n hx hb d_Law_law_631 rfl (lv_at hl 2 rfl) ?_
  refine lv_aload_n hx hb d_Law_law_632 rfl (lv_at hl 0 rfl) ?_
  refine lv_iload_n hx hb d_Law_law_633 rfl (lv_at hl 3 rfl) ?_
  refine lv_iconst (v := 1) hx hb d_Law_law_634 (by decide) ?_
  refine lv_iadd hx hb d_Law_law_635 ?_
  refine va_sld hx hb hX hbl hbA hH1.2.2 (lin (j := 1) hL (by omega)) d_Law_law_636 ?_
  rw [e1]
  refine lv_aload_n hx hb d_Law_law_637 rfl (lv_at hl 0 rfl) ?_
  refine lv_iload_n hx hb d_Law_law_638 rfl (lv_at hl 3 rfl) ?_
  refine lv_iconst (v := 2) hx hb d_Law_law_639 (by decide) ?_
  refine lv_iadd hx hb d_Law_law_640 ?_
  refine va_sld hx hb hX hbl hbA hH1.2.2 (lin (j := 2) hL (by omega)) d_Law_law_641 ?_
  rw [e2]
  refine lcallV F hH1 hl.1 (as := [.int z1, .int z2]) (a := 83) (ci := 11) (rest := [.int (aLengths a z1 z2)]) i_Mo_lengths ⟨rfl, rfl⟩ v_Mo_lengths w_Mo_lengths l_Law_88 d_Law_law_642 (by decide) (tA_83 k1) (Nat.le_of_ble_eq_true rfl) (Nat.le_of_ble_eq_true rfl) (Mo_lengths_ok (Φ := (fun r S' M' => S' = zSt k1 ∧ zRI M' a ∧ zMh M1 M' ∧ r = some (.int (aLengths a z1 z2)))) hR1 (fun M' g1 g2 => ⟨rfl, g1, g2, rfl⟩)) (fun r S1 M1 h => by obtain ⟨rfl, _⟩ := h; exact lrm c1) (fun r S1 M2 h H2 locs2 hH2 => ?_)
  obtain ⟨rfl, r1, r2, rfl⟩ := h
  exact lv_icmp_eq (tgt := 742) hx hb d_Law_law_645 (by decide) (fun _ => go k1 M2 _ H2 locs2 (zCI_mh c1 r2) r1 hH2) (fun q => absurd rfl q)
theorem lc_shortest (F : lF E p s m meth c b L xs) (hL : L ≤ 2048) (hi : i + 4 ≤ L) (hC : zCI k M a) (hR : zRI M a) (hH : zH E (zSt k) M s.heap H locs) (hl : lv_has ls 4 [(0, .ref b), (1, .ref (E.2.2.2 + 0)), (2, .ref (E.2.2.2 + 83)), (3, .int (nI i))]) (go : ∀ k' M' a' H' locs', zCI k' M' a' → zRI M' a' → zH E (zSt k') M' s.heap H' locs' → W p E.1 e room_1 s m #[Value.ref b] below meth c H' locs' (zSt k').1 (zsl (zSt k')) Q (F0 m 742 ls [])) : W p E.1 e room_1 s m #[Value.ref b] below meth c H locs (zSt k).1 (zsl (zSt k)) Q (F0 m 650 ls []) := by
  obtain ⟨hx, hb, hr, hml, hown, hts, hX, hbl, hlocks, hgv⟩ := id F.1
  have hbA := lbA F
  obtain ⟨z1, e1⟩ : ∃ z, xs (nI i + 1 : Int32).toNatClampNeg = z := ⟨_, rfl⟩
  refine lv_aload_n hx hb d_Law_law_650 rfl (lv_at hl 1 rfl) ?_
  refine lv_aload_n hx hb d_Law_law_651 rfl (lv_at hl 0 rfl) ?_
  refine lv_iload_n hx hb d_Law_law_652 rfl (lv_at hl 3 rfl) ?_
  refine lv_iconst (v := 1) hx hb d_Law_law_653 (by decide) ?_
  refine lv_iadd hx hb d_Law_law_654 ?_
  refine va_sld hx hb hX hbl hbA hH.2.2 (lin (j := 1) hL (by omega)) d_Law_law_655 ?_
  rw [e1]
  refine lcallV F hH hl.1 (as := [.int z1]) (a := 0) (ci := 10) (rest := []) i_H_shortest ⟨rfl, rfl⟩ v_H_shortest w_H_shortest l_Law_89 d_Law_law_656 (by decide) (tA_0 k) (Nat.le_of_ble_eq_true rfl) (Nat.le_of_ble_eq_true rfl) (H_shortest_ok (Φ := (fun r S' M' => ∃ k' v, S' = zSt k' ∧ zCI k' M' a ∧ zMo M M' ∧ isSh a.2.1 z1 v ∧ r = some (.int v))) hC (fun v k' M' g0 g1 g2 _ => ⟨k', v, rfl, g1, g2, g0, rfl⟩)) (fun r S1 M1 h => by obtain ⟨k', v, rfl, g1, _⟩ := h; exact lrm g1) (fun r S1 M1 h H1 locs1 hH1 => ?_)
  obtain ⟨k1, v1, rfl, c1, c2, c3, rfl⟩ := h
  have hR1 := zRI_mo hR c2
  refine lv_aload_n hx hb d_Law_law_659 rfl (lv_at hl 2 rfl) ?_
  refine lv_aload_n hx hb d_Law_law_660 rfl (lv_at hl 0 rfl) ?_
  refine lv_iload_n hx hb d_Law_law_661 rfl (lv_at hl 3 rfl) ?_
  refine lv_iconst (v := 1) hx hb d_Law_law_662 (by decide) ?_
  refine lv_iadd hx hb d_Law_law_663 ?_
  refine va_sld hx hb hX hbl hbA hH1.2.2 (lin (j := 1) hL (by omega)) d_Law_law_664 ?_
  rw [e1]
  refine lcallV F hH1 hl.1 (as := [.int z1]) (a := 83) (ci := 11) (rest := [.int v1]) i_Mo_shortest ⟨rfl, rfl⟩ v_Mo_shortest w_Mo_shortest l_Law_92 d_Law_law_665 (by decide) (tA_83 k1) (Nat.le_of_ble_eq_true rfl) (Nat.le_of_ble_eq_true rfl) (Mo_shortest_ok (Φ := (fun r S' M' => S' = zSt k1 ∧ ∃ v, zRI M' a ∧ zMh M1 M' ∧ isSh a.2.1 z1 v ∧ r = some (.int v))) hR1 (fun v M' g0 g1 g2 => ⟨rfl, v, g1, g2, g0, rfl⟩)) (fun r S1 M1 h => by obtain ⟨rfl, _⟩ := h; exact lrm c1) (fun r S1 M2 h H2 locs2 hH2 => ?_)
  obtain ⟨rfl, v2, r1, r2, r3, rfl⟩ := h
  have ev := isSh_uniq c3 r3
  subst ev
  exact lv_icmp_eq (tgt := 742) hx hb d_Law_law_668 (by decide) (fun _ => go k1 M2 _ H2 locs2 (zCI_mh c1 r2) r1 hH2) (fun q => absurd rfl q)
theorem lc_image (F : lF E p s m meth c b L xs) (hL : L ≤ 2048) (hi : i + 4 ≤ L) (hC : zCI k M a) (hR : zRI M a) (hH : zH E (zSt k) M s.heap H locs) (hl : lv_has ls 4 [(0, .ref b), (1, .ref (E.2.2.2 + 0)), (2, .ref (E.2.2.2 + 83)), (3, .int (nI i))]) (go : ∀ k' M' a' H' locs', zCI k' M' a' → zRI M' a' → zH E (zSt k') M' s.heap H' locs' → W p E.1 e room_1 s m #[Value.ref b] below meth c H' locs' (zSt k').1 (zsl (zSt k')) Q (F0 m 742 ls [])) : W p E.1 e room_1 s m #[Value.ref b] below meth c H locs (zSt k).1 (zsl (zSt k)) Q (F0 m 673 ls []) := by
  obtain ⟨hx, hb, hr, hml, hown, hts, hX, hbl, hlocks, hgv⟩ := id F.1
  have hbA := lbA F
  obtain ⟨z1, e1⟩ : ∃ z, xs (nI i + 1 : Int32).toNatClampNeg = z := ⟨_, rfl⟩
  refine lv_aload_n hx hb d_Law_law_673 rfl (lv_at hl 1 rfl) ?_
  refine lv_aload_n hx hb d_Law_law_674 rfl (lv_at hl 0 rfl) ?_
  refine lv_iload_n hx hb d_Law_law_675 rfl (lv_at hl 3 rfl) ?_
  refine lv_iconst (v := 1) hx hb d_Law_law_676 (by decide) ?_
  refine lv_iadd hx hb d_Law_law_677 ?_
  refine va_sld hx hb hX hbl hbA hH.2.2 (lin (j := 1) hL (by omega)) d_Law_law_678 ?_
  rw [e1]
  refine lcallV F hH hl.1 (as := [.int z1]) (a := 0) (ci := 10) (rest := []) i_H_image ⟨rfl, rfl⟩ v_H_image w_H_image l_Law_93 d_Law_law_679 (by decide) (tA_0 k) (Nat.le_of_ble_eq_true rfl) (Nat.le_of_ble_eq_true rfl) (H_image_ok (Φ := (fun r S' M' => ∃ k', S' = zSt k' ∧ zCI k' M' (aImage a z1).2 ∧ zMo M M' ∧ r = some (.int (aImage a z1).1))) hC (fun k' M' g1 g2 _ => ⟨k', rfl, g1, g2, rfl⟩)) (fun r S1 M1 h => by obtain ⟨k', rfl, g1, _⟩ := h; exact lrm g1) (fun r S1 M1 h H1 locs1 hH1 => ?_)
  obtain ⟨k1, rfl, c1, c2, rfl⟩ := h
  have hR1 := zRI_mo hR c2
  refine lv_aload_n hx hb d_Law_law_682 rfl (lv_at hl 2 rfl) ?_
  refine lv_aload_n hx hb d_Law_law_683 rfl (lv_at hl 0 rfl) ?_
  refine lv_iload_n hx hb d_Law_law_684 rfl (lv_at hl 3 rfl) ?_
  refine lv_iconst (v := 1) hx hb d_Law_law_685 (by decide) ?_
  refine lv_iadd hx hb d_Law_law_686 ?_
  refine va_sld hx hb hX hbl hbA hH1.2.2 (lin (j := 1) hL (by omega)) d_Law_law_687 ?_
  rw [e1]
  refine lcallV F hH1 hl.1 (as := [.int z1]) (a := 83) (ci := 11) (rest := [.int (aImage a z1).1]) i_Mo_image ⟨rfl, rfl⟩ v_Mo_image w_Mo_image l_Law_96 d_Law_law_688 (by decide) (tA_83 k1) (Nat.le_of_ble_eq_true rfl) (Nat.le_of_ble_eq_true rfl) (Mo_image_ok (Φ := (fun r S' M' => S' = zSt k1 ∧ zRI M' (aImage a z1).2 ∧ zMh M1 M' ∧ r = some (.int (aImage a z1).1))) hR1 c1.1 (fun M' g1 g2 => ⟨rfl, g1, g2, rfl⟩)) (fun r S1 M1 h => by obtain ⟨rfl, _⟩ := h; exact lrm c1) (fun r S1 M2 h H2 locs2 hH2 => ?_)
  obtain ⟨rfl, r1, r2, rfl⟩ := h
  exact lv_icmp_eq (tgt := 742) hx hb d_Law_law_691 (by decide) (fun _ => go k1 M2 _ H2 locs2 (zCI_mh c1 r2) r1 hH2) (fun q => absurd rfl q)
theorem lc_restore (F : lF E p s m meth c b L xs) (hL : L ≤ 2048) (hi : i + 4 ≤ L) (hC : zCI k M a) (hR : zRI M a) (hH : zH E (zSt k) M s.heap H locs) (hl : lv_has ls 4 [(0, .ref b), (1, .ref (E.2.2.2 + 0)), (2, .ref (E.2.2.2 + 83)), (3, .int (nI i))]) (go : ∀ k' M' a' H' locs', zCI k' M' a' → zRI M' a' → zH E (zSt k') M' s.heap H' locs' → W p E.1 e room_1 s m #[Value.ref b] below meth c H' locs' (zSt k').1 (zsl (zSt k')) Q (F0 m 742 ls [])) : W p E.1 e room_1 s m #[Value.ref b] below meth c H locs (zSt k).1 (zsl (zSt k)) Q (F0 m 696 ls []) := by
  obtain ⟨hx, hb, hr, hml, hown, hts, hX, hbl, hlocks, hgv⟩ := id F.1
  have hbA := lbA F
  obtain ⟨z1, e1⟩ : ∃ z, xs (nI i + 1 : Int32).toNatClampNeg = z := ⟨_, rfl⟩
  refine lv_aload_n hx hb d_Law_law_696 rfl (lv_at hl 1 rfl) ?_
  refine lv_aload_n hx hb d_Law_law_697 rfl (lv_at hl 0 rfl) ?_
  refine lv_iload_n hx hb d_Law_law_698 rfl (lv_at hl 3 rfl) ?_
  refine lv_iconst (v := 1) hx hb d_Law_law_699 (by decide) ?_
  refine lv_iadd hx hb d_Law_law_700 ?_
  refine va_sld hx hb hX hbl hbA hH.2.2 (lin (j := 1) hL (by omega)) d_Law_law_701 ?_
  rw [e1]
  refine lcallV F hH hl.1 (as := [.int z1]) (a := 0) (ci := 10) (rest := []) i_H_restore ⟨rfl, rfl⟩ v_H_restore w_H_restore l_Law_97 d_Law_law_702 (by decide) (tA_0 k) (Nat.le_of_ble_eq_true rfl) (Nat.le_of_ble_eq_true rfl) (H_restore_ok (Φ := (fun r S' M' => ∃ k', S' = zSt k' ∧ zCI k' M' (aRestore a z1).2 ∧ zMo M M' ∧ r = some (.int (aRestore a z1).1))) hC (fun k' M' g1 g2 _ => ⟨k', rfl, g1, g2, rfl⟩)) (fun r S1 M1 h => by obtain ⟨k', rfl, g1, _⟩ := h; exact lrm g1) (fun r S1 M1 h H1 locs1 hH1 => ?_)
  obtain ⟨k1, rfl, c1, c2, rfl⟩ := h
  have hR1 := zRI_mo hR c2
  refine lv_aload_n hx hb d_Law_law_705 rfl (lv_at hl 2 rfl) ?_
  refine lv_aload_n hx hb d_Law_law_706 rfl (lv_at hl 0 rfl) ?_
  refine lv_iload_n hx hb d_Law_law_707 rfl (lv_at hl 3 rfl) ?_
  refine lv_iconst (v := 1) hx hb d_Law_law_708 (by decide) ?_
  refine lv_iadd hx hb d_Law_law_709 ?_
  refine va_sld hx hb hX hbl hbA hH1.2.2 (lin (j := 1) hL (by omega)) d_Law_law_710 ?_
  rw [e1]
  refine lcallV F hH1 hl.1 (as := [.int z1]) (a := 83) (ci := 11) (rest := [.int (aRestore a z1).1]) i_Mo_restore ⟨rfl, rfl⟩ v_Mo_restore w_Mo_restore l_Law_100 d_Law_law_711 (by decide) (tA_83 k1) (Nat.le_of_ble_eq_true rfl) (Nat.le_of_ble_eq_true rfl) (Mo_restore_ok (Φ := (fun r S' M' => S' = zSt k1 ∧ zRI M' (aRestore a z1).2 ∧ zMh M1 M' ∧ r = some (.int (aRestore a z1).1))) hR1 c1.1 (fun M' g1 g2 => ⟨rfl, g1, g2, rfl⟩)) (fun r S1 M1 h => by obtain ⟨rfl, _⟩ := h; exact lrm c1) (fun r S1 M2 h H2 locs2 hH2 => ?_)
  obtain ⟨rfl, r1, r2, rfl⟩ := h
  exact lv_icmp_eq (tgt := 742) hx hb d_Law_law_714 (by decide) (fun _ => go k1 M2 _ H2 locs2 (zCI_mh c1 r2) r1 hH2) (fun q => absurd rfl q)
theorem lc_told (F : lF E p s m meth c b L xs) (hL : L ≤ 2048) (hi : i + 4 ≤ L) (hC : zCI k M a) (hR : zRI M a) (hH : zH E (zSt k) M s.heap H locs) (hl : lv_has ls 4 [(0, .ref b), (1, .ref (E.2.2.2 + 0)), (2, .ref (E.2.2.2 + 83)), (3, .int (nI i))]) (go : ∀ k' M' a' H' locs', zCI k' M' a' → zRI M' a' → zH E (zSt k') M' s.heap H' locs' → W p E.1 e room_1 s m #[Value.ref b] below meth c H' locs' (zSt k').1 (zsl (zSt k')) Q (F0 m 742 ls [])) : W p E.1 e room_1 s m #[Value.ref b] below meth c H locs (zSt k).1 (zsl (zSt k)) Q (F0 m 719 ls []) := by
  obtain ⟨hx, hb, hr, hml, hown, hts, hX, hbl, hlocks, hgv⟩ := id F.1
  have hbA := lbA F
  obtain ⟨z1, e1⟩ : ∃ z, xs (nI i + 1 : Int32).toNatClampNeg = z := ⟨_, rfl⟩
  refine lv_aload_n hx hb d_Law_law_719 rfl (lv_at hl 1 rfl) ?_
  refine lv_aload_n hx hb d_Law_law_720 rfl (lv_at hl 0 rfl) ?_
  refine lv_iload_n hx hb d_Law_law_721 rfl (lv_at hl 3 rfl) ?_
  refine lv_iconst (v := 1) hx hb d_Law_law_722 (by decide) ?_
  refine lv_iadd hx hb d_Law_law_723 ?_
  refine va_sld hx hb hX hbl hbA hH.2.2 (lin (j := 1) hL (by omega)) d_Law_law_724 ?_
  rw [e1]
  refine lcallV F hH hl.1 (as := [.int z1]) (a := 0) (ci := 10) (rest := []) i_H_told ⟨rfl, rfl⟩ v_H_told w_H_told l_Law_101 d_Law_law_725 (by decide) (tA_0 k) (Nat.le_of_ble_eq_true rfl) (Nat.le_of_ble_eq_true rfl) (H_told_ok (Φ := (fun r S' M' => ∃ k', S' = zSt k' ∧ zCI k' M' a ∧ zMo M M' ∧ r = some (.int (aTold a z1)))) hC ⟨k, rfl, hC, zMo_rfl _, rfl⟩) (fun r S1 M1 h => by obtain ⟨k', rfl, g1, _⟩ := h; exact lrm g1) (fun r S1 M1 h H1 locs1 hH1 => ?_)
  obtain ⟨k1, rfl, c1, c2, rfl⟩ := h
  have hR1 := zRI_mo hR c2
  refine lv_aload_n hx hb d_Law_law_728 rfl (lv_at hl 2 rfl) ?_
  refine lv_aload_n hx hb d_Law_law_729 rfl (lv_at hl 0 rfl) ?_
  refine lv_iload_n hx hb d_Law_law_730 rfl (lv_at hl 3 rfl) ?_
  refine lv_iconst (v := 1) hx hb d_Law_law_731 (by decide) ?_
  refine lv_iadd hx hb d_Law_law_732 ?_
  refine va_sld hx hb hX hbl hbA hH1.2.2 (lin (j := 1) hL (by omega)) d_Law_law_733 ?_
  rw [e1]
  refine lcallV F hH1 hl.1 (as := [.int z1]) (a := 83) (ci := 11) (rest := [.int (aTold a z1)]) i_Mo_told ⟨rfl, rfl⟩ v_Mo_told w_Mo_told l_Law_104 d_Law_law_734 (by decide) (tA_83 k1) (Nat.le_of_ble_eq_true rfl) (Nat.le_of_ble_eq_true rfl) (Mo_told_ok (Φ := (fun r S' M' => S' = zSt k1 ∧ zRI M' a ∧ zMh M1 M' ∧ r = some (.int (aTold a z1)))) hR1 (fun M' g1 g2 => ⟨rfl, g1, g2, rfl⟩)) (fun r S1 M1 h => by obtain ⟨rfl, _⟩ := h; exact lrm c1) (fun r S1 M2 h H2 locs2 hH2 => ?_)
  obtain ⟨rfl, r1, r2, rfl⟩ := h
  exact lv_icmp_eq (tgt := 742) hx hb d_Law_law_737 (by decide) (fun _ => go k1 M2 _ H2 locs2 (zCI_mh c1 r2) r1 hH2) (fun q => absurd rfl q)
theorem k_and31 (y : Int32) : True := trivial
theorem law_loop (F : lF E p s m meth c b L xs) (hL : L ≤ 2048) : ∀ (n i k : Nat) (M : ZM) (a : AS) (H : Heap) (locs : List Loc) (ls : Array Slot), L < i + 4 * n → i ≤ 3000 → zCI k M a → zRI M a → zH E (zSt k) M s.heap H locs → lv_has ls 4 [(0, .ref b), (1, .ref (E.2.2.2 + 0)), (2, .ref (E.2.2.2 + 83)), (3, .int (nI i))] → W p E.1 e room_1 s m #[Value.ref b] below meth c H locs (zSt k).1 (zsl (zSt k)) (lw_Z below #[Value.ref b] s) (F0 m 18 ls []) := by
  obtain ⟨hx, hb, hr, hml, hown, hts, hX, hbl, hlocks, hgv⟩ := id F.1
  have hbA := lbA F
  have heB := F.2.2
  have e4 : nI L - 4 = iI ((L : Int) - 4) := by rw [iI_nat, show (4 : Int32) = iI 4 by decide, iI_sub]
  intro n
  induction n with
  | zero =>
    intro i k M a H locs ls hn hi3 hC hR hH hl
    refine lv_iload_n hx hb d_Law_law_18 rfl (lv_at hl 3 rfl) ?_
    refine lv_aload_n hx hb d_Law_law_19 rfl (lv_at hl 0 rfl) ?_
    refine va_slen hx hb hX hbl hbA hH.2.2 d_Law_law_20 ?_
    refine lv_iconst (v := 4) hx hb d_Law_law_21 (by decide) ?_
    refine lv_isub hx hb d_Law_law_22 ?_
    refine lv_icmp_gt (tgt := 748) hx hb d_Law_law_23 (by decide) (fun q => ?_) (fun q => ?_)
    · refine lv_iconst (v := 1) hx hb d_Law_law_748 (by decide) ?_
      refine va_forget (fun q hq => by have := hH.2.2.2.2 q hq; show s.heap.size ≤ q.base; rw [← heB]; exact this) ?_
      refine W.widen (k := 600000) (n := 7302250) (lrm hC).1 (lrm hC).2 ?_
      exact lw_ret hx hb hr hlocks d_Law_law_749
    · refine absurd ?_ q
      show nI L - 4 < nI i
      rw [e4, iI_nat i, iI_lt (by omega) (by omega)]
      omega
  | succ n ih =>
    intro i k M a H locs ls hn hi3 hC hR hH hl
    refine lv_iload_n hx hb d_Law_law_18 rfl (lv_at hl 3 rfl) ?_
    refine lv_aload_n hx hb d_Law_law_19 rfl (lv_at hl 0 rfl) ?_
    refine va_slen hx hb hX hbl hbA hH.2.2 d_Law_law_20 ?_
    refine lv_iconst (v := 4) hx hb d_Law_law_21 (by decide) ?_
    refine lv_isub hx hb d_Law_law_22 ?_
    refine lv_icmp_gt (tgt := 748) hx hb d_Law_law_23 (by decide) (fun q => ?_) (fun q => ?_)
    · refine lv_iconst (v := 1) hx hb d_Law_law_748 (by decide) ?_
      refine va_forget (fun q hq => by have := hH.2.2.2.2 q hq; show s.heap.size ≤ q.base; rw [← heB]; exact this) ?_
      refine W.widen (k := 600000) (n := 7302250) (lrm hC).1 (lrm hC).2 ?_
      exact lw_ret hx hb hr hlocks d_Law_law_749
    · have hi : i + 4 ≤ L := by
        rcases Nat.lt_or_ge L (i + 4) with w | w
        · refine absurd ?_ q
          show nI L - 4 < nI i
          rw [e4, iI_nat i, iI_lt (by omega) (by omega)]
          omega
        · exact w
      have go : ∀ k' M' a' H' locs', zCI k' M' a' → zRI M' a' → zH E (zSt k') M' s.heap H' locs' → W p E.1 e room_1 s m #[Value.ref b] below meth c H' locs' (zSt k').1 (zsl (zSt k')) (lw_Z below #[Value.ref b] s) (F0 m 742 ls []) := by
        intro k' M' a' H' locs' g1 g2 g3
        refine lv_iinc (v := nI (i + 4)) (lv' := [(3, .int (nI (i + 4))), (0, .ref b), (1, .ref (E.2.2.2 + 0)), (2, .ref (E.2.2.2 + 83))]) hx hb d_Law_law_742 hl (k := 3) rfl (nI_addN i 4) (by decide) rfl (fun ls' hl' => ?_)
        refine lv_goto (tgt := 18) hx hb d_Law_law_745 (by decide) ?_
        exact ih (i + 4) k' M' a' H' locs' ls' (by omega) (by omega) g1 g2 g3 (lv_sub hl' [1, 2, 3, 0] rfl)
      refine lv_aload_n hx hb d_Law_law_26 rfl (lv_at hl 0 rfl) ?_
      refine lv_iload_n hx hb d_Law_law_27 rfl (lv_at hl 3 rfl) ?_
      refine va_sld hx hb hX hbl hbA hH.2.2 (vp_in_nI (by omega) (by omega)) d_Law_law_28 ?_
      refine lv_bipush (v := 31) hx hb d_Law_law_29 (by decide) ?_
      refine lv_iand hx hb d_Law_law_31 ?_
      refine lv_topi (fun x ex => ?_)
      by_cases hout : x.toInt < 0 ∨ 21 < x.toInt
      · refine lv_tableOut (tgt := 742) hx hb d_Law_law_32 hout (by decide) ?_
        exact go k M a H locs hC hR hH
      · rcases (show x.toInt = 0 ∨ x.toInt = 1 ∨ x.toInt = 2 ∨ x.toInt = 3 ∨ x.toInt = 4 ∨ x.toInt = 5 ∨ x.toInt = 6 ∨ x.toInt = 7 ∨ x.toInt = 8 ∨ x.toInt = 9 ∨ x.toInt = 10 ∨ x.toInt = 11 ∨ x.toInt = 12 ∨ x.toInt = 13 ∨ x.toInt = 14 ∨ x.toInt = 15 ∨ x.toInt = 16 ∨ x.toInt = 17 ∨ x.toInt = 18 ∨ x.toInt = 19 ∨ x.toInt = 20 ∨ x.toInt = 21 by omega) with ev | ev | ev | ev | ev | ev | ev | ev | ev | ev | ev | ev | ev | ev | ev | ev | ev | ev | ev | ev | ev | ev
        · exact lv_tableIn (tgt := 136) hx hb d_Law_law_32 (by omega) (by omega) (by rw [ev]; rfl) (by decide) (lc_say F hL hi hC hR hH hl go)
        · exact lv_tableIn (tgt := 159) hx hb d_Law_law_32 (by omega) (by omega) (by rw [ev]; rfl) (by decide) (lc_wipe F hL hi hC hR hH hl go)
        · exact lv_tableIn (tgt := 172) hx hb d_Law_law_32 (by omega) (by omega) (by rw [ev]; rfl) (by decide) (lc_fault F hL hi hC hR hH hl go)
        · exact lv_tableIn (tgt := 185) hx hb d_Law_law_32 (by omega) (by omega) (by rw [ev]; rfl) (by decide) (lc_load F hL hi hC hR hH hl go)
        · exact lv_tableIn (tgt := 198) hx hb d_Law_law_32 (by omega) (by omega) (by rw [ev]; rfl) (by decide) (lc_leads F hL hi hC hR hH hl go)
        · exact lv_tableIn (tgt := 241) hx hb d_Law_law_32 (by omega) (by omega) (by rw [ev]; rfl) (by decide) (lc_need F hL hi hC hR hH hl go)
        · exact lv_tableIn (tgt := 284) hx hb d_Law_law_32 (by omega) (by omega) (by rw [ev]; rfl) (by decide) (lc_brief F hL hi hC hR hH hl go)
        · exact lv_tableIn (tgt := 317) hx hb d_Law_law_32 (by omega) (by omega) (by rw [ev]; rfl) (by decide) (lc_net F hL hi hC hR hH hl go)
        · exact lv_tableIn (tgt := 340) hx hb d_Law_law_32 (by omega) (by omega) (by rw [ev]; rfl) (by decide) (lc_node F hL hi hC hR hH hl go)
        · exact lv_tableIn (tgt := 373) hx hb d_Law_law_32 (by omega) (by omega) (by rw [ev]; rfl) (by decide) (lc_symbol F hL hi hC hR hH hl go)
        · exact lv_tableIn (tgt := 416) hx hb d_Law_law_32 (by omega) (by omega) (by rw [ev]; rfl) (by decide) (lc_needs F hL hi hC hR hH hl go)
        · exact lv_tableIn (tgt := 459) hx hb d_Law_law_32 (by omega) (by omega) (by rw [ev]; rfl) (by decide) (lc_move F hL hi hC hR hH hl go)
        · exact lv_tableIn (tgt := 502) hx hb d_Law_law_32 (by omega) (by omega) (by rw [ev]; rfl) (by decide) (lc_answer F hL hi hC hR hH hl go)
        · exact lv_tableIn (tgt := 535) hx hb d_Law_law_32 (by omega) (by omega) (by rw [ev]; rfl) (by decide) (lc_spell F hL hi hC hR hH hl go)
        · exact lv_tableIn (tgt := 568) hx hb d_Law_law_32 (by omega) (by omega) (by rw [ev]; rfl) (by decide) (lc_clear F hL hi hC hR hH hl go)
        · exact lv_tableIn (tgt := 591) hx hb d_Law_law_32 (by omega) (by omega) (by rw [ev]; rfl) (by decide) (lc_take F hL hi hC hR hH hl go)
        · exact lv_tableIn (tgt := 604) hx hb d_Law_law_32 (by omega) (by omega) (by rw [ev]; rfl) (by decide) (lc_fits F hL hi hC hR hH hl go)
        · exact lv_tableIn (tgt := 617) hx hb d_Law_law_32 (by omega) (by omega) (by rw [ev]; rfl) (by decide) (lc_lengths F hL hi hC hR hH hl go)
        · exact lv_tableIn (tgt := 650) hx hb d_Law_law_32 (by omega) (by omega) (by rw [ev]; rfl) (by decide) (lc_shortest F hL hi hC hR hH hl go)
        · exact lv_tableIn (tgt := 673) hx hb d_Law_law_32 (by omega) (by omega) (by rw [ev]; rfl) (by decide) (lc_image F hL hi hC hR hH hl go)
        · exact lv_tableIn (tgt := 696) hx hb d_Law_law_32 (by omega) (by omega) (by rw [ev]; rfl) (by decide) (lc_restore F hL hi hC hR hH hl go)
        · exact lv_tableIn (tgt := 719) hx hb d_Law_law_32 (by omega) (by omega) (by rw [ev]; rfl) (by decide) (lc_told F hL hi hC hR hH hl go)
end LOOP
