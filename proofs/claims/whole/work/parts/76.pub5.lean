/-! restore, net, brief -/
section PUB5
variable {E : ZE} {k : Nat} {M M' : ZM} {Φ : Option Value → ZS → ZM → Prop} {B : AB}
def aRestore (a : AS) (x : Int32) : Int32 × AS := match inN 2 x with
  | none => (-2, a)
  | some j => match (if j = 0 then a.2.2.1 else a.2.2.2) with
    | none => (-3, a)
    | some B => (1, (a.1, B, a.2.2))
theorem restore_in {a : AS} {b : Nat} {o : Option AB} (h : zCI k M a) (hb : b = 17 ∨ b = 31) (hbk : zBook (zSt k) b) (hi : zIm M b o) (hok : ∀ B, o = some B → okB B) (h0 : o = none → Φ (some (.int (-3))) (zSt k) M) (h1 : ∀ B, o = some B → ∀ M', zCI k M' (a.1, B, a.2.2) → zMo M M' → Φ (some (.int 1)) (zSt k) M') :
    (¬ M b 5 = 0 → zW E m_Book_copy 2 (zSt k) M 0 [some (.ref 3), some (.ref b)] [] (fun q5 T5 M5 => q5 = none ∧ (zSt k) = T5 ∧ zW E m_H_machineChanged 1 (zSt k) M5 0 [some (.ref 0)] [] (fun q6 T6 M6 => q6 = none ∧ (zSt k) = T6 ∧ Φ (some (.int 1)) (zSt k) M6))) ∧ (M b 5 = 0 → Φ (some (.int (-3))) (zSt k) M) := by
  cases o with
  | none =>
    have e := hi.1 rfl
    exact ⟨fun q => absurd e q, fun _ => h0 rfl⟩
  | some B =>
    obtain ⟨e, hB⟩ := hi.2 B rfl
    refine ⟨fun _ => ?_, fun q => by rw [e] at q; exact absurd q (by decide)⟩
    refine Book_copy_ok (ts_3 k) hbk (by omega) (hok B rfl) hB (fun M5 x5 e5 f5 => ⟨rfl, rfl, mchanged_ok (fun M6 z1 z2 z3 f6 => ⟨rfl, rfl, ?_⟩)⟩)
    have fi := zfr_i f5
    have f : zfr M M6 [0, 1, 2, 3, 4, 5, 6, 7, 8, 9, 10, 11, 12, 13, 14, 15, 16, 45] := zfr_tr (zfr_mono fi (fun p hp => by rw [List.mem_range'_1] at hp; simp; omega)) (zfr_mono f6 (by simp))
    refine h1 B rfl M6 (zCI_book h f (hok B rfl) (zBk_fr x5 f6 (by decide)) z1 z2 (Or.inl z3) (zRN_fr h.2.1 ?_ ?_) h.1.1) (zMo_fr f (by decide))
    · rw [f6 1 (by decide), f5 1 (by omega)]
    · rw [f6 2 (by decide), f5 2 (by omega)]
theorem H_restore_ok {a : AS} {x : Int32} (h : zCI k M a) (hk : ∀ k' M', zCI k' M' (aRestore a x).2 → zMo M M' → k ≤ k' → Φ (some (.int (aRestore a x).1)) (zSt k') M') : zW E m_H_restore 3 (zSt k) M 0 [some (.ref 0), some (.int x), none] [] Φ := by
  unfold aRestore at hk
  refine vc_H_restore_0 E k M x Φ ?_
  rcases in2 (y := x) with ⟨q1, q2⟩ | ⟨q1, q2, q3⟩ | ⟨q1, q2, q3, q4⟩ | ⟨q1, q2, q3, q4⟩
  · rw [q2] at hk
    exact ⟨fun _ => hk k M h (zMo_rfl _) (Nat.le_refl _), fun c => absurd q1 c⟩
  · rw [q3] at hk
    exact ⟨fun c => absurd c q1, fun _ => ⟨fun c => absurd c q2, fun _ => hk k M h (zMo_rfl _) (Nat.le_refl _)⟩⟩
  · rw [q4] at hk
    simp only [↓reduceIte] at hk
    refine ⟨fun c => absurd c q1, fun _ => ⟨fun _ => ⟨fun c => absurd q3 c, fun _ => ?_⟩, fun c => absurd q2 c⟩⟩
    refine restore_in h (Or.inl rfl) (ts_17 k) h.2.2.2.1.1 h.1.2.2.1 (fun e => ?_) (fun B e M' hc hm => ?_)
    · rw [e] at hk; exact hk k M h (zMo_rfl _) (Nat.le_refl _)
    · rw [e] at hk; exact hk k M' hc hm (Nat.le_refl _)
  · rw [q4] at hk
    simp only [Nat.one_ne_zero, ↓reduceIte] at hk
    refine ⟨fun c => absurd c q1, fun _ => ⟨fun _ => ⟨fun _ => ?_, fun c => absurd c q3⟩, fun c => absurd q2 c⟩⟩
    refine restore_in h (Or.inr rfl) (ts_31 k) h.2.2.2.1.2 h.1.2.2.2 (fun e => ?_) (fun B e M' hc hm => ?_)
    · rw [e] at hk; exact hk k M h (zMo_rfl _) (Nat.le_refl _)
    · rw [e] at hk; exact hk k M' hc hm (Nat.le_refl _)
def aNet (a : AS) (x : Int32) : Int32 := if x.toInt < 0 ∨ 5 < x.toInt then -2 else if x.toInt = 5 then nI (max (tTim a.2.1 2) (max (tTim a.2.1 3) (tTim a.2.1 4))) else if x.toInt = 0 then nI (netOf a.2.1).length else if x.toInt = 1 then (if (fEnd a.2.1).isSome = true then 1 else if ccn (netOf a.2.1) (netOf a.2.1).length = 0 then 0 else 2) else if x.toInt = 2 then oN (fEnd a.2.1) else if x.toInt = 3 then nI (dmx (netOf a.2.1) (netOf a.2.1).length) else nI (ccn (netOf a.2.1) (netOf a.2.1).length)
theorem H_net_ok {a : AS} {x : Int32} (h : zCI k M a) (hk : ∀ k' M', zCI k' M' a → zMo M M' → k ≤ k' → Φ (some (.int (aNet a x))) (zSt k') M') : zW E m_H_net 7 (zSt k) M 0 [some (.ref 0), some (.int x)] [] Φ := by
  unfold aNet at hk
  refine vc_H_net_0 E k M x Φ ?_
  rw [Int32.lt_iff_toInt_lt, Int32.toInt_zero, Int32.le_iff_toInt_le, (by decide : (5 : Int32).toInt = 5), ← Int32.toInt_inj, (by decide : (5 : Int32).toInt = 5)]
  refine ⟨fun c => ?_, fun c => ⟨fun c2 => ⟨fun c3 => ?_, fun c3 => ?_⟩, fun c2 => ?_⟩⟩
  · rw [if_pos (by omega)] at hk; exact hk k M h (zMo_rfl _) (Nat.le_refl _)
  · rw [if_neg (by omega), if_neg c3] at hk
    refine ci_refresh h (fun k4 M4 hC hN hA hm hkk => ⟨k4, rfl, rfl, ?_⟩)
    have hk := hk k4 M4 hC hm hkk
    obtain ⟨T, n1, n2, n3, n4, n5, n6⟩ := hN
    have hb := n1.1
    have hcc := ccn_le (netOf a.2.1) (netOf a.2.1).length
    have n4' : M4 50 10 = oN (fEnd a.2.1) := n4
    have hfe : oN (fEnd a.2.1) = -6 ↔ ¬ (fEnd a.2.1).isSome = true := by
      cases hf : fEnd a.2.1 with
      | none => exact ⟨fun _ => by simp, fun _ => rfl⟩
      | some e =>
        have := (fIx_some hf).2.1
        exact ⟨fun z => absurd z (nI_ne6 (by omega)), fun z => absurd rfl z⟩
    refine ⟨fun q => ?_, fun q => ?_, fun q => ?_, fun q => ?_, fun q => ?_⟩
    · rw [if_neg (by omega), if_neg (by omega), if_neg (by omega), if_neg (by omega)] at hk; rw [n6]; exact hk
    · rw [if_pos q] at hk; rw [n1.2.1]; exact hk
    · rw [if_neg (by omega), if_pos q] at hk
      refine vc_Net_verdict_0 E k4 M4 _ ?_
      rw [n4', n6]
      refine ⟨fun e => ⟨fun e2 => ⟨2, rfl, rfl, ?_⟩, fun e2 => ⟨0, rfl, rfl, ?_⟩⟩, fun e => ⟨1, rfl, rfl, ?_⟩⟩
      · rw [if_neg (hfe.mp e), if_neg (fun z => e2 (by rw [z]; rfl))] at hk; exact hk
      · rw [if_neg (hfe.mp e), if_pos ((nI_eq (b := 0) (by omega) (by decide)).mp e2)] at hk; exact hk
      · have z : (fEnd a.2.1).isSome = true := by
          by_cases z : (fEnd a.2.1).isSome = true
          · exact z
          · exact absurd (hfe.mpr z) e
        rw [if_pos z] at hk; exact hk
    · rw [if_neg (by omega), if_neg (by omega), if_pos q] at hk; rw [n4']; exact hk
    · rw [if_neg (by omega), if_neg (by omega), if_neg (by omega), if_pos q] at hk; rw [n5]; exact hk
  · rw [if_neg (by omega), if_pos c3] at hk
    refine Tally_count_ok h.1.2.1 h.2.2.1 (fun M7 t7 f7 => ⟨rfl, rfl, vc_Tally_mostOfAVariable_0 E k M7 _ ⟨_, rfl, rfl, ?_⟩⟩)
    have hl1 := h.1.2.1.1.1
    have hl2 := h.1.2.1.2.1.1
    have bd : ∀ s, tTim a.2.1 s < 2 ^ 31 := fun s => by
      have a1 := List.count_le_length (a := s) (l := a.2.1.1.1)
      have a2 := List.count_le_length (a := s) (l := a.2.1.1.2)
      unfold tTim
      omega
    have b2 := bd 2
    have b3 := bd 3
    have b4 := bd 4
    rw [(t7 2 (by decide)).1, (t7 3 (by decide)).1, (t7 4 (by decide)).1, nI_max b3 b4, nI_max b2 (by omega)]
    exact hk k M7 (zCI_scr h f7 (by decide)) (zMo_fr f7 (by decide)) (Nat.le_refl _)
  · rw [if_pos (by omega)] at hk; exact hk k M h (zMo_rfl _) (Nat.le_refl _)
def aBrief (a : AS) (x y : Int32) : Int32 := match inN 3 x with
  | none => -1
  | some v => match sIx (bfs a.2.1.2.1) (t3 a.2.1.2.2.1 v) with
    | none => -6
    | some e => szIt (dW (bfs a.2.1.2.1) e) y
theorem H_brief_ok {a : AS} {x y : Int32} (h : zCI k M a) (hk : ∀ k' M', zCI k' M' a → zMo M M' → k ≤ k' → Φ (some (.int (aBrief a x y))) (zSt k') M') : zW E m_H_brief 3 (zSt k) M 0 [some (.ref 0), some (.int x), some (.int y), none] [] Φ := by
  unfold aBrief at hk
  have hn : okn a.2.1.2.2.1 := h.1.2.1.2.2.2.1
  have hg := h.1.2.1.2.2.1
  have hD : okD (bfs a.2.1.2.1) := okD_P hg 27
  have h27 := okD_27 hD
  refine vc_H_brief_0 E k M x y Φ (H_isVariable_ok (fun v hv ev => ⟨1, rfl, rfl, fun _ => ?_, fun q => absurd q (by decide)⟩) (fun q => ⟨0, rfl, rfl, fun q => absurd rfl q, fun _ => ?_⟩))
  · rw [inN_s hv (by decide) ev] at hk
    simp only at hk
    rw [ev]
    obtain ⟨c1, c2, c3, ⟨c4, c5⟩, c6, ⟨c7, c8⟩, c9, c10⟩ := h
    refine Shorts_refresh_ok hg c3.2.2.1 c7 (fun M3 s3 e3 f3 => ⟨rfl, rfl, ?_⟩)
    rw [f3 3 (by decide), c3.2.2.2.2]
    refine Need_ofVariable_ok hn hv ⟨_, rfl, rfl, ?_⟩
    refine Shorts_firstFit_ok (okn_t3 hn v) hD s3.1 s3.2 (fun M5 s5 s5' e5 f5 => ⟨_, rfl, rfl, ?_⟩)
    have f : zfr M M5 [45, 46, 47, 48, 49] := zfr_tr f3 (zfr_mono f5 (by simp))
    have hC : zCI k M5 a := by
      refine ⟨c1, zRN_keep c2 f (by decide) (by decide), zBk_fr c3 f (by decide), ⟨zIm_fr c4 f (by decide), zIm_fr c5 f (by decide)⟩, zNz_fr c6 f (by decide), ⟨Or.inr ⟨by rw [e5, e3], s5, s5'⟩, ?_⟩, zTrS_fr c9 f (by decide), zTx_fr c10 f (by decide)⟩
      rcases c8 with c | ⟨n1, n2, n3, n4⟩
      · exact Or.inl (by rw [f 0 (by decide)]; exact c)
      · exact Or.inr ⟨by rw [f 0 (by decide)]; exact n1, by rw [e5, e3], zNet_fr n3 f (by decide), zAns_fr n4 f (by decide)⟩
    cases hs : sIx (bfs a.2.1.2.1) (t3 a.2.1.2.2.1 v) with
    | none =>
      rw [hs] at hk
      have e : fitv (bfs a.2.1.2.1) (t3 a.2.1.2.2.1 v) = -6 := by unfold fitv; rw [hs]; rfl
      exact ⟨fun q => absurd e q, fun _ => hk k M5 hC (zMo_fr f (by decide)) (Nat.le_refl _)⟩
    | some e =>
      rw [hs] at hk
      have he := sIx_lt hs
      have ef : fitv (bfs a.2.1.2.1) (t3 a.2.1.2.2.1 v) = nI e := by unfold fitv; rw [hs]; rfl
      rw [ef]
      refine ⟨fun _ => ?_, fun q => absurd q (nI_ne6 (by omega))⟩
      refine Shorts_write_ok (ts_81 k) (by decide) hD (by decide) s5 he (fun M7 x7 f7 => ⟨rfl, rfl, ?_⟩)
      have hl := (hD.2.2.2.1 e he).2.1
      refine sizeOrItem_ok (ts_81 k) x7 (by omega) ⟨_, rfl, rfl, hk k M7 (zCI_scr hC f7 (by decide)) (zMo_tr (zMo_fr f (by decide)) (zMo_fr f7 (by decide))) (Nat.le_refl _)⟩
  · rw [inN_n (by decide) q] at hk
    exact hk k M h (zMo_rfl _) (Nat.le_refl _)
end PUB5
