/-! load, leads, need: the book changes -/
theorem pf_idx : ∀ (xs : List Nat) (b : Bool) (l r : List Nat) (i j : Nat), pf xs b l r i = .inl j → j ≤ i + xs.length
  | [], b, l, r, i, j, h => by
    unfold pf at h
    split at h
    · cases h
    · cases h; simp
  | c :: cs, b, l, r, i, j, h => by
    rw [List.length_cons]
    unfold pf at h
    split at h
    · split at h
      · cases h; omega
      · have := pf_idx cs true l r (i + 1) j h; omega
    · cases hs : symN c with
      | none => rw [hs] at h; cases h; omega
      | some s =>
        rw [hs] at h
        cases b with
        | true =>
          simp only [↓reduceIte] at h
          split at h
          · have := pf_idx cs true l (r ++ [s]) (i + 1) j h; omega
          · cases h; omega
        | false =>
          simp only [Bool.false_eq_true, ↓reduceIte] at h
          split at h
          · have := pf_idx cs false (l ++ [s]) r (i + 1) j h; omega
          · cases h; omega
section BOOKS
variable {E : ZE} {k : Nat} {M M' : ZM} {Φ : Option Value → ZS → ZM → Prop}
theorem zCI_book {a : AS} {B' : AB} {xs : List Nat} (h : zCI k M a) (f : zfr M M' [0, 1, 2, 3, 4, 5, 6, 7, 8, 9, 10, 11, 12, 13, 14, 15, 16, 45]) (hB : okB B') (hb : zBk M' 3 B') (h12 : M' 0 12 = 0) (h13 : M' 0 13 = 0) (hs : zSd B' M') (hx : zRN M' 1 xs) (hl : xs.length ≤ 40 ∧ ∀ s ∈ xs, s < 1000) : zCI k M' (xs, B', a.2.2) := by
  obtain ⟨c1, c2, c3, ⟨c4, c5⟩, c6, ⟨c7, c8⟩, c9, c10⟩ := h
  exact ⟨⟨hl, hB, c1.2.2⟩, hx, hb, ⟨zIm_fr c4 f (by decide), zIm_fr c5 f (by decide)⟩, zNz_fr c6 f (by decide), ⟨hs, Or.inl h12⟩, Or.inl h13, zTx_fr c10 f (by decide)⟩
theorem changed_ok (hk : ∀ M', M' 0 12 = 0 → M' 0 13 = 0 → zfr M M' [0] → Φ none (zSt k) M') : zW E m_H_needsOrRowsChanged 0 (zSt k) M 0 [some (.ref 0)] [] Φ := by
  refine vc_H_needsOrRowsChanged_0 E k M Φ ?_
  rintro _ rfl _ rfl
  exact hk _ (by rw [zms_k _ _ (by decide), zms_s]) (zms_s _ _ _ _) (zfr_tr (zfr_ms _ _ _ _ (by simp)) (zfr_ms _ _ _ _ (by simp)))
theorem mchanged_ok (hk : ∀ M', M' 0 12 = 0 → M' 0 13 = 0 → M' 45 6 = 0 → zfr M M' [0, 45] → Φ none (zSt k) M') : zW E m_H_machineChanged 1 (zSt k) M 0 [some (.ref 0)] [] Φ := by
  refine vc_H_machineChanged_0 E k M Φ (Shorts_forget_ok ⟨rfl, rfl, changed_ok (fun M2 a1 a2 f2 => ⟨rfl, rfl, ?_⟩)⟩)
  exact hk M2 a1 a2 (by rw [f2 45 (by decide), zms_s]) (zfr_tr (zfr_ms _ _ _ _ (by simp)) (zfr_mono f2 (by simp)))
def aLoad (a : AS) : Int32 × AS := match pf a.1 false [] [] 0 with
  | .inl _ => (-5, a)
  | .inr q => (nI (q.1.length + q.2.length), ([], (q, a.2.1.2), a.2.2))
theorem H_load_ok {a : AS} (h : zCI k M a) (hk : ∀ k' M', zCI k' M' (aLoad a).2 → zMo M M' → k ≤ k' → Φ (some (.int (aLoad a).1)) (zSt k') M') : zW E m_H_load 2 (zSt k) M 0 [some (.ref 0)] [] Φ := by
  unfold aLoad at hk
  have hl := h.1.1.1
  cases hp : pf a.1 false [] [] 0 with
  | inl i =>
    rw [hp] at hk
    refine vc_H_load_0 E k M Φ (firstFault_ok h.2.1 h.1.1.1 h.1.1.2 ⟨_, rfl, rfl, fun q => ?_, fun _ => hk k M h (zMo_rfl _) (Nat.le_refl _)⟩)
    rw [hp] at q
    have hi := pf_idx a.1 false [] [] 0 i hp
    exact absurd q (nI_ne6 (by omega))
  | inr q =>
    obtain ⟨L, R⟩ := q
    rw [hp] at hk
    refine vc_H_load_0 E k M Φ (firstFault_ok h.2.1 h.1.1.1 h.1.1.2 ⟨_, rfl, rfl, fun _ => ?_, fun c => absurd (by rw [hp]; rfl) c⟩)
    obtain ⟨r1, r2⟩ := pf_rows a.1 false [] [] 0 L R hp (by decide) (by decide) (by simp) (by simp)
    refine pourPad_ok h.2.1 h.1.1.1 h.1.1.2 hp (fun M3 x4 x6 x1 f3 => ⟨rfl, rfl, ?_⟩)
    refine changed_ok (fun M4 z1 z2 f4 => ⟨rfl, rfl, ?_⟩)
    have y4 := zRN_keep x4 f4 (by decide) (by decide)
    have y6 := zRN_keep x6 f4 (by decide) (by decide)
    refine Row_size_ok (ts_4 k) y4 ⟨_, rfl, rfl, Row_size_ok (ts_6 k) y6 ⟨_, rfl, rfl, ?_⟩⟩
    rw [nI_addN]
    have f : zfr M M4 [0, 1, 2, 3, 4, 5, 6, 7, 8, 9, 10, 11, 12, 13, 14, 15, 16, 45] := zfr_tr (zfr_mono f3 (by simp)) (zfr_mono f4 (by simp))
    have fs : zfr M M4 [0, 1, 4, 5, 6, 7] := zfr_tr (zfr_mono f3 (by simp)) (zfr_mono f4 (by simp))
    have hb := h.2.2.1
    exact hk k M4 (zCI_book h f ⟨r1, r2, h.1.2.1.2.2⟩ ⟨y4, y6, zGo_keep hb.2.2.1 fs (by decide), fun v hv => zRN_keep (hb.2.2.2.1 v hv) fs (by simp; omega) (by simp; omega), by rw [fs 3 (by decide)]; exact hb.2.2.2.2⟩ z1 z2 (zSd_fr h.2.2.2.2.2.1.1 fs (by decide)) (zRN_keep x1 f4 (by decide) (by decide)) ⟨by simp, by simp⟩) (zMo_fr f (by decide)) (Nat.le_refl _)
theorem H_isState_ok {x : Int32} (h1 : ∀ v, v < 3 → x = nI v → Φ (some (.int 1)) (zSt k) M) (h0 : (x < 0 ∨ 3 ≤ x) → Φ (some (.int 0)) (zSt k) M) : zW E m_H_isState 0 (zSt k) M 0 [some (.int x)] [] Φ := by
  refine vc_H_isState_0 E k M x Φ ⟨fun c => h0 (Or.inl c), fun c => ⟨fun c2 => h0 (Or.inr c2), fun c2 => ?_⟩⟩
  rcases H_in3 (x := x) with (h | h) | ⟨v, h, e⟩
  · exact absurd h c
  · exact absurd h c2
  · exact h1 v h e
theorem H_isLetter_ok {x : Int32} (h1 : ∀ v, v < 2 → x = nI v → Φ (some (.int 1)) (zSt k) M) (h0 : (x < 0 ∨ 2 ≤ x) → Φ (some (.int 0)) (zSt k) M) : zW E m_H_isLetter 0 (zSt k) M 0 [some (.int x)] [] Φ := by
  refine vc_H_isLetter_0 E k M x Φ ⟨fun c => h0 (Or.inl c), fun c => ⟨fun c2 => h0 (Or.inr c2), fun c2 => ?_⟩⟩
  rcases H_in3 (x := x) with (h | h) | ⟨v, h, e⟩
  · exact absurd h c
  · have : (2 : Int32) ≤ x := by
      rw [Int32.le_iff_toInt_le] at h ⊢
      rw [(by decide : (3 : Int32).toInt = 3)] at h
      rw [(by decide : (2 : Int32).toInt = 2)]
      omega
    exact absurd this c2
  · refine h1 v ?_ e
    by_cases q : v < 2
    · exact q
    · rw [e] at c2
      exact absurd ((nI_leI (a := 2) (by decide) (by omega)).mpr (by omega)) c2
/-- a number below n -/
def inN (n : Nat) (x : Int32) : Option Nat := if 0 ≤ x.toInt ∧ x.toInt < n then some x.toInt.toNat else none
theorem inN_s {n v : Nat} {x : Int32} (hv : v < n) (hn : n < 2 ^ 31) (e : x = nI v) : inN n x = some v := by
  unfold inN
  rw [e, nI_toInt (by omega), if_pos (by omega)]
  rfl
theorem inN_n {n : Nat} {x : Int32} (hn : n < 2 ^ 31) (h : x < 0 ∨ nI n ≤ x) : inN n x = none := by
  unfold inN
  rw [if_neg]
  rintro ⟨a1, a2⟩
  rcases h with h | h
  · rw [Int32.lt_iff_toInt_lt, Int32.toInt_zero] at h; omega
  · rw [Int32.le_iff_toInt_le, nI_toInt hn] at h; omega
def aLeads (a : AS) (x y z : Int32) : Int32 × AS := match inN 3 x, inN 2 y, inN 3 z with
  | some s, some l, some t => (nI (a.2.1.2.1 (3 * l + s)), (a.1, (a.2.1.1, zup a.2.1.2.1 (3 * l + s) t, a.2.1.2.2), a.2.2))
  | _, _, _ => (-1, a)
theorem H_leads_ok {a : AS} {x y z : Int32} (h : zCI k M a) (hk : ∀ k' M', zCI k' M' (aLeads a x y z).2 → zMo M M' → k ≤ k' → Φ (some (.int (aLeads a x y z).1)) (zSt k') M') : zW E m_H_leads 2 (zSt k) M 0 [some (.ref 0), some (.int x), some (.int y), some (.int z), none] [] Φ := by
  unfold aLeads at hk
  refine vc_H_leads_0 E k M x y z Φ ?_
  refine H_isState_ok (fun s hs ex => ⟨1, rfl, rfl, fun q => absurd q (by decide), fun _ => ?_⟩) (fun q => ⟨0, rfl, rfl, fun _ => ?_, fun q => absurd rfl q⟩)
  · rw [inN_s hs (by decide) ex] at hk
    refine H_isLetter_ok (fun l hl ey => ⟨1, rfl, rfl, fun q => absurd q (by decide), fun _ => ?_⟩) (fun q => ⟨0, rfl, rfl, fun _ => ?_, fun q => absurd rfl q⟩)
    · rw [inN_s hl (by decide) ey] at hk
      refine H_isState_ok (fun t ht ez => ⟨1, rfl, rfl, fun _ => ?_, fun q => absurd q (by decide)⟩) (fun q => ⟨0, rfl, rfl, fun q => absurd rfl q, fun _ => ?_⟩)
      · rw [inN_s ht (by decide) ez] at hk
        subst ex ey ez
        have hb := h.2.2.1
        refine Machine_after_ok (ts_8 k) hb.2.2.1 hs hl ⟨_, rfl, rfl, ?_⟩
        refine Machine_turn_ok (ts_8 k) hb.2.2.1 hs hl (fun M8 g8 f8 => ⟨rfl, rfl, ?_⟩)
        refine mchanged_ok (fun M9 z1 z2 z3 f9 => ⟨rfl, rfl, ?_⟩)
        have f : zfr M M9 [0, 1, 2, 3, 4, 5, 6, 7, 8, 9, 10, 11, 12, 13, 14, 15, 16, 45] := zfr_tr (zfr_mono f8 (by simp)) (zfr_mono f9 (by simp))
        have fs : zfr M M9 [0, 9, 45] := zfr_tr (zfr_mono f8 (by simp)) (zfr_mono f9 (by simp))
        have hg := h.1.2.1.2.2.1
        refine hk k M9 (zCI_book h f ⟨h.1.2.1.1, h.1.2.1.2.1, fun j hj => ?_, h.1.2.1.2.2.2⟩ ⟨zRN_keep hb.1 fs (by decide) (by decide), zRN_keep hb.2.1 fs (by decide) (by decide), zGo_keep g8 f9 (by decide), fun v hv => zRN_keep (hb.2.2.2.1 v hv) fs (by simp; omega) (by simp; omega), by rw [fs 3 (by decide)]; exact hb.2.2.2.2⟩ z1 z2 (Or.inl z3) (zRN_keep h.2.1 fs (by decide) (by decide)) h.1.1) (zMo_fr f (by decide)) (Nat.le_refl _)
        show zup a.2.1.2.1 (3 * l + s) t j < 3
        unfold zup
        split
        · exact ht
        · exact hg j hj
      · rw [inN_n (by decide) q] at hk
        exact hk k M h (zMo_rfl _) (Nat.le_refl _)
    · rw [inN_n (by decide) q] at hk
      exact hk k M h (zMo_rfl _) (Nat.le_refl _)
  · rw [inN_n (by decide) q] at hk
    exact hk k M h (zMo_rfl _) (Nat.le_refl _)
end BOOKS
