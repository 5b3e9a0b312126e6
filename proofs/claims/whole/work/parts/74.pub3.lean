/-! brief, spell, clear, take, fits -/
section PUB3
variable {E : ZE} {k : Nat} {M M' : ZM} {Φ : Option Value → ZS → ZM → Prop} {B : AB}
def setW (B : AB) (w : W3) : AB := (B.1, B.2.1, B.2.2.1, w)
theorem setW_g (B : AB) (w : W3) : (setW B w).2.1 = B.2.1 := rfl
theorem setW_0 (B : AB) (w : W3) : nd00 (setW B w) = nd00 B := rfl
theorem netOf_w (B : AB) (w : W3) : netOf (setW B w) = netOf B := by
  unfold netOf
  rw [setW_g, setW_0]
theorem tgt_w (B : AB) (w : W3) (e : Nat) : tgt (setW B w) e = tgt B e := by
  unfold tgt
  rw [setW_g, setW_0]
theorem ansOf_w (B : AB) (w : W3) : ansOf (setW B w) = ansOf B := by
  unfold ansOf fEnd
  rw [setW_g, netOf_w]
theorem zNs_w {w : W3} (h : zNs B k M) : zNs (setW B w) k M := by
  unfold zNs zNet zAns at h ⊢
  rw [ansOf_w, netOf_w, setW_g]
  simp only [tgt_w]
  exact h
theorem gd_w (B : AB) (w : W3) (x y z : Nat) : gd (setW B w) x y z = gd B x y z := rfl
theorem zTrS_w {w : W3} (h : zTrS B M) : zTrS (setW B w) M := by
  unfold zTrS zTrl noB isB at h ⊢
  simp only [gd_w]
  exact h
theorem zCI_words {a : AS} {w : W3} (h : zCI k M a) (f : zfr M M' [11, 12, 13, 14, 15, 16]) (hw : zWd M' 10 w) (ho : okw w 12) : zCI k M' (a.1, setW a.2.1 w, a.2.2) := by
  obtain ⟨c1, c2, c3, ⟨c4, c5⟩, c6, ⟨c7, c8⟩, c9, c10⟩ := h
  exact ⟨⟨c1.1, ⟨c1.2.1.1, c1.2.1.2.1, c1.2.1.2.2.1, c1.2.1.2.2.2.1, ho⟩, c1.2.2⟩, zRN_keep c2 f (by decide) (by decide), ⟨zRN_keep c3.1 f (by decide) (by decide), zRN_keep c3.2.1 f (by decide) (by decide), zGo_keep c3.2.2.1 f (by decide), hw, by rw [f 3 (by decide)]; exact c3.2.2.2.2⟩, ⟨zIm_fr c4 f (by decide), zIm_fr c5 f (by decide)⟩, zNz_fr c6 f (by decide), ⟨zSd_fr (B := setW a.2.1 w) c7 f (by decide), zNs_w (zNs_fr c8 f (by decide))⟩, zTrS_w (zTrS_fr c9 f (by decide)), zTx_fr c10 f (by decide)⟩
theorem zfr_11 {v : Nat} (hv : v < 3) (f : zfr M M' [10 + 1 + 2 * v, 10 + 1 + 2 * v + 1]) : zfr M M' [11, 12, 13, 14, 15, 16] := zfr_mono f (by simp; omega)
def aSpell (a : AS) (x y : Int32) : Int32 × AS := match inN 3 x, inN 2 y with
  | some v, some l => if (l3 a.2.1.2.2.2 v).length < 12 then (nI ((l3 a.2.1.2.2.2 v).length + 1), (a.1, setW a.2.1 (lset a.2.1.2.2.2 v (l3 a.2.1.2.2.2 v ++ [l])), a.2.2)) else (-4, a)
  | _, _ => (-1, a)
theorem H_spell_ok {a : AS} {x y : Int32} (h : zCI k M a) (hk : ∀ k' M', zCI k' M' (aSpell a x y).2 → zMo M M' → k ≤ k' → Φ (some (.int (aSpell a x y).1)) (zSt k') M') : zW E m_H_spell 1 (zSt k) M 0 [some (.ref 0), some (.int x), some (.int y), none] [] Φ := by
  unfold aSpell at hk
  have hw := h.2.2.1.2.2.2.1
  have ho := h.1.2.1.2.2.2.2
  refine vc_H_spell_0 E k M x y Φ (H_isVariable_ok (fun v hv ev => ⟨1, rfl, rfl, fun q => absurd q (by decide), fun _ => ?_⟩) (fun q => ⟨0, rfl, rfl, fun _ => ?_, fun q => absurd rfl q⟩))
  · rw [inN_s hv (by decide) ev] at hk
    refine H_isLetter_ok (fun l hl el => ⟨1, rfl, rfl, fun _ => ?_, fun q => absurd q (by decide)⟩) (fun q => ⟨0, rfl, rfl, fun q => absurd rfl q, fun _ => ?_⟩)
    · rw [inN_s hl (by decide) el] at hk
      simp only at hk
      rw [ev, el]
      have hr := zWords_row (ts_10 k) hv
      refine Words_of_ok (ts_10 k) hv ⟨_, 12, rfl, rfl, hr, ?_⟩
      refine Row_push_ok hr (hw v hv) (ho v hv).1 (fun hlen M6 x6 f6 => ⟨1, rfl, rfl, fun q => absurd q (by decide), fun _ => ?_⟩) (fun hlen => ⟨0, rfl, rfl, fun _ => ?_, fun q => absurd rfl q⟩)
      · rw [if_pos hlen] at hk
        refine Row_size_ok hr x6 ⟨_, rfl, rfl, ?_⟩
        rw [List.length_append]
        refine hk k M6 (zCI_words h (zfr_11 hv f6) (zWd_set hw hv x6 (zfi_of f6 (by simp <;> omega))) (okw_set ho hv (by simp; omega) (fun y hy => ?_))) (zMo_fr (zfr_11 hv f6) (by decide)) (Nat.le_refl _)
        rcases List.mem_append.mp hy with q | q
        · exact (ho v hv).2 y q
        · rw [List.mem_singleton.mp q]; exact hl
      · rw [if_neg (by omega)] at hk
        exact hk k M h (zMo_rfl _) (Nat.le_refl _)
    · rw [inN_n (by decide) q] at hk
      exact hk k M h (zMo_rfl _) (Nat.le_refl _)
  · rw [inN_n (by decide) q] at hk
    exact hk k M h (zMo_rfl _) (Nat.le_refl _)
def aClear (a : AS) (x : Int32) : Int32 × AS := match inN 3 x with
  | some v => (nI (l3 a.2.1.2.2.2 v).length, (a.1, setW a.2.1 (lset a.2.1.2.2.2 v []), a.2.2))
  | none => (-1, a)
theorem H_clear_ok {a : AS} {x : Int32} (h : zCI k M a) (hk : ∀ k' M', zCI k' M' (aClear a x).2 → zMo M M' → k ≤ k' → Φ (some (.int (aClear a x).1)) (zSt k') M') : zW E m_H_clear 1 (zSt k) M 0 [some (.ref 0), some (.int x), none, none] [] Φ := by
  unfold aClear at hk
  have hw := h.2.2.1.2.2.2.1
  have ho := h.1.2.1.2.2.2.2
  refine vc_H_clear_0 E k M x Φ (H_isVariable_ok (fun v hv ev => ⟨1, rfl, rfl, fun _ => ?_, fun q => absurd q (by decide)⟩) (fun q => ⟨0, rfl, rfl, fun q => absurd rfl q, fun _ => ?_⟩))
  · rw [inN_s hv (by decide) ev] at hk
    simp only at hk
    rw [ev]
    have hr := zWords_row (ts_10 k) hv
    refine Words_of_ok (ts_10 k) hv ⟨_, 12, rfl, rfl, hr, Row_size_ok hr (hw v hv) ⟨_, rfl, rfl, Row_makeEmpty_ok hr (fun M5 x5 f5 => ⟨rfl, rfl, ?_⟩)⟩⟩
    have f5' : zfr M M5 [10 + 1 + 2 * v, 10 + 1 + 2 * v + 1] := zfr_mono f5 (by simp)
    exact hk k M5 (zCI_words h (zfr_11 hv f5') (zWd_set hw hv x5 (zfi_of f5' (by simp <;> omega))) (okw_set ho hv (by simp) (by simp))) (zMo_fr (zfr_11 hv f5') (by decide)) (Nat.le_refl _)
  · rw [inN_n (by decide) q] at hk
    exact hk k M h (zMo_rfl _) (Nat.le_refl _)
def aTake (a : AS) : Int32 × AS := match ansOf a.2.1 with
  | none => (-3, a)
  | some w => if max w.1.length (max w.2.1.length w.2.2.length) ≤ 12 then (nI (w.1.length + w.2.1.length + w.2.2.length), (a.1, setW a.2.1 w, a.2.2)) else (-4, a)
theorem H_take_ok {a : AS} (h : zCI k M a) (hk : ∀ k' M', zCI k' M' (aTake a).2 → zMo M M' → k ≤ k' → Φ (some (.int (aTake a).1)) (zSt k') M') : zW E m_H_take 7 (zSt k) M 0 [some (.ref 0)] [] Φ := by
  unfold aTake at hk
  refine vc_H_take_0 E k M Φ (ci_refresh h (fun k1 M1 hC hN hA hm hkk => ⟨k1, rfl, rfl, fun q => ?_, fun q => ?_⟩))
  · cases ha : ansOf a.2.1 with
    | none => exact absurd (hA.1 ha) q
    | some w =>
      rw [ha] at hk
      simp only at hk
      obtain ⟨b1, b2, b3⟩ := hA.2 w ha
      have l0 := (b3 0 (by decide)).1
      have l1 := (b3 1 (by decide)).1
      have l2 := (b3 2 (by decide)).1
      have e0 : l3 w 0 = w.1 := rfl
      have e1 : l3 w 1 = w.2.1 := rfl
      have e2 : l3 w 2 = w.2.2 := rfl
      rw [e0] at l0
      rw [e1] at l1
      rw [e2] at l2
      refine Words_longest_ok (ts_62 k1) b2 (fun v hv => (b3 v hv).1) ⟨_, rfl, rfl, ?_⟩
      have e12 : nI (max w.1.length (max w.2.1.length w.2.2.length)) ≤ 12 ↔ max w.1.length (max w.2.1.length w.2.2.length) ≤ 12 := nI_leI (b := 12) (by omega) (by decide)
      rw [e12]
      refine ⟨fun q2 => ?_, fun q2 => ?_⟩
      · rw [if_pos q2] at hk
        have hl : ∀ v, v < 3 → (l3 w v).length ≤ 12 := fun v hv => by
          rcases (show v = 0 ∨ v = 1 ∨ v = 2 by omega) with rfl | rfl | rfl
          · rw [e0]; omega
          · rw [e1]; omega
          · rw [e2]; omega
        refine Words_copy_ok (ts_10 k1) (ts_62 k1) (by omega) b2 (fun v hv => ⟨hl v hv, (b3 v hv).1⟩) (fun M5 x5 f5 => ⟨rfl, rfl, ?_⟩)
        refine Words_together_ok (ts_10 k1) x5 ⟨_, rfl, rfl, ?_⟩
        have f5' : zfr M1 M5 [11, 12, 13, 14, 15, 16] := fun p hp => f5 p (by simp at hp; omega)
        exact hk k1 M5 (zCI_words hC f5' x5 (fun v hv => ⟨hl v hv, (b3 v hv).2⟩)) (zMo_tr hm (zMo_fr f5' (by decide))) hkk
      · rw [if_neg q2] at hk
        exact hk k1 M1 hC hm hkk
  · cases ha : ansOf a.2.1 with
    | none => rw [ha] at hk; exact hk k1 M1 hC hm hkk
    | some w => rw [(hA.2 w ha).1] at q; exact absurd q (by decide)
end PUB3
