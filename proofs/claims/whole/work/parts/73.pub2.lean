/-! needs, answer, need, brief, spell, clear, take -/
section PUB2
variable {E : ZE} {k : Nat} {M M' : ZM} {Φ : Option Value → ZS → ZM → Prop} {B : AB}
def aNeeds (a : AS) (x y z : Int32) : Int32 := match inN (netOf a.2.1).length x, inN 3 y, inN 3 z with
  | some e, some v, some s => nI (dg (t3 (nN (netOf a.2.1) e).1.2 v) s)
  | _, _, _ => -1
theorem H_needs_ok {a : AS} {x y z : Int32} (h : zCI k M a) (hk : ∀ k' M', zCI k' M' a → zMo M M' → k ≤ k' → Φ (some (.int (aNeeds a x y z))) (zSt k') M') : zW E m_H_needs 7 (zSt k) M 0 [some (.ref 0), some (.int x), some (.int y), some (.int z), none] [] Φ := by
  refine vc_H_needs_0 E k M x y z Φ (ci_refresh h (fun k1 M1 hC hN hA hm hkk => ⟨k1, rfl, rfl, ?_⟩))
  have hk1 := hk k1 M1 hC hm hkk
  clear hk
  unfold aNeeds at hk1
  refine ci_at hN (fun e => ⟨none, rfl, rfl, fun _ => ?_, fun b c => (by cases c)⟩) (fun e he hl hz hok hd => ⟨some (na e), rfl, rfl, fun c => (by cases c), fun b c => ?_⟩)
  · rw [e] at hk1; exact hk1
  · cases c
    rw [he] at hk1
    refine ⟨hz, H_isVariable_ok (fun v hv ev => ⟨1, rfl, rfl, fun q => absurd q (by decide), fun _ => ?_⟩) (fun q => ⟨0, rfl, rfl, fun _ => ?_, fun q => absurd rfl q⟩)⟩
    · rw [inN_s hv (by decide) ev] at hk1
      refine H_isState_ok (fun s hs es => ⟨1, rfl, rfl, fun _ => ?_, fun q => absurd q (by decide)⟩) (fun q => ⟨0, rfl, rfl, fun q => absurd rfl q, fun _ => ?_⟩)
      · rw [inN_s hs (by decide) es] at hk1
        subst ev es
        rw [hd.2.2.1]
        exact Need_ofVariable_ok hok.1.2.2.1 hv ⟨_, rfl, rfl, Need_ofState_ok (okn_t3 hok.1.2.2.1 v) hs ⟨_, rfl, rfl, hk1⟩⟩
      · rw [inN_n (by decide) q] at hk1; exact hk1
    · rw [inN_n (by decide) q] at hk1; exact hk1
/-- the length, or an item -/
def szIt (xs : List Nat) (x : Int32) : Int32 := if x = -1 then nI xs.length else zat xs x
theorem sizeOrItem_ok {r L : Nat} {xs : List Nat} {x : Int32} (hr : zRow (zSt k) r L) (hx : zRN M r xs) (hl : xs.length ≤ L) (hk : Φ (some (.int (szIt xs x))) (zSt k) M) : zW E m_H_sizeOrItem 1 (zSt k) M 0 [some (.ref r), some (.int x)] [] Φ := by
  unfold szIt at hk
  refine vc_H_sizeOrItem_0 E k M r L x Φ hr ⟨fun c => ?_, fun c => ?_⟩
  · rw [if_neg c] at hk; exact Row_at_ok hr hx hl ⟨_, rfl, rfl, hk⟩
  · rw [if_pos c] at hk; exact Row_size_ok hr hx ⟨_, rfl, rfl, hk⟩
def aAnswer (a : AS) (x y : Int32) : Int32 := match inN 3 x with
  | none => -1
  | some v => match ansOf a.2.1 with
    | none => -3
    | some ws => szIt (l3 ws v) y
theorem H_answer_ok {a : AS} {x y : Int32} (h : zCI k M a) (hk : ∀ k' M', zCI k' M' a → zMo M M' → k ≤ k' → Φ (some (.int (aAnswer a x y))) (zSt k') M') : zW E m_H_answer 7 (zSt k) M 0 [some (.ref 0), some (.int x), some (.int y)] [] Φ := by
  unfold aAnswer at hk
  refine vc_H_answer_0 E k M x y Φ (H_isVariable_ok (fun v hv ev => ⟨1, rfl, rfl, fun _ => ?_, fun q => absurd q (by decide)⟩) (fun q => ⟨0, rfl, rfl, fun q => absurd rfl q, fun _ => ?_⟩))
  · rw [inN_s hv (by decide) ev] at hk
    simp only at hk
    refine ci_refresh h (fun k1 M1 hC hN hA hm hkk => ⟨k1, rfl, rfl, fun q => ?_, fun q => ?_⟩)
    · have hk := hk k1 M1 hC hm hkk
      cases ha : ansOf a.2.1 with
      | none => exact absurd (hA.1 ha) q
      | some ws =>
        rw [ha] at hk
        obtain ⟨b1, b2, b3⟩ := hA.2 ws ha
        subst ev
        exact Words_of_ok (ts_62 k1) hv ⟨_, 60, rfl, rfl, zWords_row (ts_62 k1) hv, sizeOrItem_ok (zWords_row (ts_62 k1) hv) (b2 v hv) (b3 v hv).1 ⟨_, rfl, rfl, hk⟩⟩
    · have hk := hk k1 M1 hC hm hkk
      cases ha : ansOf a.2.1 with
      | none => rw [ha] at hk; exact hk
      | some ws => rw [(hA.2 ws ha).1] at q; exact absurd q (by decide)
  · rw [inN_n (by decide) q] at hk
    exact hk k M h (zMo_rfl _) (Nat.le_refl _)
def aNeed (a : AS) (x y z : Int32) : Int32 × AS := match inN 3 x, inN 3 y with
  | some v, some s => match inN 8 z with
    | none => (-2, a)
    | some t => (nI (dg (t3 a.2.1.2.2.1 v) s), (a.1, (a.2.1.1, a.2.1.2.1, nset a.2.1.2.2.1 v (nst (t3 a.2.1.2.2.1 v) s t), a.2.1.2.2.2), a.2.2))
  | _, _ => (-1, a)
theorem in8 {y : Int32} : (y < 0 ∧ inN 8 y = none) ∨ (¬ y < 0 ∧ ¬ y ≤ 7 ∧ inN 8 y = none) ∨ (¬ y < 0 ∧ y ≤ 7 ∧ ∃ t, t < 8 ∧ y = nI t ∧ inN 8 y = some t) := by
  rw [Int32.lt_iff_toInt_lt, Int32.toInt_zero, Int32.le_iff_toInt_le, (by decide : (7 : Int32).toInt = 7)]
  by_cases c : y.toInt < 0
  · exact Or.inl ⟨c, by unfold inN; rw [if_neg (by omega)]⟩
  · by_cases c2 : y.toInt ≤ 7
    · obtain ⟨j, h1, h2⟩ := nI_of_rng (x := y) (by omega)
      have hj : j < 8 := by rw [h2, nI_toInt (by omega)] at c2; omega
      exact Or.inr (Or.inr ⟨c, c2, j, hj, h2, inN_s hj (by decide) h2⟩)
    · exact Or.inr (Or.inl ⟨c, c2, by unfold inN; rw [if_neg (by omega)]⟩)
theorem nst_lt {n s x : Nat} (hx : x < 8) : nst n s x < 512 := by
  unfold nst
  have h0 := dg_lt n 0
  have h1 := dg_lt n 1
  have h2 := dg_lt n 2
  refine (mkN_dg ?_ ?_ ?_).1 <;> split <;> assumption
theorem H_need_ok {a : AS} {x y z : Int32} (h : zCI k M a) (hk : ∀ k' M', zCI k' M' (aNeed a x y z).2 → zMo M M' → k ≤ k' → Φ (some (.int (aNeed a x y z).1)) (zSt k') M') : zW E m_H_need 1 (zSt k) M 0 [some (.ref 0), some (.int x), some (.int y), some (.int z), none] [] Φ := by
  unfold aNeed at hk
  have hn : okn a.2.1.2.2.1 := h.1.2.1.2.2.2.1
  have hb := h.2.2.1
  refine vc_H_need_0 E k M x y z Φ (H_isVariable_ok (fun v hv ev => ⟨1, rfl, rfl, fun q => absurd q (by decide), fun _ => ?_⟩) (fun q => ⟨0, rfl, rfl, fun _ => ?_, fun q => absurd rfl q⟩))
  · rw [inN_s hv (by decide) ev] at hk
    refine H_isState_ok (fun s hs es => ⟨1, rfl, rfl, fun _ => ?_, fun q => absurd q (by decide)⟩) (fun q => ⟨0, rfl, rfl, fun q => absurd rfl q, fun _ => ?_⟩)
    · rw [inN_s hs (by decide) es] at hk
      simp only at hk
      rcases in8 (y := z) with ⟨q1, q2⟩ | ⟨q1, q2, q3⟩ | ⟨q1, q2, t, ht, et, q4⟩
      · rw [q2] at hk
        exact ⟨fun _ => hk k M h (zMo_rfl _) (Nat.le_refl _), fun c => absurd q1 c⟩
      · rw [q3] at hk
        exact ⟨fun c => absurd c q1, fun _ => ⟨fun c => absurd c q2, fun _ => hk k M h (zMo_rfl _) (Nat.le_refl _)⟩⟩
      · rw [q4] at hk
        refine ⟨fun c => absurd c q1, fun _ => ⟨fun _ => ?_, fun c => absurd q2 c⟩⟩
        subst ev es et
        rw [hb.2.2.2.2]
        refine Need_ofVariable_ok hn hv ⟨_, rfl, rfl, Need_ofState_ok (okn_t3 hn v) hs ⟨_, rfl, rfl, ?_⟩⟩
        rw [hb.2.2.2.2]
        refine Need_withState_ok hn hv hs ht ⟨_, rfl, rfl, ?_⟩
        rintro _ rfl
        refine changed_ok (fun M11 z1 z2 f11 => ⟨rfl, rfl, ?_⟩)
        have f3 : zfr M (zms M 3 4 (nI (pkn (nset a.2.1.2.2.1 v (nst (t3 a.2.1.2.2.1 v) s t))))) [3] := zfr_ms _ _ _ _ (by simp)
        have f : zfr M M11 [0, 1, 2, 3, 4, 5, 6, 7, 8, 9, 10, 11, 12, 13, 14, 15, 16, 45] := zfr_tr (zfr_mono f3 (by simp)) (zfr_mono f11 (by simp))
        have fs : zfr M M11 [0, 3] := zfr_tr (zfr_mono f3 (by simp)) (zfr_mono f11 (by simp))
        have hB := h.1.2.1
        refine hk k M11 (zCI_book h f ⟨hB.1, hB.2.1, hB.2.2.1, okn_nset hn (nst_lt ht), hB.2.2.2.2⟩ ⟨zRN_keep hb.1 fs (by decide) (by decide), zRN_keep hb.2.1 fs (by decide) (by decide), zGo_keep hb.2.2.1 fs (by decide), fun v hv => zRN_keep (hb.2.2.2.1 v hv) fs (by simp; omega) (by simp; omega), ?_⟩ z1 z2 (zSd_fr h.2.2.2.2.2.1.1 fs (by decide)) (zRN_keep h.2.1 fs (by decide) (by decide)) h.1.1) (zMo_fr f (by decide)) (Nat.le_refl _)
        rw [f11 3 (by decide), zms_s]
    · rw [inN_n (by decide) q] at hk
      exact hk k M h (zMo_rfl _) (Nat.le_refl _)
  · rw [inN_n (by decide) q] at hk
    exact hk k M h (zMo_rfl _) (Nat.le_refl _)
end PUB2
