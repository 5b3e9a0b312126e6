/-! shortest -/
/-- what shortest answers -/
def isSh (B : AB) (x r : Int32) : Prop := (x ≠ -1 ∧ inN 3 x = none ∧ r = -1) ∨ ((x = -1 ∨ inN 3 x ≠ none) ∧ ((noB B ∧ r = -6) ∨ ∃ p q s, isB B p q s ∧ ((x = -1 ∧ r = nI (szt p q s)) ∨ ∃ v, v < 3 ∧ x = nI v ∧ r = nI (cdw (fz p q s (v + 2))))))
section SHORT
variable {E : ZE} {k : Nat} {M M' : ZM} {Φ : Option Value → ZS → ZM → Prop} {B : AB}
theorem shortest_end {a : AS} {x : Int32} (h : zCI k M a) (hT : zTrl a.2.1 M) (hx : x = -1 ∨ ∃ v, v < 3 ∧ x = nI v) (hk : ∀ r, isSh a.2.1 x r → Φ (some (.int r)) (zSt k) M) :
    (¬ M 69 4 = -6 → (¬ x = -1 → zW E m_Trial_codeOf 1 (zSt k) M 0 [some (.ref 69), some (.int x), none, none, none] [] (fun q5 T5 M5 => ∃ y5 : Int32, q5 = some (.int y5) ∧ (zSt k) = T5 ∧ Φ (some (.int y5)) (zSt k) M5)) ∧ (x = -1 → Φ (some (.int (M 69 4))) (zSt k) M)) ∧ (M 69 4 = -6 → Φ (some (.int (-6))) (zSt k) M) := by
  have hx' : x = -1 ∨ inN 3 x ≠ none := by
    rcases hx with e | ⟨v, hv, e⟩
    · exact Or.inl e
    · exact Or.inr (by rw [inN_s hv (by decide) e]; simp)
  rcases hT with ⟨t1, t2⟩ | ⟨p, q, s, t1, t2, t3'⟩
  · exact ⟨fun c => absurd t1 c, fun _ => hk _ (Or.inr ⟨hx', Or.inl ⟨t2, rfl⟩⟩)⟩
  · have h9 := szt_9 t1.1.1 t1.1.2.1 t1.1.2.2
    refine ⟨fun _ => ⟨fun c => ?_, fun c => ?_⟩, fun c => ?_⟩
    · rcases hx with e | ⟨v, hv, e⟩
      · exact absurd e c
      · rw [e]
        rw [e] at hk hx'
        exact codeOf_ok hv (fz_lt t1.1.1 t1.1.2.1 t1.1.2.2 _) (t3' (v + 2) (by omega)) ⟨_, rfl, rfl, hk _ (Or.inr ⟨hx', Or.inr ⟨p, q, s, t1, Or.inr ⟨v, hv, rfl, rfl⟩⟩⟩)⟩
    · rw [t2]
      exact hk _ (Or.inr ⟨hx', Or.inr ⟨p, q, s, t1, Or.inl ⟨c, rfl⟩⟩⟩)
    · rw [t2] at c
      exact absurd c (nI_ne6 (by omega))
theorem shortest_go {a : AS} {x : Int32} (h : zCI k M a) (hx : x = -1 ∨ ∃ v, v < 3 ∧ x = nI v) (hk : ∀ r k' M', isSh a.2.1 x r → zCI k' M' a → zMo M M' → k ≤ k' → Φ (some (.int r)) (zSt k') M') :
    (¬ M 0 13 = 0 → (¬ M 69 4 = -6 → (¬ x = -1 → zW E m_Trial_codeOf 1 (zSt k) M 0 [some (.ref 69), some (.int x), none, none, none] [] (fun q5 T5 M5 => ∃ y5 : Int32, q5 = some (.int y5) ∧ (zSt k) = T5 ∧ Φ (some (.int y5)) (zSt k) M5)) ∧ (x = -1 → Φ (some (.int (M 69 4))) (zSt k) M)) ∧ (M 69 4 = -6 → Φ (some (.int (-6))) (zSt k) M)) ∧
    (M 0 13 = 0 → zW E m_Tally_count 2 (zSt k) M 0 [some (.ref 74), some (.ref 3)] [] (fun q6 T6 M6 => q6 = none ∧ (zSt k) = T6 ∧ zW E m_Trial_seek 4 (zSt k) M6 0 [some (.ref 69), some (.ref 3), some (.ref 74), none] [] (fun q7 T7 M7 => q7 = none ∧ (zSt k) = T7 ∧ ∀ M8 : ZM, M8 = zms M7 0 13 1 →
      (¬ M8 69 4 = -6 → (¬ x = -1 → zW E m_Trial_codeOf 1 (zSt k) M8 0 [some (.ref 69), some (.int x), none, none, none] [] (fun q5 T5 M5 => ∃ y5 : Int32, q5 = some (.int y5) ∧ (zSt k) = T5 ∧ Φ (some (.int y5)) (zSt k) M5)) ∧ (x = -1 → Φ (some (.int (M8 69 4))) (zSt k) M8)) ∧ (M8 69 4 = -6 → Φ (some (.int (-6))) (zSt k) M8)))) := by
  constructor
  · intro c
    rcases h.2.2.2.2.2.2.1 with t | ⟨-, t⟩
    · exact absurd t c
    · exact shortest_end h t hx (fun r hr => hk r k M hr h (zMo_rfl _) (Nat.le_refl _))
  · intro c
    refine Tally_count_ok h.1.2.1 h.2.2.1 (fun M6 t6 f6 => ⟨rfl, rfl, ?_⟩)
    have h6 := zCI_scr h f6 (by decide)
    refine seek_ok h.1.2.1 h6.2.2.1 t6 h6.2.2.2.2.2.2.2 (fun M7 t7 x7 f7 => ⟨rfl, rfl, ?_⟩)
    rintro _ rfl
    have f8 : zfr M7 (zms M7 0 13 1) [0] := zfr_ms _ _ _ _ (by simp)
    have f : zfr M6 (zms M7 0 13 1) [0, 69, 70, 71, 72, 73] := zfr_tr (zfr_mono f7 (by simp)) (zfr_mono f8 (by simp))
    have t8 : zTrl a.2.1 (zms M7 0 13 1) := zTrl_eq t7 (f8 69 (by decide)) (f8 72 (by decide)) (f8 73 (by decide))
    obtain ⟨c1, c2, c3, ⟨c4, c5⟩, c6, ⟨c7, c8⟩, c9, c10⟩ := h6
    have hC : zCI k (zms M7 0 13 1) a := by
      refine ⟨c1, zRN_keep c2 f (by decide) (by decide), zBk_fr c3 f (by decide), ⟨zIm_fr c4 f (by decide), zIm_fr c5 f (by decide)⟩, zNz_fr c6 f (by decide), ⟨zSd_fr c7 f (by decide), ?_⟩, Or.inr ⟨zms_s _ _ _ _, t8⟩, zTx_fr x7 f8 (by decide)⟩
      have e12 : zms M7 0 13 1 0 12 = M6 0 12 := by rw [zms_k _ _ (by decide), f7 0 (by decide)]
      rcases c8 with q | ⟨n1, n2, n3, n4⟩
      · exact Or.inl (by rw [e12]; exact q)
      · exact Or.inr ⟨by rw [e12]; exact n1, by rw [f 45 (by decide)]; exact n2, zNet_fr n3 f (by decide), zAns_fr n4 f (by decide)⟩
    exact shortest_end hC t8 hx (fun r hr => hk r k _ hr hC (zMo_tr (zMo_fr f6 (by decide)) (zMo_fr f (by decide))) (Nat.le_refl _))
theorem H_shortest_ok {a : AS} {x : Int32} (h : zCI k M a) (hk : ∀ r k' M', isSh a.2.1 x r → zCI k' M' a → zMo M M' → k ≤ k' → Φ (some (.int r)) (zSt k') M') : zW E m_H_shortest 5 (zSt k) M 0 [some (.ref 0), some (.int x)] [] Φ := by
  refine vc_H_shortest_0 E k M x Φ ⟨fun e => shortest_go h (Or.inl e) hk, fun e => ?_⟩
  refine H_isVariable_ok (fun v hv ev => ⟨1, rfl, rfl, fun _ => shortest_go h (Or.inr ⟨v, hv, ev⟩) hk, fun q => absurd q (by decide)⟩) (fun q => ⟨0, rfl, rfl, fun q => absurd rfl q, fun _ => ?_⟩)
  exact hk (-1) k M (Or.inl ⟨e, inN_n (by decide) q, rfl⟩) h (zMo_rfl _) (Nat.le_refl _)
end SHORT
