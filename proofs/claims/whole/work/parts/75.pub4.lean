/-! fits, net, image, restore -/
section PUB4
variable {E : ZE} {k : Nat} {M M' : ZM} {Φ : Option Value → ZS → ZM → Prop} {B : AB}
theorem zCI_scr {a : AS} {A : List Nat} (h : zCI k M a) (f : zfr M M' A) (hA : ∀ p ∈ A, 74 ≤ p ∧ p < 83) : zCI k M' a := by
  obtain ⟨c1, c2, c3, ⟨c4, c5⟩, c6, ⟨c7, c8⟩, c9, c10⟩ := h
  have n : ∀ p, p < 74 → p ∉ A := fun p hp q => by have := hA p q; omega
  exact ⟨c1, zRN_keep c2 f (n _ (by decide)) (n _ (by decide)), zBk_fr c3 f (fun p q => by have := hA p q; omega), ⟨zIm_fr c4 f (fun p q => by have := hA p q; omega), zIm_fr c5 f (fun p q => by have := hA p q; omega)⟩, zNz_fr c6 f (fun p q => by have := hA p q; omega), ⟨zSd_fr c7 f (fun p q => by have := hA p q; omega), zNs_fr c8 f (fun p q => by have := hA p q; omega)⟩, zTrS_fr c9 f (fun p q => by have := hA p q; omega), zTx_fr c10 f (fun p q => by have := hA p q; omega)⟩
def aFits (a : AS) : Int32 := if out a.2.1.2.2.2 a.2.1.1.1 = out a.2.1.2.2.2 a.2.1.1.2 then (if meets a.2.1.2.1 a.2.1.2.2.1 a.2.1.2.2.2 = true then 0 else 1) else (if meets a.2.1.2.1 a.2.1.2.2.1 a.2.1.2.2.2 = true then 2 else 3)
theorem out_lt {ws : W3} (hw : okw ws 12) {xs : List Nat} (hs : ∀ s ∈ xs, s < 5) : ∀ y ∈ out ws xs, y < 2 ^ 31 := by
  intro y hy
  obtain ⟨s, h1, h2⟩ := List.mem_flatMap.mp hy
  have := hs s h1
  by_cases c : s < 2
  · rw [if_pos c] at h2
    rw [List.mem_singleton.mp h2]; omega
  · rw [if_neg c] at h2
    have := (hw (s - 2) (by omega)).2 y h2
    omega
theorem H_fits_ok {a : AS} (h : zCI k M a) (hk : ∀ k' M', zCI k' M' a → zMo M M' → k ≤ k' → Φ (some (.int (aFits a))) (zSt k') M') : zW E m_H_fits 4 (zSt k) M 0 [some (.ref 0), none, none] [] Φ := by
  unfold aFits at hk
  have hB := h.1.2.1
  have hb := h.2.2.1
  have hw : ∀ v, v < 3 → (l3 a.2.1.2.2.2 v).length ≤ 12 ∧ (l3 a.2.1.2.2.2 v).length ≤ 12 := fun v hv => ⟨(hB.2.2.2.2 v hv).1, (hB.2.2.2.2 v hv).1⟩
  have ol : ∀ xs : List Nat, xs.length ≤ 12 → (∀ s ∈ xs, s < 5) → (out a.2.1.2.2.2 xs).length ≤ 144 := fun xs h1 h2 => by
    have := out_len (B := 12) (by decide) (fun v hv => (hw v hv).1) xs h2
    omega
  refine vc_H_fits_0 E k M Φ (vc_H_wordsMakeRowsOne_0 E k M _ ?_)
  refine Words_spellOut_ok (ts_10 k) (ts_4 k) (ts_77 k) (by omega) (by omega) hb.1 hb.2.2.2.1 hw ⟨hB.1.1, hB.1.1⟩ hB.1.2 (by decide) (fun M1 x1 f1 => ⟨rfl, rfl, ?_⟩)
  have f1' : zfi M M1 77 2 := zfi_of f1 (by simp)
  refine Words_spellOut_ok (ts_10 k) (ts_6 k) (ts_79 k) (by omega) (by omega) (zRN_keep hb.2.1 f1 (by decide) (by decide)) (zWd_fi hb.2.2.2.1 f1' (by omega)) hw ⟨hB.2.1.1, hB.2.1.1⟩ hB.2.1.2 (by decide) (fun M2 x2 f2 => ⟨rfl, rfl, ?_⟩)
  have f : zfr M M2 [77, 78, 79, 80] := zfr_tr (zfr_mono f1 (by simp)) (zfr_mono f2 (by simp))
  have hC := zCI_scr h f (by decide)
  have hk := hk k M2 hC (zMo_fr f (by decide)) (Nat.le_refl _)
  refine Row_sameAs_ok (ts_77 k) (ts_79 k) (zRN_keep x1 f2 (by decide) (by decide)) x2 (ol _ hB.1.1 hB.1.2) (ol _ hB.2.1.1 hB.2.1.2) (out_lt hB.2.2.2.2 hB.1.2) (out_lt hB.2.2.2.2 hB.2.1.2) (fun e => ⟨1, rfl, rfl, Or.inr rfl, ⟨1, rfl, rfl, ?_⟩⟩) (fun e => ⟨0, rfl, rfl, Or.inl rfl, ⟨0, rfl, rfl, ?_⟩⟩)
  · rw [if_pos e] at hk
    refine Book_wordsMeetNeeds_ok (ts_3 k) hB hC.2.2.1 ⟨_, rfl, rfl, fun q => absurd q (by decide), fun _ => ?_⟩
    by_cases c : meets a.2.1.2.1 a.2.1.2.2.1 a.2.1.2.2.2 = true
    · rw [if_pos c] at hk ⊢; exact ⟨fun q => absurd q (by decide), fun _ => hk⟩
    · rw [if_neg c] at hk ⊢; exact ⟨fun _ => hk, fun q => absurd rfl q⟩
  · rw [if_neg e] at hk
    refine Book_wordsMeetNeeds_ok (ts_3 k) hB hC.2.2.1 ⟨_, rfl, rfl, fun _ => ?_, fun q => absurd rfl q⟩
    by_cases c : meets a.2.1.2.1 a.2.1.2.2.1 a.2.1.2.2.2 = true
    · rw [if_pos c] at hk ⊢; exact ⟨fun q => absurd q (by decide), fun _ => hk⟩
    · rw [if_neg c] at hk ⊢; exact ⟨fun _ => hk, fun q => absurd rfl q⟩
def aImage (a : AS) (x : Int32) : Int32 × AS := match inN 2 x with
  | none => (-2, a)
  | some j => (1, (a.1, a.2.1, if j = 0 then (some a.2.1, a.2.2.2) else (a.2.2.1, some a.2.1)))
theorem zfr_i {b : Nat} (f : zfi M M' b 14) : zfr M M' (List.range' b 14) := fun p hp => f p (by rw [List.mem_range'_1] at hp; omega)
theorem H_image_ok {a : AS} {x : Int32} (h : zCI k M a) (hk : ∀ k' M', zCI k' M' (aImage a x).2 → zMo M M' → k ≤ k' → Φ (some (.int (aImage a x).1)) (zSt k') M') : zW E m_H_image 3 (zSt k) M 0 [some (.ref 0), some (.int x), none] [] Φ := by
  unfold aImage at hk
  obtain ⟨c1, c2, c3, ⟨c4, c5⟩, c6, ⟨c7, c8⟩, c9, c10⟩ := h
  refine vc_H_image_0 E k M x Φ ?_
  rcases in2 (y := x) with ⟨q1, q2⟩ | ⟨q1, q2, q3⟩ | ⟨q1, q2, q3, q4⟩ | ⟨q1, q2, q3, q4⟩
  · rw [q2] at hk
    exact ⟨fun _ => hk k M ⟨c1, c2, c3, ⟨c4, c5⟩, c6, ⟨c7, c8⟩, c9, c10⟩ (zMo_rfl _) (Nat.le_refl _), fun c => absurd q1 c⟩
  · rw [q3] at hk
    exact ⟨fun c => absurd c q1, fun _ => ⟨fun c => absurd c q2, fun _ => hk k M ⟨c1, c2, c3, ⟨c4, c5⟩, c6, ⟨c7, c8⟩, c9, c10⟩ (zMo_rfl _) (Nat.le_refl _)⟩⟩
  · rw [q4] at hk
    have hk : ∀ k' M', zCI k' M' (a.1, a.2.1, some a.2.1, a.2.2.2) → zMo M M' → k ≤ k' → Φ (some (.int 1)) (zSt k') M' := hk
    refine ⟨fun c => absurd c q1, fun _ => ⟨fun _ => ⟨fun c => absurd q3 c, fun _ => ?_⟩, fun c => absurd q2 c⟩⟩
    refine Book_copy_ok (ts_17 k) (ts_3 k) (by omega) c1.2.1 c3 (fun M6 x6 e6 f6 => ⟨rfl, rfl, ?_⟩)
    rintro _ rfl
    have fz : zfi M6 (zms M6 17 5 1) 17 14 := fun p hp => zms_ne _ _ _ (by omega)
    have f := zfr_i (zfi_tr f6 fz)
    have hb : zBk (zms M6 17 5 1) 17 a.2.1 := ⟨zRN_fr x6.1 (zms_ne _ _ _ (by decide)) (zms_ne _ _ _ (by decide)), zRN_fr x6.2.1 (zms_ne _ _ _ (by decide)) (zms_ne _ _ _ (by decide)), fun j hj => by rw [zms_ne _ _ _ (by decide)]; exact x6.2.2.1 j hj, fun v hv => zRN_fr (x6.2.2.2.1 v hv) (zms_ne _ _ _ (by omega)) (zms_ne _ _ _ (by omega)), by rw [zms_k _ _ (by decide)]; exact x6.2.2.2.2⟩
    refine hk k _ ⟨⟨c1.1, c1.2.1, fun B e => (by cases e; exact c1.2.1), c1.2.2.2⟩, zRN_keep c2 f (by decide) (by decide), zBk_fr c3 f (by decide), ⟨⟨fun e => (by cases e), fun B e => (by cases e; exact ⟨zms_s _ _ _ _, hb⟩)⟩, zIm_fr c5 f (by decide)⟩, zNz_fr c6 f (by decide), ⟨zSd_fr c7 f (by decide), zNs_fr c8 f (by decide)⟩, zTrS_fr c9 f (by decide), zTx_fr c10 f (by decide)⟩ (zMo_fr f (by decide)) (Nat.le_refl _)
  · rw [q4] at hk
    have hk : ∀ k' M', zCI k' M' (a.1, a.2.1, a.2.2.1, some a.2.1) → zMo M M' → k ≤ k' → Φ (some (.int 1)) (zSt k') M' := hk
    refine ⟨fun c => absurd c q1, fun _ => ⟨fun _ => ⟨fun _ => ?_, fun c => absurd c q3⟩, fun c => absurd q2 c⟩⟩
    refine Book_copy_ok (ts_31 k) (ts_3 k) (by omega) c1.2.1 c3 (fun M6 x6 e6 f6 => ⟨rfl, rfl, ?_⟩)
    rintro _ rfl
    have fz : zfi M6 (zms M6 31 5 1) 31 14 := fun p hp => zms_ne _ _ _ (by omega)
    have f := zfr_i (zfi_tr f6 fz)
    have hb : zBk (zms M6 31 5 1) 31 a.2.1 := ⟨zRN_fr x6.1 (zms_ne _ _ _ (by decide)) (zms_ne _ _ _ (by decide)), zRN_fr x6.2.1 (zms_ne _ _ _ (by decide)) (zms_ne _ _ _ (by decide)), fun j hj => by rw [zms_ne _ _ _ (by decide)]; exact x6.2.2.1 j hj, fun v hv => zRN_fr (x6.2.2.2.1 v hv) (zms_ne _ _ _ (by omega)) (zms_ne _ _ _ (by omega)), by rw [zms_k _ _ (by decide)]; exact x6.2.2.2.2⟩
    refine hk k _ ⟨⟨c1.1, c1.2.1, c1.2.2.1, fun B e => (by cases e; exact c1.2.1)⟩, zRN_keep c2 f (by decide) (by decide), zBk_fr c3 f (by decide), ⟨zIm_fr c4 f (by decide), ⟨fun e => (by cases e), fun B e => (by cases e; exact ⟨zms_s _ _ _ _, hb⟩)⟩⟩, zNz_fr c6 f (by decide), ⟨zSd_fr c7 f (by decide), zNs_fr c8 f (by decide)⟩, zTrS_fr c9 f (by decide), zTx_fr c10 f (by decide)⟩ (zMo_fr f (by decide)) (Nat.le_refl _)
end PUB4
