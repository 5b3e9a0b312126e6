/-! what always holds of the class's object; its first public methods -/
abbrev AS : Type := List Nat × AB × Option AB × Option AB
def okS (a : AS) : Prop := (a.1.length ≤ 40 ∧ ∀ s ∈ a.1, s < 1000) ∧ okB a.2.1 ∧ (∀ B, a.2.2.1 = some B → okB B) ∧ ∀ B, a.2.2.2 = some B → okB B
def zIm (M : ZM) (b : Nat) (o : Option AB) : Prop := (o = none → M b 5 = 0) ∧ ∀ B, o = some B → M b 5 = 1 ∧ zBk M b B
def zTrS (B : AB) (M : ZM) : Prop := M 0 13 = 0 ∨ (M 0 13 = 1 ∧ zTrl B M)
def zCI (k : Nat) (M : ZM) (a : AS) : Prop := okS a ∧ zRN M 1 a.1 ∧ zBk M 3 a.2.1 ∧ (zIm M 17 a.2.2.1 ∧ zIm M 31 a.2.2.2) ∧ zNz k M ∧ (zSd a.2.1 M ∧ zNs a.2.1 k M) ∧ zTrS a.2.1 M ∧ zTx M (fz 0 0 0) 2
/-- the reference's rows stay -/
def zMo (M M' : ZM) : Prop := ∀ p, 83 ≤ p → p < 116 → M' p = M p
theorem zMo_rfl (M : ZM) : zMo M M := fun _ _ _ => rfl
theorem zMo_fr {M M' : ZM} {A : List Nat} (f : zfr M M' A) (hA : ∀ p ∈ A, p < 83 ∨ 116 ≤ p) : zMo M M' := fun p h1 h2 => f p (fun q => by have := hA p q; omega)
theorem zMo_fb {M M' : ZM} {A : List Nat} (f : zfb M M' A) (hA : ∀ p ∈ A, p < 83) : zMo M M' := fun p h1 h2 => f p h2 (fun q => by have := hA p q; omega)
theorem zMo_tr {M M1 M2 : ZM} (h1 : zMo M M1) (h2 : zMo M1 M2) : zMo M M2 := fun p a b => (h2 p a b).trans (h1 p a b)
section INV
variable {E : ZE} {k : Nat} {M M' : ZM} {Φ : Option Value → ZS → ZM → Prop} {B : AB} {A : List Nat}
theorem zBk_fr {b : Nat} (h : zBk M b B) (f : zfr M M' A) (hA : ∀ p ∈ A, p < b ∨ b + 14 ≤ p) : zBk M' b B := by
  have q : ∀ p, b ≤ p → p < b + 14 → p ∉ A := fun p h1 h2 h3 => by have := hA p h3; omega
  exact ⟨zRN_keep h.1 f (q _ (by omega) (by omega)) (q _ (by omega) (by omega)), zRN_keep h.2.1 f (q _ (by omega) (by omega)) (q _ (by omega) (by omega)), zGo_keep h.2.2.1 f (q _ (by omega) (by omega)), fun v hv => zRN_keep (h.2.2.2.1 v hv) f (q _ (by omega) (by omega)) (q _ (by omega) (by omega)), by rw [f b (q _ (by omega) (by omega))]; exact h.2.2.2.2⟩
theorem zIm_fr {b : Nat} {o : Option AB} (h : zIm M b o) (f : zfr M M' A) (hA : ∀ p ∈ A, p < b ∨ b + 14 ≤ p) : zIm M' b o := by
  have e : M' b = M b := f b (fun q => by have := hA b q; omega)
  exact ⟨fun q => by rw [e]; exact h.1 q, fun B q => ⟨by rw [e]; exact (h.2 B q).1, zBk_fr (h.2 B q).2 f hA⟩⟩
theorem zNz_fr (h : zNz k M) (f : zfr M M' A) (hA : ∀ p ∈ A, p < 57 ∨ (60 < p ∧ p < 116)) : zNz k M' := by
  have q : ∀ p, (57 ≤ p ∧ p ≤ 60) ∨ 116 ≤ p → p ∉ A := fun p h1 h3 => by have := hA p h3; omega
  exact ⟨h.1, fun e he => by rw [f (na e) (q _ (Or.inr (Nat.le_add_right _ _)))]; exact h.2.1 e he, zRN_keep h.2.2.1 f (q _ (by omega)) (q _ (by omega)), zRN_keep h.2.2.2 f (q _ (by omega)) (q _ (by omega))⟩
theorem zSd_fr (h : zSd B M) (f : zfr M M' A) (hA : ∀ p ∈ A, p < 45 ∨ 49 < p) : zSd B M' := by
  have q : ∀ p, 45 ≤ p → p ≤ 49 → M' p = M p := fun p h1 h2 => f p (fun h3 => by have := hA p h3; omega)
  rcases h with h | ⟨h1, h2, h3⟩
  · exact Or.inl (by rw [q 45 (by decide) (by decide)]; exact h)
  · exact Or.inr ⟨by rw [q 45 (by decide) (by decide)]; exact h1, zSh_keep h2 (q 45 (by decide) (by decide)) (q 46 (by decide) (by decide)) (q 47 (by decide) (by decide)) (q 48 (by decide) (by decide)), fun n hn => by rw [q 49 (by decide) (by decide)]; exact h3 n hn⟩
theorem zNet_fr (h : zNet B k M) (f : zfr M M' A) (hA : ∀ p ∈ A, p < 116 ∧ p ≠ 52 ∧ p ≠ 50) : zNet B k M' := by
  obtain ⟨T, a1, a2, a3, a4, a5, a6⟩ := h
  have e : M' 50 = M 50 := f 50 (fun q => (hA 50 q).2.2 rfl)
  exact ⟨T, zNt_keep a1 f (fun p hp => ⟨(hA p hp).1, (hA p hp).2.1⟩) (by rw [e]), a2, a3, by rw [e]; exact a4, by rw [e]; exact a5, by rw [e]; exact a6⟩
theorem zAns_fr (h : zAns B M) (f : zfr M M' A) (hA : ∀ p ∈ A, p < 61 ∨ 68 < p) : zAns B M' := by
  have q : ∀ p, 61 ≤ p → p ≤ 68 → p ∉ A := fun p h1 h2 h3 => by have := hA p h3; omega
  refine ⟨fun e => by rw [f 61 (q _ (by decide) (by decide))]; exact h.1 e, fun ws e => ?_⟩
  obtain ⟨b1, b2, b3⟩ := h.2 ws e
  exact ⟨by rw [f 61 (q _ (by decide) (by decide))]; exact b1, fun v hv => zRN_keep (b2 v hv) f (q _ (by omega) (by omega)) (q _ (by omega) (by omega)), b3⟩
theorem zNs_fr (h : zNs B k M) (f : zfr M M' A) (hA : ∀ p ∈ A, (0 < p ∧ p < 45) ∨ p = 49 ∨ (52 < p ∧ p < 61) ∨ (68 < p ∧ p < 116)) : zNs B k M' := by
  have e0 : M' 0 = M 0 := f 0 (fun q => by have := hA 0 q; omega)
  have e45 : M' 45 = M 45 := f 45 (fun q => by have := hA 45 q; omega)
  rcases h with h | ⟨h1, h2, h3, h4⟩
  · exact Or.inl (by rw [e0]; exact h)
  · exact Or.inr ⟨by rw [e0]; exact h1, by rw [e45]; exact h2, zNet_fr h3 f (fun p hp => by have := hA p hp; omega), zAns_fr h4 f (fun p hp => by have := hA p hp; omega)⟩
theorem zTx_fr {g : Nat → Nat} {j : Nat} (h : zTx M g j) (f : zfr M M' A) (hA : ∀ p ∈ A, p < 72 ∨ 73 < p) : zTx M' g j := fun s hs => by
  unfold zTd
  rw [f 72 (fun q => by have := hA 72 q; omega), f 73 (fun q => by have := hA 73 q; omega)]
  exact h s hs
theorem zTrS_fr (h : zTrS B M) (f : zfr M M' A) (hA : ∀ p ∈ A, (0 < p ∧ p < 69) ∨ 73 < p) : zTrS B M' := by
  have e0 : M' 0 = M 0 := f 0 (fun q => by have := hA 0 q; omega)
  have e69 : M' 69 = M 69 := f 69 (fun q => by have := hA 69 q; omega)
  rcases h with h | ⟨h1, h2⟩
  · exact Or.inl (by rw [e0]; exact h)
  · refine Or.inr ⟨by rw [e0]; exact h1, ?_⟩
    rcases h2 with ⟨a1, a2⟩ | ⟨x, y, z, b1, b2, b3⟩
    · exact Or.inl ⟨by rw [e69]; exact a1, a2⟩
    · exact Or.inr ⟨x, y, z, b1, by rw [e69]; exact b2, fun s hs => by
        unfold zTd
        rw [f 72 (fun q => by have := hA 72 q; omega), f 73 (fun q => by have := hA 73 q; omega)]
        exact b3 s hs⟩
/-- only the pad has changed -/
theorem zCI_pad {a : AS} {xs : List Nat} (h : zCI k M a) (f : zfr M M' [1, 2]) (hx : zRN M' 1 xs) (hl : xs.length ≤ 40 ∧ ∀ s ∈ xs, s < 1000) : zCI k M' (xs, a.2) := by
  obtain ⟨c1, c2, c3, ⟨c4, c5⟩, c6, ⟨c7, c8⟩, c9, c10⟩ := h
  exact ⟨⟨hl, c1.2⟩, hx, zBk_fr c3 f (by simp), ⟨zIm_fr c4 f (by simp), zIm_fr c5 f (by simp)⟩, zNz_fr c6 f (by simp), ⟨zSd_fr c7 f (by simp), zNs_fr c8 f (by simp)⟩, zTrS_fr c9 f (by simp), zTx_fr c10 f (by simp)⟩
def aSay (a : AS) (x : Int32) : Int32 × AS := if 33 ≤ x.toInt ∧ x.toInt ≤ 126 then (if a.1.length < 40 then (nI (a.1.length + 1), (a.1 ++ [x.toInt.toNat], a.2)) else (-4, a)) else (-2, a)
theorem H_say_ok {a : AS} {x : Int32} (h : zCI k M a) (hk : ∀ k' M', zCI k' M' (aSay a x).2 → zMo M M' → k ≤ k' → Φ (some (.int (aSay a x).1)) (zSt k') M') : zW E m_H_say 1 (zSt k) M 0 [some (.ref 0), some (.int x)] [] Φ := by
  unfold aSay at hk
  refine vc_H_say_0 E k M x Φ ?_
  rw [Int32.lt_iff_toInt_lt, Int32.le_iff_toInt_le, (by decide : (33 : Int32).toInt = 33), (by decide : (126 : Int32).toInt = 126)]
  refine ⟨fun c => ?_, fun c => ⟨fun c2 => ?_, fun c2 => ?_⟩⟩
  · rw [if_neg (by omega)] at hk
    exact hk k M h (zMo_rfl _) (Nat.le_refl _)
  · rw [if_pos (by omega)] at hk
    obtain ⟨v, hv⟩ : ∃ v : Nat, x.toInt.toNat = v := ⟨_, rfl⟩
    have ex : x = nI v := by
      rw [iI_nat, ← hv, Int.toNat_of_nonneg (by omega)]
      exact iI_of x
    rw [ex]
    rw [hv] at hk
    refine Row_push_ok (ts_1 k) h.2.1 h.1.1.1 (fun hl M3 x3 f3 => ⟨1, rfl, rfl, fun q => absurd q (by decide), fun _ => ?_⟩) (fun hl => ⟨0, rfl, rfl, fun _ => ?_, fun q => absurd rfl q⟩)
    · rw [if_pos hl] at hk
      refine Row_size_ok (ts_1 k) x3 ⟨_, rfl, rfl, ?_⟩
      rw [List.length_append]
      refine hk k M3 (zCI_pad h f3 x3 ⟨by simp; omega, fun s hs => ?_⟩) (zMo_fr f3 (by simp)) (Nat.le_refl _)
      rcases List.mem_append.mp hs with q | q
      · exact h.1.1.2 s q
      · rw [List.mem_singleton.mp q]; omega
    · rw [if_neg (by omega)] at hk
      exact hk k M h (zMo_rfl _) (Nat.le_refl _)
  · rw [if_neg (by omega)] at hk
    exact hk k M h (zMo_rfl _) (Nat.le_refl _)
def aWipe (a : AS) : Int32 × AS := (nI a.1.length, ([], a.2))
theorem H_wipe_ok {a : AS} (h : zCI k M a) (hk : ∀ k' M', zCI k' M' (aWipe a).2 → zMo M M' → k ≤ k' → Φ (some (.int (aWipe a).1)) (zSt k') M') : zW E m_H_wipe 1 (zSt k) M 0 [some (.ref 0), none] [] Φ := by
  refine vc_H_wipe_0 E k M Φ (Row_size_ok (ts_1 k) h.2.1 ⟨_, rfl, rfl, Row_makeEmpty_ok (ts_1 k) (fun M2 x2 f2 => ⟨rfl, rfl, ?_⟩)⟩)
  have f2' : zfr M M2 [1, 2] := zfr_mono f2 (by simp)
  exact hk k M2 (zCI_pad h f2' x2 ⟨by simp, by simp⟩) (zMo_fr f2' (by simp)) (Nat.le_refl _)
def aFault (a : AS) : Int32 × AS := (pfv (pf a.1 false [] [] 0), a)
theorem H_fault_ok {a : AS} (h : zCI k M a) (hk : ∀ k' M', zCI k' M' (aFault a).2 → zMo M M' → k ≤ k' → Φ (some (.int (aFault a).1)) (zSt k') M') : zW E m_H_fault 2 (zSt k) M 0 [some (.ref 0)] [] Φ :=
  vc_H_fault_0 E k M Φ (firstFault_ok h.2.1 h.1.1.1 h.1.1.2 ⟨_, rfl, rfl, hk k M h (zMo_rfl _) (Nat.le_refl _)⟩)
end INV
