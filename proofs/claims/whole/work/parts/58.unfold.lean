/-! Net.unfold -/
theorem zat_0 (xs : List Nat) : zat xs 0 = oN xs.head? := by
  cases xs with
  | nil => rfl
  | cons a l =>
    show zat (a :: l) (nI 0) = nI a
    unfold zat
    rw [if_pos]
    · rfl
    · rw [nI_toInt (by decide)]
      simp
theorem oN_6 {o : Option Nat} (h : ∀ s, o = some s → s < 5) : oN o = -6 ↔ o = none := by
  cases o with
  | none => exact ⟨fun _ => rfl, fun _ => rfl⟩
  | some s => exact ⟨fun q => absurd q (nI_ne6 (by have := h s rfl; omega)), fun q => by cases q⟩
def k0o (D : BD) (x : ND) (o : Option Nat) : List MR := match o with
  | none => []
  | some s => k0 D x s
def k1o (D : BD) (g : Nat → Nat) (x : ND) (u v : Option Nat) : List MR := match u, v with
  | some a, some b => k1 D g x a b ++ k1 D g x b a
  | _, _ => []
theorem mvs_o (D : BD) (g : Nat → Nat) (x : ND) : mvs D g x = k0o D x x.1.1.head? ++ k0o D x x.1.2.head? ++ k1o D g x x.1.1.head? x.1.2.head? := by
  unfold mvs
  cases x.1.1.head? <;> cases x.1.2.head? <;> simp [k0o, k1o]
theorem k0_len (D : BD) (x : ND) (s : Nat) : (k0 D x s).length ≤ 1 := by
  unfold k0
  split <;> simp
theorem k0o_len (D : BD) (x : ND) (o : Option Nat) : (k0o D x o).length ≤ 1 := by
  cases o with
  | none => simp [k0o]
  | some s => exact k0_len D x s
theorem k1_len (D : BD) (g : Nat → Nat) (x : ND) (s o : Nat) : (k1 D g x s o).length ≤ 27 := by
  unfold k1
  split
  · split
    · simp
    · rw [List.length_map]
      unfold turnsOf
      exact Nat.le_trans (List.length_filter_le _ _) (by simp)
  · simp
theorem nfold_len (i : Nat) : ∀ (L : List MR) (s : List NR × List (Nat × Nat)), (L.foldl (nstep i) s).2.length ≤ s.2.length + L.length
  | [], s => by simp
  | m :: L, s => by
    rw [List.foldl_cons, List.length_cons]
    have h1 := nfold_len i L (nstep i s m)
    have h2 := nstep_len i s m
    omega
def zUn (D : BD) (g : Nat → Nat) (i k : Nat) (M : ZM) (N : List NR) (T : Nat → List (Nat × Nat)) : Prop := zNt k M N T ∧ nInv N ∧ i < N.length ∧ (zSh M D ∧ zFit M D) ∧ (∃ p, zDr M p []) ∧ zGo M 8 g
def zUs (D : BD) (g : Nat → Nat) (i k : Nat) (M : ZM) (N : List NR) (T : Nat → List (Nat × Nat)) (k' : Nat) (M' : ZM) (N' : List NR) (T' : Nat → List (Nat × Nat)) : Prop := zUn D g i k' M' N' T' ∧ zGrow D i k N T k' M' N' T' ∧ (∀ j, j ≠ 8 → j ≠ 9 → M' 50 j = M 50 j) ∧ zfb M M' [49, 50, 52, 53, 54, 55, 56, 57, 58, 59, 60]
theorem zUs_tr {D : BD} {g : Nat → Nat} {i k k' k2 : Nat} {M M' M2 : ZM} {N N' N2 : List NR} {T T' T2 : Nat → List (Nat × Nat)} (hi : i < N.length) (h : zUs D g i k M N T k' M' N' T') (h2 : zUs D g i k' M' N' T' k2 M2 N2 T2) : zUs D g i k M N T k2 M2 N2 T2 :=
  ⟨h2.1, zGrow_tr hi h.2.1 h2.2.1, fun j h8 h9 => (h2.2.2.1 j h8 h9).trans (h.2.2.1 j h8 h9), zfb_tr h.2.2.2 h2.2.2.2⟩
section UNFOLD
variable {E : ZE} {k : Nat} {M : ZM} {Φ : Option Value → ZS → ZM → Prop} {N : List NR} {T : Nat → List (Nat × Nat)} {D : BD} {g : Nat → Nat} {i : Nat}
theorem zUs_of {k' : Nat} {M1 M' : ZM} {N' : List NR} {T' : Nat → List (Nat × Nat)} {p : List Nat × List Nat} (hu : zUn D g i k M N T) (hN1 : zNt k M1 N T) (f1 : zfr M M1 [50, 53, 54, 55, 56, 57, 58, 59, 60]) (h1 : ∀ j, j ≠ 8 → M1 50 j = M 50 j) (g1 : zGrow D i k N T k' M' N' T') (g3 : ∀ j, j ≠ 9 → M' 50 j = M1 50 j) (g4 : zDr M' p []) (g5 : zfb M1 M' [49, 50, 52, 57, 59]) : zUs D g i k M N T k' M' N' T' := by
  have f : zfb M M' [49, 50, 52, 53, 54, 55, 56, 57, 58, 59, 60] := zfb_tr (zfb_of f1 (by simp)) (zfb_mono g5 (by simp))
  refine ⟨⟨g1.2.1, g1.2.2.1, ?_, g1.2.2.2.2.2.1, ⟨p, g4⟩, ?_⟩, g1, fun j h8 h9 => by rw [g3 j h9, h1 j h8], f⟩
  · have := g1.1.2
    have := hu.2.2.1
    omega
  · intro j hj
    rw [f 9 (by decide) (by decide)]
    exact hu.2.2.2.2.2 j hj
theorem phase0 {o : Option Nat} {Ψ : Nat → ZM → Prop} (hD : okD D) (hu : zUn D g i k M N T) (ho : ∀ s, o = some s → s < 5) (hT : (T i).length ≤ 55)
    (hk : ∀ k' M' N' T', zUs D g i k M N T k' M' N' T' → (N', T' i) = (k0o D (nN N i).1 o).foldl (nstep i) (N, T i) → Ψ k' M') :
    zW E m_Net_draftNothing 3 (zSt k) M 0 [some (.ref 50), some (.ref (na i)), some (.int (oN o)), none] [] (fun q6 T6 M6 => q6 = none ∧ (zSt k) = T6 ∧ zW E m_Net_settleDrafts 4 (zSt k) M6 0 [some (.ref 50), some (.ref (na i)), none, none, none, none] [] (fun q7 T7 M7 => ∃ k7 : Nat, q7 = none ∧ (zSt k7) = T7 ∧ zNode (zSt k7) (na i) ∧ Ψ k7 M7)) := by
  have hu' := hu
  obtain ⟨hN, hI, hi, hS, ⟨p, hdr⟩, hgo⟩ := hu
  have hb := hN.1
  have fin2 : ∀ {p' : List Nat × List Nat} {ds' : List (T3 × Nat)} {M1 : ZM}, zDr M1 p' ds' → (∀ st, (dms D p' ds').foldl (nstep i) st = (k0o D (nN N i).1 o).foldl (nstep i) st) → ds'.length ≤ 1 → (∀ j, j ≠ 8 → M1 50 j = M 50 j) → zfr M M1 [50, 53, 54, 55, 56, 57, 58, 59, 60] → zW E m_Net_settleDrafts 4 (zSt k) M1 0 [some (.ref 50), some (.ref (na i)), none, none, none, none] [] (fun q7 T7 M7 => ∃ k7 : Nat, q7 = none ∧ (zSt k7) = T7 ∧ zNode (zSt k7) (na i) ∧ Ψ k7 M7) := by
    intro p' ds' M1 d1 d2 d3 d4 f1
    have hN1 : zNt k M1 N T := zNt_keep hN f1 (by decide) (d4 9 (by decide))
    refine settleDrafts_ok hD d1 hN1 hI hi (zSF_keep hS (zfb_of (B := [50, 53, 54, 55, 56, 57, 58, 59, 60]) f1 (fun p hp => Or.inl hp)) (by decide)) (by omega) (fun k' M' N' T' g1 g2 g3 g4 g5 => ⟨k', rfl, rfl, tN (by have := g1.1.1; omega), hk k' M' N' T' (zUs_of hu' hN1 f1 d4 g1 g3 g4 g5) ?_⟩)
    rw [g2, d2]
  cases o with
  | none => exact draftNothing_no hdr hN hi ⟨rfl, rfl, fin2 hdr (fun _ => rfl) (by simp) (fun _ _ => rfl) (zfr_rfl _ _)⟩
  | some s => exact draftNothing_ok (D := D) hdr hN hi (ho s rfl) (fun p' ds' M' a1 a2 a3 a4 a5 => ⟨rfl, rfl, fin2 a1 a2 (Nat.le_trans a3 (k0_len _ _ _)) a4 a5⟩)
theorem phase1 {s o : Nat} {Ψ : Nat → ZM → Prop} (hD : okD D) (hg : okg g) (hu : zUn D g i k M N T) (hs : s < 5) (ho : o < 5) (hT : (T i).length ≤ 29)
    (hk : ∀ k' M' N' T', zUs D g i k M N T k' M' N' T' → (N', T' i) = (k1 D g (nN N i).1 s o).foldl (nstep i) (N, T i) → Ψ k' M') :
    zW E m_Net_draftBegins 3 (zSt k) M 0 [some (.ref 50), some (.ref (na i)), some (.int (nI s)), some (.int (nI o)), none, none, none, none] [] (fun q6 T6 M6 => q6 = none ∧ (zSt k) = T6 ∧ zW E m_Net_settleDrafts 4 (zSt k) M6 0 [some (.ref 50), some (.ref (na i)), none, none, none, none] [] (fun q7 T7 M7 => ∃ k7 : Nat, q7 = none ∧ (zSt k7) = T7 ∧ zNode (zSt k7) (na i) ∧ Ψ k7 M7)) := by
  have hu' := hu
  obtain ⟨hN, hI, hi, hS, ⟨p, hdr⟩, hgo⟩ := hu
  have hb := hN.1
  refine draftBegins_ok (D := D) hdr hN hi hs ho hgo hg (fun p' ds' M1 d1 d2 d3 d4 f1 => ⟨rfl, rfl, ?_⟩)
  have hN1 : zNt k M1 N T := zNt_keep hN f1 (by decide) (d4 9 (by decide))
  have hl := k1_len D g (nN N i).1 s o
  refine settleDrafts_ok hD d1 hN1 hI hi (zSF_keep hS (zfb_of (B := [50, 53, 54, 55, 56, 57, 58, 59, 60]) f1 (fun p hp => Or.inl hp)) (by decide)) (by omega) (fun k' M' N' T' g1 g2 g3 g4 g5 => ⟨k', rfl, rfl, tN (by have := g1.1.1; omega), hk k' M' N' T' (zUs_of hu' hN1 f1 d4 g1 g3 g4 g5) ?_⟩)
  rw [g2, d2]
theorem zUn_50 {M' : ZM} (h : zUn D g i k M N T) (f : zfr M M' [50]) (h9 : M' 50 9 = M 50 9) : zUn D g i k M' N T := by
  obtain ⟨hN, hI, hi, hS, ⟨p, ⟨⟨d1, d2⟩, ⟨d3, d4⟩, d5, d6⟩⟩, hgo⟩ := h
  exact ⟨zNt_keep hN f (by decide) h9, hI, hi, zSF_keep (A := [50]) hS (zfb_of f (by simp)) (by simp), ⟨p, ⟨⟨zRN_keep d1 f (by decide) (by decide), zRN_keep d2 f (by decide) (by decide)⟩, ⟨zRN_keep d3 f (by decide) (by decide), zRN_keep d4 f (by decide) (by decide)⟩, d5, fun q => absurd rfl q⟩⟩, zGo_keep hgo f (by decide)⟩
theorem zUn_49 {M' : ZM} (h : zUn D g i k M N T) (f : zfr M M' [49]) (hS' : zSh M' D ∧ zFit M' D) : zUn D g i k M' N T := by
  obtain ⟨hN, hI, hi, hS, ⟨p, ⟨⟨d1, d2⟩, ⟨d3, d4⟩, d5, d6⟩⟩, hgo⟩ := h
  exact ⟨zNt_keep hN f (by decide) (by rw [f 50 (by decide)]), hI, hi, hS', ⟨p, ⟨⟨zRN_keep d1 f (by decide) (by decide), zRN_keep d2 f (by decide) (by decide)⟩, ⟨zRN_keep d3 f (by decide) (by decide), zRN_keep d4 f (by decide) (by decide)⟩, d5, fun q => absurd rfl q⟩⟩, zGo_keep hgo f (by decide)⟩
/-- what unfolding a node leaves -/
def zUo (D : BD) (g : Nat → Nat) (i k : Nat) (M : ZM) (N : List NR) (T : Nat → List (Nat × Nat)) (k' : Nat) (M' : ZM) (N' : List NR) (T' : Nat → List (Nat × Nat)) : Prop := zUn D g i k' M' N' T' ∧ zGrow D i k N T k' M' N' T' ∧ zfb M M' [49, 50, 52, 53, 54, 55, 56, 57, 58, 59, 60] ∧ (N', T' i) = nnode D g N i ∧ M' 50 10 = (if M 50 10 = -6 ∧ isEn D (nN N i).1 = true then nI i else M 50 10) ∧ M' 50 11 = (if M 50 11 < nI (nN N i).2.1 then nI (nN N i).2.1 else M 50 11) ∧ M' 50 12 = (if (nN N' i).2.2.2 = true then M 50 12 + 1 else M 50 12)
theorem zGrow_ms {k' : Nat} {M' M2 : ZM} {N' : List NR} {T' : Nat → List (Nat × Nat)} (h : zGrow D i k N T k' M' N' T') (f : zfr M' M2 [50]) (h9 : M2 50 9 = M' 50 9) : zGrow D i k N T k' M2 N' T' :=
  ⟨h.1, zNt_keep h.2.1 f (by decide) h9, h.2.2.1, h.2.2.2.1, h.2.2.2.2.1, zSF_keep (A := [50]) h.2.2.2.2.2.1 (zfb_of f (by simp)) (by simp), h.2.2.2.2.2.2⟩
/-- the end of unfold: was the node cut? -/
theorem unfold_end {M2 M3 : ZM} {k' : Nat} {N' : List NR} {T' : Nat → List (Nat × Nat)} (hu : zUn D g i k M N T) (h2 : M2 = zms M 50 11 (if M 50 11 < nI (nN N i).2.1 then nI (nN N i).2.1 else M 50 11)) (hs : zUs D g i k M2 N T k' M3 N' T') (hn : (N', T' i) = nnode D g N i) (hne : isEn D (nN N i).1 = false) (hk : ∀ M', zUo D g i k M N T k' M' N' T' → Φ none (zSt k') M') :
    (M3 (na i) 10 = 0 → Φ none (zSt k') M3) ∧ (¬ M3 (na i) 10 = 0 → ∀ M12 : ZM, M12 = zms M3 50 12 (M3 50 12 + 1) → Φ none (zSt k') M12) := by
  obtain ⟨s1, s2, s3, s4⟩ := hs
  have ec := (s1.1.2.2.2.1 i s1.2.2.1).2.1.2.2.2.2.2.2.1
  have f0 : zfb M M2 [49, 50, 52, 53, 54, 55, 56, 57, 58, 59, 60] := by rw [h2]; exact zfb_of (zfr_ms _ _ _ _ (A := [50]) (by simp)) (by simp)
  have f : zfb M M3 [49, 50, 52, 53, 54, 55, 56, 57, 58, 59, 60] := zfb_tr f0 s4
  have q10 : M3 50 10 = M 50 10 := by rw [s3 10 (by decide) (by decide), h2, zms_k _ _ (by decide)]
  have q11 : M3 50 11 = (if M 50 11 < nI (nN N i).2.1 then nI (nN N i).2.1 else M 50 11) := by rw [s3 11 (by decide) (by decide), h2, zms_s]
  have q12 : M3 50 12 = M 50 12 := by rw [s3 12 (by decide) (by decide), h2, zms_k _ _ (by decide)]
  have e10 : ∀ x : Int32, (if x = -6 ∧ isEn D (nN N i).1 = true then nI i else x) = x := fun x => if_neg (fun q => by rw [hne] at q; cases q.2)
  constructor
  · intro c
    have c' : ¬ (nN N' i).2.2.2 = true := fun q => by rw [ec, if_pos q] at c; exact absurd c (by decide)
    exact hk M3 ⟨s1, s2, f, hn, by rw [e10]; exact q10, q11, by rw [if_neg c']; exact q12⟩
  · rintro c _ rfl
    have c' : (nN N' i).2.2.2 = true := by
      by_cases q : (nN N' i).2.2.2 = true
      · exact q
      · rw [ec, if_neg q] at c; exact absurd rfl c
    have fz : zfr M3 (zms M3 50 12 (M3 50 12 + 1)) [50] := zfr_ms _ _ _ _ (by simp)
    have h9 : zms M3 50 12 (M3 50 12 + 1) 50 9 = M3 50 9 := zms_k _ _ (by decide)
    exact hk _ ⟨zUn_50 s1 fz h9, zGrow_ms s2 fz h9, zfb_tr f (zfb_of fz (by simp)), hn, by rw [e10, zms_k _ _ (by decide)]; exact q10, by rw [zms_k _ _ (by decide)]; exact q11, by rw [if_pos c', zms_s, q12]⟩
theorem unfold_ok (hD : okD D) (hg : okg g) (hu : zUn D g i k M N T) (hT : T i = []) (hcut : (nN N i).2.2.2 = false) (hk : ∀ k' M' N' T', zUo D g i k M N T k' M' N' T' → Φ none (zSt k') M') : zW E m_Net_unfold 5 (zSt k) M 0 [some (.ref 50), some (.int (nI i)), none, none, none] [] Φ := by
  have hN := hu.1
  have hi := hu.2.2.1
  have hb := hN.1
  obtain ⟨b1, b2, b3⟩ := hN.2.2.2.1 i hi
  have h116 : 116 ≤ na i := Nat.le_add_right _ _
  have hz := tN (k := k) (j := i) (by omega)
  refine vc_Net_unfold_0 E k M _ Φ ?_
  refine Net_at_ok ⟨hb.1, hb.2.1⟩ hN.2.1 (fun c => absurd (by rw [nI_toInt (by omega)]; omega) c) (fun j hj e => ⟨some (na j), rfl, rfl, fun c => (by cases c), fun b c => ?_⟩)
  cases c
  have e := (nI_eq (by omega) (by omega)).mp e
  subst e
  refine ⟨hz, ?_⟩
  rw [b2.2.2.2.1]
  intro M2 hM2
  have f2 : zfr M M2 [50] := by rw [hM2]; exact zfr_ms _ _ _ _ (by simp)
  have q9 : M2 50 9 = M 50 9 := by rw [hM2]; exact zms_k _ _ (by decide)
  have hu2 := zUn_50 hu f2 q9
  refine Row_at_ok hz.2.1.2 (zRN_keep b2.1 f2 (by simp; omega) (by simp; omega)) b1.2.1 ⟨_, rfl, rfl, ?_⟩
  refine Row_at_ok hz.2.2.1.2 (zRN_keep b2.2.1 f2 (by simp; omega) (by simp; omega)) b1.2.2 ⟨_, rfl, rfl, ?_⟩
  rw [zat_0, zat_0]
  obtain ⟨u, hu1⟩ : ∃ u, (nN N i).1.1.1.head? = u := ⟨_, rfl⟩
  obtain ⟨v, hv1⟩ : ∃ v, (nN N i).1.1.2.head? = v := ⟨_, rfl⟩
  rw [hu1, hv1]
  have hu5 : ∀ s, u = some s → s < 5 := fun s q => b1.1.1 s (List.mem_of_mem_head? (hu1.trans q))
  have hv5 : ∀ s, v = some s → s < 5 := fun s q => b1.1.2.1 s (List.mem_of_mem_head? (hv1.trans q))
  have hne : (u ≠ none ∨ v ≠ none) → isEn D (nN N i).1 = false := by
    intro q
    unfold isEn
    rcases q with q | q
    · have : (nN N i).1.1.1.isEmpty = false := by
        cases h : (nN N i).1.1.1 with
        | nil => rw [h] at hu1; exact absurd hu1.symm q
        | cons a l => rfl
      rw [this]; rfl
    · have : (nN N i).1.1.2.isEmpty = false := by
        cases h : (nN N i).1.1.2 with
        | nil => rw [h] at hv1; exact absurd hv1.symm q
        | cons a l => rfl
      rw [this]; simp
  -- the first two kinds, and what follows
  have two : (u ≠ none ∨ v ≠ none) → ∀ Ψ : Nat → ZM → Prop, (∀ k' M' N' T', zUs D g i k M2 N T k' M' N' T' → (N', T' i) = (k0o D (nN N i).1 u ++ k0o D (nN N i).1 v).foldl (nstep i) (N, []) → Ψ k' M') →
      zW E m_Net_draftNothing 3 (zSt k) M2 0 [some (.ref 50), some (.ref (na i)), some (.int (oN u)), none] [] (fun q6 T6 M6 => q6 = none ∧ (zSt k) = T6 ∧ zW E m_Net_settleDrafts 4 (zSt k) M6 0 [some (.ref 50), some (.ref (na i)), none, none, none, none] [] (fun q7 T7 M7 => ∃ k7 : Nat, q7 = none ∧ (zSt k7) = T7 ∧ zNode (zSt k7) (na i) ∧
        zW E m_Net_draftNothing 3 (zSt k7) M7 0 [some (.ref 50), some (.ref (na i)), some (.int (oN v)), none] [] (fun q8 T8 M8 => q8 = none ∧ (zSt k7) = T8 ∧ zW E m_Net_settleDrafts 4 (zSt k7) M8 0 [some (.ref 50), some (.ref (na i)), none, none, none, none] [] (fun q9 T9 M9 => ∃ k9 : Nat, q9 = none ∧ (zSt k9) = T9 ∧ zNode (zSt k9) (na i) ∧ Ψ k9 M9)))) := by
    intro _ Ψ hΨ
    refine phase0 hD hu2 hu5 (by rw [hT]; simp) (fun k7 M7 N7 T7 s1 e1 => ?_)
    have l7 : (T7 i).length ≤ 1 := by
      have e : T7 i = ((k0o D (nN N i).1 u).foldl (nstep i) (N, T i)).2 := by rw [← e1]
      rw [e, hT]
      have h1 := nfold_len i (k0o D (nN N i).1 u) (N, [])
      have h2 := k0o_len D (nN N i).1 u
      simp at h1
      omega
    have en : (nN N7 i).1 = (nN N i).1 := s1.2.1.2.2.2.2.2.2 i hi
    refine phase0 hD s1.1 hv5 (by omega) (fun k9 M9 N9 T9 s2 e2 => hΨ k9 M9 N9 T9 (zUs_tr hi s1 s2) ?_)
    rw [e2, e1, en, List.foldl_append, hT]
  have em : mvs D g (nN N i).1 = k0o D (nN N i).1 u ++ k0o D (nN N i).1 v ++ k1o D g (nN N i).1 u v := by
    rw [← hu1, ← hv1]
    exact mvs_o D g _
  -- what follows the first two kinds
  have tail : (u ≠ none ∨ v ≠ none) → ∀ k9 M9 N9 T9, zUs D g i k M2 N T k9 M9 N9 T9 → (N9, T9 i) = (k0o D (nN N i).1 u ++ k0o D (nN N i).1 v).foldl (nstep i) (N, []) →
      (oN u = -6 → (M9 (na i) 10 = 0 → Φ none (zSt k9) M9) ∧ (¬ M9 (na i) 10 = 0 → ∀ M12 : ZM, M12 = zms M9 50 12 (M9 50 12 + 1) → Φ none (zSt k9) M12)) ∧
      (¬ oN u = -6 → (oN v = -6 → (M9 (na i) 10 = 0 → Φ none (zSt k9) M9) ∧ (¬ M9 (na i) 10 = 0 → ∀ M12 : ZM, M12 = zms M9 50 12 (M9 50 12 + 1) → Φ none (zSt k9) M12)) ∧
        (¬ oN v = -6 → zW E m_Net_draftBegins 3 (zSt k9) M9 0 [some (.ref 50), some (.ref (na i)), some (.int (oN u)), some (.int (oN v)), none, none, none, none] [] (fun q16 T16 M16 => q16 = none ∧ (zSt k9) = T16 ∧ zW E m_Net_settleDrafts 4 (zSt k9) M16 0 [some (.ref 50), some (.ref (na i)), none, none, none, none] [] (fun q17 T17 M17 => ∃ k17 : Nat, q17 = none ∧ (zSt k17) = T17 ∧ zNode (zSt k17) (na i) ∧
          zW E m_Net_draftBegins 3 (zSt k17) M17 0 [some (.ref 50), some (.ref (na i)), some (.int (oN v)), some (.int (oN u)), none, none, none, none] [] (fun q18 T18 M18 => q18 = none ∧ (zSt k17) = T18 ∧ zW E m_Net_settleDrafts 4 (zSt k17) M18 0 [some (.ref 50), some (.ref (na i)), none, none, none, none] [] (fun q19 T19 M19 => ∃ k19 : Nat, q19 = none ∧ (zSt k19) = T19 ∧ zNode (zSt k19) (na i) ∧
            (M19 (na i) 10 = 0 → Φ none (zSt k19) M19) ∧ (¬ M19 (na i) 10 = 0 → ∀ M21 : ZM, M21 = zms M19 50 12 (M19 50 12 + 1) → Φ none (zSt k19) M21))))))) := by
    intro huv k9 M9 N9 T9 s9 e9
    have l9 : (T9 i).length ≤ 2 := by
      have e : T9 i = ((k0o D (nN N i).1 u ++ k0o D (nN N i).1 v).foldl (nstep i) (N, [])).2 := by rw [← e9]
      rw [e]
      have h1 := nfold_len i (k0o D (nN N i).1 u ++ k0o D (nN N i).1 v) (N, [])
      have h2 := k0o_len D (nN N i).1 u
      have h3 := k0o_len D (nN N i).1 v
      rw [List.length_append, List.length_nil] at h1
      omega
    have en9 : (nN N9 i).1 = (nN N i).1 := s9.2.1.2.2.2.2.2.2 i hi
    refine ⟨fun c => ?_, fun c => ⟨fun c2 => ?_, fun c2 => ?_⟩⟩
    · have cu := (oN_6 hu5).mp c
      refine unfold_end hu hM2 s9 ?_ (hne huv) (fun M' h => hk k9 M' N9 T9 h)
      rw [e9]
      unfold nnode
      rw [em, cu]
      simp [k1o]
    · have cv := (oN_6 hv5).mp c2
      refine unfold_end hu hM2 s9 ?_ (hne huv) (fun M' h => hk k9 M' N9 T9 h)
      rw [e9]
      unfold nnode
      rw [em, cv]
      cases u <;> simp [k1o]
    · cases hcu : u with
      | none => exact absurd ((oN_6 hu5).mpr hcu) c
      | some a =>
        cases hcv : v with
        | none => exact absurd ((oN_6 hv5).mpr hcv) c2
        | some b =>
          refine phase1 hD hg s9.1 (hu5 a hcu) (hv5 b hcv) (by omega) (fun k17 M17 N17 T17 s17 e17 => ?_)
          have en17 : (nN N17 i).1 = (nN N i).1 := (s17.2.1.2.2.2.2.2.2 i (by have := s9.2.1.1.2; omega)).trans en9
          have l17 : (T17 i).length ≤ 29 := by
            have e : T17 i = ((k1 D g (nN N9 i).1 a b).foldl (nstep i) (N9, T9 i)).2 := by rw [← e17]
            rw [e]
            have h1 := nfold_len i (k1 D g (nN N9 i).1 a b) (N9, T9 i)
            have h2 := k1_len D g (nN N9 i).1 a b
            simp at h1
            omega
          refine phase1 hD hg s17.1 (hv5 b hcv) (hu5 a hcu) (by omega) (fun k19 M19 N19 T19 s19 e19 => ?_)
          refine unfold_end hu hM2 (zUs_tr hi s9 (zUs_tr (by have := s9.2.1.1.2; omega) s17 s19)) ?_ (hne huv) (fun M' h => hk k19 M' N19 T19 h)
          rw [e19, e17, e9, en17, en9]
          unfold nnode
          rw [em, hcu, hcv]
          simp only [List.foldl_append, k1o]
  refine ⟨fun c => ?_, fun c => ⟨fun c2 => ?_, fun c2 => ⟨fun c3 => ?_, fun c3 => ?_⟩⟩⟩
  · have huv : u ≠ none ∨ v ≠ none := Or.inl (fun q => c ((oN_6 hu5).mpr q))
    exact two huv _ (tail huv)
  · have huv : u ≠ none ∨ v ≠ none := Or.inr (fun q => c2 ((oN_6 hv5).mpr q))
    exact two huv _ (tail huv)
  · refine hk k M2 N T ⟨hu2, ⟨⟨Nat.le_refl _, Nat.le_refl _⟩, hu2.1, hu2.2.1, fun _ _ _ => rfl, fun e h1 h2 => absurd h1 (by omega), hu2.2.2.2.1, fun _ _ => rfl⟩, zfb_of f2 (by simp), ?_, ?_, ?_, ?_⟩
    · unfold nnode
      rw [em, (oN_6 hu5).mp c, (oN_6 hv5).mp c2, hT]
      rfl
    · have c3' : ¬ M 50 10 = -6 := fun q => c3 (by rw [hM2, zms_k _ _ (by decide)]; exact q)
      rw [if_neg (fun q => c3' q.1), hM2, zms_k _ _ (by decide)]
    · rw [hM2, zms_s]
    · rw [hcut, hM2, zms_k _ _ (by decide)]
      rfl
  · have hun := (oN_6 hu5).mp c
    have hvn := (oN_6 hv5).mp c2
    have c3' : M 50 10 = -6 := by rw [hM2, zms_k _ _ (by decide)] at c3; exact c3
    have e5 : M2 (na i) 5 = nI (pkn (nN N i).1.2) := by rw [f2 (na i) (by simp; omega)]; exact b2.2.2.1
    rw [e5]
    refine Shorts_anyHopeless_ok b1.1.2.2.1 hD hu2.2.2.2.1.1 hu2.2.2.2.1.2 (fun M40 s1 s2 s3 f40 => ⟨_, rfl, rfl, fun q => ?_, fun q => ?_⟩)
    · have q' : hopl D (nN N i).1.2 = true := by
        by_cases h : hopl D (nN N i).1.2 = true
        · exact h
        · rw [if_neg h] at q; exact absurd rfl q
      have hfi : isEn D (nN N i).1 = false := by unfold isEn; rw [q']; simp
      refine hk k M40 N T ⟨?_, ⟨⟨Nat.le_refl _, Nat.le_refl _⟩, zNt_keep hu2.1 f40 (by decide) (by rw [f40 50 (by decide)]), hu2.2.1, fun _ _ _ => rfl, fun e h1 h2 => absurd h1 (by omega), ⟨s1, s2⟩, fun _ _ => rfl⟩, zfb_tr (zfb_of f2 (by simp)) (zfb_of f40 (by simp)), ?_, ?_, ?_, ?_⟩
      · exact zUn_49 hu2 f40 ⟨s1, s2⟩
      · unfold nnode
        rw [em, hun, hvn, hT]
        rfl
      · rw [if_neg (fun q => by rw [hfi] at q; cases q.2), f40 50 (by decide), hM2, zms_k _ _ (by decide)]
      · rw [f40 50 (by decide), hM2, zms_s]
      · rw [hcut, f40 50 (by decide), hM2, zms_k _ _ (by decide)]
        rfl
    · have q' : hopl D (nN N i).1.2 = false := by
        cases h : hopl D (nN N i).1.2 with
        | false => rfl
        | true => rw [h] at q; exact absurd q (by decide)
      have hn1 : (nN N i).1.1.1 = [] := by
        cases h : (nN N i).1.1.1 with
        | nil => rfl
        | cons a l => rw [h] at hu1; rw [← hu1] at hun; cases hun
      have hn2 : (nN N i).1.1.2 = [] := by
        cases h : (nN N i).1.1.2 with
        | nil => rfl
        | cons a l => rw [h] at hv1; rw [← hv1] at hvn; cases hvn
      have hfi : isEn D (nN N i).1 = true := by unfold isEn; rw [q', hn1, hn2]; rfl
      rintro _ rfl
      have u40 := zUn_49 hu2 f40 ⟨s1, s2⟩
      have fz : zfr M40 (zms M40 50 10 (M40 (na i) 0)) [50] := zfr_ms _ _ _ _ (by simp)
      have h9 : zms M40 50 10 (M40 (na i) 0) 50 9 = M40 50 9 := zms_k _ _ (by decide)
      have uz := zUn_50 u40 fz h9
      refine hk k _ N T ⟨uz, ⟨⟨Nat.le_refl _, Nat.le_refl _⟩, uz.1, hu2.2.1, fun _ _ _ => rfl, fun e h1 h2 => absurd h1 (by omega), uz.2.2.2.1, fun _ _ => rfl⟩, zfb_tr (zfb_of f2 (by simp)) (zfb_tr (zfb_of f40 (by simp)) (zfb_of fz (by simp))), ?_, ?_, ?_, ?_⟩
      · unfold nnode
        rw [em, hun, hvn, hT]
        rfl
      · rw [if_pos ⟨c3', hfi⟩, zms_s]
        exact u40.1.2.2.1 i (by omega)
      · rw [zms_k _ _ (by decide), f40 50 (by decide), hM2, zms_s]
      · rw [hcut, zms_k _ _ (by decide), f40 50 (by decide), hM2, zms_k _ _ (by decide)]
        rfl
end UNFOLD
