/-! drafts are settled -/
def nInv (N : List NR) : Prop := 0 < N.length ∧ (nN N 0).2.2.1 = none ∧ (nN N 0).2.1 = 0 ∧ ∀ e, 0 < e → e < N.length → ∃ p c, (nN N e).2.2.1 = some (p, c) ∧ p < e ∧ c < 2000 ∧ (nN N e).2.1 = (nN N p).2.1 + 1
theorem nInv_congr {N N' : List NR} (h : nInv N) (hl : N'.length = N.length) (h1 : ∀ e, e < N.length → (nN N' e).2.1 = (nN N e).2.1 ∧ (nN N' e).2.2.1 = (nN N e).2.2.1) : nInv N' := by
  obtain ⟨a1, a2, a3, a4⟩ := h
  refine ⟨by omega, by rw [(h1 0 a1).2]; exact a2, by rw [(h1 0 a1).1]; exact a3, fun e h0 he => ?_⟩
  rw [hl] at he
  obtain ⟨p, c, b1, b2, b3, b4⟩ := a4 e h0 he
  exact ⟨p, c, by rw [(h1 e he).2]; exact b1, b2, b3, by rw [(h1 e he).1, (h1 p (by omega)).1]; exact b4⟩
theorem nInv_push {N : List NR} {x : ND} {i c : Nat} (h : nInv N) (hi : i < N.length) (hc : c < 2000) : nInv (N ++ [(x, (nN N i).2.1 + 1, some (i, c), false)]) := by
  obtain ⟨a1, a2, a3, a4⟩ := h
  refine ⟨by simp, by rw [nN_l a1]; exact a2, by rw [nN_l a1]; exact a3, fun e h0 he => ?_⟩
  by_cases q : e < N.length
  · obtain ⟨p, c, b1, b2, b3, b4⟩ := a4 e h0 q
    exact ⟨p, c, by rw [nN_l q]; exact b1, b2, b3, by rw [nN_l q, nN_l (by omega)]; exact b4⟩
  · have e1 : e = N.length := by simp at he; omega
    subst e1
    rw [nN_r]
    exact ⟨i, c, rfl, hi, hc, by rw [nN_l hi]⟩
/-- the net has grown -/
def zGrow (D : BD) (i k : Nat) (N : List NR) (T : Nat → List (Nat × Nat)) (k' : Nat) (M' : ZM) (N' : List NR) (T' : Nat → List (Nat × Nat)) : Prop :=
  (k ≤ k' ∧ N.length ≤ N'.length) ∧ zNt k' M' N' T' ∧ nInv N' ∧ (∀ e, e ≠ i → e < N.length → T' e = T e) ∧ (∀ e, N.length ≤ e → e < N'.length → T' e = []) ∧ (zSh M' D ∧ zFit M' D) ∧ (∀ e, e < N.length → (nN N' e).1 = (nN N e).1)
theorem zGrow_tr {D : BD} {i k k' k2 : Nat} {M' M2 : ZM} {N N' N2 : List NR} {T T' T2 : Nat → List (Nat × Nat)} (hi : i < N.length) (h : zGrow D i k N T k' M' N' T') (h2 : zGrow D i k' N' T' k2 M2 N2 T2) : zGrow D i k N T k2 M2 N2 T2 := by
  obtain ⟨⟨a0, a1⟩, a2, a3, a4, a5, a6, a7⟩ := h
  obtain ⟨⟨b0, b1⟩, b2, b3, b4, b5, b6, b7⟩ := h2
  refine ⟨⟨by omega, by omega⟩, b2, b3, fun e he1 he2 => ?_, fun e he1 he2 => ?_, b6, fun e he => ?_⟩
  · rw [b4 e he1 (by omega), a4 e he1 he2]
  · by_cases c : e < N'.length
    · rw [b4 e (by omega) c, a5 e he1 c]
    · exact b5 e (by omega) he2
  · rw [b7 e (by omega), a7 e he]
def dms (D : BD) (p : List Nat × List Nat) (ds : List (T3 × Nat)) : List MR := ds.map (fun d => (d.2, fin D (p, d.1)))
theorem zSF_keep {M M' : ZM} {D : BD} {A : List Nat} (h : zSh M D ∧ zFit M D) (hf : zfb M M' A) (hA : ∀ p ∈ A, 49 < p) : zSh M' D ∧ zFit M' D := by
  have q : ∀ p, p < 50 → M' p = M p := fun p hp => hf p (by omega) (fun h => by have := hA p h; omega)
  refine ⟨zSh_keep h.1 (q 45 (by decide)) (q 46 (by decide)) (q 47 (by decide)) (q 48 (by decide)), fun n hn => ?_⟩
  rw [q 49 (by decide)]
  exact h.2 n hn
section SETTLE
variable {E : ZE} {Φ : Option Value → ZS → ZM → Prop} {D : BD} {p : List Nat × List Nat} {ds : List (T3 × Nat)} {i : Nat}
theorem settle_one {k : Nat} {M : ZM} {N : List NR} {T : Nat → List (Nat × Nat)} {j : Nat} (hD : okD D) (hpx : ∀ n, okn n → okx (p, n)) (hpl : p.1.length ≤ 48 ∧ p.2.length ≤ 48) (hds : ∀ d ∈ ds, okn d.1 ∧ d.2 < 2000) (hdl : ds.length ≤ 27)
    (hN : zNt k M N T) (hI : nInv N) (hi : i < N.length) (hS : zSh M D ∧ zFit M D) (h53 : zRN M 53 p.1) (h55 : zRN M 55 p.2) (hm : M 50 8 = rMark p.1 * 31 + rMark p.2) (h57 : zRN M 57 (ds.map (fun d => pkn d.1))) (h59 : zRN M 59 (ds.map (fun d => d.2))) (hT : (T i).length < 56) (hj : j < ds.length)
    (hk : ∀ k' M' N' T', zGrow D i k N T k' M' N' T' → (N', T' i) = nstep i (N, T i) ((ds.getD j ((0, 0, 0), 0)).2, fin D (p, (ds.getD j ((0, 0, 0), 0)).1)) → (∀ j, j ≠ 9 → M' 50 j = M 50 j) → zfb M M' [49, 50, 52] → zW E m_Net_settleDrafts 4 (zSt k') M' 32 [some (.ref 50), some (.ref (na i)), some (.int (if 24 < p.1.length ∨ 24 < p.2.length then 1 else 0)), some (.int (nI (j + 1))), none, none] [] Φ) :
    zW E m_Net_settleDrafts 4 (zSt k) M 32 [some (.ref 50), some (.ref (na i)), some (.int (if 24 < p.1.length ∨ 24 < p.2.length then 1 else 0)), some (.int (nI j)), none, none] [] Φ := by
  have hb := hN.1
  have hik : i < k := by omega
  obtain ⟨d, hd⟩ : ∃ d, ds.getD j ((0, 0, 0), 0) = d := ⟨_, rfl⟩
  have hdm : d ∈ ds := by
    rw [← hd, List.getD_eq_getElem?_getD, List.getElem?_eq_getElem hj]
    exact List.getElem_mem hj
  obtain ⟨hd1, hd2⟩ := hds d hdm
  have g1 : (ds.map (fun d => pkn d.1)).getD j 0 = pkn d.1 := by
    rw [← hd, List.getD_eq_getElem?_getD, List.getD_eq_getElem?_getD, List.getElem?_map, List.getElem?_eq_getElem hj]
    rfl
  have g2 : (ds.map (fun d => d.2)).getD j 0 = d.2 := by
    rw [← hd, List.getD_eq_getElem?_getD, List.getD_eq_getElem?_getD, List.getElem?_map, List.getElem?_eq_getElem hj]
    rfl
  rw [hd] at hk
  refine vc_Net_settleDrafts_32 E k M (na i) _ _ Φ (tN hik) ?_
  refine Row_size_ok (ts_57 k) h57 ⟨_, rfl, rfl, fun c => ?_, fun _ => ?_⟩
  · have := (nI_leI (by simp; omega) (by omega)).mp c
    simp at this
    omega
  refine Row_at_ok (ts_57 k) h57 (by simp; omega) ⟨_, rfl, rfl, ?_⟩
  rw [zat_nI (by simpa using hj) (by simp; omega), g1]
  refine Shorts_anyHopeless_ok hd1 hD hS.1 hS.2 (fun M6 s1 s2 s3 f6 => ⟨_, rfl, rfl, ?_⟩)
  have hN6 : zNt k M6 N T := zNt_keep hN f6 (by decide) (by rw [f6 50 (by decide)])
  have f6b : zfb M M6 [49, 50, 52] := zfb_of f6 (by simp)
  have h0 : ∀ j, j ≠ 9 → M6 50 j = M 50 j := fun j _ => by rw [f6 50 (by decide)]
  have i0 : zGrow D i k N T k M6 N T := ⟨⟨Nat.le_refl _, Nat.le_refl _⟩, hN6, hI, fun _ _ _ => rfl, fun e h1 h2 => absurd h1 (by omega), ⟨s1, s2⟩, fun _ _ => rfl⟩
  -- the node is cut
  have cut : ∀ M9, M6 = M9 → nstep i (N, T i) (d.2, fin D (p, d.1)) = (ncut N i, T i) → ∀ M11 : ZM, M11 = zms M9 (na i) 10 1 → ∀ y12 : Int32, y12 = nI j + 1 → zW E m_Net_settleDrafts 4 (zSt k) M11 32 [some (.ref 50), some (.ref (na i)), some (.int (if 24 < p.1.length ∨ 24 < p.2.length then 1 else 0)), some (.int y12), none, none] [] Φ := by
    rintro _ rfl hq _ rfl _ rfl
    rw [nI_1]
    have h116 : 116 ≤ na i := Nat.le_add_right _ _
    have fc : zfb M6 (zms M6 (na i) 10 1) [] := zfb_of (zfr_ms _ _ _ _ (A := [na i]) (by simp)) (by simp)
    refine hk k _ (ncut N i) T ⟨⟨Nat.le_refl _, by rw [ncut_len]; omega⟩, Node_cut_ok hN6 hi, nInv_congr hI (ncut_len _ _) (fun e _ => (ncut_1 hi e).2), fun _ _ _ => rfl, fun e h1 h2 => absurd h2 (by rw [ncut_len]; omega), zSF_keep ⟨s1, s2⟩ fc (by simp), fun e _ => (ncut_1 hi e).1⟩ hq.symm (fun j hj => ?_) (zfb_tr f6b (zfb_mono fc (by simp)))
    rw [fc 50 (by decide) (by simp)]
    exact h0 j hj
  by_cases hh : hopl D d.1 = true
  · rw [if_pos hh]
    refine ⟨fun c => absurd c (by decide), fun _ => ?_⟩
    rintro _ rfl
    rw [nI_1]
    refine hk k M6 N T i0 ?_ h0 f6b
    simp [nstep, fin, hh]
  · rw [if_neg hh]
    refine ⟨fun _ => ?_, fun c => absurd rfl c⟩
    by_cases tl : 24 < p.1.length ∨ 24 < p.2.length
    · rw [if_pos tl]
      rw [if_pos tl] at cut
      refine ⟨fun c => absurd c (by decide), fun _ => ⟨fun _ => cut M6 rfl ?_, fun c => absurd c (by decide)⟩⟩
      simp [nstep, fin, hh, tl]
    · rw [if_neg tl]
      rw [if_neg tl] at cut hk
      refine ⟨fun _ => ?_, fun c => absurd rfl c⟩
      have hok : okN (p, d.1) := ⟨hpx _ hd1, by show p.1.length ≤ 24; omega, by show p.2.length ≤ 24; omega⟩
      have r53 := zRN_keep h53 f6 (by decide) (by decide)
      have r55 := zRN_keep h55 f6 (by decide) (by decide)
      have rm : M6 50 8 = rMark p.1 * 31 + rMark p.2 := by rw [f6 50 (by decide)]; exact hm
      have hfin : fin D (p, d.1) = some (some (p, d.1)) := by simp [fin, hh, tl]
      have c59 := zRN_keep h59 f6 (by decide) (by decide)
      refine Net_metBefore_ok (x := (p, d.1)) hN6 rm hd1 r53 r55 hpl ⟨(hpx _ hd1).1, (hpx _ hd1).2.1⟩ (fun hnf => ⟨none, rfl, rfl, fun _ => ⟨fun c => absurd rfl c, fun _ => ?_⟩, fun b c => (by cases c)⟩) (fun t hf => ⟨some (na t), rfl, rfl, fun c => (by cases c), fun b c => ?_⟩)
      · refine Net_meet_ok hN6 hok hnf rm r53 r55 (fun h150 => ⟨k, none, rfl, rfl, tN hik, fun _ => cut M6 rfl ?_, fun b c => (by cases c)⟩) (fun h150 k' M13 hkk g1' g2' g3' => ⟨k', _, rfl, rfl, tN (by omega), fun c => (by cases c), fun b c => ?_⟩)
        · simp only [nstep, hfin, hnf]
          rw [if_neg (by omega)]
        · cases c
          have hl' : (N ++ [((p, d.1), 0, none, false)] : List NR).length = N.length + 1 := by simp
          have hb' := g1'.1
          refine ⟨tN (by omega), ?_⟩
          refine Row_at_ok (ts_59 k') (zRN_fb c59 g3' (by decide) (by decide) (by decide)) (by simp; omega) ⟨_, rfl, rfl, ?_⟩
          rw [zat_nI (by simpa using hj) (by simp; omega), g2]
          have eT : zup T N.length [] i = T i := by simp [zup, show i ≠ N.length by omega]
          refine Node_addMove_new g1' (by rw [hl']; omega) (by rw [hl']; omega) (by omega) (by omega) (by rw [eT]; exact hT) (by rw [nN_r]) (fun M17 q1 q2 => ⟨rfl, rfl, ?_⟩)
          rintro _ rfl
          rw [nI_1]
          have eN : (N ++ [((p, d.1), 0, none, false)] : List NR).set N.length ((nN (N ++ [((p, d.1), 0, none, false)]) N.length).1, (nN (N ++ [((p, d.1), 0, none, false)]) i).2.1 + 1, some (i, d.2), (nN (N ++ [((p, d.1), 0, none, false)]) N.length).2.2.2) = N ++ [((p, d.1), (nN N i).2.1 + 1, some (i, d.2), false)] := by
            rw [nN_r, nN_l hi]
            simp
          rw [eN] at q1
          have fT : zfb M M17 [49, 50, 52] := zfb_tr f6b (zfb_tr (zfb_mono g3' (by simp)) (zfb_mono q2 (by simp)))
          refine hk k' M17 _ _ ⟨⟨hkk, by simp⟩, q1, nInv_push hI hi hd2, fun e h1 h2 => ?_, fun e h1 h2 => ?_, zSF_keep (A := [50, 52]) ⟨s1, s2⟩ (zfb_tr g3' (zfb_mono q2 (by simp))) (by simp), fun e he => by rw [nN_l he]⟩ ?_ (fun j hj => ?_) fT
          · simp [zup, h1, show e ≠ N.length by omega]
          · simp at h2
            have : e = N.length := by omega
            subst this
            simp [zup, show N.length ≠ i by omega]
          · simp only [nstep, hfin, hnf]
            rw [if_pos h150]
            simp [zup, show i ≠ N.length by omega]
          · rw [q2 50 (by decide) (by simp), g2' j hj, h0 j hj]
      · cases c
        obtain ⟨t1, t2⟩ := nfind_some hf
        refine ⟨tN (by omega), ?_⟩
        refine Row_at_ok (ts_59 k) c59 (by simp; omega) ⟨_, rfl, rfl, ?_⟩
        rw [zat_nI (by simpa using hj) (by simp; omega), g2]
        refine Node_addMove_old hN6 hi t1 hT ?_ (fun M17 q1 q2 => ⟨rfl, rfl, ?_⟩)
        · by_cases z : t = 0
          · exact Or.inl z
          · obtain ⟨p', c', e1, e2, -⟩ := hI.2.2.2 t (by omega) t1
            exact Or.inr ⟨p', c', e1, by omega⟩
        · rintro _ rfl
          rw [nI_1]
          refine hk k M17 N _ ⟨⟨Nat.le_refl _, Nat.le_refl _⟩, q1, hI, fun e h1 h2 => ?_, fun e h1 h2 => absurd h1 (by omega), zSF_keep ⟨s1, s2⟩ q2 (by simp), fun _ _ => rfl⟩ ?_ (fun j hj => ?_) (zfb_tr f6b (zfb_mono q2 (by simp)))
          · simp [zup, h1]
          · simp only [nstep, hfin, hf]
            simp [zup]
          · rw [q2 50 (by decide) (by simp), h0 j hj]
end SETTLE
