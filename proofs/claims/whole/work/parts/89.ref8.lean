/-! the reference: the net -/
def gI (N : List NR) : Prop := okNs N ∧ nInv N
abbrev A9 : List Nat := [96, 97, 98, 99, 100, 101, 102, 103, 104, 105, 106]
abbrev Q9 : List Nat := [21, 27]
theorem mvs_len (D : BD) (g : Nat → Nat) (x : ND) : (mvs D g x).length ≤ 56 := by
  have h0 : ∀ s, (k0 D x s).length ≤ 1 := fun s => by
    unfold k0
    split <;> simp
  have h1 : ∀ s o, (k1 D g x s o).length ≤ 27 := fun s o => by
    have := congrArg List.length (k1_fst D g x s o)
    rw [List.length_map] at this
    rw [this]
    split
    · exact c1_len _ _ _
    · simp
  unfold mvs
  split
  · simp
  · have := h0 ‹_›; omega
  · have := h0 ‹_›; omega
  · rename_i u v _ _
    have a := h0 u
    have b := h0 v
    have c := h1 u v
    have d := h1 v u
    simp only [List.length_append]
    omega
theorem gI_step {D : BD} {g : Nat → Nat} {i : Nat} {s : List NR × List (Nat × Nat)} {m : MR} (h : gI s.1) (hi : i < s.1.length) (hm : m ∈ mvs D g (nN s.1 i).1) : gI (nstep i s m).1 := by
  obtain ⟨⟨h1, h2⟩, h3⟩ := h
  have hx : okx (nN s.1 i).1 := (h2 i hi).1
  have hc : gI (ncut s.1 i) := by
    refine ⟨⟨by rw [ncut_len]; exact h1, fun e he => by rw [(ncut_1 hi e).1]; exact h2 e (by rw [ncut_len] at he; exact he)⟩, ?_⟩
    exact nInv_congr h3 (ncut_len _ _) (fun e _ => ⟨(ncut_1 hi e).2.1, (ncut_1 hi e).2.2⟩)
  obtain ⟨c, r⟩ := m
  unfold nstep
  cases r with
  | none => exact ⟨⟨h1, h2⟩, h3⟩
  | some r =>
    cases r with
    | none => exact hc
    | some x =>
      have hy := (mvs_ok hx hm).1
      have hcode := (mvs_code hx hm).2.1
      show gI (match nfind s.1 x with
        | some t => (s.1, s.2 ++ [(t, c)])
        | none => if s.1.length < 150 then (s.1 ++ [(x, (nN s.1 i).2.1 + 1, some (i, c), false)], s.2 ++ [(s.1.length, c)]) else (ncut s.1 i, s.2)).1
      cases nfind s.1 x with
      | some t => exact ⟨⟨h1, h2⟩, h3⟩
      | none =>
        by_cases q : s.1.length < 150
        · simp only [q, ↓reduceIte]
          refine ⟨⟨by simp; omega, fun e he => ?_⟩, nInv_push h3 hi hcode⟩
          by_cases el : e < s.1.length
          · rw [nN_l el]; exact h2 e el
          · have : e = s.1.length := by simp at he; omega
            subst this
            rw [nN_r]; exact hy
        · simp only [q, ↓reduceIte]
          exact hc
section REF8
variable {E : ZE} {k : Nat} {M M' M1 M2 : ZM} {Φ : Option Value → ZS → ZM → Prop} {A A' Q Q' : List Nat} {D : BD} {N : List NR}
theorem zRT_102 {N' : List NR} {i : Nat} (h : zRT M N) (hl : N'.length = N.length) (h1 : ∀ e, e < N.length → (nN N' e).1 = (nN N e).1 ∧ (nN N' e).2.1 = (nN N e).2.1 ∧ (nN N' e).2.2.1 = (nN N e).2.2.1) (h2 : ∀ e, e < N.length → e ≠ i → (nN N' e).2.2.2 = (nN N e).2.2.2) : zRT (zms M 102 i (if (nN N' i).2.2.2 = true then 1 else 0)) N' := by
  refine ⟨by rw [zms_n _ _ (by omega), hl]; exact h.1, fun e he => ?_⟩
  rw [hl] at he
  obtain ⟨a1, a2, a3, a4⟩ := h.2 e he
  obtain ⟨e1, e2, e3⟩ := h1 e he
  unfold zRNd
  rw [zms_ne M i _ (show (96 : Nat) ≠ 102 by decide), zms_ne M i _ (show (97 : Nat) ≠ 102 by decide), zms_ne M i _ (show (98 : Nat) ≠ 102 by decide), zms_ne M i _ (show (99 : Nat) ≠ 102 by decide), zms_ne M i _ (show (100 : Nat) ≠ 102 by decide), zms_ne M i _ (show (101 : Nat) ≠ 102 by decide), e1, e2, e3]
  refine ⟨a1, a2, a3, ?_⟩
  by_cases q : e = i
  · rw [q, zms_s]
  · rw [zms_k _ _ q, h2 e he q]; exact a4
theorem zRT_same {i : Nat} {v : Int32} (h : zRT M N) (hv : v = (if (nN N i).2.2.2 = true then 1 else 0)) : zRT (zms M 102 i v) N := by
  rw [hv]
  exact zRT_102 h rfl (fun _ _ => ⟨rfl, rfl, rfl⟩) (fun _ _ _ => rfl)
theorem zRT_cut {i : Nat} (h : zRT M N) (hi : i < N.length) : zRT (zms M 102 i 1) (ncut N i) := by
  have := zRT_102 (i := i) (N' := ncut N i) h (ncut_len _ _) (fun e _ => ncut_1 hi e) (fun e _ q => by rw [ncut_N hi, if_neg q])
  rw [ncut_N hi, if_pos rfl] at this
  exact this
theorem goOn_loop {i : Nat} {x : ND} {g : Nat → Nat} {N0 : List NR} (hg : okg g) (hD : okD D) {M0 : ZM} (hk : ∀ M', zRT M' ((mvs D g x).foldl (nstep i) (N0, [])).1 → gI ((mvs D g x).foldl (nstep i) (N0, [])).1 → zRD M' D → zfq M0 M' A9 Q9 → Φ none (zSt k) M') : ∀ (rest done : List MR) (s : List NR × List (Nat × Nat)) (M : ZM), done ++ rest = mvs D g x → s = done.foldl (nstep i) (N0, []) → gI s.1 → i < s.1.length → (nN s.1 i).1 = x → zRT M s.1 → zMv M ((mvs D g x).map (fun m => m.1)) → zRD M D → (∀ u, u < 6 → M 86 u = nI (g u)) → zfq M0 M A9 Q9 → zW E m_Mo_goOn 4 (zSt k) M 7 [some (.ref 83), some (.int (nI i)), some (.int (nI done.length)), none, none] [] Φ
  | [], done, s, M, hd, hs, hgi, hi, hx, hT, hV, hR, hG, hf => by
    rw [List.append_nil] at hd
    refine vc_Mo_goOn_7 E k M _ _ Φ ?_
    rw [hV.1, List.length_map, ← hd]
    have := mvs_len D g x
    rw [← hd] at this
    refine ⟨fun _ => ?_, fun q => absurd (nI_le (Nat.le_refl _) (by omega)) q⟩
    rw [← hd] at hk
    rw [hs] at hT hgi
    exact hk M hT hgi hR hf
  | m :: rest, done, s, M, hd, hs, hgi, hi, hx, hT, hV, hR, hG, hf => by
    have hlen := mvs_len D g x
    have hdl : done.length < (mvs D g x).length := by rw [← hd]; simp
    have hmem : m ∈ mvs D g x := by rw [← hd]; simp
    have hcode : M 106 done.length = nI m.1 := by
      have := hV.2 done.length (by rw [List.length_map]; exact hdl)
      rw [Nat.zero_add] at this
      rw [this, ← hd]
      simp [List.getD_eq_getElem?_getD]
    have hgl := hgi.1.1
    have hi150 : i < 150 := by omega
    -- the rest of the loop, with the next state
    have ih := goOn_loop hg hD hk rest (done ++ [m]) (nstep i s m)
    have step : ∀ M', zRT M' (nstep i s m).1 → zMv M' ((mvs D g x).map (fun m => m.1)) → zRD M' D → (∀ u, u < 6 → M' 86 u = nI (g u)) → zfq M0 M' A9 Q9 → zW E m_Mo_goOn 4 (zSt k) M' 7 [some (.ref 83), some (.int (nI i)), some (.int (nI done.length + 1)), none, none] [] Φ := fun M' a1 a2 a3 a4 a5 => by
      have kp := nkp_step m hi
      have := ih M' (by rw [List.append_assoc]; exact hd) (by rw [hs, List.foldl_append]; rfl) (gI_step hgi hi (by rw [hx]; exact hmem)) (Nat.lt_of_lt_of_le hi kp.1) (by rw [(kp.2.1 i hi).1]; exact hx) a1 a2 a3 a4 a5
      rw [List.length_append, List.length_singleton, ← nI_1] at this
      exact this
    have step2 : ∀ M', zfq M M' A9 [21] → M' 106 = M 106 → zRT M' (nstep i s m).1 → zW E m_Mo_goOn 4 (zSt k) M' 7 [some (.ref 83), some (.int (nI i)), some (.int (nI done.length + 1)), none, none] [] Φ := fun M' f e6 a1 => by
      refine step M' a1 ⟨by rw [f.2 27 (by decide)]; exact hV.1, by rw [e6]; exact hV.2⟩ (zRD_keep hR f (by decide) (by decide)) (fun u hu => by rw [f.1 86 (by decide) (by decide)]; exact hG u hu) (zfq_tr hf (zfq_mono f (by simp) (by simp)))
    have cutv := (hT.2 i hi).2.2.2
    refine vc_Mo_goOn_7 E k M _ _ Φ ?_
    rw [hV.1, List.length_map]
    refine ⟨fun q => absurd q (nI_ge hdl (by omega)), fun _ => ⟨done.length, by omega, rfl, ?_⟩⟩
    rw [hcode]
    refine makeMove_ok hg hi150 hD (hgi.1.2 i hi) hR hG (hT.2 i hi) (by rw [hx]; exact hmem) (fun M3 y hy f3 => ⟨_, rfl, rfl, ?_⟩)
    have hT3 : zRT M3 s.1 := zRT_keep hT f3 (by simp) (by simp)
    have cut3 : M3 102 i = (if (nN s.1 i).2.2.2 = true then 1 else 0) := by rw [f3.1 102 (by decide) (by decide)]; exact cutv
    have fr : ∀ v, zfq M (zms M3 102 i v) A9 [21] ∧ (zms M3 102 i v) 106 = M 106 := fun v => ⟨zfq_tr (zfq_mono f3 (by simp) (by simp)) (zfq_ms _ _ _ (by simp) (by decide)), by rw [zms_ne _ _ _ (by decide), f3.1 106 (by decide) (by decide)]⟩
    obtain ⟨c, r⟩ := m
    cases r with
    | none =>
      have hy : y = 0 := hy
      subst hy
      have sN : (nstep i s (c, none)).1 = s.1 := rfl
      rw [sN] at step2
      refine ⟨fun _ => ⟨i, hi150, rfl, ?_⟩, fun q => absurd q (by decide)⟩
      refine ⟨fun q => ⟨i, hi150, rfl, ?_⟩, fun q => ⟨fun q2 => absurd q2 (by decide), fun _ => ⟨i, hi150, rfl, ?_⟩⟩⟩
      · rintro _ rfl _ rfl
        refine step2 _ (fr 1).1 (fr 1).2 (zRT_same hT3 ?_)
        by_cases w : (nN s.1 i).2.2.2 = true
        · rw [if_pos w]
        · rw [cut3, if_neg w] at q; exact absurd rfl q
      · rintro _ rfl _ rfl
        exact step2 _ (fr 0).1 (fr 0).2 (zRT_same hT3 (by rw [← cut3]; exact q.symm))
    | some r =>
      cases r with
      | none =>
        have hy : y = 2 := hy
        subst hy
        have sN : (nstep i s (c, some none)).1 = ncut s.1 i := rfl
        rw [sN] at step2
        refine ⟨fun _ => ⟨i, hi150, rfl, ?_⟩, fun q => absurd q (by decide)⟩
        refine ⟨fun q => ⟨i, hi150, rfl, ?_⟩, fun q => ⟨fun _ => ⟨i, hi150, rfl, ?_⟩, fun q2 => absurd rfl q2⟩⟩
        · rintro _ rfl _ rfl
          exact step2 _ (fr 1).1 (fr 1).2 (zRT_cut hT3 hi)
        · rintro _ rfl _ rfl
          exact step2 _ (fr 1).1 (fr 1).2 (zRT_cut hT3 hi)
      | some w =>
        obtain ⟨hy, hr, hn⟩ := hy
        subst hy
        have hw : okN w := (mvs_ok (x := x) (by rw [← hx]; exact (hgi.1.2 i hi).1) hmem).1
        have e21 : M3 83 21 = nI s.1.length := hT3.1
        refine ⟨fun q => absurd rfl q, fun _ => ?_⟩
        refine lookFor_ok hgi.1 hw hT3 hr hn ⟨_, rfl, rfl, ?_⟩
        have hlt : ∀ e, nfind s.1 w = some e → e < 2 ^ 31 := fun e he => by
          have := (nfind_some he).1
          omega
        rw [(oN_neg hlt).1]
        cases hfd : nfind s.1 w with
        | some t =>
          have sN : (nstep i s (c, some (some w))).1 = s.1 := by
            unfold nstep
            simp only [hfd]
          rw [sN] at step2
          refine ⟨fun _ => ⟨i, hi150, rfl, ?_⟩, fun q => absurd (by simp) q⟩
          refine ⟨fun q => ⟨i, hi150, rfl, ?_⟩, fun q => ⟨fun q2 => absurd q2 (by decide), fun _ => ⟨i, hi150, rfl, ?_⟩⟩⟩
          · rintro _ rfl _ rfl
            refine step2 _ (fr 1).1 (fr 1).2 (zRT_same hT3 ?_)
            by_cases w : (nN s.1 i).2.2.2 = true
            · rw [if_pos w]
            · rw [cut3, if_neg w] at q; exact absurd rfl q
          · rintro _ rfl _ rfl
            exact step2 _ (fr 0).1 (fr 0).2 (zRT_same hT3 (by rw [← cut3]; exact q.symm))
        | none =>
          refine ⟨fun q => absurd rfl q, fun _ => ⟨i, hi150, rfl, ?_⟩⟩
          have L : ∀ v, 150 ≤ (zms M3 102 i v) 83 21 ↔ 150 ≤ s.1.length := fun v => by
            rw [zms_n _ _ (by omega), e21]
            exact nI_leI (a := 150) (by decide) (by omega)
          have L2 : M3 83 21 = 150 ↔ s.1.length = 150 := by rw [e21]; exact nI_eq (b := 150) (by omega) (by decide)
          have full : ¬ s.1.length < 150 → ∀ M', zfq M M' A9 [21] → M' 106 = M 106 → zRT M' (ncut s.1 i) → zW E m_Mo_goOn 4 (zSt k) M' 7 [some (.ref 83), some (.int (nI i)), some (.int (nI done.length + 1)), none, none] [] Φ := fun h M' a b d => by
            have sN : (nstep i s (c, some (some w))).1 = ncut s.1 i := by
              unfold nstep
              simp only [hfd, h, ↓reduceIte]
            rw [sN] at step2
            exact step2 M' a b d
          have add : s.1.length < 150 → ∀ v, v = (if (nN s.1 i).2.2.2 = true then (1 : Int32) else 0) → zW E m_Mo_addNode 0 (zSt k) (zms M3 102 i v) 0 [some (.ref 83), some (.int ((zms M3 102 i v) 99 i + 1)), some (.int (nI i)), some (.int ((zms M3 102 i v) 106 done.length)), none, none] [] (fun q39 T39 M39 => q39 = none ∧ (zSt k) = T39 ∧ ∀ y40 : Int32, y40 = nI done.length + 1 → zW E m_Mo_goOn 4 (zSt k) M39 7 [some (.ref 83), some (.int (nI i)), some (.int y40), none, none] [] Φ) := fun h v hv => by
            have sN : (nstep i s (c, some (some w))).1 = s.1 ++ [(w, (nN s.1 i).2.1 + 1, some (i, c), false)] := by
              unfold nstep
              simp only [hfd, h, ↓reduceIte]
            rw [sN] at step2
            have d99 : (zms M3 102 i v) 99 i = nI (nN s.1 i).2.1 := by
              rw [zms_ne _ _ _ (by decide)]; exact (hT3.2 i hi).2.2.1.1
            have d106 : (zms M3 102 i v) 106 done.length = nI c := by rw [(fr v).2]; exact hcode
            rw [d99, d106, nI_1]
            have f4 : zfq M3 (zms M3 102 i v) [102] [] := zfq_ms _ _ _ (by simp) (by decide)
            refine addNode_ok (o := some (i, c)) hgi.1 hw h (zRT_same hT3 hv) (zMr_keep hr f4 (by decide) (by decide)) (zMn_keep hn f4 (by decide)) (fun M5 z5 f5 => ⟨rfl, rfl, ?_⟩)
            rintro _ rfl
            exact step2 M5 (zfq_tr (fr v).1 (zfq_mono f5 (by simp) (by simp))) (by rw [f5.1 106 (by decide) (by decide)]; exact (fr v).2) z5
          refine ⟨fun q => ⟨i, hi150, rfl, ?_⟩, fun q => ⟨fun q2 => absurd q2 (by decide), fun _ => ⟨fun q3 => ⟨i, hi150, rfl, ?_⟩, fun q3 => ⟨i, hi150, rfl, ?_⟩⟩⟩⟩
          · have q' : 1 = (if (nN s.1 i).2.2.2 = true then (1 : Int32) else 0) := by
              by_cases w : (nN s.1 i).2.2.2 = true
              · rw [if_pos w]
              · rw [cut3, if_neg w] at q; exact absurd rfl q
            rintro _ rfl
            rw [L]
            refine ⟨fun z => ?_, fun z => ⟨i, hi150, rfl, done.length, by omega, rfl, add (by omega) 1 q'⟩⟩
            rintro _ rfl
            exact full (by omega) _ (fr 1).1 (fr 1).2 (zRT_cut hT3 hi)
          · rw [L2] at q3
            rintro _ rfl
            rw [L]
            exact ⟨fun z => absurd z (by omega), fun z => ⟨i, hi150, rfl, done.length, by omega, rfl, add (by omega) 0 (by rw [← cut3]; exact q.symm)⟩⟩
          · rw [L2] at q3
            rintro _ rfl
            rw [L]
            refine ⟨fun z => ?_, fun z => absurd (by omega) z⟩
            rintro _ rfl
            exact full (by omega) _ (fr 1).1 (fr 1).2 (zRT_cut hT3 hi)
theorem goOn_ok {i : Nat} {g : Nat → Nat} (hg : okg g) (hD : okD D) (hgi : gI N) (hi : i < N.length) (hT : zRT M N) (hR : zRD M D) (hG : ∀ u, u < 6 → M 86 u = nI (g u)) (hk : ∀ M', zRT M' (nnode D g N i).1 → gI (nnode D g N i).1 → zRD M' D → zfq M M' A9 Q9 → Φ none (zSt k) M') : zW E m_Mo_goOn 4 (zSt k) M 0 [some (.ref 83), some (.int (nI i)), none, none, none] [] Φ := by
  have hgl := hgi.1.1
  refine vc_Mo_goOn_0 E k M _ Φ (findMoves_ok (D := D) (g := g) (by omega) (hgi.1.2 i hi) (hT.2 i hi) (fun M1 z1 f1 => ⟨rfl, rfl, ?_⟩))
  exact goOn_loop (x := (nN N i).1) (N0 := N) hg hD (M0 := M) hk (mvs D g (nN N i).1) [] (N, []) M1 rfl rfl hgi hi rfl (zRT_keep hT f1 (by simp) (by simp)) z1 (zRD_keep hR f1 (by simp) (by simp)) (fun u hu => by rw [f1.1 86 (by decide) (by decide)]; exact hG u hu) (zfq_mono f1 (by simp) (by simp))
end REF8
