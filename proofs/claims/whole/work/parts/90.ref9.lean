/-! the reference: the net is found -/
theorem gI_fold {D : BD} {g : Nat → Nat} {i : Nat} {x : ND} : ∀ (L : List MR) (s : List NR × List (Nat × Nat)), (∀ m ∈ L, m ∈ mvs D g x) → gI s.1 → i < s.1.length → (nN s.1 i).1 = x → gI (L.foldl (nstep i) s).1
  | [], s, _, h, _, _ => h
  | m :: L, s, hL, h, hi, hx => by
    have kp := nkp_step m hi
    exact gI_fold L (nstep i s m) (fun m' hm' => hL m' (List.mem_cons_of_mem _ hm')) (gI_step h hi (by rw [hx]; exact hL m List.mem_cons_self)) (Nat.lt_of_lt_of_le hi kp.1) (by rw [(kp.2.1 i hi).1]; exact hx)
theorem gI_P {D : BD} {g : Nat → Nat} {x0 : ND} (h0 : okN x0) : ∀ i, gI (nP D g x0 i)
  | 0 => by
    refine ⟨⟨by simp [nP], fun e he => ?_⟩, ⟨by simp [nP], rfl, rfl, fun e h1 h2 => ?_⟩⟩
    · have : e = 0 := by simp [nP] at he; exact he
      subst this
      exact h0
    · simp [nP] at h2; omega
  | i + 1 => by
    by_cases c : i < (nP D g x0 i).length
    · rw [nP_s c]
      exact gI_fold _ _ (fun m hm => hm) (gI_P h0 i) c rfl
    · have : nP D g x0 (i + 1) = nP D g x0 i := by
        show (if i < (nP D g x0 i).length then (nnode D g (nP D g x0 i) i).1 else nP D g x0 i) = _
        rw [if_neg c]
      rw [this]
      exact gI_P h0 i
theorem okN_00 {B : AB} (h : okB B) : okN (nd00 B) := by
  refine ⟨rLean_ok h.1.2 h.2.1.2 h.2.2.2.1, ?_, ?_⟩
  · show (B.1.1.drop _).length ≤ 24
    rw [List.length_drop]
    have := h.1.1
    omega
  · show (B.1.2.drop _).length ≤ 24
    rw [List.length_drop]
    have := h.2.1.1
    omega
theorem gI_net {B : AB} (h : okB B) : gI (netOf B) := gI_P (okN_00 h) 150
/-- depths grow along the net -/
def nMon (i : Nat) (N : List NR) : Prop := (∀ e f, e ≤ f → f < N.length → (nN N e).2.1 ≤ (nN N f).2.1) ∧ (i < N.length → ∀ f, f < N.length → (nN N f).2.1 ≤ (nN N i).2.1 + 1)
theorem nMon_step {i : Nat} {s : List NR × List (Nat × Nat)} (m : MR) (h : nMon i s.1) (hi : i < s.1.length) : nMon i (nstep i s m).1 := by
  have hc : nMon i (ncut s.1 i) := by
    refine ⟨fun e f h1 h2 => ?_, fun h1 f h2 => ?_⟩
    · rw [ncut_len] at h2
      rw [(ncut_1 hi e).2.1, (ncut_1 hi f).2.1]; exact h.1 e f h1 h2
    · rw [ncut_len] at h2
      rw [(ncut_1 hi f).2.1, (ncut_1 hi i).2.1]; exact h.2 hi f h2
  unfold nstep
  split
  · exact h
  · exact hc
  · split
    · exact h
    · split
      · rename_i x _ _ _ _
        refine ⟨fun e f h1 h2 => ?_, fun h1 f h2 => ?_⟩
        · simp only [List.length_append, List.length_singleton] at h2
          by_cases cf : f < s.1.length
          · rw [nN_l cf, nN_l (by omega)]; exact h.1 e f h1 cf
          · have : f = s.1.length := by omega
            subst this
            rw [nN_r]
            by_cases ce : e < s.1.length
            · rw [nN_l ce]; exact h.2 hi e ce
            · have : e = s.1.length := by omega
              subst this
              rw [nN_r]; exact Nat.le_refl _
        · simp only [List.length_append, List.length_singleton] at h2
          rw [nN_l hi]
          by_cases cf : f < s.1.length
          · rw [nN_l cf]; exact h.2 hi f cf
          · have : f = s.1.length := by omega
            subst this
            rw [nN_r]; exact Nat.le_refl _
      · exact hc
theorem nMon_fold {i : Nat} : ∀ (L : List MR) (s : List NR × List (Nat × Nat)), nMon i s.1 → i < s.1.length → nMon i (L.foldl (nstep i) s).1
  | [], s, h, _ => h
  | m :: L, s, h, hi => nMon_fold L (nstep i s m) (nMon_step m h hi) (Nat.lt_of_lt_of_le hi (nkp_step m hi).1)
theorem nMon_P {D : BD} {g : Nat → Nat} {x0 : ND} : ∀ i, nMon i (nP D g x0 i)
  | 0 => by
    refine ⟨fun e f h1 h2 => ?_, fun _ f h2 => ?_⟩
    · have : f = 0 := by simp [nP] at h2; exact h2
      subst this
      have : e = 0 := by omega
      subst this
      exact Nat.le_refl _
    · have : f = 0 := by simp [nP] at h2; exact h2
      subst this
      omega
  | i + 1 => by
    by_cases c : i < (nP D g x0 i).length
    · have h := nMon_fold (mvs D g (nN (nP D g x0 i) i).1) (nP D g x0 i, []) (nMon_P i) c
      have h : nMon i (nnode D g (nP D g x0 i) i).1 := h
      rw [← nP_s c] at h
      refine ⟨h.1, fun h1 f hf => ?_⟩
      have a := h.2 (by omega) f hf
      have b := h.1 i (i + 1) (by omega) h1
      omega
    · have e : nP D g x0 (i + 1) = nP D g x0 i := by
        show (if i < (nP D g x0 i).length then (nnode D g (nP D g x0 i) i).1 else nP D g x0 i) = _
        rw [if_neg c]
      rw [e]
      exact ⟨(nMon_P i).1, fun h1 => absurd h1 (by omega)⟩
theorem dmx_last {N : List NR} (h : ∀ e f, e ≤ f → f < N.length → (nN N e).2.1 ≤ (nN N f).2.1) : ∀ i, i < N.length → dmx N (i + 1) = (nN N i).2.1
  | 0, _ => by
    show max 0 (nN N 0).2.1 = _
    omega
  | i + 1, hi => by
    show max (dmx N (i + 1)) (nN N (i + 1)).2.1 = _
    rw [dmx_last h i (by omega)]
    have := h i (i + 1) (by omega) hi
    omega
theorem dmx_net (B : AB) (hl : 0 < (netOf B).length) : dmx (netOf B) (netOf B).length = (nN (netOf B) ((netOf B).length - 1)).2.1 := by
  have hm : nMon 150 (netOf B) := nMon_P 150
  obtain ⟨N, hN⟩ : ∃ N, netOf B = N := ⟨_, rfl⟩
  rw [hN] at hm hl ⊢
  have := dmx_last hm.1 (N.length - 1) (by omega)
  rw [show N.length - 1 + 1 = N.length by omega] at this
  exact this
abbrev A10 : List Nat := [93, 94, 95, 96, 97, 98, 99, 100, 101, 102, 103, 104, 105, 106]
abbrev Q10 : List Nat := [13, 21, 22, 27]
section REF9
variable {E : ZE} {k : Nat} {M M' M1 M2 : ZM} {Φ : Option Value → ZS → ZM → Prop} {A A' Q Q' : List Nat} {D : BD} {N : List NR}
theorem netRow_loop {xs : List Nat} {r : Nat} (hr : r < 2) (hl : xs.length ≤ 12) {M0 : ZM} (hc : M0 85 r = nI xs.length) (hx : zSl (M0 84) (12 * r) xs) (hk : ∀ M', zSl (M' 103) (48 * r) xs → (∀ u, u < 48 * r ∨ 48 * r + 48 ≤ u → M' 103 u = M0 103 u) → zfq M0 M' [103] [] → zW E m_Mo_findNet 5 (zSt k) M' 24 [some (.ref 83), some (.int (nI (r + 1))), none] [] Φ) : ∀ (c j : Nat) (M : ZM), j + c = xs.length → (∀ i, i < j → M 103 (48 * r + i) = nI (xs.getD i 0)) → (∀ u, u < 48 * r ∨ 48 * r + 48 ≤ u → M 103 u = M0 103 u) → zfq M0 M [103] [] → zW E m_Mo_findNet 5 (zSt k) M 43 [some (.ref 83), some (.int (nI r)), some (.int (nI j))] [] Φ
  | 0, j, M, hj, h1, h2, hf => by
    refine vc_Mo_findNet_43 E k M _ _ Φ ⟨r, hr, rfl, ?_⟩
    rw [hf.1 85 (by decide) (by decide), hc]
    refine ⟨fun _ => ?_, fun q => absurd (nI_le (by omega) (by omega)) q⟩
    rintro _ rfl
    rw [nI_1]
    exact hk M (fun i hi => h1 i (by omega)) h2 hf
  | c + 1, j, M, hj, h1, h2, hf => by
    have e1 : (12 : Int32) * nI r + nI j = nI (12 * r + j) := by
      have : (12 : Int32) * nI r = nI (12 * r) := pk_mul 12 r
      rw [this, nI_add]
    have e2 : (48 : Int32) * nI r + nI j = nI (48 * r + j) := by
      have : (48 : Int32) * nI r = nI (48 * r) := pk_mul 48 r
      rw [this, nI_add]
    refine vc_Mo_findNet_43 E k M _ _ Φ ⟨r, hr, rfl, ?_⟩
    rw [hf.1 85 (by decide) (by decide), hc, e1, e2, hf.1 84 (by decide) (by decide)]
    refine ⟨fun q => absurd q (nI_ge (by omega) (by omega)), fun _ => ⟨_, by omega, rfl, _, by omega, rfl, ?_⟩⟩
    rintro _ rfl _ rfl
    rw [nI_1]
    refine netRow_loop hr hl hc hx hk c (j + 1) _ (by omega) (fun i hi => ?_) (fun u hu => ?_) (zfq_tr hf (zfq_ms _ _ _ (by simp) (by decide)))
    · by_cases e : i = j
      · subst e
        rw [zms_s]; exact hx i (by omega)
      · rw [zms_k _ _ (by omega)]; exact h1 i (by omega)
    · rw [zms_k _ _ (by omega)]; exact h2 u hu
theorem netNeed_loop {M0 : ZM} (hk : ∀ M', (∀ i, i < 9 → M' 105 i = M0 87 i) → zfq M0 M' [105] [] → zW E m_Mo_findNet 5 (zSt k) M' 89 [some (.ref 83), some (.int (nI 9)), none] [] Φ) : ∀ (c j : Nat) (M : ZM), j + c = 9 → (∀ i, i < j → M 105 i = M0 87 i) → zfq M0 M [105] [] → zW E m_Mo_findNet 5 (zSt k) M 89 [some (.ref 83), some (.int (nI j)), none] [] Φ
  | 0, j, M, hj, h1, hf => by
    have : j = 9 := by omega
    subst this
    exact hk M h1 hf
  | c + 1, j, M, hj, h1, hf => by
    refine vc_Mo_findNet_89 E k M _ Φ ⟨fun q => absurd q (nI_ge (b := 9) (by omega) (by decide)), fun _ => ⟨j, by omega, rfl, j, by omega, rfl, ?_⟩⟩
    rintro _ rfl _ rfl
    rw [nI_1]
    refine netNeed_loop hk c (j + 1) _ (by omega) (fun i hi => ?_) (zfq_tr hf (zfq_ms _ _ _ (by simp) (by decide)))
    by_cases e : i = j
    · subst e; rw [zms_s, hf.1 87 (by decide) (by decide)]
    · rw [zms_k _ _ e]; exact h1 i (by omega)
theorem isEn_mvs {D : BD} {g : Nat → Nat} {x : ND} (h : isEn D x = true) : mvs D g x = [] := by
  unfold isEn at h
  simp only [Bool.and_eq_true, List.isEmpty_iff] at h
  unfold mvs
  rw [h.1.1, h.1.2]
  rfl
theorem rnet_loop {g : Nat → Nat} {x0 : ND} (hg : okg g) (hD : okD D) (h0 : okN x0) {M0 : ZM} (hG : ∀ u, u < 6 → M0 86 u = nI (g u)) (hk : ∀ M', zRT M' (nP D g x0 150) → zRD M' D → zfq M0 M' A9 Q9 → Φ none (zSt k) M') : ∀ (c i : Nat) (M : ZM), i + c = 151 → i ≤ (nP D g x0 i).length → zRT M (nP D g x0 i) → zRD M D → zfq M0 M A9 Q9 → zW E m_Mo_findNet 5 (zSt k) M 128 [some (.ref 83), some (.int (nI i)), none] [] Φ
  | 0, i, M, hc, hl, hT, hR, hf => by
    have := (gI_P (D := D) (g := g) h0 i).1.1
    omega
  | c + 1, i, M, hc, hl, hT, hR, hf => by
    have hgi := gI_P (D := D) (g := g) h0 i
    have l150 := hgi.1.1
    refine vc_Mo_findNet_128 E k M _ Φ ?_
    rw [hT.1]
    by_cases q : i < (nP D g x0 i).length
    · refine ⟨fun z => absurd z (nI_ge q (by omega)), fun _ => ?_⟩
      refine isEnd_ok (by omega) hD (hgi.1.2 i q) hR (hT.2 i q) ⟨_, rfl, rfl, fun z => ?_, fun z => ?_⟩
      · have w : isEn D (nN (nP D g x0 i) i).1 = true := by
          by_cases w : isEn D (nN (nP D g x0 i) i).1 = true
          · exact w
          · rw [if_neg w] at z; exact absurd rfl z
        have e : nP D g x0 (i + 1) = nP D g x0 i := by
          rw [nP_s q]
          unfold nnode
          rw [isEn_mvs w]
          rfl
        rintro _ rfl
        rw [nI_1]
        exact rnet_loop hg hD h0 hG hk c (i + 1) M (by omega) (by rw [e]; exact q) (by rw [e]; exact hT) hR hf
      · refine goOn_ok hg hD hgi q hT hR (fun u hu => by rw [hf.1 86 (by decide) (by decide)]; exact hG u hu) (fun M1 z1 z2 z3 f1 => ⟨rfl, rfl, ?_⟩)
        rintro _ rfl
        rw [nI_1]
        rw [← nP_s q] at z1
        refine rnet_loop hg hD h0 hG hk c (i + 1) M1 (by omega) ?_ z1 z3 (zfq_tr hf f1)
        rw [nP_s q]
        exact Nat.lt_of_lt_of_le q (nkp_node q).1
    · refine ⟨fun _ => ?_, fun z => absurd (nI_le (by omega) (by omega)) z⟩
      have e := nP_stop (D := D) (g := g) (x0 := x0) (i := i) (by omega) (150 - i)
      rw [show i + (150 - i) = 150 by omega] at e
      refine hk M ?_ hR hf
      rw [e]; exact hT
theorem findNet_ok {a : AS} (h : zRI M a) (hk : ∀ M', zRI M' a → zRW a.2.1 M' → zfq M M' A10 Q10 → Φ none (zSt k) M') : zW E m_Mo_findNet 5 (zSt k) M 0 [some (.ref 83), none, none] [] Φ := by
  have hB := h.1.2.1
  have hg := hB.2.2.1
  have hD : okD (bfs a.2.1.2.1) := okD_P hg 27
  refine vc_Mo_findNet_0 E k M Φ ?_
  rcases h.2.2 with h22 | ⟨h22, hw⟩
  · refine ⟨fun _ => ?_, fun q => absurd h22 q⟩
    intro M1 g1
    have f1 : zfq M M1 A10 Q10 := by rw [g1]; exact zfq_mq _ _ _ (by simp)
    have G : ∀ {M' : ZM}, zfq M M' A10 Q10 → (∀ u, u < 6 → M' 86 u = nI (a.2.1.2.1 u)) := fun {M'} f u hu => by rw [f.1 86 (by decide) (by decide)]; exact h.2.1.2.1.2.1 u hu
    refine findDone_ok hg (G f1) (fun M2 z2 f2 => ⟨rfl, rfl, ?_⟩)
    have f2' := zfq_tr f1 (zfq_mono f2 (A' := A10) (Q' := Q10) (by simp) (by simp))
    intro M3 g3
    have f3 : zfq M2 M3 [] [21] := by rw [g3]; exact zfq_mq _ _ _ (by simp)
    have f3' := zfq_tr f2' (zfq_mono f3 (A' := A10) (Q' := Q10) (by simp) (by simp))
    have z3 := zRD_keep z2 f3 (by simp) (by simp)
    obtain ⟨⟨⟨b1, b2⟩, ⟨b3, b4⟩⟩, b5, b6, b7⟩ := h.2.1.2.1
    refine vc_Mo_findNet_24 E k M3 _ Φ ⟨fun q => absurd q (by decide), fun _ => ⟨0, by decide, rfl, 0, by decide, rfl, ?_⟩⟩
    intro M4 g4
    have f4 : zfq M3 M4 [104] [] := by rw [g4]; exact zfq_ms _ _ _ (by simp) (by decide)
    have f4' := zfq_tr f3' (zfq_mono f4 (A' := A10) (Q' := Q10) (by simp) (by simp))
    refine netRow_loop (xs := a.2.1.1.1) (r := 0) (M0 := M4) (by decide) hB.1.1 (by rw [f4'.1 85 (by decide) (by decide)]; exact b1) (by rw [f4'.1 84 (by decide) (by decide)]; exact b2) (fun M5 c1 c2 f5 => ?_) a.2.1.1.1.length 0 M4 (Nat.zero_add _) (fun i hi => absurd hi (Nat.not_lt_zero _)) (fun u _ => rfl) (zfq_rfl _ _ _)
    have f5' := zfq_tr f4' (zfq_mono f5 (A' := A10) (Q' := Q10) (by simp) (by simp))
    refine vc_Mo_findNet_24 E k M5 _ Φ ⟨fun q => absurd q (by decide), fun _ => ⟨1, by decide, rfl, 1, by decide, rfl, ?_⟩⟩
    intro M6 g6
    have f6 : zfq M5 M6 [104] [] := by rw [g6]; exact zfq_ms _ _ _ (by simp) (by decide)
    have f6' := zfq_tr f5' (zfq_mono f6 (A' := A10) (Q' := Q10) (by simp) (by simp))
    refine netRow_loop (xs := a.2.1.1.2) (r := 1) (M0 := M6) (by decide) hB.2.1.1 (by rw [f6'.1 85 (by decide) (by decide)]; exact b3) (by rw [f6'.1 84 (by decide) (by decide)]; exact b4) (fun M7 c3 c4 f7 => ?_) a.2.1.1.2.length 0 M6 (Nat.zero_add _) (fun i hi => absurd hi (Nat.not_lt_zero _)) (fun u _ => rfl) (zfq_rfl _ _ _)
    have f7' := zfq_tr f6' (zfq_mono f7 (A' := A10) (Q' := Q10) (by simp) (by simp))
    refine vc_Mo_findNet_24 E k M7 _ Φ ⟨fun _ => ?_, fun q => absurd (by decide) q⟩
    refine netNeed_loop (M0 := M7) (fun M8 c5 f8 => ?_) 9 0 M7 rfl (fun i hi => absurd hi (Nat.not_lt_zero _)) (zfq_rfl _ _ _)
    have f8' := zfq_tr f7' (zfq_mono f8 (A' := A10) (Q' := Q10) (by simp) (by simp))
    refine vc_Mo_findNet_89 E k M8 _ Φ ⟨fun _ => ?_, fun q => absurd (by decide) q⟩
    have l1 := hB.1.1
    have l2 := hB.2.1.1
    have m103 : M8 103 = M7 103 := f8.1 103 (by decide) (by decide)
    have m104 : M8 104 = M6 104 := by rw [f8.1 104 (by decide) (by decide), f7.1 104 (by decide) (by decide)]
    have hr : zMr M8 (a.2.1.1.1, a.2.1.1.2) := by
      refine ⟨⟨?_, fun i hi => ?_⟩, ⟨?_, ?_⟩⟩
      · rw [m104, g6, zms_n _ _ (by omega), f5.1 104 (by decide) (by decide), g4, zms_s, f3'.1 85 (by decide) (by decide)]; exact b1
      · have hi : i < a.2.1.1.1.length := hi
        rw [m103, c4 _ (by omega), f6.1 103 (by decide) (by decide)]; exact c1 i hi
      · rw [m104, g6, zms_s, f5'.1 85 (by decide) (by decide)]; exact b3
      · rw [m103]; exact c3
    have hn : zMn M8 a.2.1.2.2.1 := fun v s hv hs => by
      rw [c5 _ (by omega), f7'.1 87 (by decide) (by decide)]; exact b6 v s hv hs
    have fz : zfq M3 M8 [103, 104, 105] [] := zfq_tr (zfq_mono f4 (by simp) (by simp)) (zfq_tr (zfq_mono f5 (by simp) (by simp)) (zfq_tr (zfq_mono f6 (by simp) (by simp)) (zfq_tr (zfq_mono f7 (by simp) (by simp)) (zfq_mono f8 (by simp) (by simp)))))
    refine lean_ok a.2.1.1.1 a.2.1.1.2 M8 (by omega) (by omega) hB.1.2 hB.2.1.2 hr (fun M9 z9 f9 => ⟨rfl, rfl, ?_⟩)
    have f9' := zfq_tr f8' (zfq_mono f9 (A' := A10) (Q' := Q10) (by simp) (by simp))
    have h21 : M9 83 21 = nI 0 := by rw [f9.2 21 (by decide), fz.2 21 (by decide), g3, zms_s]; rfl
    refine addNode_ok (N := []) (x := nd00 a.2.1) (d := 0) (o := none) ⟨by simp, fun e he => absurd he (Nat.not_lt_zero _)⟩ (okN_00 hB) (by simp) ⟨h21, fun e he => absurd he (Nat.not_lt_zero _)⟩ z9 (zMn_keep hn f9 (by decide)) (fun M10 z10 f10 => ⟨rfl, rfl, ?_⟩)
    have f10' := zfq_tr f9' (zfq_mono f10 (A' := A10) (Q' := Q10) (by simp) (by simp))
    refine rnet_loop hg hD (okN_00 hB) (M0 := M10) (G f10') (fun M11 y1 y2 f11 => ?_) 151 0 M10 rfl (Nat.zero_le _) z10 (zRD_keep (zRD_keep (zRD_keep z3 fz (by simp) (by simp)) f9 (by simp) (by simp)) f10 (by simp) (by simp)) (zfq_rfl _ _ _)
    have f11' := zfq_tr f10' (zfq_mono f11 (A' := A10) (Q' := Q10) (by simp) (by simp))
    have q22 : M11 83 22 = 1 := by
      rw [f11.2 22 (by decide), f10.2 22 (by decide), f9.2 22 (by decide), fz.2 22 (by decide), f3.2 22 (by decide), f2.2 22 (by decide), g1, zms_s]
    exact hk M11 ⟨h.1, zRP_keep h.2.1 f11' (by decide) (by decide), Or.inr ⟨q22, y2, y1⟩⟩ ⟨y2, y1⟩ f11'
  · refine ⟨fun q => by rw [h22] at q; exact absurd q (by decide), fun _ => ?_⟩
    exact hk M h hw (zfq_rfl _ _ _)
theorem firstEnd_ok (hD : okD D) (hN : gI N) (hd : zRD M D) (hT : zRT M N) (h : Φ (some (.int (oN (fIx (fun e => isEn D (nN N e).1) 0 N.length)))) (zSt k) M) : zW E m_Mo_firstEnd 3 (zSt k) M 0 [some (.ref 83), none] [] Φ := by
  have l150 := hN.1.1
  have loop : ∀ (c j : Nat), j + c = N.length → (∀ i, i < j → isEn D (nN N i).1 = false) → zW E m_Mo_firstEnd 3 (zSt k) M 2 [some (.ref 83), some (.int (nI j))] [] Φ := by
    intro c
    induction c with
    | zero =>
      intro j hj hi
      refine vc_Mo_firstEnd_2 E k M _ Φ ?_
      rw [hT.1]
      refine ⟨fun _ => ?_, fun q => absurd (nI_le (by omega) (by omega)) q⟩
      rw [fIx_none.mpr (fun i _ h2 => hi i (by omega))] at h
      exact h
    | succ c ih =>
      intro j hj hi
      have hjl : j < N.length := by omega
      refine vc_Mo_firstEnd_2 E k M _ Φ ?_
      rw [hT.1]
      refine ⟨fun q => absurd q (nI_ge hjl (by omega)), fun _ => ?_⟩
      refine isEnd_ok (by omega) hD (hN.1.2 j hjl) hd (hT.2 j hjl) ⟨_, rfl, rfl, fun q => ?_, fun q => ?_⟩
      · rintro _ rfl
        rw [nI_1]
        refine ih (j + 1) (by omega) (fun i h2 => ?_)
        by_cases e : i = j
        · subst e
          cases z : isEn D (nN N i).1 with
          | false => rfl
          | true => rw [z] at q; exact absurd q (by decide)
        · exact hi i (by omega)
      · have e : isEn D (nN N j).1 = true := by
          cases z : isEn D (nN N j).1 with
          | true => rfl
          | false => rw [z] at q; exact absurd rfl q
        rw [fIx_at hjl e (fun i h2 => hi i h2)] at h
        exact h
  exact vc_Mo_firstEnd_0 E k M Φ (loop N.length 0 (by omega) (fun i hi => absurd hi (Nat.not_lt_zero _)))
theorem cuts_ok (hl : N.length ≤ 150) (hT : zRT M N) (h : Φ (some (.int (nI (ccn N N.length)))) (zSt k) M) : zW E m_Mo_cuts 0 (zSt k) M 0 [some (.ref 83), none, none] [] Φ := by
  have loop : ∀ (c j : Nat), j + c = N.length → zW E m_Mo_cuts 0 (zSt k) M 4 [some (.ref 83), some (.int (nI (ccn N j))), some (.int (nI j))] [] Φ := by
    intro c
    induction c with
    | zero =>
      intro j hj
      have : j = N.length := by omega
      subst this
      refine vc_Mo_cuts_4 E k M _ _ Φ ?_
      rw [hT.1]
      exact ⟨fun _ => h, fun q => absurd (nI_le (by omega) (by omega)) q⟩
    | succ c ih =>
      intro j hj
      have hjl : j < N.length := by omega
      have ih := ih (j + 1) (by omega)
      unfold ccn at ih
      refine vc_Mo_cuts_4 E k M _ _ Φ ?_
      rw [hT.1]
      refine ⟨fun q => absurd q (nI_ge hjl (by omega)), fun _ => ⟨j, by omega, rfl, ?_⟩⟩
      rw [(hT.2 j hjl).2.2.2]
      refine ⟨fun q => ?_, fun q => ?_⟩
      · have w : ¬ (nN N j).2.2.2 = true := fun w => by rw [if_pos w] at q; exact absurd q (by decide)
        rw [if_neg w] at ih
        rintro _ rfl _ rfl
        rw [nI_1, show nI (ccn N j) + 0 = nI (ccn N j + 0) from nI_addN _ 0]
        exact ih
      · have w : (nN N j).2.2.2 = true := by
          by_cases w : (nN N j).2.2.2 = true
          · exact w
          · rw [if_neg w] at q; exact absurd rfl q
        rw [if_pos w] at ih
        rintro _ rfl _ rfl
        rw [nI_1, nI_1]
        exact ih
  exact vc_Mo_cuts_0 E k M Φ (loop N.length 0 (by omega))
theorem count_s {xs : List Nat} {j s : Nat} (h : j < xs.length) : (xs.take (j + 1)).count s = (xs.take j).count s + (if xs.getD j 0 = s then 1 else 0) := by
  rw [take_succ' h, List.count_append]
  congr 1
  obtain ⟨y, hy⟩ : ∃ y, xs.getD j 0 = y := ⟨_, rfl⟩
  rw [hy]
  by_cases e : y = s
  · rw [if_pos e, e, List.count_cons_self, List.count_nil]
  · rw [if_neg e, List.count_cons_of_ne e, List.count_nil]
theorem most_row {xs : List Nat} {r v c0 : Nat} {x1 : Int32} (hr : r < 2) (hv : v < 3) (hl : xs.length ≤ 12) (h5 : ∀ s ∈ xs, s < 5) (hc : M 85 r = nI xs.length) (hx : zSl (M 84) (12 * r) xs) (hk : zW E m_Mo_mostOfOne 0 (zSt k) M 14 [some (.ref 83), some (.int x1), some (.int (nI v)), some (.int (nI (c0 + xs.count (v + 2)))), some (.int (nI (r + 1))), none] [] Φ) : ∀ (c j : Nat), j + c = xs.length → zW E m_Mo_mostOfOne 0 (zSt k) M 23 [some (.ref 83), some (.int x1), some (.int (nI v)), some (.int (nI (c0 + (xs.take j).count (v + 2)))), some (.int (nI r)), some (.int (nI j))] [] Φ
  | 0, j, hj => by
    refine vc_Mo_mostOfOne_23 E k M _ _ _ _ _ Φ ⟨r, hr, rfl, ?_⟩
    rw [hc, List.take_of_length_le (by omega)]
    refine ⟨fun _ => ?_, fun q => absurd (nI_le (by omega) (by omega)) q⟩
    rintro _ rfl
    rw [nI_1]
    exact hk
  | c + 1, j, hj => by
    have hjl : j < xs.length := by omega
    have y5 := getD_mem_lt h5 hjl
    have ih := most_row hr hv hl h5 hc hx hk c (j + 1) (by omega)
    rw [count_s hjl] at ih
    have e1 : (12 : Int32) * nI r + nI j = nI (12 * r + j) := by
      have : (12 : Int32) * nI r = nI (12 * r) := pk_mul 12 r
      rw [this, nI_add]
    have e2 : nI v + 2 = nI (v + 2) := nI_addN _ 2
    refine vc_Mo_mostOfOne_23 E k M _ _ _ _ _ Φ ⟨r, hr, rfl, ?_⟩
    rw [hc, e1, e2]
    refine ⟨fun q => absurd q (nI_ge hjl (by omega)), fun _ => ⟨_, by omega, rfl, ?_⟩⟩
    rw [hx j hjl, nI_eq (by omega) (by omega)]
    refine ⟨fun q => ?_, fun q => ?_⟩
    · rw [if_neg q] at ih
      rintro _ rfl _ rfl
      rw [nI_1, show nI (c0 + (xs.take j).count (v + 2)) + 0 = nI (c0 + (xs.take j).count (v + 2) + 0) from nI_addN _ 0]
      exact ih
    · rw [if_pos q] at ih
      rintro _ rfl _ rfl
      rw [nI_1, nI_1]
      exact ih
theorem most_one {B : AB} {v c0 : Nat} (hv : v < 3) (hB : okB B) (hM : zRB (M 84) (M 85) (M 86) (M 87) (M 88) (M 89) B) (hc : c0 < 100) (hk : zW E m_Mo_mostOfOne 0 (zSt k) M 4 [some (.ref 83), some (.int (nI (max c0 (tTim B (v + 2))))), some (.int (nI (v + 1))), none, none, none] [] Φ) : zW E m_Mo_mostOfOne 0 (zSt k) M 4 [some (.ref 83), some (.int (nI c0)), some (.int (nI v)), none, none, none] [] Φ := by
  refine vc_Mo_mostOfOne_4 E k M _ _ Φ ⟨fun q => absurd q (nI_ge (b := 3) (by omega) (by decide)), fun _ => ?_⟩
  refine vc_Mo_mostOfOne_14 E k M _ _ _ _ Φ ⟨fun q => absurd q (by decide), fun _ => ?_⟩
  refine most_row (r := 0) (c0 := 0) (xs := B.1.1) (by decide) hv hB.1.1 hB.1.2 hM.1.1.1 hM.1.1.2 ?_ _ 0 (Nat.zero_add _)
  refine vc_Mo_mostOfOne_14 E k M _ _ _ _ Φ ⟨fun q => absurd q (by decide), fun _ => ?_⟩
  have := most_row (E := E) (k := k) (M := M) (Φ := Φ) (x1 := nI c0) (r := 1) (v := v) (c0 := 0 + B.1.1.count (v + 2)) (xs := B.1.2) (by decide) hv hB.2.1.1 hB.2.1.2 hM.1.2.1 hM.1.2.2 ?_ _ 0 (Nat.zero_add _)
  · rw [List.take_zero, List.count_nil, Nat.add_zero] at this
    exact this
  · have b1 : B.1.1.count (v + 2) ≤ 12 := Nat.le_trans List.count_le_length hB.1.1
    have b2 : B.1.2.count (v + 2) ≤ 12 := Nat.le_trans List.count_le_length hB.2.1.1
    have et : 0 + B.1.1.count (v + 2) + B.1.2.count (v + 2) = tTim B (v + 2) := by unfold tTim; omega
    rw [et]
    have bt : tTim B (v + 2) ≤ 24 := by omega
    refine vc_Mo_mostOfOne_14 E k M _ _ _ _ Φ ⟨fun _ => ?_, fun q => absurd (by decide) q⟩
    rw [nI_leI (by omega) (by omega)]
    refine ⟨fun q => ?_, fun q => ?_⟩
    · rintro _ rfl
      rw [nI_1]
      rw [show max c0 (tTim B (v + 2)) = c0 by omega] at hk
      exact hk
    · rintro _ rfl
      rw [nI_1]
      rw [show max c0 (tTim B (v + 2)) = tTim B (v + 2) by omega] at hk
      exact hk
theorem mostOfOne_ok {B : AB} (hB : okB B) (hM : zRB (M 84) (M 85) (M 86) (M 87) (M 88) (M 89) B) (h : Φ (some (.int (nI (max (tTim B 2) (max (tTim B 3) (tTim B 4)))))) (zSt k) M) : zW E m_Mo_mostOfOne 0 (zSt k) M 0 [some (.ref 83), none, none, none, none, none] [] Φ := by
  have bd : ∀ s, tTim B s ≤ 24 := fun s => by
    have b1 : B.1.1.count s ≤ 12 := Nat.le_trans List.count_le_length hB.1.1
    have b2 : B.1.2.count s ≤ 12 := Nat.le_trans List.count_le_length hB.2.1.1
    unfold tTim
    omega
  have b2 := bd 2
  have b3 := bd 3
  have b4 := bd 4
  refine vc_Mo_mostOfOne_0 E k M Φ (most_one (v := 0) (c0 := 0) (by decide) hB hM (by decide) (most_one (v := 1) (by decide) hB hM (by show max 0 (tTim B 2) < 100; omega) (most_one (v := 2) (by decide) hB hM (by show max (max 0 (tTim B 2)) (tTim B 3) < 100; omega) ?_)))
  refine vc_Mo_mostOfOne_4 E k M _ _ Φ ⟨fun _ => ?_, fun q => absurd (by decide) q⟩
  have e : max (max (max 0 (tTim B (0 + 2))) (tTim B (1 + 2))) (tTim B (2 + 2)) = max (tTim B 2) (max (tTim B 3) (tTim B 4)) := by
    show max (max (max 0 (tTim B 2)) (tTim B 3)) (tTim B 4) = _
    omega
  rw [e]
  exact h
theorem Mo_net_ok {a : AS} {x : Int32} (h : zRI M a) (hk : ∀ M', zRI M' a → zMh M M' → Φ (some (.int (aNet a x))) (zSt k) M') : zW E m_Mo_net 6 (zSt k) M 0 [some (.ref 83), some (.int x)] [] Φ := by
  unfold aNet at hk
  have hB := h.1.2.1
  have hg := hB.2.2.1
  have hD : okD (bfs a.2.1.2.1) := okD_P hg 27
  have hgi := gI_net hB
  have l150 := hgi.1.1
  have l0 := hgi.2.1
  refine vc_Mo_net_0 E k M x Φ (Mo_in_ok (l := 0) (h := 5) (by decide) (by decide) (fun c => ⟨1, rfl, rfl, fun _ => ?_, fun q => absurd q (by decide)⟩) (fun c => ⟨0, rfl, rfl, fun q => absurd rfl q, fun _ => ?_⟩))
  · rw [if_neg (by omega)] at hk
    refine findNet_ok h (fun M1 z1 ⟨z2, z3⟩ f1 => ⟨rfl, rfl, ?_⟩)
    have hk := hk M1 z1 (zfq_Mh f1 (by decide))
    have hcc : ccn (netOf a.2.1) (netOf a.2.1).length ≤ 150 := Nat.le_trans (ccn_le _ _) l150
    have hlt : ∀ e, fEnd a.2.1 = some e → e < 2 ^ 31 := fun e he => by
      have := (fIx_some he).2.1
      omega
    refine ⟨fun q => ?_, fun q => ?_, fun q => ?_, fun q => ?_, fun q => ?_, fun q => ?_⟩
    · rw [if_pos (by omega)] at hk
      exact mostOfOne_ok hB z1.2.1.2.1 ⟨_, rfl, rfl, hk⟩
    · rw [if_neg (by omega), if_pos q] at hk
      rw [z3.1]; exact hk
    · rw [if_neg (by omega), if_neg (by omega), if_pos q] at hk
      refine firstEnd_ok hD hgi z2 z3 ⟨_, rfl, rfl, ?_⟩
      have hk : Φ (some (.int (if (fEnd a.2.1).isSome = true then 1 else if ccn (netOf a.2.1) (netOf a.2.1).length = 0 then 0 else 2))) (zSt k) M1 := hk
      show (oN (fEnd a.2.1) < 0 → _) ∧ (¬ oN (fEnd a.2.1) < 0 → _)
      rw [(oN_neg hlt).2]
      refine ⟨fun z => ?_, fun z => ?_⟩
      · rw [z, if_neg (by simp)] at hk
        refine cuts_ok l150 z3 ⟨_, rfl, rfl, ?_⟩
        have e0 : nI (ccn (netOf a.2.1) (netOf a.2.1).length) = 0 ↔ ccn (netOf a.2.1) (netOf a.2.1).length = 0 := nI_eq (b := 0) (by omega) (by decide)
        rw [e0]
        exact ⟨fun w => by rw [if_neg w] at hk; exact hk, fun w => by rw [if_pos w] at hk; exact hk⟩
      · rw [if_pos (by cases w : fEnd a.2.1 with | none => exact absurd w z | some e => rfl)] at hk
        exact hk
    · rw [if_neg (by omega), if_neg (by omega), if_neg (by omega), if_pos q] at hk
      exact firstEnd_ok hD hgi z2 z3 ⟨_, rfl, rfl, hk⟩
    · rw [if_neg (by omega), if_neg (by omega), if_neg (by omega), if_neg (by omega), if_pos q] at hk
      rw [z3.1]
      refine ⟨(netOf a.2.1).length - 1, by omega, pk_sub (b := 1) (by omega), ?_⟩
      rw [(z3.2 _ (by omega)).2.2.1.1, ← dmx_net a.2.1 l0]
      exact hk
    · rw [if_neg (by omega), if_neg (by omega), if_neg (by omega), if_neg (by omega), if_neg (by omega)] at hk
      exact cuts_ok l150 z3 ⟨_, rfl, rfl, hk⟩
  · rw [if_pos (by omega)] at hk
    exact hk M h (zMh_rfl _)
end REF9
