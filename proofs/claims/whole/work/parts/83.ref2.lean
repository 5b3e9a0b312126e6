/-! the reference: fault, load, leads, need -/
section REF2
variable {E : ZE} {k : Nat} {M M' M1 M2 : ZM} {Φ : Option Value → ZS → ZM → Prop} {A A' Q Q' : List Nat}
theorem nI_n0 {n : Nat} (h : n < 2 ^ 31) : ¬ nI n < 0 := by
  rw [Int32.lt_iff_toInt_lt, nI_toInt h, Int32.toInt_zero]
  omega
def zRd (M : ZM) (l r : List Nat) : Prop := M 92 0 = nI l.length ∧ M 92 1 = nI r.length ∧ zSl (M 91) 0 l ∧ zSl (M 91) 12 r
theorem rfault_loop {xs : List Nat} {P : Sum Nat (List Nat × List Nat)} (hl : xs.length ≤ 40) (hs : ∀ s ∈ xs, s < 1000) {M0 : ZM} (hk : ∀ M', zfq M0 M' [91, 92] [] → (∀ q, P = .inr q → zRd M' q.1 q.2) → Φ (some (.int (pfv (P)))) (zSt k) M') : ∀ (n j : Nat) (b : Bool) (l r : List Nat) (M : ZM), j + n = xs.length → l.length ≤ 12 → r.length ≤ 12 → pf (xs.drop j) b l r j = P → M 83 7 = nI xs.length → zSl (M 90) 0 xs → zRd M l r → zfq M0 M [91, 92] [] → zW E m_Mo_fault 2 (zSt k) M 18 [some (.ref 83), some (.int (nI (if b = true then 1 else 0))), some (.int (nI j)), none, none] [] Φ
  | 0, j, b, l, r, M, hj, hl1, hr1, hp, h7, h90, hd, hf => by
    have : j = xs.length := by omega
    subst this
    rw [List.drop_length] at hp
    have hk := hk M hf
    rw [← hp] at hk
    refine vc_Mo_fault_18 E k M _ _ Φ ?_
    rw [h7]
    refine ⟨fun _ => ⟨fun q => ?_, fun q => ?_⟩, fun q => absurd (nI_le (Nat.le_refl _) (by omega)) q⟩
    · cases b with
      | true => exact absurd (by decide) q
      | false => exact hk (fun q hq => by simp [pf] at hq)
    · cases b with
      | true => exact hk (fun q hq => by simp [pf] at hq; rw [← hq]; exact hd)
      | false => exact absurd q (by decide)
  | n + 1, j, b, l, r, M, hj, hl1, hr1, hp, h7, h90, hd, hf => by
    have hjl : j < xs.length := by omega
    rw [drop_cons hjl] at hp
    have hv := hs _ (getD_mem hjl)
    have e90 := h90 j hjl
    rw [Nat.zero_add] at e90
    obtain ⟨v, ev⟩ : ∃ v, xs.getD j 0 = v := ⟨_, rfl⟩
    rw [ev] at hv hp e90
    refine vc_Mo_fault_18 E k M _ _ Φ ?_
    rw [h7]
    refine ⟨fun q => absurd q (nI_ge hjl (by omega)), fun _ => ⟨j, by omega, rfl, ?_⟩⟩
    rw [e90]
    refine Mo_symbolOf_ok hv ⟨_, rfl, rfl, j, by omega, rfl, ?_⟩
    rw [e90]
    have e61 : nI v = 61 ↔ v = 61 := nI_eq (b := 61) (by omega) (by decide)
    rw [e61]
    unfold pf at hp
    refine ⟨fun q => ?_, fun q => ⟨fun q2 => ?_, fun q2 => ?_⟩⟩
    · rw [if_neg q] at hp
      cases hsy : symN v with
      | none =>
        rw [hsy] at hp
        have hk := hk M hf
        rw [← hp] at hk
        exact ⟨fun _ => hk (fun q hq => by cases hq), fun c => absurd (by decide) c⟩
      | some s =>
        rw [hsy] at hp
        have hs5 := symN_lt hsy
        have hp : (if (if b = true then r else l).length < 12 then (if b = true then pf (xs.drop (j + 1)) b l (r ++ [s]) (j + 1) else pf (xs.drop (j + 1)) b (l ++ [s]) r (j + 1)) else .inl j) = P := hp
        refine ⟨fun c => absurd c (nI_n0 (n := s) (by omega)), fun _ => ?_⟩
        cases b with
        | true =>
          have hp : (if r.length < 12 then pf (xs.drop (j + 1)) true l (r ++ [s]) (j + 1) else .inl j) = P := hp
          refine ⟨1, by decide, rfl, ?_⟩
          have e12 : M 92 1 = 12 ↔ r.length = 12 := by rw [hd.2.1]; exact nI_eq (b := 12) (by omega) (by decide)
          rw [e12]
          refine ⟨fun c => ?_, fun c => ?_⟩
          · rw [if_pos (by omega)] at hp
            refine ⟨1, by decide, rfl, 12 + r.length, by omega, by rw [hd.2.1]; exact nI_addN 12 _, ?_⟩
            rintro _ rfl
            refine ⟨1, by decide, rfl, 1, by decide, rfl, ?_⟩
            rintro _ rfl _ rfl
            rw [nI_1]
            refine rfault_loop hl hs hk n (j + 1) true l (r ++ [s]) _ (by omega) hl1 (by simp; omega) hp ?_ ?_ ⟨?_, ?_, ?_, ?_⟩ (zfq_tr hf (zfq_tr (zfq_ms _ _ _ (by simp) (by decide)) (zfq_ms _ _ _ (by simp) (by decide))))
            · rw [zms_n _ _ (by omega), zms_n _ _ (by omega)]; exact h7
            · rw [zms_ne _ _ _ (by decide), zms_ne _ _ _ (by decide)]; exact h90
            · rw [zms_n _ _ (by omega), zms_n _ _ (by omega)]; exact hd.1
            · rw [zms_s, zms_n _ _ (by omega), hd.2.1, nI_1]; simp
            · exact zSl_congr hd.2.2.1 (fun i hi => by rw [zms_n _ _ (by omega), zms_n _ _ (by omega)])
            · exact zSl_snoc hd.2.2.2 (fun i hi => by rw [zms_n _ _ (by omega), zms_n _ _ (by omega)]) (by rw [zms_n _ _ (by omega), zms_s]; rfl)
          · rw [if_neg (by omega)] at hp
            have hk := hk M hf
            rw [← hp] at hk
            exact hk (fun q hq => by cases hq)
        | false =>
          have hp : (if l.length < 12 then pf (xs.drop (j + 1)) false (l ++ [s]) r (j + 1) else .inl j) = P := hp
          refine ⟨0, by decide, rfl, ?_⟩
          have e12 : M 92 0 = 12 ↔ l.length = 12 := by rw [hd.1]; exact nI_eq (b := 12) (by omega) (by decide)
          rw [e12]
          refine ⟨fun c => ?_, fun c => ?_⟩
          · rw [if_pos (by omega)] at hp
            refine ⟨0, by decide, rfl, l.length, by omega, by rw [hd.1]; exact (nI_addN 0 _).trans (by rw [Nat.zero_add]), ?_⟩
            rintro _ rfl
            refine ⟨0, by decide, rfl, 0, by decide, rfl, ?_⟩
            rintro _ rfl _ rfl
            rw [nI_1]
            refine rfault_loop hl hs hk n (j + 1) false (l ++ [s]) r _ (by omega) (by simp; omega) hr1 hp ?_ ?_ ⟨?_, ?_, ?_, ?_⟩ (zfq_tr hf (zfq_tr (zfq_ms _ _ _ (by simp) (by decide)) (zfq_ms _ _ _ (by simp) (by decide))))
            · rw [zms_n _ _ (by omega), zms_n _ _ (by omega)]; exact h7
            · rw [zms_ne _ _ _ (by decide), zms_ne _ _ _ (by decide)]; exact h90
            · rw [zms_s, zms_n _ _ (by omega), hd.1, nI_1]; simp
            · rw [zms_n _ _ (by omega), zms_n _ _ (by omega)]; exact hd.2.1
            · exact zSl_snoc hd.2.2.1 (fun i hi => by rw [zms_n _ _ (by omega), zms_n _ _ (by omega)]) (by rw [zms_n _ _ (by omega), Nat.zero_add, zms_s]; rfl)
            · exact zSl_congr hd.2.2.2 (fun i hi => by rw [zms_n _ _ (by omega), zms_n _ _ (by omega)])
          · rw [if_neg (by omega)] at hp
            have hk := hk M hf
            rw [← hp] at hk
            exact hk (fun q hq => by cases hq)
    · rw [if_pos q] at hp
      cases b with
      | false => exact absurd rfl q2
      | true =>
        rw [if_pos rfl] at hp
        have hk := hk M hf
        rw [← hp] at hk
        subst q
        exact ⟨fun _ => hk (fun q hq => by cases hq), fun c => absurd (by decide) c⟩
    · rw [if_pos q] at hp
      cases b with
      | true => exact absurd q2 (by decide)
      | false =>
        rw [if_neg (by decide)] at hp
        rintro _ rfl
        rw [nI_1]
        exact rfault_loop hl hs hk n (j + 1) true l r M (by omega) hl1 hr1 hp h7 h90 hd hf
theorem rfault_ok {xs : List Nat} (hl : xs.length ≤ 40) (hs : ∀ s ∈ xs, s < 1000) (h7 : M 83 7 = nI xs.length) (h90 : zSl (M 90) 0 xs) (hk : ∀ M', zfq M M' [91, 92] [] → (∀ q, pf xs false [] [] 0 = .inr q → zRd M' q.1 q.2) → Φ (some (.int (pfv (pf xs false [] [] 0)))) (zSt k) M') : zW E m_Mo_fault 2 (zSt k) M 0 [some (.ref 83), none, none, none, none] [] Φ := by
  refine vc_Mo_fault_0 E k M Φ ?_
  rintro _ rfl _ rfl
  refine rfault_loop hl hs hk xs.length 0 false [] [] _ (by omega) (by decide) (by decide) rfl ?_ ?_ ⟨?_, ?_, zSl_nil _ _, zSl_nil _ _⟩ (zfq_tr (zfq_ms _ _ _ (by simp) (by decide)) (zfq_ms _ _ _ (by simp) (by decide)))
  · rw [zms_n _ _ (by omega), zms_n _ _ (by omega)]; exact h7
  · rw [zms_ne _ _ _ (by decide), zms_ne _ _ _ (by decide)]; exact h90
  · rw [zms_n _ _ (by omega), zms_s]; rfl
  · rw [zms_s]; rfl
theorem Mo_fault_ok {a : AS} (h : zRI M a) (hk : ∀ M', zRI M' (aFault a).2 → zMh M M' → Φ (some (.int (aFault a).1)) (zSt k) M') : zW E m_Mo_fault 2 (zSt k) M 0 [some (.ref 83), none, none, none, none] [] Φ :=
  rfault_ok h.1.1.1 h.1.1.2 h.2.1.1.1 h.2.1.1.2 (fun M' f _ => hk M' (zRI_keep h f (by simp) (by simp)) (zfq_Mh f (by simp)))
theorem load_loop {M0 : ZM} (hk : ∀ M', (∀ i, i < 24 → M' 84 i = M0 91 i) → zfq M0 M' [84] [] → zW E m_Mo_load 3 (zSt k) M' 12 [some (.ref 83), some (.int (nI 24))] [] Φ) : ∀ (n j : Nat) (M : ZM), j + n = 24 → (∀ i, i < j → M 84 i = M0 91 i) → zfq M0 M [84] [] → zW E m_Mo_load 3 (zSt k) M 12 [some (.ref 83), some (.int (nI j))] [] Φ
  | 0, j, M, hj, hi, hf => by
    have : j = 24 := by omega
    subst this
    exact hk M hi hf
  | n + 1, j, M, hj, hi, hf => by
    refine vc_Mo_load_12 E k M _ Φ ⟨fun c => absurd c (nI_ge (b := 24) (by omega) (by decide)), fun _ => ⟨j, by omega, rfl, j, by omega, rfl, ?_⟩⟩
    rintro _ rfl _ rfl
    rw [nI_1]
    refine load_loop hk n (j + 1) _ (by omega) (fun i h => ?_) (zfq_tr hf (zfq_ms _ _ _ (by simp) (by decide)))
    by_cases e : i = j
    · subst e
      rw [zms_s, hf.1 91 (by decide) (by decide)]
    · rw [zms_k _ _ e, hi i (by omega)]
theorem Mo_load_ok {a : AS} (h : zRI M a) (ho : okS (aLoad a).2) (hk : ∀ M', zRI M' (aLoad a).2 → zMh M M' → Φ (some (.int (aLoad a).1)) (zSt k) M') : zW E m_Mo_load 3 (zSt k) M 0 [some (.ref 83), none] [] Φ := by
  unfold aLoad at hk ho
  refine vc_Mo_load_0 E k M Φ (rfault_ok h.1.1.1 h.1.1.2 h.2.1.1.1 h.2.1.1.2 (fun M1 f1 hq => ⟨_, rfl, rfl, fun c => ?_, fun c => ?_⟩))
  · cases e : pf a.1 false [] [] 0 with
    | inl i =>
      have := pf_idx _ _ _ _ _ _ e
      rw [e] at c
      have hl := h.1.1.1
      exact absurd c (nI_n0 (n := i) (by omega))
    | inr q =>
      rw [e] at hk ho
      obtain ⟨d1, d2, d3, d4⟩ := hq q e
      refine load_loop (M0 := M1) (fun M2 e2 f2 => ?_) 24 0 M1 rfl (fun i hi => absurd hi (Nat.not_lt_zero _)) (zfq_rfl _ _ _)
      refine vc_Mo_load_12 E k M2 _ Φ ⟨fun _ => ?_, fun c => absurd (by decide) c⟩
      rintro M3 e3 M4 e4 M5 e5 M6 e6
      have f3 : zfq M2 M3 [84, 85, 91, 92] [7, 22] := by rw [e3]; exact zfq_ms _ _ _ (by simp) (by decide)
      have f4 : zfq M3 M4 [84, 85, 91, 92] [7, 22] := by rw [e4]; exact zfq_ms _ _ _ (by simp) (by decide)
      have f5 : zfq M4 M5 [84, 85, 91, 92] [7, 22] := by rw [e5]; exact zfq_mq _ _ _ (by simp)
      have f6 : zfq M5 M6 [84, 85, 91, 92] [7, 22] := by rw [e6]; exact zfq_mq _ _ _ (by simp)
      have f : zfq M M6 [84, 85, 91, 92] [7, 22] := zfq_tr (zfq_mono f1 (by simp) (by simp)) (zfq_tr (zfq_mono f2 (by simp) (by simp)) (zfq_tr f3 (zfq_tr f4 (zfq_tr f5 f6))))
      have g0 : M6 85 0 = nI q.1.length := by
        rw [e6, zms_n _ _ (by omega), e5, zms_n _ _ (by omega), e4, zms_n _ _ (by omega), e3, zms_s, f2.1 92 (by decide) (by decide), d1]
      have g1 : M6 85 1 = nI q.2.length := by
        rw [e6, zms_n _ _ (by omega), e5, zms_n _ _ (by omega), e4, zms_s, e3, zms_n _ _ (by omega), f2.1 92 (by decide) (by decide), d2]
      have g2 : M6 84 = M2 84 := by rw [e6, zms_ne _ _ _ (by decide), e5, zms_ne _ _ _ (by decide), e4, zms_ne _ _ _ (by decide), e3, zms_ne _ _ _ (by decide)]
      have hB : (q.1.length ≤ 12 ∧ ∀ s ∈ q.1, s < 5) ∧ (q.2.length ≤ 12 ∧ ∀ s ∈ q.2, s < 5) := ⟨ho.2.1.1, ho.2.1.2.1⟩
      rw [g0, g1, nI_add]
      refine hk M6 ⟨ho, ⟨⟨by rw [e6, zms_n _ _ (by omega), e5, zms_s]; rfl, zSl_nil _ _⟩, ⟨⟨⟨g0, fun i hi => ?_⟩, ⟨g1, fun i hi => ?_⟩⟩, ?_⟩, zRIm_keep h.2.1.2.2.1 (f.1 _ (by decide) (by decide)) (f.1 _ (by decide) (by decide)), zRIm_keep h.2.1.2.2.2 (f.1 _ (by decide) (by decide)) (f.1 _ (by decide) (by decide))⟩, Or.inl (by rw [e6, zms_s])⟩ (zfq_Mh f (by simp))
      · have hi : i < q.1.length := hi
        rw [g2, e2 _ (by omega)]; exact d3 i hi
      · have hi : i < q.2.length := hi
        rw [g2, e2 _ (by omega)]; exact d4 i hi
      · rw [f.1 86 (by decide) (by decide), f.1 87 (by decide) (by decide), f.1 88 (by decide) (by decide), f.1 89 (by decide) (by decide)]
        exact h.2.1.2.1.2
  · cases e : pf a.1 false [] [] 0 with
    | inl i =>
      rw [e] at hk ho
      exact hk M1 (zRI_keep h f1 (by simp) (by simp)) (zfq_Mh f1 (by simp))
    | inr q => rw [e] at c; exact absurd (show (-6 : Int32) < 0 by decide) c
theorem Mo_leads_ok {a : AS} {x y z : Int32} (h : zRI M a) (ho : okS (aLeads a x y z).2) (hk : ∀ M', zRI M' (aLeads a x y z).2 → zMh M M' → Φ (some (.int (aLeads a x y z).1)) (zSt k) M') : zW E m_Mo_leads 2 (zSt k) M 0 [some (.ref 83), some (.int x), some (.int y), some (.int z), none] [] Φ := by
  unfold aLeads at hk ho
  refine vc_Mo_leads_0 E k M x y z Φ (Mo_isThird_ok (fun s hs ex qx => ⟨1, rfl, rfl, fun c => absurd c (by decide), fun _ => ?_⟩) (fun qx => ⟨0, rfl, rfl, fun _ => ?_, fun c => absurd rfl c⟩))
  · refine Mo_inN_ok (n := 2) (by decide) (fun l hl ey qy => ⟨1, rfl, rfl, fun c => absurd c (by decide), fun _ => ?_⟩) (fun qy => ⟨0, rfl, rfl, fun _ => ?_, fun c => absurd rfl c⟩)
    · refine Mo_isThird_ok (fun t ht ez qz => ⟨1, rfl, rfl, fun _ => ?_, fun c => absurd c (by decide)⟩) (fun qz => ⟨0, rfl, rfl, fun c => absurd rfl c, fun _ => ?_⟩)
      · rw [qx, qy, qz] at hk ho
        have ei : 3 * y + x = nI (3 * l + s) := by
          have e1 : (3 : Int32) * nI l = nI (3 * l) := pk_mul 3 l
          rw [ex, ey, e1, nI_add]
        refine ⟨3 * l + s, by omega, ei, ?_⟩
        rintro _ rfl
        refine ⟨3 * l + s, by omega, ei, ?_⟩
        intro M3 e3 M4 e4
        have f : zfq M M4 [86] [22] := by rw [e4, e3]; exact zfq_tr (zfq_ms _ _ _ (by simp) (by decide)) (zfq_mq _ _ _ (by simp))
        obtain ⟨c1, ⟨c2, c3, c4⟩, c5⟩ := h
        rw [c3.2.1 _ (by omega)]
        refine hk M4 ⟨ho, ⟨?_, ⟨?_, fun i hi => ?_, ?_⟩, zRIm_keep c4.1 (f.1 _ (by decide) (by decide)) (f.1 _ (by decide) (by decide)), zRIm_keep c4.2 (f.1 _ (by decide) (by decide)) (f.1 _ (by decide) (by decide))⟩, Or.inl (by rw [e4, zms_s])⟩ (zfq_Mh f (by simp))
        · rw [f.2 7 (by decide), f.1 90 (by decide) (by decide)]; exact c2
        · rw [f.1 84 (by decide) (by decide), f.1 85 (by decide) (by decide)]; exact c3.1
        · show M4 86 i = nI (zup a.2.1.2.1 (3 * l + s) t i)
          rw [e4, zms_n _ _ (by omega), e3]
          unfold zup
          by_cases e : i = 3 * l + s
          · rw [if_pos e, e, zms_s, ez]
          · rw [if_neg e, zms_k _ _ e]; exact c3.2.1 i hi
        · rw [f.1 87 (by decide) (by decide), f.1 88 (by decide) (by decide), f.1 89 (by decide) (by decide)]; exact c3.2.2
      · rw [qx, qy, qz] at hk
        exact hk M h (zMh_rfl _)
    · rw [qx, qy] at hk
      exact hk M h (zMh_rfl _)
  · rw [qx] at hk
    exact hk M h (zMh_rfl _)
theorem Mo_need_ok {a : AS} {x y z : Int32} (h : zRI M a) (ho : okS (aNeed a x y z).2) (hk : ∀ M', zRI M' (aNeed a x y z).2 → zMh M M' → Φ (some (.int (aNeed a x y z).1)) (zSt k) M') : zW E m_Mo_need 2 (zSt k) M 0 [some (.ref 83), some (.int x), some (.int y), some (.int z), none] [] Φ := by
  unfold aNeed at hk ho
  refine vc_Mo_need_0 E k M x y z Φ (Mo_isThird_ok (fun v hv ex qx => ⟨1, rfl, rfl, fun c => absurd c (by decide), fun _ => ?_⟩) (fun qx => ⟨0, rfl, rfl, fun _ => ?_, fun c => absurd rfl c⟩))
  · refine Mo_isThird_ok (fun s hs ey qy => ⟨1, rfl, rfl, fun _ => ?_, fun c => absurd c (by decide)⟩) (fun qy => ⟨0, rfl, rfl, fun c => absurd rfl c, fun _ => ?_⟩)
    · refine Mo_inN_ok (n := 8) (by decide) (fun t ht ez qz => ⟨1, rfl, rfl, fun _ => ?_, fun c => absurd c (by decide)⟩) (fun qz => ⟨0, rfl, rfl, fun c => absurd rfl c, fun _ => ?_⟩)
      · rw [qx, qy] at hk ho
        simp only [qz] at hk ho
        have ei : 3 * x + y = nI (3 * v + s) := by
          have e1 : (3 : Int32) * nI v = nI (3 * v) := pk_mul 3 v
          rw [ex, ey, e1, nI_add]
        refine ⟨3 * v + s, by omega, ei, ?_⟩
        rintro _ rfl
        refine ⟨3 * v + s, by omega, ei, ?_⟩
        intro M3 e3 M4 e4
        have f : zfq M M4 [87] [22] := by rw [e4, e3]; exact zfq_tr (zfq_ms _ _ _ (by simp) (by decide)) (zfq_mq _ _ _ (by simp))
        obtain ⟨c1, ⟨c2, c3, c4⟩, c5⟩ := h
        rw [c3.2.2.1 v s hv hs]
        refine hk M4 ⟨ho, ⟨?_, ⟨?_, ?_, fun v' s' hv' hs' => ?_, ?_⟩, zRIm_keep c4.1 (f.1 _ (by decide) (by decide)) (f.1 _ (by decide) (by decide)), zRIm_keep c4.2 (f.1 _ (by decide) (by decide)) (f.1 _ (by decide) (by decide))⟩, Or.inl (by rw [e4, zms_s])⟩ (zfq_Mh f (by simp))
        · rw [f.2 7 (by decide), f.1 90 (by decide) (by decide)]; exact c2
        · rw [f.1 84 (by decide) (by decide), f.1 85 (by decide) (by decide)]; exact c3.1
        · rw [f.1 86 (by decide) (by decide)]; exact c3.2.1
        · show M4 87 (3 * v' + s') = nI (dg (t3 (nset a.2.1.2.2.1 v (nst (t3 a.2.1.2.2.1 v) s t)) v') s')
          rw [e4, zms_n _ _ (by omega), e3, t3_nset hv hv']
          by_cases e : v' = v
          · rw [if_pos e, (nst_dg ht hs').2]
            by_cases e2 : s' = s
            · rw [if_pos e2, e, e2, zms_s, ez]
            · rw [if_neg e2, zms_k _ _ (by omega), e]; exact c3.2.2.1 v s' hv hs'
          · rw [if_neg e, zms_k _ _ (by omega)]; exact c3.2.2.1 v' s' hv' hs'
        · rw [f.1 88 (by decide) (by decide), f.1 89 (by decide) (by decide)]; exact c3.2.2.2
      · rw [qx, qy] at hk
        simp only [qz] at hk
        exact hk M h (zMh_rfl _)
    · rw [qx, qy] at hk
      exact hk M h (zMh_rfl _)
  · rw [qx] at hk
    exact hk M h (zMh_rfl _)
end REF2
