/-! the reference: a move is made, as it is meant -/
section REF7
variable {E : ZE} {k : Nat} {M M' M1 M2 : ZM} {Φ : Option Value → ZS → ZM → Prop} {A A' Q Q' : List Nat} {D : BD} {N : List NR}
theorem mkEnd {p : List Nat × List Nat} {n : T3} (hD : okD D) (hd : zRD M D) (hl1 : p.1.length ≤ 48) (hl2 : p.2.length ≤ 48) (h5 : ∀ s ∈ p.1, s < 5) (h6 : ∀ s ∈ p.2, s < 5) (hn : okn n) (hr : zMr M p) (hm : zMn M n) (hk : ∀ M' y, mres M' (fin D (rLean p, n)) y → zfq M M' [103, 104] [] → Φ (some (.int y)) (zSt k) M') : zW E m_Mo_lean 1 (zSt k) M 0 [some (.ref 83)] [] (fun q3 T3 M3 => q3 = none ∧ (zSt k) = T3 ∧ zW E m_Mo_isHopeless 2 (zSt k) M3 0 [some (.ref 83)] [] (fun q4 T4 M4 => ∃ y4 : Int32, q4 = some (.int y4) ∧ (zSt k) = T4 ∧ (y4 = 0 → (24 < (M4 104 0) → Φ (some (.int 2)) (zSt k) M4) ∧ (¬ 24 < (M4 104 0) → ((M4 104 1) ≤ 24 → Φ (some (.int 1)) (zSt k) M4) ∧ (¬ (M4 104 1) ≤ 24 → Φ (some (.int 2)) (zSt k) M4))) ∧ (¬ y4 = 0 → Φ (some (.int 0)) (zSt k) M4))) := by
  refine lean_ok p.1 p.2 M hl1 hl2 h5 h6 hr (fun M3 z3 f3 => ⟨rfl, rfl, ?_⟩)
  have z3 : zMr M3 (rLean p) := z3
  have hm3 := zMn_keep hm f3 (by decide)
  have l1 : (rLean p).1.length ≤ 48 := by
    unfold rLean
    rw [List.length_drop]
    omega
  have l2 : (rLean p).2.length ≤ 48 := by
    unfold rLean
    rw [List.length_drop]
    omega
  refine isHopeless_ok hn hD (zRD_keep hd f3 (by simp) (by simp)) hm3 ⟨_, rfl, rfl, fun q => ?_, fun q => ?_⟩
  · have hh : ¬ hopl D n = true := fun w => by rw [if_pos w] at q; exact absurd q (by decide)
    have e0 : 24 < M3 104 0 ↔ 24 < (rLean p).1.length := by rw [z3.1.1]; exact nI_ltI (a := 24) (by decide) (by omega)
    have e1 : M3 104 1 ≤ 24 ↔ (rLean p).2.length ≤ 24 := by rw [z3.2.1]; exact nI_leI (b := 24) (by omega) (by decide)
    rw [e0, e1]
    have ef : fin D (rLean p, n) = if 24 < (rLean p).1.length ∨ 24 < (rLean p).2.length then some none else some (some (rLean p, n)) := by
      unfold fin
      rw [if_neg hh]
    rw [ef] at hk
    refine ⟨fun c => ?_, fun c => ⟨fun c2 => ?_, fun c2 => ?_⟩⟩
    · rw [if_pos (Or.inl c)] at hk
      exact hk M3 2 rfl f3
    · rw [if_neg (by omega)] at hk
      exact hk M3 1 ⟨rfl, z3, hm3⟩ f3
    · rw [if_pos (by omega)] at hk
      exact hk M3 2 rfl f3
  · have hh : hopl D n = true := by
      by_cases w : hopl D n = true
      · exact w
      · rw [if_neg w] at q; exact absurd rfl q
    have ef : fin D (rLean p, n) = none := by
      unfold fin
      rw [if_pos hh]
    rw [ef] at hk
    exact hk M3 0 rfl f3
theorem k_mv0 : ∀ v, v < 3 → (nI (100 * v) / 100) - (nI (100 * v) / 100) / 10 * 10 = nI v := by decide +kernel
theorem k_mv1 : ∀ v, v < 3 → ∀ t, t < 27 → (nI (1000 + 100 * v + t) / 100) - (nI (1000 + 100 * v + t) / 100) / 10 * 10 = nI v ∧ nI (1000 + 100 * v + t) - nI (1000 + 100 * v + t) / 100 * 100 = nI t := by decide +kernel
theorem okn511 {n : T3} {v : Nat} (h : okn n) : okn (nset n v 511) := okn_nset h (by decide)
theorem make0_loop {i v : Nat} {x : ND} (hi : i < 150) (hv : v < 3) (hD : okD D) (hxo : okN x) {M0 : ZM} (hd : zRD M0 D) (hr : zMr M0 (rWithout (v + 2) x.1.1, rWithout (v + 2) x.1.2)) (hM : ∀ s, s < 3 → M0 98 (9 * i + (3 * v + s)) = nI (dg (t3 x.2 v) s)) (hk : ∀ M' y, mres M' (if allow (t3 x.2 v) (0, 1, 2) = true then fin D (nd0 x v) else none) y → zfq M0 M' [103, 104, 105] [] → Φ (some (.int y)) (zSt k) M') : ∀ (c j : Nat) (M : ZM), j + c = 3 → (∀ u s, u < 3 → s < 3 → M 105 (3 * u + s) = nI (if u = v ∧ s < j then 7 else dg (t3 x.2 u) s)) → zfq M0 M [105] [] → zW E m_Mo_makeMove 3 (zSt k) M 55 [some (.ref 83), some (.int (nI i)), some (.int (nI (100 * v))), some (.int (nI v)), none, none, some (.int (nI j))] [] Φ
  | 0, j, M, hj, h1, hf => by
    have : j = 3 := by omega
    subst this
    have e1 : ¬ 1000 ≤ nI (100 * v) := nI_ge (b := 1000) (by omega) (by decide)
    refine vc_Mo_makeMove_55 E k M _ _ _ _ Φ ⟨fun _ => ⟨fun c => absurd c e1, fun _ => ?_⟩, fun c => absurd (by decide) c⟩
    have hn : zMn M (nset x.2 v 511) := fun u s hu hs => by
      rw [h1 u s hu hs, t3_nset hv hu]
      by_cases e : u = v
      · rw [if_pos ⟨e, hs⟩, if_pos e, dg511 hs]
      · rw [if_neg (fun z => e z.1), if_neg e]
    refine isNothing_ok hi hv (okn_t3 hxo.1.2.2.1 v) (fun s hs => by rw [hf.1 98 (by decide) (by decide)]; exact hM s hs) ⟨_, rfl, rfl, fun q => ?_, fun q => ?_⟩
    · have w : allow (t3 x.2 v) (0, 1, 2) = true := by
        by_cases w : allow (t3 x.2 v) (0, 1, 2) = true
        · exact w
        · rw [if_neg w] at q; exact absurd rfl q
      rw [if_pos w] at hk
      have la : (rWithout (v + 2) x.1.1).length ≤ 24 := Nat.le_trans (List.length_filter_le _ _) hxo.2.1
      have lb : (rWithout (v + 2) x.1.2).length ≤ 24 := Nat.le_trans (List.length_filter_le _ _) hxo.2.2
      exact mkEnd (p := (rWithout (v + 2) x.1.1, rWithout (v + 2) x.1.2)) hD (zRD_keep hd hf (by simp) (by simp)) (Nat.le_trans la (by decide)) (Nat.le_trans lb (by decide)) (rWithout_lt hxo.1.1) (rWithout_lt hxo.1.2.1) (okn511 hxo.1.2.2.1) (zMr_keep hr hf (by decide) (by decide)) hn (fun M' y z f => hk M' y z (zfq_tr (zfq_mono hf (by simp) (by simp)) (zfq_mono f (by simp) (by simp))))
    · have w : ¬ allow (t3 x.2 v) (0, 1, 2) = true := fun w => by rw [if_pos w] at q; exact absurd q (by decide)
      rw [if_neg w] at hk
      exact hk M 0 rfl (zfq_mono hf (by simp) (by simp))
  | c + 1, j, M, hj, h1, hf => by
    refine vc_Mo_makeMove_55 E k M _ _ _ _ Φ ⟨fun q => absurd q (nI_ge (b := 3) (by omega) (by decide)), fun _ => ⟨3 * v + j, by omega, by rw [n3, nI_add], ?_⟩⟩
    rintro _ rfl _ rfl
    rw [nI_1]
    refine make0_loop hi hv hD hxo hd hr hM hk c (j + 1) _ (by omega) (fun u s hu hs => ?_) (zfq_tr hf (zfq_ms _ _ _ (by simp) (by decide)))
    by_cases e : 3 * u + s = 3 * v + j
    · rw [e, zms_s, if_pos (by omega)]; rfl
    · rw [zms_k _ _ e, h1 u s hu hs]
      by_cases z : u = v ∧ s < j
      · rw [if_pos z, if_pos ⟨z.1, by omega⟩]
      · rw [if_neg z, if_neg (by omega)]
theorem zRNd_keep {i : Nat} {q : NR} (h : zRNd M i q) (f : zfq M M' A Q) (hA : ∀ p ∈ A, p < 96 ∨ 102 < p) : zRNd M' i q := by
  have e : ∀ p, 96 ≤ p → p ≤ 102 → M' p = M p := fun p h1 h2 => f.1 p (by omega) (fun c => by have := hA p c; omega)
  unfold zRNd
  rw [e 96 (by decide) (by decide), e 97 (by decide) (by decide), e 98 (by decide) (by decide), e 99 (by decide) (by decide), e 100 (by decide) (by decide), e 101 (by decide) (by decide), e 102 (by decide) (by decide)]
  exact h
theorem make0_ok {i v : Nat} {q : NR} (hi : i < 150) (hv : v < 3) (hD : okD D) (hq : okN q.1) (hd : zRD M D) (hM : zRNd M i q) (hk : ∀ M' y, mres M' (if allow (t3 q.1.2 v) (0, 1, 2) = true then fin D (nd0 q.1 v) else none) y → zfq M M' [103, 104, 105] [] → Φ (some (.int y)) (zSt k) M') : zW E m_Mo_makeMove 3 (zSt k) M 0 [some (.ref 83), some (.int (nI i)), some (.int (nI (100 * v))), none, none, none, none] [] Φ := by
  have e1 : ¬ 1000 ≤ nI (100 * v) := nI_ge (b := 1000) (by omega) (by decide)
  have go : zW E m_Mo_layRows 0 (zSt k) M 0 [some (.ref 83), some (.int (nI i)), some (.int (nI v)), some (.int (-6)), none, none, none, none, none] [] (fun q5 T5 M5 => q5 = none ∧ (zSt k) = T5 ∧ zW E m_Mo_makeMove 3 (zSt k) M5 55 [some (.ref 83), some (.int (nI i)), some (.int (nI (100 * v))), some (.int (nI v)), none, none, some (.int 0)] [] Φ) := by
    refine layRows_ok (o := none) hi hv hq (fun a e => by cases e) hM (fun M1 z1 z2 f1 => ⟨rfl, rfl, ?_⟩)
    refine make0_loop (M0 := M1) hi hv hD hq (zRD_keep hd f1 (by simp) (by simp)) z1 (fun s hs => by rw [f1.1 98 (by decide) (by decide)]; exact hM.2.1 v s hv hs) (fun M' y z f => hk M' y z (zfq_tr f1 f)) 3 0 M1 rfl (fun u s hu hs => ?_) (zfq_rfl _ _ _)
    rw [if_neg (by omega)]
    exact z2 u s hu hs
  refine vc_Mo_makeMove_0 E k M _ _ Φ ?_
  rw [k_mv0 v hv]
  rintro _ rfl
  refine firstOf_ok (r := 0) hi (by decide) hq hM ⟨_, rfl, rfl, fun _ => ⟨fun c => absurd c e1, fun _ => go⟩, fun _ => firstOf_ok (r := 1) hi (by decide) hq hM ⟨_, rfl, rfl, fun c => absurd c e1, fun _ => go⟩⟩
theorem make1_ok {i v o t : Nat} {q : NR} {g : Nat → Nat} (hg : okg g) (hi : i < 150) (hv : v < 3) (ho : o < 5) (ht : t < 27) (hvo : o ≠ v + 2) (hD : okD D) (hq : okN q.1) (hd : zRD M D) (hG : ∀ u, u < 6 → M 86 u = nI (g u)) (hM : zRNd M i q) (hh : (q.1.1.1.head? = some (v + 2) ∧ q.1.1.2.head? = some o) ∨ q.1.1.1.head? = some o) (hk : ∀ M' y, mres M' (fin D (nd1 g q.1 v o t)) y → zfq M M' [103, 104, 105] [] → Φ (some (.int y)) (zSt k) M') : zW E m_Mo_makeMove 3 (zSt k) M 0 [some (.ref 83), some (.int (nI i)), some (.int (nI (1000 + 100 * v + t))), none, none, none, none] [] Φ := by
  have e1 : 1000 ≤ nI (1000 + 100 * v + t) := nI_le (a := 1000) (by omega) (by omega)
  have e4 : nI v + 2 = nI (v + 2) := nI_addN _ 2
  have e2 : 2 ≤ nI o ↔ 2 ≤ o := nI_leI (a := 2) (by decide) (by omega)
  obtain ⟨k1, k2⟩ := k_mv1 v hv t ht
  have ra : (rAhead (v + 2) o q.1.1.1).length ≤ 48 := by
    have := rAhead_len (v + 2) o q.1.1.1
    have := hq.2.1
    omega
  have rb : (rAhead (v + 2) o q.1.1.2).length ≤ 48 := by
    have := rAhead_len (v + 2) o q.1.1.2
    have := hq.2.2
    omega
  have endv : 2 ≤ o → ∀ M5, zMr M5 (rAhead (v + 2) o q.1.1.1, rAhead (v + 2) o q.1.1.2) → zMn M5 (nset (nset q.1.2 v (bT (t3 q.1.2 v) t)) (o - 2) (aT (t3 q.1.2 (o - 2)) (t3 q.1.2 v) t)) → zfq M M5 [103, 104, 105] [] → zW E m_Mo_lean 1 (zSt k) M5 0 [some (.ref 83)] [] (fun q3 T3 M3 => q3 = none ∧ (zSt k) = T3 ∧ zW E m_Mo_isHopeless 2 (zSt k) M3 0 [some (.ref 83)] [] (fun q4 T4 M4 => ∃ y4 : Int32, q4 = some (.int y4) ∧ (zSt k) = T4 ∧ (y4 = 0 → (24 < (M4 104 0) → Φ (some (.int 2)) (zSt k) M4) ∧ (¬ 24 < (M4 104 0) → ((M4 104 1) ≤ 24 → Φ (some (.int 1)) (zSt k) M4) ∧ (¬ (M4 104 1) ≤ 24 → Φ (some (.int 2)) (zSt k) M4))) ∧ (¬ y4 = 0 → Φ (some (.int 0)) (zSt k) M4))) := fun h2 M5 z1 z2 f5 => by
    unfold nd1 at hk
    rw [if_neg (by omega)] at hk
    exact mkEnd (p := (rAhead (v + 2) o q.1.1.1, rAhead (v + 2) o q.1.1.2)) hD (zRD_keep hd f5 (by simp) (by simp)) ra rb (rAhead_lt hq.1.1 ho) (rAhead_lt hq.1.2.1 ho) (okn_nset (okn_nset hq.1.2.2.1 (bT_lt _ _)) (aT_lt (okn_t3 hq.1.2.2.1 _))) z1 z2 (fun M' y z f => hk M' y z (zfq_tr f5 (zfq_mono f (by simp) (by simp))))
  have endl : o < 2 → ∀ M5, zMr M5 (rAhead (v + 2) o q.1.1.1, rAhead (v + 2) o q.1.1.2) → zMn M5 (nset q.1.2 v (bl g (t3 q.1.2 v) o)) → zfq M M5 [103, 104, 105] [] → zW E m_Mo_lean 1 (zSt k) M5 0 [some (.ref 83)] [] (fun q3 T3 M3 => q3 = none ∧ (zSt k) = T3 ∧ zW E m_Mo_isHopeless 2 (zSt k) M3 0 [some (.ref 83)] [] (fun q4 T4 M4 => ∃ y4 : Int32, q4 = some (.int y4) ∧ (zSt k) = T4 ∧ (y4 = 0 → (24 < (M4 104 0) → Φ (some (.int 2)) (zSt k) M4) ∧ (¬ 24 < (M4 104 0) → ((M4 104 1) ≤ 24 → Φ (some (.int 1)) (zSt k) M4) ∧ (¬ (M4 104 1) ≤ 24 → Φ (some (.int 2)) (zSt k) M4))) ∧ (¬ y4 = 0 → Φ (some (.int 0)) (zSt k) M4))) := fun h2 M5 z1 z2 f5 => by
    unfold nd1 at hk
    rw [if_pos h2] at hk
    exact mkEnd (p := (rAhead (v + 2) o q.1.1.1, rAhead (v + 2) o q.1.1.2)) hD (zRD_keep hd f5 (by simp) (by simp)) ra rb (rAhead_lt hq.1.1 ho) (rAhead_lt hq.1.2.1 ho) (okn_nset hq.1.2.2.1 (bl_lt _ _ _)) z1 z2 (fun M' y z f => hk M' y z (zfq_tr f5 (zfq_mono f (by simp) (by simp))))
  refine vc_Mo_makeMove_0 E k M _ _ Φ ?_
  rw [k1, k2]
  rintro _ rfl
  rw [e4]
  refine firstOf_ok (r := 0) hi (by decide) hq hM ⟨_, rfl, rfl, fun c => ⟨fun _ => ?_, fun c => absurd e1 c⟩, fun c => firstOf_ok (r := 1) hi (by decide) hq hM ⟨_, rfl, rfl, fun _ => ?_, fun c => absurd e1 c⟩⟩
  · have hu : q.1.1.1.head? = some o := by
      rcases hh with ⟨h1, h2⟩ | h1
      · simp only [↓reduceIte] at c
        rw [h1] at c
        exact absurd rfl c
      · exact h1
    simp only [↓reduceIte]
    rw [hu]
    show zW E m_Mo_layRows 0 (zSt k) M 0 [some (.ref 83), some (.int (nI i)), some (.int (nI v)), some (.int (nI o)), none, none, none, none, none] [] _
    refine layRows_ok (o := some o) hi hv hq (fun a e => by cases e; exact ho) hM (fun M1 z1 z2 f1 => ⟨rfl, rfl, fun c2 => ?_, fun c2 => ?_⟩)
    · have h2 : 2 ≤ o := e2.mp c2
      show zW E m_Mo_variableAhead 1 (zSt k) M1 0 [some (.ref 83), some (.int (nI i)), some (.int (nI v)), some (.int (nI o - 2)), some (.int (nI t)), none, none, none] [] _
      rw [show nI o - 2 = nI (o - 2) from pk_sub (b := 2) h2]
      refine variableAhead_ok hi hv (by omega) (by omega) ht hq.1.2.2.1 (fun s hs => by rw [f1.1 98 (by decide) (by decide)]; exact hM.2.1 v s hv hs) z2 (fun M2 y2 f2 => ⟨rfl, rfl, fun _ => ?_, fun c => absurd e1 c⟩)
      exact endv h2 M2 (zMr_keep z1 f2 (by decide) (by decide)) y2 (zfq_tr f1 (zfq_mono f2 (by simp) (by simp)))
    · have h2 : o < 2 := by
        by_cases w : 2 ≤ o
        · exact absurd (e2.mpr w) c2
        · omega
      refine letterAhead_ok hg hi hv h2 (fun u hu => by rw [f1.1 86 (by decide) (by decide)]; exact hG u hu) (fun s hs => by rw [f1.1 98 (by decide) (by decide)]; exact hM.2.1 v s hv hs) z2 (fun M2 y2 f2 => ⟨rfl, rfl, fun _ => ?_, fun c => absurd e1 c⟩)
      exact endl h2 M2 (zMr_keep z1 f2 (by decide) (by decide)) y2 (zfq_tr f1 (zfq_mono f2 (by simp) (by simp)))
  · have hu : q.1.1.2.head? = some o := by
      rcases hh with ⟨h1, h2⟩ | h1
      · exact h2
      · simp only [↓reduceIte] at c
        rw [h1] at c
        exact absurd ((nI_eq (by omega) (by omega)).mp c) hvo
    simp only [Nat.one_ne_zero, ↓reduceIte]
    rw [hu]
    show zW E m_Mo_layRows 0 (zSt k) M 0 [some (.ref 83), some (.int (nI i)), some (.int (nI v)), some (.int (nI o)), none, none, none, none, none] [] _
    refine layRows_ok (o := some o) hi hv hq (fun a e => by cases e; exact ho) hM (fun M1 z1 z2 f1 => ⟨rfl, rfl, fun c2 => ?_, fun c2 => ?_⟩)
    · have h2 : 2 ≤ o := e2.mp c2
      show zW E m_Mo_variableAhead 1 (zSt k) M1 0 [some (.ref 83), some (.int (nI i)), some (.int (nI v)), some (.int (nI o - 2)), some (.int (nI t)), none, none, none] [] _
      rw [show nI o - 2 = nI (o - 2) from pk_sub (b := 2) h2]
      refine variableAhead_ok hi hv (by omega) (by omega) ht hq.1.2.2.1 (fun s hs => by rw [f1.1 98 (by decide) (by decide)]; exact hM.2.1 v s hv hs) z2 (fun M2 y2 f2 => ⟨rfl, rfl, fun _ => ?_, fun c => absurd e1 c⟩)
      exact endv h2 M2 (zMr_keep z1 f2 (by decide) (by decide)) y2 (zfq_tr f1 (zfq_mono f2 (by simp) (by simp)))
    · have h2 : o < 2 := by
        by_cases w : 2 ≤ o
        · exact absurd (e2.mpr w) c2
        · omega
      refine letterAhead_ok hg hi hv h2 (fun u hu => by rw [f1.1 86 (by decide) (by decide)]; exact hG u hu) (fun s hs => by rw [f1.1 98 (by decide) (by decide)]; exact hM.2.1 v s hv hs) z2 (fun M2 y2 f2 => ⟨rfl, rfl, fun _ => ?_, fun c => absurd e1 c⟩)
      exact endl h2 M2 (zMr_keep z1 f2 (by decide) (by decide)) y2 (zfq_tr f1 (zfq_mono f2 (by simp) (by simp)))
theorem memK0 {x : ND} {s : Nat} {m : MR} (h : m ∈ k0 D x s) : ∃ v, s = v + 2 ∧ m = (100 * v, if allow (t3 x.2 v) (0, 1, 2) = true then fin D (nd0 x v) else none) := by
  unfold k0 at h
  by_cases c : 2 ≤ s
  · rw [if_pos c, List.mem_singleton] at h
    exact ⟨s - 2, by omega, h⟩
  · rw [if_neg c] at h; cases h
theorem memK1 {x : ND} {g : Nat → Nat} {s o : Nat} {m : MR} (h : m ∈ k1 D g x s o) : ∃ v t, s = v + 2 ∧ t < 27 ∧ m = (1000 + 100 * v + t, fin D (nd1 g x v o t)) := by
  unfold k1 at h
  by_cases c : 2 ≤ s
  · rw [if_pos c] at h
    by_cases c2 : o < 2
    · rw [if_pos c2, List.mem_singleton] at h
      exact ⟨s - 2, 0, by omega, by decide, h⟩
    · rw [if_neg c2] at h
      obtain ⟨t, ht, h⟩ := List.mem_map.mp h
      unfold turnsOf at ht
      have := List.mem_range.mp (List.mem_filter.mp ht).1
      exact ⟨s - 2, t, by omega, this, h.symm⟩
  · rw [if_neg c] at h; cases h
theorem makeMove_ok {i : Nat} {q : NR} {g : Nat → Nat} {m : MR} (hg : okg g) (hi : i < 150) (hD : okD D) (hq : okN q.1) (hd : zRD M D) (hG : ∀ u, u < 6 → M 86 u = nI (g u)) (hM : zRNd M i q) (hm : m ∈ mvs D g q.1) (hk : ∀ M' y, mres M' m.2 y → zfq M M' [103, 104, 105] [] → Φ (some (.int y)) (zSt k) M') : zW E m_Mo_makeMove 3 (zSt k) M 0 [some (.ref 83), some (.int (nI i)), some (.int (nI m.1)), none, none, none, none] [] Φ := by
  have hu5 : ∀ u, q.1.1.1.head? = some u → u < 5 := fun u h => hq.1.1 u (List.mem_of_mem_head? h)
  have hv5 : ∀ v, q.1.1.2.head? = some v → v < 5 := fun v h => hq.1.2.1 v (List.mem_of_mem_head? h)
  have H0 : ∀ s, s < 5 → m ∈ k0 D q.1 s → zW E m_Mo_makeMove 3 (zSt k) M 0 [some (.ref 83), some (.int (nI i)), some (.int (nI m.1)), none, none, none, none] [] Φ := fun s hs h => by
    obtain ⟨v, e1, e2⟩ := memK0 h
    subst e2
    exact make0_ok hi (by omega) hD hq hd hM hk
  unfold mvs at hm
  cases hu : q.1.1.1.head? with
  | none =>
    cases hv : q.1.1.2.head? with
    | none => rw [hu, hv] at hm; cases hm
    | some v => rw [hu, hv] at hm; exact H0 v (hv5 v hv) hm
  | some u =>
    cases hv : q.1.1.2.head? with
    | none => rw [hu, hv] at hm; exact H0 u (hu5 u hu) hm
    | some v =>
      rw [hu, hv] at hm
      have u5 := hu5 u hu
      have v5 := hv5 v hv
      have hne := hq.1.2.2.2 u v hu hv
      simp only [List.mem_append] at hm
      rcases hm with ((h | h) | h) | h
      · exact H0 u u5 h
      · exact H0 v v5 h
      · obtain ⟨w, t, e1, e2, e3⟩ := memK1 h
        subst e3
        exact make1_ok hg hi (by omega) v5 e2 (by omega) hD hq hd hG hM (Or.inl ⟨by rw [hu, e1], hv⟩) hk
      · obtain ⟨w, t, e1, e2, e3⟩ := memK1 h
        subst e3
        exact make1_ok hg hi (by omega) u5 e2 (by omega) hD hq hd hG hM (Or.inr hu) hk
end REF7
