/-! the reference: what is made; it is looked for among the nodes -/
def zMr (M : ZM) (p : List Nat × List Nat) : Prop := (M 104 0 = nI p.1.length ∧ zSl (M 103) 0 p.1) ∧ (M 104 1 = nI p.2.length ∧ zSl (M 103) 48 p.2)
def zMn (M : ZM) (n : T3) : Prop := ∀ v s, v < 3 → s < 3 → M 105 (3 * v + s) = nI (dg (t3 n v) s)
section REF4
variable {E : ZE} {k : Nat} {M M' M1 M2 : ZM} {Φ : Option Value → ZS → ZM → Prop} {A A' Q Q' : List Nat} {D : BD} {N : List NR}
theorem zMn_keep {n : T3} (h : zMn M n) (f : zfq M M' A Q) (hA : 105 ∉ A) : zMn M' n := by
  unfold zMn
  rw [f.1 105 (by decide) hA]
  exact h
theorem zMr_keep {p : List Nat × List Nat} (h : zMr M p) (f : zfq M M' A Q) (h3 : 103 ∉ A) (h4 : 104 ∉ A) : zMr M' p := by
  unfold zMr
  rw [f.1 103 (by decide) h3, f.1 104 (by decide) h4]
  exact h
/-- one row loses its first -/
theorem drop1_loop {xs : List Nat} {r y : Nat} (hr : r < 2) (hl : xs.length < 48) {M0 : ZM} (hk : ∀ M', M' 104 = M0 104 → zSl (M' 103) (48 * r) xs → (∀ i, i < 48 * r ∨ 48 * r + 48 ≤ i → M' 103 i = M0 103 i) → zfq M0 M' [103, 104] [] → zW E m_Mo_dropFirst 0 (zSt k) M' 2 [some (.ref 83), some (.int (nI (r + 1))), none] [] Φ) (hc : M0 104 r = nI xs.length) (hx : zSl (M0 103) (48 * r) (y :: xs)) : ∀ (n j : Nat) (M : ZM), j + n = xs.length → M 104 = M0 104 → (∀ i, i < j → M 103 (48 * r + i) = nI (xs.getD i 0)) → (∀ i, i < 48 * r ∨ 48 * r + j ≤ i → M 103 i = M0 103 i) → zfq M0 M [103, 104] [] → zW E m_Mo_dropFirst 0 (zSt k) M 19 [some (.ref 83), some (.int (nI r)), some (.int (nI j))] [] Φ
  | 0, j, M, hj, h4, h1, h2, hf => by
    refine vc_Mo_dropFirst_19 E k M _ _ Φ ⟨r, hr, rfl, ?_⟩
    rw [h4, hc]
    refine ⟨fun _ => ?_, fun q => absurd (nI_le (by omega) (by omega)) q⟩
    rintro _ rfl
    rw [nI_1]
    exact hk M h4 (fun i hi => h1 i (by omega)) (fun i hi => h2 i (by omega)) hf
  | n + 1, j, M, hj, h4, h1, h2, hf => by
    have e1 : (48 : Int32) * nI r + nI j = nI (48 * r + j) := by
      have : (48 : Int32) * nI r = nI (48 * r) := pk_mul 48 r
      rw [this, nI_add]
    refine vc_Mo_dropFirst_19 E k M _ _ Φ ⟨r, hr, rfl, ?_⟩
    rw [h4, hc, e1]
    refine ⟨fun q => absurd q (nI_ge (by omega) (by omega)), fun _ => ⟨48 * r + j + 1, by omega, nI_1 _, 48 * r + j, by omega, rfl, ?_⟩⟩
    rintro _ rfl _ rfl
    rw [nI_1]
    refine drop1_loop hr hl hk hc hx n (j + 1) _ (by omega) ?_ (fun i hi => ?_) (fun i hi => ?_) (zfq_tr hf (zfq_ms _ _ _ (by simp) (by decide)))
    · rw [zms_ne _ _ _ (by decide)]; exact h4
    · by_cases e : i = j
      · subst e
        rw [zms_s, h2 _ (by omega)]
        have := hx (i + 1) (by simp; omega)
        rw [← Nat.add_assoc] at this
        rw [this]
        rfl
      · rw [zms_k _ _ (by omega)]; exact h1 i (by omega)
    · rw [zms_k _ _ (by omega)]; exact h2 i (by omega)
theorem dropFirst_ok {x y : Nat} {l r : List Nat} (hl : l.length < 48) (hr : r.length < 48) (h : zMr M (x :: l, y :: r)) (hk : ∀ M', zMr M' (l, r) → zfq M M' [103, 104] [] → Φ none (zSt k) M') : zW E m_Mo_dropFirst 0 (zSt k) M 0 [some (.ref 83), none, none] [] Φ := by
  refine vc_Mo_dropFirst_0 E k M Φ ?_
  obtain ⟨⟨a1, a2⟩, ⟨a3, a4⟩⟩ := h
  have a1 : M 104 0 = nI (l.length + 1) := a1
  have a3 : M 104 1 = nI (r.length + 1) := a3
  refine vc_Mo_dropFirst_2 E k M _ Φ ⟨fun c => absurd c (by decide), fun _ => ⟨0, by decide, rfl, 0, by decide, rfl, ?_⟩⟩
  intro M1 e1
  rw [a1, show nI (l.length + 1) - 1 = nI l.length from pk_sub (b := 1) (by omega)] at e1
  have f1 : zfq M M1 [103, 104] [] := by rw [e1]; exact zfq_ms _ _ _ (by simp) (by decide)
  have g1 : M1 104 1 = nI (r.length + 1) := by rw [e1, zms_n _ _ (by omega)]; exact a3
  have g0 : M1 103 = M 103 := by rw [e1, zms_ne _ _ _ (by decide)]
  refine drop1_loop (xs := l) (r := 0) (y := x) (M0 := M1) (by decide) hl (fun M2 b1 b2 b3 b4 => ?_) (by rw [e1, zms_s]) (by rw [g0]; exact a2) l.length 0 M1 (by omega) rfl (fun i hi => absurd hi (Nat.not_lt_zero _)) (fun i _ => rfl) (zfq_rfl _ _ _)
  refine vc_Mo_dropFirst_2 E k M2 _ Φ ⟨fun c => absurd c (by decide), fun _ => ⟨1, by decide, rfl, 1, by decide, rfl, ?_⟩⟩
  intro M3 e3
  rw [b1, g1, show nI (r.length + 1) - 1 = nI r.length from pk_sub (b := 1) (by omega)] at e3
  have f3 : zfq M2 M3 [103, 104] [] := by rw [e3]; exact zfq_ms _ _ _ (by simp) (by decide)
  have g3 : M3 103 = M2 103 := by rw [e3, zms_ne _ _ _ (by decide)]
  refine drop1_loop (xs := r) (r := 1) (y := y) (M0 := M3) (by decide) hr (fun M4 d1 d2 d3 d4 => ?_) (by rw [e3, zms_s]) (by rw [g3]; exact fun i hi => by rw [b3 _ (by omega), g0]; exact a4 i hi) r.length 0 M3 (by omega) rfl (fun i hi => absurd hi (Nat.not_lt_zero _)) (fun i _ => rfl) (zfq_rfl _ _ _)
  refine vc_Mo_dropFirst_2 E k M4 _ Φ ⟨fun _ => ?_, fun q => absurd (by decide) q⟩
  refine hk M4 ⟨⟨?_, fun i hi => ?_⟩, ⟨?_, d2⟩⟩ (zfq_tr f1 (zfq_tr b4 (zfq_tr f3 d4)))
  · rw [d1, e3, zms_n _ _ (by omega), b1, e1, zms_s]
  · have hi : i < l.length := hi
    rw [d3 _ (by omega), g3]
    exact b2 i hi
  · rw [d1, e3, zms_s]
theorem rLean_cons (x : Nat) (l r : List Nat) : rLean (x :: l, x :: r) = rLean (l, r) := by
  unfold rLean
  simp [rFront]
theorem lean_ok : ∀ (l r : List Nat) (M : ZM), l.length ≤ 48 → r.length ≤ 48 → (∀ s ∈ l, s < 5) → (∀ s ∈ r, s < 5) → zMr M (l, r) → (∀ M', zMr M' (rLean (l, r)) → zfq M M' [103, 104] [] → Φ none (zSt k) M') → zW E m_Mo_lean 1 (zSt k) M 0 [some (.ref 83)] [] Φ
  | [], r, M, hl, hr, h5, h6, h, hk => by
    have a1 : M 104 0 = nI 0 := h.1.1
    refine vc_Mo_lean_0 E k M Φ ?_
    rw [a1]
    refine ⟨fun _ => hk M ?_ (zfq_rfl _ _ _), fun q => absurd (by decide) q⟩
    have e : rLean ([], r) = ([], r) := by simp [rLean, rFront]
    rw [e]; exact h
  | x :: l, [], M, hl, hr, h5, h6, h, hk => by
    have a1 : M 104 1 = nI 0 := h.2.1
    refine vc_Mo_lean_0 E k M Φ ?_
    rw [a1]
    have e : rLean (x :: l, []) = (x :: l, []) := by simp [rLean, rFront]
    rw [e] at hk
    exact ⟨fun _ => hk M h (zfq_rfl _ _ _), fun _ => ⟨fun _ => hk M h (zfq_rfl _ _ _), fun q => absurd (by decide) q⟩⟩
  | x :: l, y :: r, M, hl, hr, h5, h6, h, hk => by
    have a1 : M 104 0 = nI (l.length + 1) := h.1.1
    have a3 : M 104 1 = nI (r.length + 1) := h.2.1
    have a2 : M 103 0 = nI x := h.1.2 0 (by simp)
    have a4 : M 103 48 = nI y := h.2.2 0 (by simp)
    simp only [List.length_cons] at hl hr
    have hx5 := h5 x List.mem_cons_self
    have hy5 := h6 y List.mem_cons_self
    refine vc_Mo_lean_0 E k M Φ ?_
    rw [a1, a3, a2, a4]
    refine ⟨fun q => absurd q (nI_nle (by omega) (by omega)), fun _ => ⟨fun q => absurd q (nI_nle (by omega) (by omega)), fun _ => ⟨fun q => ?_, fun q => ?_⟩⟩⟩
    · have e : rLean (x :: l, y :: r) = (x :: l, y :: r) := by
        have : x ≠ y := fun z => q (by rw [z])
        simp [rLean, rFront, this]
      rw [e] at hk
      exact hk M h (zfq_rfl _ _ _)
    · have e : x = y := (nI_eq (by omega) (by omega)).mp q
      subst e
      rw [rLean_cons] at hk
      refine dropFirst_ok (by omega) (by omega) h (fun M1 z1 f1 => ⟨rfl, rfl, ?_⟩)
      exact lean_ok l r M1 (by omega) (by omega) (fun s hs => h5 s (List.mem_cons_of_mem _ hs)) (fun s hs => h6 s (List.mem_cons_of_mem _ hs)) z1 (fun M' z f => hk M' z (zfq_tr f1 f))
theorem isHopeless_ok {n : T3} (hn : okn n) (hD : okD D) (hM : zRD M D) (hN : zMn M n) (h : Φ (some (.int (if hopl D n = true then 1 else 0))) (zSt k) M) : zW E m_Mo_isHopeless 2 (zSt k) M 0 [some (.ref 83)] [] Φ := by
  have hl := okD_27 hD
  have yes : ∀ v, v < 3 → sIx D (t3 n v) = none → Φ (some (.int 1)) (zSt k) M := fun v hv e => by
    rw [if_pos (hopl_iff.mpr ⟨v, hv, e⟩)] at h; exact h
  refine vc_Mo_isHopeless_0 E k M Φ (firstFor_ok (f := 0) (ta_105 k) (by omega) (okn_t3 hn 0) hD hM (fun s hs => by rw [Nat.zero_add]; exact (by simpa using hN 0 s (by decide) hs)) ⟨_, rfl, rfl, fun q => yes 0 (by decide) ((fitv_neg hl _).2.mp q), fun q0 => ?_⟩)
  refine firstFor_ok (f := 3) (ta_105 k) (by omega) (okn_t3 hn 1) hD hM (fun s hs => hN 1 s (by decide) hs) ⟨_, rfl, rfl, fun q => yes 1 (by decide) ((fitv_neg hl _).2.mp q), fun q1 => ?_⟩
  refine firstFor_ok (f := 6) (ta_105 k) (by omega) (okn_t3 hn 2) hD hM (fun s hs => hN 2 s (by decide) hs) ⟨_, rfl, rfl, fun q2 => ?_, fun q => ?_⟩
  · rw [(fitv_neg hl _).2] at q0 q1
    rw [(fitv_neg hl _).1] at q2
    rw [if_neg] at h
    · exact h
    · intro z
      obtain ⟨v, hv, e⟩ := hopl_iff.mp z
      rcases (show v = 0 ∨ v = 1 ∨ v = 2 by omega) with rfl | rfl | rfl
      · exact q0 e
      · exact q1 e
      · exact q2 e
  · rw [(fitv_neg hl _).1] at q
    refine yes 2 (by decide) ?_
    cases z : sIx D (t3 n 2) with
    | none => rfl
    | some e => exact absurd (by rw [z]; simp) q
/-! whether a node is as what was made -/
theorem isSame_no {i : Nat} (h : Φ (some (.int 0)) (zSt k) M) : ∀ (n j : Nat), j + n = 2 → zW E m_Mo_isSame 0 (zSt k) M 88 [some (.ref 83), some (.int (nI i)), some (.int 0), some (.int (nI j)), none] [] Φ
  | 0, j, hj => by
    have : j = 2 := by omega
    subst this
    exact vc_Mo_isSame_88 E k M _ _ _ Φ ⟨fun _ => ⟨Or.inl rfl, h⟩, fun q => absurd (by decide) q⟩
  | n + 1, j, hj => by
    refine vc_Mo_isSame_88 E k M _ _ _ Φ ⟨fun q => absurd q (nI_ge (b := 2) (by omega) (by decide)), fun _ => ?_⟩
    refine vc_Mo_isSame_96 E k M _ _ _ _ Φ ⟨j, by omega, rfl, fun _ => ?_, fun _ => ⟨fun _ => ?_, fun q => absurd rfl q⟩⟩
    · rintro _ rfl
      rw [nI_1]; exact isSame_no h n (j + 1) (by omega)
    · rintro _ rfl
      rw [nI_1]; exact isSame_no h n (j + 1) (by omega)
theorem isSame_no96 {i r j : Nat} (hr : r < 2) (h : Φ (some (.int 0)) (zSt k) M) : zW E m_Mo_isSame 0 (zSt k) M 96 [some (.ref 83), some (.int (nI i)), some (.int 0), some (.int (nI r)), some (.int (nI j))] [] Φ := by
  refine vc_Mo_isSame_96 E k M _ _ _ _ Φ ⟨r, hr, rfl, fun _ => ?_, fun _ => ⟨fun _ => ?_, fun q => absurd rfl q⟩⟩
  · rintro _ rfl
    rw [nI_1]; exact isSame_no h (1 - r) (r + 1) (by omega)
  · rintro _ rfl
    rw [nI_1]; exact isSame_no h (1 - r) (r + 1) (by omega)
theorem isSame_no44 {i j : Nat} (h : Φ (some (.int 0)) (zSt k) M) : zW E m_Mo_isSame 0 (zSt k) M 44 [some (.ref 83), some (.int (nI i)), some (.int 0), some (.int (nI j)), none] [] Φ :=
  vc_Mo_isSame_44 E k M _ _ _ Φ ⟨fun _ => isSame_no h 2 0 rfl, fun _ => ⟨fun _ => isSame_no h 2 0 rfl, fun q => absurd rfl q⟩⟩
theorem isSame_row {xs ys : List Nat} {i r : Nat} (hi : i < 150) (hr : r < 2) (hl : ys.length ≤ 24) (h5 : ∀ s ∈ xs, s < 5) (h6 : ∀ s ∈ ys, s < 5) (he : xs.length = ys.length) (hx : zSl (M 96) (48 * i + 24 * r) xs) (hc : M 104 r = nI ys.length) (hy : zSl (M 103) (48 * r) ys) (h0 : xs ≠ ys → Φ (some (.int 0)) (zSt k) M) (h1 : xs = ys → zW E m_Mo_isSame 0 (zSt k) M 88 [some (.ref 83), some (.int (nI i)), some (.int 1), some (.int (nI (r + 1))), none] [] Φ) : ∀ (n j : Nat), j + n = ys.length → (∀ u, u < j → xs.getD u 0 = ys.getD u 0) → zW E m_Mo_isSame 0 (zSt k) M 96 [some (.ref 83), some (.int (nI i)), some (.int 1), some (.int (nI r)), some (.int (nI j))] [] Φ
  | 0, j, hj, hu => by
    refine vc_Mo_isSame_96 E k M _ _ _ _ Φ ⟨r, hr, rfl, ?_⟩
    rw [hc]
    refine ⟨fun _ => ?_, fun q => absurd (nI_le (by omega) (by omega)) q⟩
    rintro _ rfl
    rw [nI_1]
    exact h1 (list_eq_getD he (fun u h => hu u (by omega)))
  | n + 1, j, hj, hu => by
    have e1 : (48 : Int32) * nI i + 24 * nI r + nI j = nI (48 * i + 24 * r + j) := by
      have a : (48 : Int32) * nI i = nI (48 * i) := pk_mul 48 i
      have b : (24 : Int32) * nI r = nI (24 * r) := pk_mul 24 r
      rw [a, b, nI_add, nI_add]
    have e2 : (48 : Int32) * nI r + nI j = nI (48 * r + j) := by
      have a : (48 : Int32) * nI r = nI (48 * r) := pk_mul 48 r
      rw [a, nI_add]
    have bx := getD_mem_lt (j := j) h5 (by omega)
    have bY := getD_mem_lt (j := j) h6 (by omega)
    refine vc_Mo_isSame_96 E k M _ _ _ _ Φ ⟨r, hr, rfl, ?_⟩
    rw [hc, e1, e2]
    refine ⟨fun q => absurd q (nI_ge (by omega) (by omega)), fun _ => ⟨fun q => absurd q (by decide), fun _ => ⟨_, by omega, rfl, _, by omega, rfl, ?_⟩⟩⟩
    rw [hx j (by omega), hy j (by omega), nI_eq (by omega) (by omega)]
    refine ⟨fun q => ?_, fun q => ?_⟩
    · rintro _ rfl
      rw [nI_1]
      exact isSame_no96 hr (h0 (fun z => q (by rw [z])))
    · rintro _ rfl
      rw [nI_1]
      refine isSame_row hi hr hl h5 h6 he hx hc hy h0 h1 n (j + 1) (by omega) (fun u hu2 => ?_)
      by_cases e : u = j
      · rw [e]; exact q
      · exact hu u (by omega)
theorem isSame_need {m n : T3} {i : Nat} (hi : i < 150) (hm : okn m) (hn : okn n) (hx : ∀ v s, v < 3 → s < 3 → M 98 (9 * i + (3 * v + s)) = nI (dg (t3 m v) s)) (hy : zMn M n) (h0 : m ≠ n → Φ (some (.int 0)) (zSt k) M) (h1 : m = n → zW E m_Mo_isSame 0 (zSt k) M 88 [some (.ref 83), some (.int (nI i)), some (.int 1), some (.int 0), none] [] Φ) : ∀ (c j : Nat), j + c = 9 → (∀ v s, v < 3 → s < 3 → 3 * v + s < j → dg (t3 m v) s = dg (t3 n v) s) → zW E m_Mo_isSame 0 (zSt k) M 44 [some (.ref 83), some (.int (nI i)), some (.int 1), some (.int (nI j)), none] [] Φ
  | 0, j, hj, hu => by
    have : j = 9 := by omega
    subst this
    refine vc_Mo_isSame_44 E k M _ _ _ Φ ⟨fun _ => h1 ?_, fun q => absurd (by decide) q⟩
    exact t3_ext (fun v hv => dg_ext (okn_t3 hm v) (okn_t3 hn v) (fun s hs => hu v s hv hs (by omega)))
  | c + 1, j, hj, hu => by
    have e1 : (9 : Int32) * nI i + nI j = nI (9 * i + j) := by
      have a : (9 : Int32) * nI i = nI (9 * i) := pk_mul 9 i
      rw [a, nI_add]
    have ej : j = 3 * (j / 3) + j % 3 := by omega
    have a1 := hx (j / 3) (j % 3) (by omega) (by omega)
    have a2 := hy (j / 3) (j % 3) (by omega) (by omega)
    rw [← ej] at a1 a2
    have b1 := dg_lt (t3 m (j / 3)) (j % 3)
    have b2 := dg_lt (t3 n (j / 3)) (j % 3)
    refine vc_Mo_isSame_44 E k M _ _ _ Φ ?_
    rw [e1]
    refine ⟨fun q => absurd q (nI_ge (b := 9) (by omega) (by decide)), fun _ => ⟨fun q => absurd q (by decide), fun _ => ⟨_, by omega, rfl, j, by omega, rfl, ?_⟩⟩⟩
    rw [a1, a2, nI_eq (by omega) (by omega)]
    refine ⟨fun q => ?_, fun q => ?_⟩
    · rintro _ rfl
      rw [nI_1]
      exact isSame_no44 (h0 (fun z => q (by rw [z])))
    · rintro _ rfl
      rw [nI_1]
      refine isSame_need hi hm hn hx hy h0 h1 c (j + 1) (by omega) (fun v s hv hs h => ?_)
      by_cases e : 3 * v + s = j
      · have ev : v = j / 3 := by omega
        have es : s = j % 3 := by omega
        rw [ev, es]; exact q
      · exact hu v s hv hs (by omega)
theorem isSame_ok {i : Nat} {q : NR} {x : ND} (hi : i < 150) (hq : okN q.1) (hx : okN x) (hM : zRNd M i q) (hr : zMr M x.1) (hn : zMn M x.2) (h : Φ (some (.int (if q.1 = x then 1 else 0))) (zSt k) M) : zW E m_Mo_isSame 0 (zSt k) M 0 [some (.ref 83), some (.int (nI i)), none, none, none] [] Φ := by
  obtain ⟨⟨⟨⟨a1, a2⟩, ⟨a3, a4⟩⟩, a5, -⟩⟩ := And.intro hM trivial
  obtain ⟨⟨b1, b2⟩, ⟨b3, b4⟩⟩ := hr
  obtain ⟨⟨o1, o2, o3, -⟩, o4, o5⟩ := hq
  obtain ⟨⟨p1, p2, p3, -⟩, p4, p5⟩ := hx
  have no : q.1 ≠ x → Φ (some (.int 0)) (zSt k) M := fun z => by rw [if_neg z] at h; exact h
  have e1 : (2 : Int32) * nI i = nI (2 * i) := pk_mul 2 i
  refine vc_Mo_isSame_0 E k M _ Φ ?_
  rw [e1, nI_1]
  refine ⟨2 * i, by omega, rfl, ?_⟩
  rw [a1, b1, nI_eq (by omega) (by omega)]
  refine ⟨fun c => isSame_no44 (j := 0) (no (fun z => c (by rw [z]))), fun c1 => ⟨2 * i + 1, by omega, rfl, ?_⟩⟩
  rw [a3, b3, nI_eq (by omega) (by omega)]
  refine ⟨fun c => isSame_no44 (j := 0) (no (fun z => c (by rw [z]))), fun c2 => ?_⟩
  refine isSame_need hi o3 p3 a5 hn (fun z => no (fun w => z (by rw [w]))) (fun e2 => ?_) 9 0 rfl (fun v s _ _ h => absurd h (Nat.not_lt_zero _))
  refine vc_Mo_isSame_88 E k M _ _ _ Φ ⟨fun c => absurd c (by decide), fun _ => ?_⟩
  refine isSame_row (r := 0) hi (by decide) p4 o1 p1 c1 a2 b1 b2 (fun z => no (fun w => z (by rw [w]))) (fun e3 => ?_) _ 0 (Nat.zero_add _) (fun u hu => absurd hu (Nat.not_lt_zero _))
  refine vc_Mo_isSame_88 E k M _ _ _ Φ ⟨fun c => absurd c (by decide), fun _ => ?_⟩
  refine isSame_row (r := 1) hi (by decide) p5 o2 p2 c2 a4 b3 b4 (fun z => no (fun w => z (by rw [w]))) (fun e4 => ?_) _ 0 (Nat.zero_add _) (fun u hu => absurd hu (Nat.not_lt_zero _))
  refine vc_Mo_isSame_88 E k M _ _ _ Φ ⟨fun _ => ⟨Or.inr rfl, ?_⟩, fun c => absurd (by decide) c⟩
  have : q.1 = x := Prod.ext (Prod.ext e3 e4) e2
  rw [if_pos this] at h
  exact h
/-- the nodes are as they must be -/
def okNs (N : List NR) : Prop := N.length ≤ 150 ∧ ∀ e, e < N.length → okN (nN N e).1
theorem lookFor_ok {x : ND} (hN : okNs N) (hx : okN x) (hM : zRT M N) (hr : zMr M x.1) (hn : zMn M x.2) (h : Φ (some (.int (oN (nfind N x)))) (zSt k) M) : zW E m_Mo_lookFor 1 (zSt k) M 0 [some (.ref 83), none] [] Φ := by
  have l150 := hN.1
  have loop : ∀ (c j : Nat), j + c = N.length → (∀ i, i < j → (nN N i).1 ≠ x) → zW E m_Mo_lookFor 1 (zSt k) M 2 [some (.ref 83), some (.int (nI j))] [] Φ := by
    intro c
    induction c with
    | zero =>
      intro j hj hi
      refine vc_Mo_lookFor_2 E k M _ Φ ?_
      rw [hM.1]
      refine ⟨fun _ => ?_, fun q => absurd (nI_le (by omega) (by omega)) q⟩
      have : nfind N x = none := fIx_none.mpr (fun i _ h2 => by simpa using hi i (by omega))
      rw [this] at h
      exact h
    | succ c ih =>
      intro j hj hi
      have hjl : j < N.length := by omega
      refine vc_Mo_lookFor_2 E k M _ Φ ?_
      rw [hM.1]
      refine ⟨fun q => absurd q (nI_ge hjl (by omega)), fun _ => ?_⟩
      refine isSame_ok (by omega) (hN.2 j hjl) hx (hM.2 j hjl) hr hn ⟨_, rfl, rfl, fun q => ?_, fun q => ?_⟩
      · rintro _ rfl
        rw [nI_1]
        refine ih (j + 1) (by omega) (fun i h2 => ?_)
        by_cases e : i = j
        · subst e
          intro z
          rw [if_pos z] at q
          exact absurd q (by decide)
        · exact hi i (by omega)
      · have e : (nN N j).1 = x := by
          by_cases z : (nN N j).1 = x
          · exact z
          · rw [if_neg z] at q; exact absurd rfl q
        have : nfind N x = some j := fIx_at hjl (by simpa using e) (fun i h2 => by simpa using hi i h2)
        rw [this] at h
        exact h
  exact vc_Mo_lookFor_0 E k M Φ (loop N.length 0 (by omega) (fun i hi => absurd hi (Nat.not_lt_zero _)))
theorem firstOf_ok {i r : Nat} {q : NR} (hi : i < 150) (hr : r < 2) (hq : okN q.1) (hM : zRNd M i q) (h : Φ (some (.int (oN ((if r = 0 then q.1.1.1 else q.1.1.2).head?)))) (zSt k) M) : zW E m_Mo_firstOf 0 (zSt k) M 0 [some (.ref 83), some (.int (nI i)), some (.int (nI r))] [] Φ := by
  obtain ⟨⟨⟨a1, a2⟩, ⟨a3, a4⟩⟩, -⟩ := hM
  obtain ⟨-, o4, o5⟩ := hq
  have e1 : (2 : Int32) * nI i + nI r = nI (2 * i + r) := by
    have a : (2 : Int32) * nI i = nI (2 * i) := pk_mul 2 i
    rw [a, nI_add]
  have e2 : (48 : Int32) * nI i + 24 * nI r = nI (48 * i + 24 * r) := by
    have a : (48 : Int32) * nI i = nI (48 * i) := pk_mul 48 i
    have b : (24 : Int32) * nI r = nI (24 * r) := pk_mul 24 r
    rw [a, b, nI_add]
  have key : ∀ (xs : List Nat), xs.length ≤ 24 → M 97 (2 * i + r) = nI xs.length → zSl (M 96) (48 * i + 24 * r) xs → Φ (some (.int (oN xs.head?))) (zSt k) M → zW E m_Mo_firstOf 0 (zSt k) M 0 [some (.ref 83), some (.int (nI i)), some (.int (nI r))] [] Φ := by
    intro xs hl c1 c2 h
    refine vc_Mo_firstOf_0 E k M _ _ Φ ?_
    rw [e1, e2]
    refine ⟨_, by omega, rfl, ?_⟩
    rw [c1]
    cases xs with
    | nil => exact ⟨fun _ => h, fun q => absurd (by decide) q⟩
    | cons x xs =>
      refine ⟨fun q => absurd q (nI_nle (by simp) (by simp at hl ⊢; omega)), fun _ => ⟨_, by omega, rfl, ?_⟩⟩
      have := c2 0 (by simp)
      rw [Nat.add_zero] at this
      rw [this]
      exact h
  rcases (show r = 0 ∨ r = 1 by omega) with rfl | rfl
  · exact key q.1.1.1 o4 a1 a2 h
  · exact key q.1.1.2 o5 a3 a4 h
theorem isEnd_ok {i : Nat} {q : NR} (hi : i < 150) (hD : okD D) (hq : okN q.1) (hd : zRD M D) (hM : zRNd M i q) (h : Φ (some (.int (if isEn D q.1 = true then 1 else 0))) (zSt k) M) : zW E m_Mo_isEnd 2 (zSt k) M 0 [some (.ref 83), some (.int (nI i)), none] [] Φ := by
  have hl := okD_27 hD
  obtain ⟨⟨⟨a1, a2⟩, ⟨a3, a4⟩⟩, a5, -⟩ := hM
  obtain ⟨⟨o1, o2, o3, -⟩, o4, o5⟩ := hq
  have e2 : (2 : Int32) * nI i = nI (2 * i) := pk_mul 2 i
  have e9 : (9 : Int32) * nI i = nI (9 * i) := pk_mul 9 i
  have e93 : nI (9 * i) + 3 = nI (9 * i + 3) := nI_addN _ 3
  have e96 : nI (9 * i) + 6 = nI (9 * i + 6) := nI_addN _ 6
  have z1 : M 97 (2 * i) = 0 ↔ q.1.1.1 = [] := by
    rw [a1]
    have := nI_eq (a := q.1.1.1.length) (b := 0) (by omega) (by decide)
    exact this.trans List.length_eq_zero_iff
  have z2 : M 97 (2 * i + 1) = 0 ↔ q.1.1.2 = [] := by
    rw [a3]
    have := nI_eq (a := q.1.1.2.length) (b := 0) (by omega) (by decide)
    exact this.trans List.length_eq_zero_iff
  have no : isEn D q.1 = false → Φ (some (.int 0)) (zSt k) M := fun z => by rw [z] at h; exact h
  have nh : ∀ v, v < 3 → sIx D (t3 q.1.2 v) = none → isEn D q.1 = false := fun v hv e => by
    unfold isEn
    rw [hopl_iff.mpr ⟨v, hv, e⟩]
    simp
  have n1 : q.1.1.1 ≠ [] → isEn D q.1 = false := fun z => by
    unfold isEn
    cases e : q.1.1.1 with
    | nil => exact absurd e z
    | cons x xs => simp
  have n2 : q.1.1.2 ≠ [] → isEn D q.1 = false := fun z => by
    unfold isEn
    cases e : q.1.1.2 with
    | nil => exact absurd e z
    | cons x xs => simp
  refine vc_Mo_isEnd_0 E k M _ Φ ?_
  rw [e9, e2, nI_1, e93, e96]
  refine firstFor_ok (ta_98 k) (by omega) (okn_t3 o3 0) hD hd (fun s hs => by simpa using a5 0 s (by decide) hs) ⟨_, rfl, rfl, fun c => ?_, fun c0 => ?_⟩
  · have := nh 0 (by decide) ((fitv_neg hl _).2.mp c)
    exact ⟨2 * i, by omega, rfl, fun _ => no this, fun _ => ⟨2 * i + 1, by omega, rfl, fun _ => no this, fun _ => no this⟩⟩
  · refine firstFor_ok (ta_98 k) (by omega) (okn_t3 o3 1) hD hd (fun s hs => by rw [Nat.add_assoc]; exact a5 1 s (by decide) hs) ⟨_, rfl, rfl, fun c => ?_, fun c1 => ?_⟩
    · have := nh 1 (by decide) ((fitv_neg hl _).2.mp c)
      exact ⟨2 * i, by omega, rfl, fun _ => no this, fun _ => ⟨2 * i + 1, by omega, rfl, fun _ => no this, fun _ => no this⟩⟩
    · refine firstFor_ok (ta_98 k) (by omega) (okn_t3 o3 2) hD hd (fun s hs => by rw [Nat.add_assoc]; exact a5 2 s (by decide) hs) ⟨_, rfl, rfl, fun c => ?_, fun c2 => ?_⟩
      · have := nh 2 (by decide) ((fitv_neg hl _).2.mp c)
        exact ⟨2 * i, by omega, rfl, fun _ => no this, fun _ => ⟨2 * i + 1, by omega, rfl, fun _ => no this, fun _ => no this⟩⟩
      · rw [(fitv_neg hl _).2] at c0 c1 c2
        refine ⟨2 * i, by omega, rfl, ?_⟩
        rw [z1]
        refine ⟨fun c => no (n1 c), fun c3 => ⟨2 * i + 1, by omega, rfl, ?_⟩⟩
        rw [z2]
        refine ⟨fun c => no (n2 c), fun c4 => ?_⟩
        have : isEn D q.1 = true := by
          unfold isEn
          rw [c3, c4]
          have : hopl D q.1.2 = false := by
            cases z : hopl D q.1.2 with
            | false => rfl
            | true =>
              obtain ⟨v, hv, e⟩ := hopl_iff.mp z
              rcases (show v = 0 ∨ v = 1 ∨ v = 2 by omega) with rfl | rfl | rfl
              · exact absurd e c0
              · exact absurd e c1
              · exact absurd e c2
          rw [this]; rfl
        rw [this] at h
        exact h
end REF4
