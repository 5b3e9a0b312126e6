/-! the reference: words are tried -/
def zT1 (M : ZM) (v : Nat) (w : List Nat) : Prop := M 110 v = nI w.length ∧ zSl (M 109) (12 * v) w
def zTy (M : ZM) (ws : W3) : Prop := ∀ v, v < 3 → zT1 M v (l3 ws v)
def zWh (M : ZM) (r : Nat) (ys : List Nat) : Prop := M 112 r = nI ys.length ∧ zSl (M 111) (144 * r) ys
theorem wmp_tk {g : Nat → Nat} {w : List Nat} {j : Nat} (h : j < w.length) : wmp g (w.take (j + 1)) = stp g (w.getD j 0) (wmp g (w.take j)) := by
  rw [take_succ' h, wmp, List.foldl_append]
  rfl
theorem t3_stp (g : Nat → Nat) (l : Nat) (t : T3) {s : Nat} (hs : s < 3) : t3 (stp g l t) s = g (3 * l + t3 t s) := by
  rcases (show s = 0 ∨ s = 1 ∨ s = 2 by omega) with rfl | rfl | rfl <;> rfl
theorem ok3_wmp {g : Nat → Nat} (hg : okg g) {w : List Nat} (h : ∀ y ∈ w, y < 2) : ok3 (wmp g w) := wmp_ok hg w h _ ⟨by decide, by decide, by decide⟩
section REF14
variable {E : ZE} {k : Nat} {M M' M1 M2 : ZM} {Φ : Option Value → ZS → ZM → Prop} {A A' Q Q' : List Nat} {D : BD} {N : List NR} {g : Nat → Nat} {ws : W3}
theorem zT1_keep {v : Nat} {w : List Nat} (h : zT1 M v w) (f : zfq M M' A Q) (h1 : 109 ∉ A) (h2 : 110 ∉ A) : zT1 M' v w := by
  unfold zT1
  rw [f.1 109 (by decide) h1, f.1 110 (by decide) h2]
  exact h
theorem zTy_keep (h : zTy M ws) (f : zfq M M' A Q) (h1 : 109 ∉ A) (h2 : 110 ∉ A) : zTy M' ws := fun v hv => zT1_keep (h v hv) f h1 h2
theorem addWhole_ok {r l : Nat} {ys : List Nat} (hr : r < 2) (hl : ys.length < 144) (hw : zWh M r ys) (hk : ∀ M', zWh M' r (ys ++ [l]) → (∀ u, u ≠ r → M' 112 u = M 112 u) → (∀ i, i < 144 * r ∨ 144 * r + 144 ≤ i → M' 111 i = M 111 i) → zfq M M' [111, 112] [] → Φ none (zSt k) M') : zW E m_Mo_addWhole 0 (zSt k) M 0 [some (.ref 83), some (.int (nI r)), some (.int (nI l))] [] Φ := by
  have e1 : (144 : Int32) * nI r + nI ys.length = nI (144 * r + ys.length) := by
    have a : (144 : Int32) * nI r = nI (144 * r) := pk_mul 144 r
    rw [a, nI_add]
  refine vc_Mo_addWhole_0 E k M _ _ Φ ⟨r, hr, rfl, 144 * r + ys.length, by omega, by rw [hw.1]; exact e1, ?_⟩
  intro M1 g1
  refine ⟨r, hr, rfl, r, hr, rfl, ?_⟩
  intro M2 g2
  have c1 : M1 112 r = nI ys.length := by rw [g1, zms_n _ _ (by omega)]; exact hw.1
  rw [c1, nI_1] at g2
  refine hk M2 ⟨by rw [g2, zms_s]; simp, zSl_snoc hw.2 (fun i hi => ?_) ?_⟩ (fun u hu => ?_) (fun i hi => ?_) ?_
  · rw [g2, zms_n _ _ (by omega), g1, zms_k _ _ (by omega)]
  · rw [g2, zms_n _ _ (by omega), g1, zms_s]
  · rw [g2, zms_k _ _ hu, g1, zms_ne _ _ _ (by decide)]
  · rw [g2, zms_n _ _ (by omega), g1, zms_k _ _ (by omega)]
  · rw [g2, g1]; exact zfq_tr (zfq_ms _ _ _ (by simp) (by decide)) (zfq_ms _ _ _ (by simp) (by decide))
def zWf (M M' : ZM) (r : Nat) : Prop := (∀ u, u ≠ r → M' 112 u = M 112 u) ∧ (∀ i, i < 144 * r ∨ 144 * r + 144 ≤ i → M' 111 i = M 111 i) ∧ zfq M M' [111, 112] []
theorem zWf_rfl (M : ZM) (r : Nat) : zWf M M r := ⟨fun _ _ => rfl, fun _ _ => rfl, zfq_rfl _ _ _⟩
theorem zWf_tr {r : Nat} (h1 : zWf M M1 r) (h2 : zWf M1 M2 r) : zWf M M2 r := ⟨fun u hu => (h2.1 u hu).trans (h1.1 u hu), fun i hi => (h2.2.1 i hi).trans (h1.2.1 i hi), zfq_tr h1.2.2 h2.2.2⟩
theorem lay_word {r s : Nat} {x2 : Int32} {ys : List Nat} (hr : r < 2) (hs : s < 3) (ho : okw ws 12) (hl : ys.length + (l3 ws s).length ≤ 144) {M0 : ZM} (ht : zTy M0 ws) (hk : ∀ M', zWh M' r (ys ++ l3 ws s) → zWf M0 M' r → zW E m_Mo_layWhole 1 (zSt k) M' 9 [some (.ref 83), some (.int (nI r)), some (.int (x2 + 1)), none, none] [] Φ) : ∀ (c j : Nat) (M : ZM), j + c = (l3 ws s).length → zWh M r (ys ++ (l3 ws s).take j) → zWf M0 M r → zW E m_Mo_layWhole 1 (zSt k) M 45 [some (.ref 83), some (.int (nI r)), some (.int x2), some (.int (nI (s + 2))), some (.int (nI j))] [] Φ
  | 0, j, M, hj, hw, hf => by
    have h12 := (ho s hs).1
    have e2 : nI (s + 2) - 2 = nI s := pk_sub (b := 2) (by omega)
    have n2 : ¬ nI (s + 2) < 2 := fun z => by
      have := (nI_ltI (a := s + 2) (b := 2) (by omega) (by decide)).mp z
      omega
    refine vc_Mo_layWhole_45 E k M _ _ _ _ Φ ⟨fun q => absurd q n2, fun _ => ⟨s, hs, e2, ?_⟩⟩
    rw [hf.2.2.1 110 (by decide) (by decide), (ht s hs).1]
    refine ⟨fun _ => ?_, fun q => absurd (nI_le (by omega) (by omega)) q⟩
    rintro _ rfl
    rw [List.take_of_length_le (by omega)] at hw
    exact hk M hw hf
  | c + 1, j, M, hj, hw, hf => by
    have h12 := (ho s hs).1
    have e2 : nI (s + 2) - 2 = nI s := pk_sub (b := 2) (by omega)
    have e12 : (12 : Int32) * nI s + nI j = nI (12 * s + j) := by
      have a : (12 : Int32) * nI s = nI (12 * s) := pk_mul 12 s
      rw [a, nI_add]
    have n2 : ¬ nI (s + 2) < 2 := fun z => by
      have := (nI_ltI (a := s + 2) (b := 2) (by omega) (by decide)).mp z
      omega
    have hjl : j < (l3 ws s).length := by omega
    refine vc_Mo_layWhole_45 E k M _ _ _ _ Φ ⟨fun q => absurd q n2, fun _ => ⟨s, hs, e2, ?_⟩⟩
    rw [hf.2.2.1 110 (by decide) (by decide), (ht s hs).1, e2, e12, hf.2.2.1 109 (by decide) (by decide)]
    refine ⟨fun q => absurd q (nI_ge hjl (by omega)), fun _ => ⟨12 * s + j, by omega, rfl, ?_⟩⟩
    rw [(ht s hs).2 j hjl]
    refine addWhole_ok hr (by simp; omega) hw (fun M1 z1 a1 a2 f1 => ⟨rfl, rfl, ?_⟩)
    rintro _ rfl
    rw [nI_1]
    refine lay_word hr hs ho hl ht hk c (j + 1) M1 (by omega) ?_ (zWf_tr hf ⟨a1, a2, f1⟩)
    rw [take_succ' hjl, ← List.append_assoc]
    exact z1
theorem layWhole_loop {xs : List Nat} {r : Nat} (hr : r < 2) (hl : xs.length ≤ 12) (h5 : ∀ s ∈ xs, s < 5) (ho : okw ws 12) {M0 : ZM} (hc : M0 85 r = nI xs.length) (hx : zSl (M0 84) (12 * r) xs) (ht : zTy M0 ws) (hk : ∀ M', zWh M' r (out ws xs) → zWf M0 M' r → Φ none (zSt k) M') : ∀ (c j : Nat) (M : ZM), j + c = xs.length → zWh M r (out ws (xs.take j)) → zWf M0 M r → zW E m_Mo_layWhole 1 (zSt k) M 9 [some (.ref 83), some (.int (nI r)), some (.int (nI j)), none, none] [] Φ
  | 0, j, M, hj, hw, hf => by
    refine vc_Mo_layWhole_9 E k M _ _ Φ ⟨r, hr, rfl, ?_⟩
    rw [hf.2.2.1 85 (by decide) (by decide), hc]
    refine ⟨fun _ => ?_, fun q => absurd (nI_le (by omega) (by omega)) q⟩
    rw [List.take_of_length_le (by omega)] at hw
    exact hk M hw hf
  | c + 1, j, M, hj, hw, hf => by
    have hjl : j < xs.length := by omega
    have y5 := getD_mem_lt h5 hjl
    have e12 : (12 : Int32) * nI r + nI j = nI (12 * r + j) := by
      have a : (12 : Int32) * nI r = nI (12 * r) := pk_mul 12 r
      rw [a, nI_add]
    have hol := out_len (ws := ws) (B := 12) (by decide) (fun v hv => (ho v hv).1) (xs.take j) (fun s hs => h5 s (List.mem_of_mem_take hs))
    have htk : (xs.take j).length = j := by simp; omega
    rw [htk] at hol
    have ih := layWhole_loop hr hl h5 ho hc hx ht hk c (j + 1)
    rw [take_succ' hjl, out_snoc] at ih
    have ey := hx j hjl
    obtain ⟨y, hy⟩ : ∃ y, xs.getD j 0 = y := ⟨_, rfl⟩
    rw [hy] at y5 ey ih
    have e2 : 2 ≤ nI y ↔ 2 ≤ y := nI_leI (a := 2) (by decide) (by omega)
    refine vc_Mo_layWhole_9 E k M _ _ Φ ⟨r, hr, rfl, ?_⟩
    rw [hf.2.2.1 85 (by decide) (by decide), hc, hf.2.2.1 84 (by decide) (by decide), e12]
    refine ⟨fun q => absurd q (nI_ge hjl (by omega)), fun _ => ⟨12 * r + j, by omega, rfl, ?_⟩⟩
    rw [ey]
    rintro _ rfl
    rw [e2]
    refine ⟨fun q => ?_, fun q => ?_⟩
    · rw [if_neg (by omega)] at ih
      obtain ⟨s, hs⟩ : ∃ s, y = s + 2 := ⟨y - 2, by omega⟩
      subst hs
      have h12 := (ho s (by omega)).1
      refine lay_word (s := s) (ys := out ws (xs.take j)) hr (by omega) ho (by omega) (M0 := M) (zTy_keep ht hf.2.2 (by decide) (by decide)) (fun M1 z1 f1 => ?_) (l3 ws s).length 0 M (Nat.zero_add _) (by rw [List.take_zero, List.append_nil]; exact hw) (zWf_rfl _ _)
      rw [nI_1]
      exact ih M1 (by omega) z1 (zWf_tr hf f1)
    · rw [if_pos (by omega)] at ih
      refine addWhole_ok hr (by omega) hw (fun M1 z1 a1 a2 f1 => ⟨rfl, rfl, ?_⟩)
      have l2 : nI y < 2 := (nI_ltI (b := 2) (by omega) (by decide)).mpr (by omega)
      refine vc_Mo_layWhole_45 E k M1 _ _ _ _ Φ ⟨fun _ => ?_, fun q => absurd l2 q⟩
      rintro _ rfl
      rw [nI_1]
      exact ih M1 (by omega) z1 (zWf_tr hf ⟨a1, a2, f1⟩)
theorem layWhole_ok {xs : List Nat} {r : Nat} (hr : r < 2) (hl : xs.length ≤ 12) (h5 : ∀ s ∈ xs, s < 5) (ho : okw ws 12) (hc : M 85 r = nI xs.length) (hx : zSl (M 84) (12 * r) xs) (ht : zTy M ws) (hk : ∀ M', zWh M' r (out ws xs) → zWf M M' r → Φ none (zSt k) M') : zW E m_Mo_layWhole 1 (zSt k) M 0 [some (.ref 83), some (.int (nI r)), none, none, none] [] Φ := by
  refine vc_Mo_layWhole_0 E k M _ Φ ⟨r, hr, rfl, ?_⟩
  intro M1 g1
  have f1 : zWf M M1 r := ⟨fun u hu => by rw [g1, zms_k _ _ hu], fun i _ => by rw [g1, zms_ne _ _ _ (by decide)], by rw [g1]; exact zfq_ms _ _ _ (by simp) (by decide)⟩
  exact layWhole_loop hr hl h5 ho (M0 := M) hc hx ht hk xs.length 0 M1 (Nat.zero_add _) ⟨by rw [g1, zms_s]; rfl, zSl_nil _ _⟩ f1
theorem isOne_no {j : Nat} (h : Φ (some (.int 0)) (zSt k) M) : zW E m_Mo_isOne 2 (zSt k) M 33 [some (.ref 83), some (.int 0), some (.int (nI j))] [] Φ :=
  vc_Mo_isOne_33 E k M _ _ Φ ⟨fun _ => ⟨Or.inl rfl, h⟩, fun _ => ⟨fun _ => ⟨Or.inl rfl, h⟩, fun q => absurd rfl q⟩⟩
theorem isOne_loop {xs ys : List Nat} (hl : xs.length ≤ 144) (he : xs.length = ys.length) (h1 : zWh M 0 xs) (h2 : zWh M 1 ys) (hx : ∀ y ∈ xs, y < 2 ^ 31) (hy : ∀ y ∈ ys, y < 2 ^ 31) (h : Φ (some (.int (if xs = ys then 1 else 0))) (zSt k) M) : ∀ (c j : Nat), j + c = xs.length → (∀ i, i < j → xs.getD i 0 = ys.getD i 0) → zW E m_Mo_isOne 2 (zSt k) M 33 [some (.ref 83), some (.int 1), some (.int (nI j))] [] Φ
  | 0, j, hj, hi => by
    refine vc_Mo_isOne_33 E k M _ _ Φ ?_
    rw [h1.1]
    refine ⟨fun _ => ⟨Or.inr rfl, ?_⟩, fun q => absurd (nI_le (by omega) (by omega)) q⟩
    rw [if_pos (list_eq_getD he (fun i h => hi i (by omega)))] at h
    exact h
  | c + 1, j, hj, hi => by
    have e144 : 144 + nI j = nI (144 + j) := nI_addN 144 j
    have a1 := h1.2 j (by omega)
    have a2 := h2.2 j (by omega)
    rw [Nat.mul_zero, Nat.zero_add] at a1
    rw [Nat.mul_one] at a2
    refine vc_Mo_isOne_33 E k M _ _ Φ ?_
    rw [h1.1]
    refine ⟨fun q => absurd q (nI_ge (by omega) (by omega)), fun _ => ⟨fun q => absurd q (by decide), fun _ => ⟨j, by omega, rfl, 144 + j, by omega, e144, ?_⟩⟩⟩
    rw [a1, a2, nI_eq (getD_mem_lt hx (by omega)) (getD_mem_lt hy (by omega))]
    refine ⟨fun q => ?_, fun q => ?_⟩
    · rintro _ rfl
      rw [nI_1]
      rw [if_neg (fun z => q (by rw [z]))] at h
      exact isOne_no h
    · rintro _ rfl
      rw [nI_1]
      refine isOne_loop hl he h1 h2 hx hy h c (j + 1) (by omega) (fun i hi2 => ?_)
      by_cases e : i = j
      · rw [e]; exact q
      · exact hi i (by omega)
theorem isOne_ok {B : AB} (hB : okB B) (hM : zRB (M 84) (M 85) (M 86) (M 87) (M 88) (M 89) B) (ho : okw ws 12) (ht : zTy M ws) (hk : ∀ M', zfq M M' [111, 112] [] → Φ (some (.int (if out ws B.1.1 = out ws B.1.2 then 1 else 0))) (zSt k) M') : zW E m_Mo_isOne 2 (zSt k) M 0 [some (.ref 83), none, none] [] Φ := by
  refine vc_Mo_isOne_0 E k M Φ (layWhole_ok (r := 0) (by decide) hB.1.1 hB.1.2 ho hM.1.1.1 hM.1.1.2 ht (fun M1 z1 f1 => ⟨rfl, rfl, ?_⟩))
  refine layWhole_ok (r := 1) (by decide) hB.2.1.1 hB.2.1.2 ho (by rw [f1.2.2.1 85 (by decide) (by decide)]; exact hM.1.2.1) (by rw [f1.2.2.1 84 (by decide) (by decide)]; exact hM.1.2.2) (zTy_keep ht f1.2.2 (by decide) (by decide)) (fun M2 z2 f2 => ⟨rfl, rfl, ?_⟩)
  have l1 := out_len (ws := ws) (B := 12) (by decide) (fun v hv => (ho v hv).1) B.1.1 hB.1.2
  have l2 := out_len (ws := ws) (B := 12) (by decide) (fun v hv => (ho v hv).1) B.1.2 hB.2.1.2
  have b1 := hB.1.1
  have b2 := hB.2.1.1
  have w1 : zWh M2 0 (out ws B.1.1) := ⟨by rw [f2.1 0 (by decide)]; exact z1.1, fun i hi => by rw [f2.2.1 _ (by omega)]; exact z1.2 i hi⟩
  have hk := hk M2 (zfq_tr f1.2.2 f2.2.2)
  rw [w1.1, z2.1, nI_eq (by omega) (by omega)]
  refine ⟨fun q => ?_, fun q => ?_⟩
  · rw [if_neg (fun z => q (by rw [z]))] at hk
    exact isOne_no (j := 0) hk
  · exact isOne_loop (by omega) q w1 z2 (out_lt ho hB.1.2) (out_lt ho hB.2.1.2) hk _ 0 (Nat.zero_add _) (fun i hi => absurd hi (Nat.not_lt_zero _))
theorem isNeeded_in {v s : Nat} {w : List Nat} {x2 : Int32} (hg : okg g) (hv : v < 3) (hs : s < 3) (hl : w.length ≤ 12) (hw2 : ∀ y ∈ w, y < 2) (hG : ∀ u, u < 6 → M 86 u = nI (g u)) (ht : zT1 M v w) (hk : zW E m_Mo_isNeeded 1 (zSt k) M 15 [some (.ref 83), some (.int (nI v)), some (.int x2), some (.int (nI s)), some (.int (nI (t3 (wmp g w) s))), some (.int (nI w.length))] [] Φ) : ∀ (c j : Nat), j + c = w.length → zW E m_Mo_isNeeded 1 (zSt k) M 15 [some (.ref 83), some (.int (nI v)), some (.int x2), some (.int (nI s)), some (.int (nI (t3 (wmp g (w.take j)) s))), some (.int (nI j))] [] Φ
  | 0, j, hj => by
    have : j = w.length := by omega
    subst this
    rw [List.take_length]
    exact hk
  | c + 1, j, hj => by
    have hjl : j < w.length := by omega
    have ih := isNeeded_in hg hv hs hl hw2 hG ht hk c (j + 1) (by omega)
    rw [wmp_tk hjl, t3_stp _ _ _ hs] at ih
    have l2 := getD_mem_lt hw2 hjl
    have o3 := ok3_t3 (ok3_wmp hg (w := w.take j) (fun y hy => hw2 y (List.mem_of_mem_take hy))) s
    have e12 : (12 : Int32) * nI v + nI j = nI (12 * v + j) := by
      have a : (12 : Int32) * nI v = nI (12 * v) := pk_mul 12 v
      rw [a, nI_add]
    refine vc_Mo_isNeeded_15 E k M _ _ _ _ _ Φ ⟨v, hv, rfl, ?_⟩
    rw [ht.1, e12]
    refine ⟨fun q => absurd q (nI_ge hjl (by omega)), fun _ => ⟨12 * v + j, by omega, rfl, ?_⟩⟩
    rw [ht.2 j hjl, n3, nI_add]
    refine ⟨3 * w.getD j 0 + t3 (wmp g (w.take j)) s, by omega, rfl, ?_⟩
    rw [hG _ (by omega)]
    rintro _ rfl _ rfl
    rw [nI_1]
    exact ih
theorem isNeeded_no {v : Nat} {w : List Nat} (hg : okg g) (hv : v < 3) (hl : w.length ≤ 12) (hw2 : ∀ y ∈ w, y < 2) (hG : ∀ u, u < 6 → M 86 u = nI (g u)) (ht : zT1 M v w) (h : Φ (some (.int 0)) (zSt k) M) : ∀ (c s : Nat), s + c = 3 → zW E m_Mo_isNeeded 1 (zSt k) M 4 [some (.ref 83), some (.int (nI v)), some (.int 0), some (.int (nI s)), none, none] [] Φ
  | 0, s, hs => by
    have : s = 3 := by omega
    subst this
    exact vc_Mo_isNeeded_4 E k M _ _ _ Φ ⟨fun _ => ⟨Or.inl rfl, h⟩, fun q => absurd (by decide) q⟩
  | c + 1, s, hs => by
    have hs3 : s < 3 := by omega
    refine vc_Mo_isNeeded_4 E k M _ _ _ Φ ⟨fun q => absurd q (nI_ge (b := 3) (by omega) (by decide)), fun _ => ?_⟩
    have := isNeeded_in (E := E) (k := k) (M := M) (Φ := Φ) (x2 := 0) hg hv hs3 hl hw2 hG ht ?_ w.length 0 (Nat.zero_add _)
    · have e : t3 (wmp g (w.take 0)) s = s := by
        rw [List.take_zero]
        rcases (show s = 0 ∨ s = 1 ∨ s = 2 by omega) with rfl | rfl | rfl <;> rfl
      rw [e] at this
      exact this
    · refine vc_Mo_isNeeded_15 E k M _ _ _ _ _ Φ ⟨v, hv, rfl, ?_⟩
      rw [ht.1]
      refine ⟨fun _ => ⟨fun _ => ?_, fun q => absurd rfl q⟩, fun q => absurd (nI_le (Nat.le_refl _) (by omega)) q⟩
      rintro _ rfl
      rw [nI_1]
      exact isNeeded_no hg hv hl hw2 hG ht h c (s + 1) (by omega)
theorem isNeeded_loop {v n : Nat} {w : List Nat} (hg : okg g) (hv : v < 3) (hn : n < 512) (hl : w.length ≤ 12) (hw2 : ∀ y ∈ w, y < 2) (hG : ∀ u, u < 6 → M 86 u = nI (g u)) (hN : ∀ s, s < 3 → M 87 (3 * v + s) = nI (dg n s)) (ht : zT1 M v w) (h : Φ (some (.int (if allow n (wmp g w) = true then 1 else 0))) (zSt k) M) : ∀ (c s : Nat), s + c = 3 → (∀ u, u < s → (dg n u).testBit (t3 (wmp g w) u) = true) → zW E m_Mo_isNeeded 1 (zSt k) M 4 [some (.ref 83), some (.int (nI v)), some (.int 1), some (.int (nI s)), none, none] [] Φ
  | 0, s, hs, hu => by
    have : s = 3 := by omega
    subst this
    have al := allow_dg hn (ok3_wmp hg hw2)
    rw [hu 0 (by decide), hu 1 (by decide), hu 2 (by decide)] at al
    rw [al] at h
    exact vc_Mo_isNeeded_4 E k M _ _ _ Φ ⟨fun _ => ⟨Or.inr rfl, h⟩, fun q => absurd (by decide) q⟩
  | c + 1, s, hs, hu => by
    have hs3 : s < 3 := by omega
    have o3 := ok3_t3 (ok3_wmp hg hw2) s
    refine vc_Mo_isNeeded_4 E k M _ _ _ Φ ⟨fun q => absurd q (nI_ge (b := 3) (by omega) (by decide)), fun _ => ?_⟩
    have := isNeeded_in (E := E) (k := k) (M := M) (Φ := Φ) (x2 := 1) hg hv hs3 hl hw2 hG ht ?_ w.length 0 (Nat.zero_add _)
    · have e : t3 (wmp g (w.take 0)) s = s := by
        rw [List.take_zero]
        rcases (show s = 0 ∨ s = 1 ∨ s = 2 by omega) with rfl | rfl | rfl <;> rfl
      rw [e] at this
      exact this
    · refine vc_Mo_isNeeded_15 E k M _ _ _ _ _ Φ ⟨v, hv, rfl, ?_⟩
      rw [ht.1]
      refine ⟨fun _ => ⟨fun q => absurd q (by decide), fun _ => ⟨3 * v + s, by omega, by rw [n3, nI_add], ?_⟩⟩, fun q => absurd (nI_le (Nat.le_refl _) (by omega)) q⟩
      rw [hN s hs3]
      refine Mo_has_ok (dg_lt _ _) o3 ⟨_, rfl, rfl, fun q => ?_, fun q => ?_⟩
      · rintro _ rfl
        rw [nI_1]
        have z : (dg n s).testBit (t3 (wmp g w) s) = false := by
          cases z : (dg n s).testBit (t3 (wmp g w) s) with
          | false => rfl
          | true => rw [z] at q; exact absurd q (by decide)
        have al := allow_dg hn (ok3_wmp hg hw2)
        have : allow n (wmp g w) = false := by
          rw [al]
          rcases (show s = 0 ∨ s = 1 ∨ s = 2 by omega) with rfl | rfl | rfl <;> rw [z] <;> simp
        rw [this] at h
        exact isNeeded_no hg hv hl hw2 hG ht h c (s + 1) (by omega)
      · rintro _ rfl
        rw [nI_1]
        have z : (dg n s).testBit (t3 (wmp g w) s) = true := by
          cases z : (dg n s).testBit (t3 (wmp g w) s) with
          | true => rfl
          | false => rw [z] at q; exact absurd rfl q
        refine isNeeded_loop hg hv hn hl hw2 hG hN ht h c (s + 1) (by omega) (fun u hu2 => ?_)
        by_cases e : u = s
        · rw [e]; exact z
        · exact hu u (by omega)
theorem isNeeded_ok {v : Nat} {B : AB} (hv : v < 3) (hB : okB B) (hM : zRB (M 84) (M 85) (M 86) (M 87) (M 88) (M 89) B) (ho : okw ws 12) (ht : zTy M ws) (h : Φ (some (.int (if allow (t3 B.2.2.1 v) (wmp B.2.1 (l3 ws v)) = true then 1 else 0))) (zSt k) M) : zW E m_Mo_isNeeded 1 (zSt k) M 0 [some (.ref 83), some (.int (nI v)), none, none, none, none] [] Φ :=
  vc_Mo_isNeeded_0 E k M _ Φ (isNeeded_loop hB.2.2.1 hv (okn_t3 hB.2.2.2.1 v) (ho v hv).1 (ho v hv).2 hM.2.1 (fun s hs => hM.2.2.1 v s hv hs) (ht v hv) h 3 0 rfl (fun u hu => absurd hu (Nat.not_lt_zero _)))
theorem fits_word {v : Nat} {w : List Nat} (hv : v < 3) (hl : w.length ≤ 12) {M0 : ZM} (hc : M0 89 v = nI w.length) (hx : zSl (M0 88) (12 * v) w) (hk : ∀ M', zSl (M' 109) (12 * v) w → (∀ i, i < 12 * v ∨ 12 * v + 12 ≤ i → M' 109 i = M0 109 i) → zfq M0 M' [109] [] → zW E m_Mo_fits 3 (zSt k) M' 2 [some (.ref 83), some (.int (nI (v + 1))), none] [] Φ) : ∀ (c j : Nat) (M : ZM), j + c = w.length → (∀ i, i < j → M 109 (12 * v + i) = nI (w.getD i 0)) → (∀ i, i < 12 * v ∨ 12 * v + 12 ≤ i → M 109 i = M0 109 i) → zfq M0 M [109] [] → zW E m_Mo_fits 3 (zSt k) M 21 [some (.ref 83), some (.int (nI v)), some (.int (nI j))] [] Φ
  | 0, j, M, hj, h1, h2, hf => by
    refine vc_Mo_fits_21 E k M _ _ Φ ⟨v, hv, rfl, ?_⟩
    rw [hf.1 89 (by decide) (by decide), hc]
    refine ⟨fun _ => ?_, fun q => absurd (nI_le (by omega) (by omega)) q⟩
    rintro _ rfl
    rw [nI_1]
    exact hk M (fun i hi => h1 i (by omega)) h2 hf
  | c + 1, j, M, hj, h1, h2, hf => by
    have e1 : (12 : Int32) * nI v + nI j = nI (12 * v + j) := by
      have a : (12 : Int32) * nI v = nI (12 * v) := pk_mul 12 v
      rw [a, nI_add]
    refine vc_Mo_fits_21 E k M _ _ Φ ⟨v, hv, rfl, ?_⟩
    rw [hf.1 89 (by decide) (by decide), hc, hf.1 88 (by decide) (by decide), e1]
    refine ⟨fun q => absurd q (nI_ge (by omega) (by omega)), fun _ => ⟨12 * v + j, by omega, rfl, 12 * v + j, by omega, rfl, ?_⟩⟩
    rw [hx j (by omega)]
    rintro _ rfl _ rfl
    rw [nI_1]
    refine fits_word hv hl hc hx hk c (j + 1) _ (by omega) (fun i hi => ?_) (fun i hi => ?_) (zfq_tr hf (zfq_ms _ _ _ (by simp) (by decide)))
    · by_cases e : i = j
      · rw [e, zms_s]
      · rw [zms_k _ _ (by omega)]; exact h1 i (by omega)
    · rw [zms_k _ _ (by omega)]; exact h2 i hi
theorem fits_loop (ho : okw ws 12) {M0 : ZM} (hw : ∀ v, v < 3 → M0 89 v = nI (l3 ws v).length ∧ zSl (M0 88) (12 * v) (l3 ws v)) (hk : ∀ M', zTy M' ws → zfq M0 M' [109, 110] [] → zW E m_Mo_fits 3 (zSt k) M' 2 [some (.ref 83), some (.int (nI 3)), none] [] Φ) : ∀ (c v : Nat) (M : ZM), v + c = 3 → (∀ u, u < v → zT1 M u (l3 ws u)) → zfq M0 M [109, 110] [] → zW E m_Mo_fits 3 (zSt k) M 2 [some (.ref 83), some (.int (nI v)), none] [] Φ
  | 0, v, M, hv, h1, hf => by
    have : v = 3 := by omega
    subst this
    exact hk M h1 hf
  | c + 1, v, M, hv, h1, hf => by
    have hv3 : v < 3 := by omega
    refine vc_Mo_fits_2 E k M _ Φ ⟨fun q => absurd q (nI_ge (b := 3) (by omega) (by decide)), fun _ => ⟨v, hv3, rfl, v, hv3, rfl, ?_⟩⟩
    intro M1 g1
    have f1 : zfq M M1 [109, 110] [] := by rw [g1]; exact zfq_ms _ _ _ (by simp) (by decide)
    have f1' := zfq_tr hf f1
    refine fits_word hv3 (ho v hv3).1 (M0 := M1) (by rw [f1'.1 89 (by decide) (by decide)]; exact (hw v hv3).1) (by rw [f1'.1 88 (by decide) (by decide)]; exact (hw v hv3).2) (fun M2 c1 c2 f2 => ?_) (l3 ws v).length 0 M1 (Nat.zero_add _) (fun i hi => absurd hi (Nat.not_lt_zero _)) (fun i _ => rfl) (zfq_rfl _ _ _)
    refine fits_loop ho hw hk c (v + 1) M2 (by omega) (fun u hu => ?_) (zfq_tr f1' (zfq_mono f2 (by simp) (by simp)))
    by_cases eu : u = v
    · rw [eu]
      refine ⟨?_, c1⟩
      rw [f2.1 110 (by decide) (by decide), g1, zms_s, hf.1 89 (by decide) (by decide)]
      exact (hw v hv3).1
    · obtain ⟨b1, b2⟩ := h1 u (by omega)
      have := (ho u (by omega)).1
      refine ⟨?_, fun i hi => ?_⟩
      · rw [f2.1 110 (by decide) (by decide), g1, zms_k _ _ eu]; exact b1
      · rw [c2 _ (by omega), g1, zms_ne _ _ _ (by decide)]; exact b2 i hi
theorem Mo_fits_ok {a : AS} (h : zRI M a) (hk : ∀ M', zRI M' a → zMh M M' → Φ (some (.int (aFits a))) (zSt k) M') : zW E m_Mo_fits 3 (zSt k) M 0 [some (.ref 83), none, none] [] Φ := by
  unfold aFits at hk
  have hB := h.1.2.1
  have ho := hB.2.2.2.2
  refine vc_Mo_fits_0 E k M Φ (fits_loop (ws := a.2.1.2.2.2) ho (M0 := M) h.2.1.2.1.2.2.2 (fun M1 z1 f1 => ?_) 3 0 M rfl (fun u hu => absurd hu (Nat.not_lt_zero _)) (zfq_rfl _ _ _))
  have h1 := zRI_keep h f1 (by simp) (by simp)
  have hM := h1.2.1.2.1
  have fin_ : ∀ {M' : ZM}, zfq M1 M' [111, 112] [] → zRI M' a ∧ zMh M M' := fun {M'} f => ⟨zRI_keep h1 f (by simp) (by simp), zMh_tr (zfq_Mh f1 (by simp)) (zfq_Mh f (by simp))⟩
  have I1 : ∀ {c : Prop} [Decidable c], (if c then (1 : Int32) else 0) = 0 → ¬ c := fun {c} _ q w => by rw [if_pos w] at q; exact absurd q (by decide)
  have I2 : ∀ {c : Prop} [Decidable c], ¬ (if c then (1 : Int32) else 0) = 0 → c := fun {c} _ q => by
    by_cases w : c
    · exact w
    · rw [if_neg w] at q; exact absurd rfl q
  have no : ¬ meets a.2.1.2.1 a.2.1.2.2.1 a.2.1.2.2.2 = true → zW E m_Mo_isOne 2 (zSt k) M1 0 [some (.ref 83), none, none] [] (fun q4 T4 M4 => ∃ y4 : Int32, q4 = some (.int y4) ∧ (zSt k) = T4 ∧ (y4 = 0 → Φ (some (.int 3)) (zSt k) M4) ∧ (¬ y4 = 0 → Φ (some (.int 1)) (zSt k) M4)) := fun hm => by
    refine isOne_ok hB hM ho z1 (fun M2 f2 => ⟨_, rfl, rfl, fun q => ?_, fun q => ?_⟩)
    · have hk := hk M2 (fin_ f2).1 (fin_ f2).2
      rw [if_neg (I1 q), if_neg hm] at hk; exact hk
    · have hk := hk M2 (fin_ f2).1 (fin_ f2).2
      rw [if_pos (I2 q), if_neg hm] at hk; exact hk
  refine vc_Mo_fits_2 E k M1 _ Φ ⟨fun _ => ?_, fun q => absurd (by decide) q⟩
  refine isNeeded_ok (v := 0) (by decide) hB hM ho z1 ⟨_, rfl, rfl, fun q => no (fun w => I1 q (meets_iff.mp w 0 (by decide))), fun q0 => ?_⟩
  refine isNeeded_ok (v := 1) (by decide) hB hM ho z1 ⟨_, rfl, rfl, fun q => no (fun w => I1 q (meets_iff.mp w 1 (by decide))), fun q1 => ?_⟩
  refine isNeeded_ok (v := 2) (by decide) hB hM ho z1 ⟨_, rfl, rfl, fun q => no (fun w => I1 q (meets_iff.mp w 2 (by decide))), fun q2 => ?_⟩
  have hm : meets a.2.1.2.1 a.2.1.2.2.1 a.2.1.2.2.2 = true := meets_iff.mpr (fun v hv => by
    rcases (show v = 0 ∨ v = 1 ∨ v = 2 by omega) with rfl | rfl | rfl
    · exact I2 q0
    · exact I2 q1
    · exact I2 q2)
  refine isOne_ok hB hM ho z1 (fun M2 f2 => ⟨_, rfl, rfl, fun q => ?_, fun q => ?_⟩)
  · have hk := hk M2 (fin_ f2).1 (fin_ f2).2
    rw [if_neg (I1 q), if_pos hm] at hk; exact hk
  · have hk := hk M2 (fin_ f2).1 (fin_ f2).2
    rw [if_pos (I2 q), if_pos hm] at hk; exact hk
end REF14
