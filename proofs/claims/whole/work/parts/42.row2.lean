/-! what the methods of Row do: the rest -/
section ROW2
variable {E : ZE} {S : ZS} {M : ZM} {r L o Lo : Nat} {xs ys : List Nat} {Φ : Option Value → ZS → ZM → Prop}
theorem getD_drop' (xs : List Nat) (p i : Nat) : (xs.drop p).getD i 0 = xs.getD (p + i) 0 := by
  simp [List.getD_eq_getElem?_getD, List.getElem?_drop]
theorem Row_dropFirst_loop (hr : zRow S r L) {p : Nat} (hp : 0 < p) (hpl : p ≤ xs.length) (hl : xs.length ≤ L) (M0 : ZM) (hk : ∀ M', zRN M' r (xs.drop p) → zfr M0 M' [r, r + 1] → Φ none S M') :
    ∀ (n j : Nat) (M : ZM), j + n + p = xs.length → M r 1 = nI (xs.length - p) → (∀ i, i < j → M (r + 1) i = nI (xs.getD (p + i) 0)) → (∀ i, j ≤ i → i < xs.length → M (r + 1) i = nI (xs.getD i 0)) → zfr M0 M [r, r + 1] → zW E m_Row_dropFirst 0 S M 25 [some (.ref r), some (.int (nI p)), some (.int (nI j))] [] Φ := by
  have hL : L < 2 ^ 31 := hr.2.2.2.2
  intro n
  induction n with
  | zero =>
    intro j M hj hc h1 h2 hf
    refine vc_Row_dropFirst_25 E S M r L (nI p) (nI j) Φ hr ?_
    rw [hc]
    refine ⟨fun _ => hk M ⟨by rw [hc, List.length_drop], fun i h => ?_⟩ hf, fun c => absurd (nI_le (by omega) (by omega)) c⟩
    rw [List.length_drop] at h
    rw [h1 i (by omega), getD_drop']
  | succ n ih =>
    intro j M hj hc h1 h2 hf
    refine vc_Row_dropFirst_25 E S M r L (nI p) (nI j) Φ hr ?_
    rw [hc]
    refine ⟨fun c => absurd c (nI_ge (by omega) (by omega)), fun _ => ⟨j + p, by omega, nI_add _ _, j, by omega, rfl, ?_⟩⟩
    rintro _ rfl _ rfl
    rw [nI_1]
    refine ih (j + 1) _ (by omega) (by rw [zms_n _ _ (by omega), hc]) (fun i h => ?_) (fun i h h' => ?_) (zfr_tr hf (zfr_ms _ _ _ _ (by simp)))
    · by_cases e : i = j
      · subst e
        rw [zms_s, h2 _ (by omega) (by omega), Nat.add_comm]
      · rw [zms_n _ _ (by omega), h1 i (by omega)]
    · rw [zms_n _ _ (by omega), h2 i (by omega) h']
theorem Row_dropFirst_ok (hr : zRow S r L) {p : Nat} (hx : zRN M r xs) (hpl : p ≤ xs.length) (hl : xs.length ≤ L) (hk : ∀ M', zRN M' r (xs.drop p) → zfr M M' [r, r + 1] → Φ none S M') : zW E m_Row_dropFirst 0 S M 0 [some (.ref r), some (.int (nI p)), none] [] Φ := by
  have hL : L < 2 ^ 31 := hr.2.2.2.2
  refine vc_Row_dropFirst_0 E S M r L (nI p) Φ hr ?_
  rw [hx.1]
  refine ⟨fun c => ?_, fun c => ⟨fun _ => ?_, fun c2 => absurd (nI_le hpl (by omega)) c2⟩⟩
  · have : p = 0 := by
      by_cases e : p = 0
      · exact e
      · exact absurd c (nI_nle (by omega) (by omega))
    subst this
    exact hk M hx (zfr_rfl _ _)
  · have hp : 0 < p := by
      by_cases e : p = 0
      · subst e
        exact absurd (by decide) c
      · omega
    rintro _ rfl
    rw [pk_sub hpl]
    exact Row_dropFirst_loop hr hp hpl hl M hk (xs.length - p) 0 _ (by omega) (zms_s _ _ _ _) (fun i h => absurd h (Nat.not_lt_zero _)) (fun i _ h => by rw [zms_n _ _ (by omega), hx.2 i h]) (zfr_ms _ _ _ _ (by simp))
/-! rows without a symbol, or with another one ahead of it -/
def rWithout (it : Nat) (ys : List Nat) : List Nat := ys.filter (fun y => y != it)
def rAhead (it ah : Nat) (ys : List Nat) : List Nat := ys.flatMap (fun y => if y = it then [ah, y] else [y])
theorem rWithout_snoc (it y : Nat) (l : List Nat) : rWithout it (l ++ [y]) = rWithout it l ++ (if y = it then [] else [y]) := by
  unfold rWithout
  rw [List.filter_append]
  congr 1
  by_cases e : y = it <;> simp [e]
theorem rAhead_snoc (it ah y : Nat) (l : List Nat) : rAhead it ah (l ++ [y]) = rAhead it ah l ++ (if y = it then [ah, y] else [y]) := by
  unfold rAhead
  rw [List.flatMap_append]
  congr 1
  simp
theorem take_succ' {ys : List Nat} {j : Nat} (h : j < ys.length) : ys.take (j + 1) = ys.take j ++ [ys.getD j 0] := by
  rw [List.take_succ, List.getElem?_eq_getElem h]
  simp [List.getD_eq_getElem?_getD, List.getElem?_eq_getElem h]
theorem Row_copyWithout_loop (hr : zRow S r L) (ho : zRow S o Lo) (hap : r + 1 < o ∨ o + 1 < r) (hlo : ys.length ≤ Lo) (hl : ys.length ≤ L) {it : Nat} (hit : it < 2 ^ 31) (hys : ∀ y ∈ ys, y < 2 ^ 31) (M0 : ZM) (hk : ∀ M', zRN M' r (rWithout it ys) → zfr M0 M' [r, r + 1] → Φ none S M') :
    ∀ (n j : Nat) (M : ZM), j + n = ys.length → zRN M o ys → zRN M r (rWithout it (ys.take j)) → zfr M0 M [r, r + 1] → zW E m_Row_copyWithout 1 S M 7 [some (.ref r), some (.ref o), some (.int (nI it)), some (.int (nI j))] [] Φ := by
  have hL : L < 2 ^ 31 := hr.2.2.2.2
  have hLo : Lo < 2 ^ 31 := ho.2.2.2.2
  intro n
  induction n with
  | zero =>
    intro j M hj hy hx hf
    refine vc_Row_copyWithout_7 E S M r L o Lo (nI it) (nI j) Φ hr ho ?_
    rw [hy.1]
    rw [List.take_of_length_le (by omega)] at hx
    exact ⟨fun _ => hk M hx hf, fun c => absurd (nI_le (by omega) (by omega)) c⟩
  | succ n ih =>
    intro j M hj hy hx hf
    have hjl : j < ys.length := by omega
    have hmem : ys.getD j 0 < 2 ^ 31 := by
      rw [List.getD_eq_getElem?_getD, List.getElem?_eq_getElem hjl]
      exact hys _ (List.getElem_mem hjl)
    have hlen : (rWithout it (ys.take j)).length ≤ j := by
      refine Nat.le_trans (List.length_filter_le _ _) ?_
      simp
      omega
    refine vc_Row_copyWithout_7 E S M r L o Lo (nI it) (nI j) Φ hr ho ?_
    rw [hy.1]
    refine ⟨fun c => absurd c (nI_ge (by omega) (by omega)), fun _ => ⟨fun c => absurd c (nI_ge (by omega) (by omega)), fun _ => ⟨j, by omega, rfl, fun c => ?_, fun c => ⟨j, by omega, rfl, ?_⟩⟩⟩⟩
    · rintro _ rfl
      rw [hy.2 _ hjl] at c
      have c := (nI_eq hmem hit).mp c
      rw [nI_1]
      refine ih (j + 1) _ (by omega) hy ?_ hf
      rw [take_succ' hjl, rWithout_snoc, if_pos c, List.append_nil]
      exact hx
    · rw [hy.2 _ hjl] at c ⊢
      have c : ys.getD j 0 ≠ it := fun q => c (by rw [q])
      refine Row_push_ok hr hx (by omega) (fun hlt M1 hx1 hf1 => ⟨1, rfl, rfl, ?_⟩) (fun he => absurd he (by omega))
      rintro _ rfl
      rw [nI_1]
      refine ih (j + 1) _ (by omega) (zRN_keep hy hf1 (by simp; omega) (by simp; omega)) ?_ (zfr_tr hf hf1)
      rw [take_succ' hjl, rWithout_snoc, if_neg c]
      exact hx1
theorem Row_copyWithout_ok (hr : zRow S r L) (ho : zRow S o Lo) (hap : r + 1 < o ∨ o + 1 < r) (hy : zRN M o ys) (hlo : ys.length ≤ Lo) (hl : ys.length ≤ L) {it : Nat} (hit : it < 2 ^ 31) (hys : ∀ y ∈ ys, y < 2 ^ 31) (hk : ∀ M', zRN M' r (rWithout it ys) → zfr M M' [r, r + 1] → Φ none S M') : zW E m_Row_copyWithout 1 S M 0 [some (.ref r), some (.ref o), some (.int (nI it)), none] [] Φ := by
  refine vc_Row_copyWithout_0 E S M r L o Lo (nI it) Φ hr ho ?_
  rintro _ rfl
  refine Row_copyWithout_loop hr ho hap hlo hl hit hys M hk ys.length 0 _ (by omega) ?_ ⟨zms_s _ _ _ _, fun i h => absurd h (Nat.not_lt_zero _)⟩ (zfr_ms _ _ _ _ (by simp))
  exact zRN_fr hy (zms_ne _ _ _ (by omega)) (zms_ne _ _ _ (by omega))
theorem rAhead_len (it ah : Nat) (ys : List Nat) : (rAhead it ah ys).length ≤ 2 * ys.length := by
  induction ys with
  | nil => simp [rAhead]
  | cons y ys ih =>
    have e : rAhead it ah (y :: ys) = (if y = it then [ah, y] else [y]) ++ rAhead it ah ys := by simp [rAhead]
    rw [e, List.length_append, List.length_cons]
    by_cases hy : y = it
    · rw [if_pos hy]
      simp only [List.length_cons, List.length_nil]
      omega
    · rw [if_neg hy]
      simp only [List.length_cons, List.length_nil]
      omega
theorem Row_copyWithAhead_loop (hr : zRow S r L) (ho : zRow S o Lo) (hap : r + 1 < o ∨ o + 1 < r) (hlo : ys.length ≤ Lo) (hl : 2 * ys.length ≤ L) {it ah : Nat} (hit : it < 2 ^ 31) (hys : ∀ y ∈ ys, y < 2 ^ 31) (M0 : ZM) (hk : ∀ M', zRN M' r (rAhead it ah ys) → zfr M0 M' [r, r + 1] → Φ none S M') :
    ∀ (n j : Nat) (M : ZM), j + n = ys.length → zRN M o ys → zRN M r (rAhead it ah (ys.take j)) → zfr M0 M [r, r + 1] → zW E m_Row_copyWithAhead 1 S M 8 [some (.ref r), some (.ref o), some (.int (nI it)), some (.int (nI ah)), some (.int (nI j))] [] Φ := by
  have hL : L < 2 ^ 31 := hr.2.2.2.2
  have hLo : Lo < 2 ^ 31 := ho.2.2.2.2
  intro n
  induction n with
  | zero =>
    intro j M hj hy hx hf
    refine vc_Row_copyWithAhead_8 E S M r L o Lo (nI it) (nI ah) (nI j) Φ hr ho ?_
    rw [hy.1]
    rw [List.take_of_length_le (by omega)] at hx
    exact ⟨fun _ => hk M hx hf, fun c => absurd (nI_le (by omega) (by omega)) c⟩
  | succ n ih =>
    intro j M hj hy hx hf
    have hjl : j < ys.length := by omega
    have hmem : ys.getD j 0 < 2 ^ 31 := by
      rw [List.getD_eq_getElem?_getD, List.getElem?_eq_getElem hjl]
      exact hys _ (List.getElem_mem hjl)
    have hlen : (rAhead it ah (ys.take j)).length ≤ 2 * j := by
      refine Nat.le_trans (rAhead_len _ _ _) ?_
      simp
      omega
    refine vc_Row_copyWithAhead_8 E S M r L o Lo (nI it) (nI ah) (nI j) Φ hr ho ?_
    rw [hy.1]
    refine ⟨fun c => absurd c (nI_ge (by omega) (by omega)), fun _ => ⟨fun c => absurd c (nI_ge (by omega) (by omega)), fun _ => ⟨j, by omega, rfl, fun c => ⟨j, by omega, rfl, ?_⟩, fun c => ?_⟩⟩⟩
    · rw [hy.2 _ hjl] at c ⊢
      have c : ys.getD j 0 ≠ it := fun q => c (by rw [q])
      refine Row_push_ok hr hx (by omega) (fun hlt M1 hx1 hf1 => ⟨1, rfl, rfl, ?_⟩) (fun he => absurd he (by omega))
      rintro _ rfl
      rw [nI_1]
      refine ih (j + 1) _ (by omega) (zRN_keep hy hf1 (by simp; omega) (by simp; omega)) ?_ (zfr_tr hf hf1)
      rw [take_succ' hjl, rAhead_snoc, if_neg c]
      exact hx1
    · rw [hy.2 _ hjl] at c
      have c := (nI_eq hmem hit).mp c
      refine Row_push_ok hr hx (by omega) (fun hlt M1 hx1 hf1 => ⟨1, rfl, rfl, j, by omega, rfl, ?_⟩) (fun he => absurd he (by omega))
      have hy1 : zRN M1 o ys := zRN_keep hy hf1 (by simp; omega) (by simp; omega)
      rw [hy1.2 _ hjl]
      refine Row_push_ok hr hx1 (by simp; omega) (fun hlt M2 hx2 hf2 => ⟨1, rfl, rfl, ?_⟩) (fun he => absurd he (by simp; omega))
      rintro _ rfl
      rw [nI_1]
      refine ih (j + 1) _ (by omega) (zRN_keep hy1 hf2 (by simp; omega) (by simp; omega)) ?_ (zfr_tr hf (zfr_tr hf1 hf2))
      rw [take_succ' hjl, rAhead_snoc, if_pos c]
      rw [List.append_assoc] at hx2
      exact hx2
theorem Row_copyWithAhead_ok (hr : zRow S r L) (ho : zRow S o Lo) (hap : r + 1 < o ∨ o + 1 < r) (hy : zRN M o ys) (hlo : ys.length ≤ Lo) (hl : 2 * ys.length ≤ L) {it ah : Nat} (hit : it < 2 ^ 31) (hys : ∀ y ∈ ys, y < 2 ^ 31) (hk : ∀ M', zRN M' r (rAhead it ah ys) → zfr M M' [r, r + 1] → Φ none S M') : zW E m_Row_copyWithAhead 1 S M 0 [some (.ref r), some (.ref o), some (.int (nI it)), some (.int (nI ah)), none] [] Φ := by
  refine vc_Row_copyWithAhead_0 E S M r L o Lo (nI it) (nI ah) Φ hr ho ?_
  rintro _ rfl
  refine Row_copyWithAhead_loop hr ho hap hlo hl hit hys M hk ys.length 0 _ (by omega) ?_ ⟨zms_s _ _ _ _, fun i h => absurd h (Nat.not_lt_zero _)⟩ (zfr_ms _ _ _ _ (by simp))
  exact zRN_fr hy (zms_ne _ _ _ (by omega)) (zms_ne _ _ _ (by omega))
theorem getD_mem_lt {ys : List Nat} {B j : Nat} (hys : ∀ y ∈ ys, y < B) (h : j < ys.length) : ys.getD j 0 < B := by
  rw [List.getD_eq_getElem?_getD, List.getElem?_eq_getElem h]
  exact hys _ (List.getElem_mem h)
theorem list_eq_getD {xs ys : List Nat} (hl : xs.length = ys.length) (h : ∀ i, i < xs.length → xs.getD i 0 = ys.getD i 0) : xs = ys := by
  apply List.ext_getElem hl
  intro i h1 h2
  have := h i h1
  simpa [List.getD_eq_getElem?_getD, List.getElem?_eq_getElem h1, List.getElem?_eq_getElem h2] using this
theorem Row_sameAs_loop (hr : zRow S r L) (ho : zRow S o Lo) (hx : zRN M r xs) (hy : zRN M o ys) (hl : xs.length ≤ L) (hlo : ys.length ≤ Lo) (hxs : ∀ y ∈ xs, y < 2 ^ 31) (hys : ∀ y ∈ ys, y < 2 ^ 31) (he : xs.length = ys.length) (h1 : xs = ys → Φ (some (.int 1)) S M) (h0 : xs ≠ ys → Φ (some (.int 0)) S M) :
    ∀ (n j : Nat), j + n = xs.length → (∀ i, i < j → xs.getD i 0 = ys.getD i 0) → zW E m_Row_sameAs 0 S M 15 [some (.ref r), some (.ref o), some (.int (nI j))] [] Φ := by
  have hL : L < 2 ^ 31 := hr.2.2.2.2
  have hLo : Lo < 2 ^ 31 := ho.2.2.2.2
  intro n
  induction n with
  | zero =>
    intro j hj hi
    refine vc_Row_sameAs_15 E S M r L o Lo (nI j) Φ hr ho ?_
    rw [hx.1]
    exact ⟨fun _ => h1 (list_eq_getD he (fun i h => hi i (by omega))), fun c => absurd (nI_le (by omega) (by omega)) c⟩
  | succ n ih =>
    intro j hj hi
    refine vc_Row_sameAs_15 E S M r L o Lo (nI j) Φ hr ho ?_
    rw [hx.1]
    refine ⟨fun c => absurd c (nI_ge (by omega) (by omega)), fun _ => ⟨fun c => absurd c (nI_ge (by omega) (by omega)), fun _ => ⟨fun c => absurd c (nI_ge (by omega) (by omega)), fun _ => ⟨j, by omega, rfl, j, by omega, rfl, fun c => ?_, fun c => ?_⟩⟩⟩⟩
    · rw [hx.2 _ (by omega), hy.2 _ (by omega)] at c
      have c := (nI_eq (getD_mem_lt hxs (by omega)) (getD_mem_lt hys (by omega))).mp c
      rintro _ rfl
      rw [nI_1]
      refine ih (j + 1) (by omega) (fun i h => ?_)
      by_cases e : i = j
      · rw [e]; exact c
      · exact hi i (by omega)
    · rw [hx.2 _ (by omega), hy.2 _ (by omega)] at c
      exact h0 (fun q => c (by rw [q]))
theorem Row_sameAs_ok (hr : zRow S r L) (ho : zRow S o Lo) (hx : zRN M r xs) (hy : zRN M o ys) (hl : xs.length ≤ L) (hlo : ys.length ≤ Lo) (hxs : ∀ y ∈ xs, y < 2 ^ 31) (hys : ∀ y ∈ ys, y < 2 ^ 31) (h1 : xs = ys → Φ (some (.int 1)) S M) (h0 : xs ≠ ys → Φ (some (.int 0)) S M) : zW E m_Row_sameAs 0 S M 0 [some (.ref r), some (.ref o), none] [] Φ := by
  have hL : L < 2 ^ 31 := hr.2.2.2.2
  have hLo : Lo < 2 ^ 31 := ho.2.2.2.2
  refine vc_Row_sameAs_0 E S M r L o Lo Φ hr ho ?_
  rw [hx.1, hy.1]
  refine ⟨fun c => ?_, fun c => h0 (fun q => c (by rw [q]))⟩
  exact Row_sameAs_loop hr ho hx hy hl hlo hxs hys ((nI_eq (by omega) (by omega)).mp c) h1 h0 xs.length 0 (by omega) (fun i h => absurd h (Nat.not_lt_zero _))
/-- how long two rows are alike at the front -/
def rFront : List Nat → List Nat → Nat
  | x :: xs, y :: ys => if x = y then rFront xs ys + 1 else 0
  | _, _ => 0
theorem rFront_le : ∀ (xs ys : List Nat), rFront xs ys ≤ xs.length ∧ rFront xs ys ≤ ys.length
  | [], ys => by simp [rFront]
  | x :: xs, [] => by simp [rFront]
  | x :: xs, y :: ys => by
    have := rFront_le xs ys
    unfold rFront
    split <;> simp <;> omega
theorem rFront_drop : ∀ (j : Nat) (xs ys : List Nat), (∀ i, i < j → xs.getD i 0 = ys.getD i 0) → j ≤ xs.length → j ≤ ys.length → rFront xs ys = j + rFront (xs.drop j) (ys.drop j)
  | 0, xs, ys, _, _, _ => by simp
  | j + 1, [], ys, _, h, _ => by simp at h
  | j + 1, x :: xs, [], _, _, h => by simp at h
  | j + 1, x :: xs, y :: ys, h, h1, h2 => by
    have e : x = y := h 0 (by omega)
    have := rFront_drop j xs ys (fun i hi => h (i + 1) (by omega)) (by simpa using h1) (by simpa using h2)
    rw [rFront, if_pos e, this]
    simp
    omega
theorem Row_sameAtFront_loop (hr : zRow S r L) (ho : zRow S o Lo) (hx : zRN M r xs) (hy : zRN M o ys) (hl : xs.length ≤ L) (hlo : ys.length ≤ Lo) (hxs : ∀ y ∈ xs, y < 2 ^ 31) (hys : ∀ y ∈ ys, y < 2 ^ 31) (h : Φ (some (.int (nI (rFront xs ys)))) S M) :
    ∀ (n j : Nat), j + n = xs.length → j ≤ ys.length → (∀ i, i < j → xs.getD i 0 = ys.getD i 0) → zW E m_Row_sameAtFront 1 S M 2 [some (.ref r), some (.ref o), some (.int (nI j))] [] Φ := by
  have hL : L < 2 ^ 31 := hr.2.2.2.2
  have hLo : Lo < 2 ^ 31 := ho.2.2.2.2
  have hend : ∀ j, j ≤ xs.length → j ≤ ys.length → (∀ i, i < j → xs.getD i 0 = ys.getD i 0) → (j = xs.length ∨ j = ys.length ∨ xs.getD j 0 ≠ ys.getD j 0) → rFront xs ys = j := by
    intro j h1 h2 h3 h4
    rw [rFront_drop j xs ys h3 h1 h2]
    have : rFront (xs.drop j) (ys.drop j) = 0 := by
      by_cases a : j = xs.length
      · rw [a]; simp [rFront]
      · by_cases b : j = ys.length
        · rw [b]; cases xs.drop ys.length <;> simp [rFront]
        · have h1' : j < xs.length := by omega
          have h2' : j < ys.length := by omega
          rw [List.drop_eq_getElem_cons h1', List.drop_eq_getElem_cons h2', rFront, if_neg]
          intro e
          rcases h4 with h4 | h4 | h4
          · exact a h4
          · exact b h4
          · apply h4
            simpa [List.getD_eq_getElem?_getD, List.getElem?_eq_getElem h1', List.getElem?_eq_getElem h2'] using e
    omega
  intro n
  induction n with
  | zero =>
    intro j hj hj2 hi
    refine vc_Row_sameAtFront_2 E S M r L o Lo (nI j) Φ hr ho ?_
    rw [hx.1]
    refine ⟨fun _ => ?_, fun c => absurd (nI_le (by omega) (by omega)) c⟩
    rw [hend j (by omega) hj2 hi (Or.inl (by omega))] at h
    exact h
  | succ n ih =>
    intro j hj hj2 hi
    refine vc_Row_sameAtFront_2 E S M r L o Lo (nI j) Φ hr ho ?_
    rw [hx.1, hy.1]
    refine ⟨fun c => absurd c (nI_ge (by omega) (by omega)), fun _ => ⟨fun c => ?_, fun c => ?_⟩⟩
    · have c := (nI_leI (by omega) (by omega)).mp c
      rw [hend j (by omega) hj2 hi (Or.inr (Or.inl (by omega)))] at h
      exact h
    · have c : ¬ ys.length ≤ j := fun q => c (nI_le q (by omega))
      refine Row_at_ok hr hx hl ⟨_, rfl, rfl, Row_at_ok ho hy hlo ⟨_, rfl, rfl, fun c2 => ?_, fun c2 => ?_⟩⟩
      · rw [zat_nI (by omega) (by omega), zat_nI (by omega) (by omega)] at c2
        rw [hend j (by omega) hj2 hi (Or.inr (Or.inr (fun q => c2 (by rw [q]))))] at h
        exact h
      · rw [zat_nI (by omega) (by omega), zat_nI (by omega) (by omega)] at c2
        have c2 := (nI_eq (getD_mem_lt hxs (by omega)) (getD_mem_lt hys (by omega))).mp c2
        rintro _ rfl
        rw [nI_1]
        refine ih (j + 1) (by omega) (by omega) (fun i h => ?_)
        by_cases e : i = j
        · rw [e]; exact c2
        · exact hi i (by omega)
theorem Row_sameAtFront_ok (hr : zRow S r L) (ho : zRow S o Lo) (hx : zRN M r xs) (hy : zRN M o ys) (hl : xs.length ≤ L) (hlo : ys.length ≤ Lo) (hxs : ∀ y ∈ xs, y < 2 ^ 31) (hys : ∀ y ∈ ys, y < 2 ^ 31) (h : Φ (some (.int (nI (rFront xs ys)))) S M) : zW E m_Row_sameAtFront 1 S M 0 [some (.ref r), some (.ref o), none] [] Φ :=
  vc_Row_sameAtFront_0 E S M r L o Lo Φ hr ho (Row_sameAtFront_loop hr ho hx hy hl hlo hxs hys h xs.length 0 (by omega) (by omega) (fun i h => absurd h (Nat.not_lt_zero _)))
/-- the mark of a row: only that it is the same for the same row matters -/
def rMark (xs : List Nat) : Int32 := xs.foldl (fun m y => m * 31 + nI y + 1) (nI xs.length)
theorem Row_mark_loop (hr : zRow S r L) (hx : zRN M r xs) (hl : xs.length ≤ L) (h : Φ (some (.int (rMark xs))) S M) :
    ∀ (n j : Nat), j + n = xs.length → zW E m_Row_mark 0 S M 7 [some (.ref r), some (.int ((xs.take j).foldl (fun m y => m * 31 + nI y + 1) (nI xs.length))), some (.int (nI j))] [] Φ := by
  have hL : L < 2 ^ 31 := hr.2.2.2.2
  intro n
  induction n with
  | zero =>
    intro j hj
    refine vc_Row_mark_7 E S M r L _ (nI j) Φ hr ?_
    rw [hx.1]
    refine ⟨fun _ => ?_, fun c => absurd (nI_le (by omega) (by omega)) c⟩
    rw [List.take_of_length_le (by omega)]
    exact h
  | succ n ih =>
    intro j hj
    refine vc_Row_mark_7 E S M r L _ (nI j) Φ hr ?_
    rw [hx.1]
    refine ⟨fun c => absurd c (nI_ge (by omega) (by omega)), fun _ => ⟨fun c => absurd c (nI_ge (by omega) (by omega)), fun _ => ⟨j, by omega, rfl, ?_⟩⟩⟩
    rintro _ rfl _ rfl
    rw [nI_1, hx.2 _ (by omega)]
    have := ih (j + 1) (by omega)
    rw [take_succ' (by omega), List.foldl_append] at this
    exact this
theorem Row_mark_ok (hr : zRow S r L) (hx : zRN M r xs) (hl : xs.length ≤ L) (h : Φ (some (.int (rMark xs))) S M) : zW E m_Row_mark 0 S M 0 [some (.ref r), none, none] [] Φ := by
  refine vc_Row_mark_0 E S M r L Φ hr ?_
  rintro _ rfl
  rw [hx.1]
  exact Row_mark_loop hr hx hl h xs.length 0 (by omega)
end ROW2
