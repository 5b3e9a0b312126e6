/-! what the methods of Row do -/
section ROW
variable {E : ZE} {S : ZS} {M : ZM} {r L o Lo : Nat} {xs ys : List Nat} {Φ : Option Value → ZS → ZM → Prop}
/-- the item at a place; none -/
def zat (xs : List Nat) (x : Int32) : Int32 := if 0 ≤ x.toInt ∧ x.toInt < xs.length then nI (xs.getD x.toInt.toNat 0) else -6
theorem zat_nI {j : Nat} (h : j < xs.length) (hl : xs.length < 2 ^ 31) : zat xs (nI j) = nI (xs.getD j 0) := by
  unfold zat
  rw [nI_toInt (by omega), if_pos (by omega), Int.toNat_natCast]
theorem zat_out {j : Nat} (h : xs.length ≤ j) (hl : j < 2 ^ 31) : zat xs (nI j) = -6 := by
  unfold zat
  rw [nI_toInt hl, if_neg (by omega)]
theorem Row_size_ok (hr : zRow S r L) (hx : zRN M r xs) (h : Φ (some (.int (nI xs.length))) S M) : zW E m_Row_size 0 S M 0 [some (.ref r)] [] Φ :=
  vc_Row_size_0 E S M r L Φ hr (by rw [hx.1]; exact h)
theorem Row_at_ok {x : Int32} (hr : zRow S r L) (hx : zRN M r xs) (hl : xs.length ≤ L) (h : Φ (some (.int (zat xs x))) S M) : zW E m_Row_at 0 S M 0 [some (.ref r), some (.int x)] [] Φ := by
  have hL : L < 2 ^ 31 := hr.2.2.2.2
  refine vc_Row_at_0 E S M r L x Φ hr ?_
  rw [hx.1]
  refine ⟨fun c => ?_, fun c => ⟨fun c2 => ?_, fun c2 => ⟨fun c3 => ?_, fun c3 => ?_⟩⟩⟩
  · rw [Int32.lt_iff_toInt_lt, Int32.toInt_zero] at c
    rw [zat, if_neg (by omega)] at h
    exact h
  · rw [Int32.le_iff_toInt_le, nI_toInt (by omega)] at c2
    rw [zat, if_neg (by omega)] at h
    exact h
  · exfalso
    rw [Int32.le_iff_toInt_le, nI_toInt (by omega)] at c2 c3
    omega
  · rw [Int32.lt_iff_toInt_lt, Int32.toInt_zero] at c
    rw [Int32.le_iff_toInt_le, nI_toInt (by omega)] at c2
    refine ⟨x.toInt.toNat, by omega, ?_, ?_⟩
    · rw [iI_nat, Int.toNat_of_nonneg (by omega)]
      exact iI_of x
    · rw [hx.2 _ (by omega)]
      rw [zat, if_pos (by omega)] at h
      exact h
theorem Row_makeEmpty_ok (hr : zRow S r L) (h : ∀ M', zRN M' r [] → zfr M M' [r] → Φ none S M') : zW E m_Row_makeEmpty 0 S M 0 [some (.ref r)] [] Φ := by
  refine vc_Row_makeEmpty_0 E S M r L Φ hr ?_
  rintro _ rfl
  exact h _ ⟨zms_s _ _ _ _, fun i hi => absurd hi (Nat.not_lt_zero _)⟩ (zfr_ms _ _ _ _ List.mem_cons_self)
theorem Row_push_ok {v : Nat} (hr : zRow S r L) (hx : zRN M r xs) (hl : xs.length ≤ L) (h1 : xs.length < L → ∀ M', zRN M' r (xs ++ [v]) → zfr M M' [r, r + 1] → Φ (some (.int 1)) S M') (h2 : xs.length = L → Φ (some (.int 0)) S M) : zW E m_Row_push 0 S M 0 [some (.ref r), some (.int (nI v))] [] Φ := by
  have hL : L < 2 ^ 31 := hr.2.2.2.2
  refine vc_Row_push_0 E S M r L (nI v) Φ hr ?_
  rw [hx.1]
  refine ⟨fun c => absurd c (nI_pos (by omega)), fun _ => ⟨fun c => ?_, fun c => ?_⟩⟩
  · have c' := (nI_ltI (by omega) hL).mp c
    refine ⟨xs.length, c', rfl, ?_⟩
    rintro _ rfl _ rfl
    refine h1 c' _ ⟨?_, fun i hi => ?_⟩ (zfr_tr (zfr_ms _ _ _ _ (by simp)) (zfr_ms _ _ _ _ (by simp)))
    · rw [zms_s, zms_n _ _ (by omega), hx.1, nI_1]
      simp
    · rw [zms_n _ _ (by omega)]
      rw [List.length_append, List.length_singleton] at hi
      by_cases e : i = xs.length
      · subst e
        rw [zms_s, ← Nat.add_zero xs.length, getD_app_r]
        rfl
      · rw [zms_n _ _ (by omega), hx.2 i (by omega), getD_app_l (by omega)]
  · have c' : ¬ xs.length < L := fun q => c ((nI_ltI (by omega) hL).mpr q)
    exact h2 (by omega)
theorem Row_copy_loop (hr : zRow S r L) (ho : zRow S o Lo) (hap : r + 1 < o ∨ o + 1 < r) (hlo : ys.length ≤ Lo) (hl : ys.length ≤ L) (M0 : ZM) (hk : ∀ M', zRN M' r ys → zfr M0 M' [r, r + 1] → Φ none S M') :
    ∀ (n j : Nat) (M : ZM), j + n = ys.length → zRN M o ys → M r 1 = nI j → (∀ i, i < j → M (r + 1) i = nI (ys.getD i 0)) → zfr M0 M [r, r + 1] → zW E m_Row_copy 0 S M 7 [some (.ref r), some (.ref o), some (.int (nI j))] [] Φ := by
  have hL : L < 2 ^ 31 := hr.2.2.2.2
  have hLo : Lo < 2 ^ 31 := ho.2.2.2.2
  intro n
  induction n with
  | zero =>
    intro j M hj hy hc hi hf
    refine vc_Row_copy_7 E S M r L o Lo (nI j) Φ hr ho ?_
    rw [hy.1]
    refine ⟨fun _ => hk M ⟨by rw [hc]; congr 1, fun i h => hi i (by omega)⟩ hf, fun c => absurd (nI_le (by omega) (by omega)) c⟩
  | succ n ih =>
    intro j M hj hy hc hi hf
    refine vc_Row_copy_7 E S M r L o Lo (nI j) Φ hr ho ?_
    rw [hy.1]
    refine ⟨fun c => absurd c (nI_ge (by omega) (by omega)), fun _ => ⟨fun c => absurd c (nI_ge (by omega) (by omega)), fun _ => ⟨fun c => absurd c (nI_ge (by omega) (by omega)), fun _ => ⟨j, by omega, rfl, j, by omega, rfl, ?_⟩⟩⟩⟩
    rintro _ rfl _ rfl _ rfl
    rw [nI_1]
    refine ih (j + 1) _ (by omega) ?_ ?_ (fun i h => ?_) (zfr_tr hf (zfr_tr (zfr_ms _ _ _ _ (by simp)) (zfr_ms _ _ _ _ (by simp))))
    · exact zRN_fr hy (by rw [zms_ne _ _ _ (by omega), zms_ne _ _ _ (by omega)]) (by rw [zms_ne _ _ _ (by omega), zms_ne _ _ _ (by omega)])
    · rw [zms_s, zms_n _ _ (by omega), hc, nI_1]
    · rw [zms_n _ _ (by omega)]
      by_cases e : i = j
      · subst e
        rw [zms_s, hy.2 _ (by omega)]
      · rw [zms_n _ _ (by omega), hi i (by omega)]
theorem Row_copy_ok (hr : zRow S r L) (ho : zRow S o Lo) (hap : r + 1 < o ∨ o + 1 < r) (hy : zRN M o ys) (hlo : ys.length ≤ Lo) (hl : ys.length ≤ L) (hk : ∀ M', zRN M' r ys → zfr M M' [r, r + 1] → Φ none S M') : zW E m_Row_copy 0 S M 0 [some (.ref r), some (.ref o), none] [] Φ := by
  refine vc_Row_copy_0 E S M r L o Lo Φ hr ho ?_
  rintro _ rfl
  refine Row_copy_loop hr ho hap hlo hl M hk ys.length 0 _ (by omega) ?_ (zms_s _ _ _ _) (fun i h => absurd h (Nat.not_lt_zero _)) (zfr_ms _ _ _ _ (by simp))
  exact zRN_fr hy (zms_ne _ _ _ (by omega)) (zms_ne _ _ _ (by omega))
theorem Row_add_loop (hr : zRow S r L) (ho : zRow S o Lo) (hap : r + 1 < o ∨ o + 1 < r) (hlo : ys.length ≤ Lo) (hl : xs.length + ys.length ≤ L) (M0 : ZM) (hk : ∀ M', zRN M' r (xs ++ ys) → zfr M0 M' [r, r + 1] → Φ none S M') :
    ∀ (n j : Nat) (M : ZM), j + n = ys.length → zRN M o ys → M r 1 = nI (xs.length + j) → (∀ i, i < xs.length + j → M (r + 1) i = nI ((xs ++ ys).getD i 0)) → zfr M0 M [r, r + 1] → zW E m_Row_add 0 S M 2 [some (.ref r), some (.ref o), some (.int (nI j))] [] Φ := by
  have hL : L < 2 ^ 31 := hr.2.2.2.2
  have hLo : Lo < 2 ^ 31 := ho.2.2.2.2
  intro n
  induction n with
  | zero =>
    intro j M hj hy hc hi hf
    refine vc_Row_add_2 E S M r L o Lo (nI j) Φ hr ho ?_
    rw [hy.1]
    refine ⟨fun _ => hk M ⟨by rw [hc, List.length_append]; congr 1; omega, fun i h => hi i (by rw [List.length_append] at h; omega)⟩ hf, fun c => absurd (nI_le (by omega) (by omega)) c⟩
  | succ n ih =>
    intro j M hj hy hc hi hf
    refine vc_Row_add_2 E S M r L o Lo (nI j) Φ hr ho ?_
    rw [hy.1, hc]
    refine ⟨fun c => absurd c (nI_ge (by omega) (by omega)), fun _ => ⟨fun c => absurd c (nI_ge (by omega) (by omega)), fun _ => ⟨fun c => absurd c (nI_ge (by omega) (by omega)), fun _ => ⟨j, by omega, rfl, xs.length + j, by omega, rfl, ?_⟩⟩⟩⟩
    rintro _ rfl _ rfl _ rfl
    rw [nI_1]
    refine ih (j + 1) _ (by omega) ?_ ?_ (fun i h => ?_) (zfr_tr hf (zfr_tr (zfr_ms _ _ _ _ (by simp)) (zfr_ms _ _ _ _ (by simp))))
    · exact zRN_fr hy (by rw [zms_ne _ _ _ (by omega), zms_ne _ _ _ (by omega)]) (by rw [zms_ne _ _ _ (by omega), zms_ne _ _ _ (by omega)])
    · rw [zms_s, zms_n _ _ (by omega), hc, nI_1]
      congr 1
    · rw [zms_n _ _ (by omega)]
      by_cases e : i = xs.length + j
      · subst e
        rw [zms_s, hy.2 _ (by omega), getD_app_r]
      · rw [zms_n _ _ (by omega), hi i (by omega)]
theorem Row_add_ok (hr : zRow S r L) (ho : zRow S o Lo) (hap : r + 1 < o ∨ o + 1 < r) (hx : zRN M r xs) (hy : zRN M o ys) (hlo : ys.length ≤ Lo) (hl : xs.length + ys.length ≤ L) (hk : ∀ M', zRN M' r (xs ++ ys) → zfr M M' [r, r + 1] → Φ none S M') : zW E m_Row_add 0 S M 0 [some (.ref r), some (.ref o), none] [] Φ :=
  vc_Row_add_0 E S M r L o Lo Φ hr ho (Row_add_loop hr ho hap hlo hl M hk ys.length 0 M (by omega) hy hx.1 (fun i h => by rw [hx.2 i h, getD_app_l h]) (zfr_rfl _ _))
theorem Row_makeRoom_loop (hr : zRow S r L) {p : Nat} (hl : xs.length + p ≤ L) (M0 : ZM) (hk : ∀ M', M' r 1 = nI (p + xs.length) → (∀ i, i < xs.length → M' (r + 1) (p + i) = nI (xs.getD i 0)) → zfr M0 M' [r, r + 1] → Φ (some (.int 1)) S M') :
    ∀ (n : Nat) (M : ZM), n ≤ xs.length → M r 1 = nI xs.length → (∀ i, i < n → M (r + 1) i = nI (xs.getD i 0)) → (∀ i, n ≤ i → i < xs.length → M (r + 1) (p + i) = nI (xs.getD i 0)) → zfr M0 M [r, r + 1] → zW E m_Row_makeRoom 0 S M 27 [some (.ref r), some (.int (nI p)), some (.int (nI n - 1))] [] Φ := by
  have hL : L < 2 ^ 31 := hr.2.2.2.2
  intro n
  induction n with
  | zero =>
    intro M hn hc h1 h2 hf
    refine vc_Row_makeRoom_27 E S M r L (nI p) (nI 0 - 1) Φ hr ⟨fun _ => ?_, fun c => absurd (by decide) c⟩
    rintro _ rfl
    refine hk _ (by rw [zms_s, hc, nI_add, Nat.add_comm]) (fun i hi => ?_) (zfr_tr hf (zfr_ms _ _ _ _ (by simp)))
    rw [zms_n _ _ (by omega), h2 i (by omega) hi]
  | succ n ih =>
    intro M hn hc h1 h2 hf
    rw [nI_pred]
    refine vc_Row_makeRoom_27 E S M r L (nI p) (nI n) Φ hr ⟨fun c => absurd c (nI_pos (by omega)), fun _ => ⟨n, by omega, rfl, n + p, by omega, nI_add _ _, ?_⟩⟩
    rintro _ rfl _ rfl
    rw [show nI n + (-1) = nI n - 1 by rw [iI_nat, iI_lit, iI_neg, iI_add, iI_sub]; congr 1]
    refine ih _ (by omega) (by rw [zms_n _ _ (by omega), hc]) (fun i hi => ?_) (fun i hi hi2 => ?_) (zfr_tr hf (zfr_ms _ _ _ _ (by simp)))
    · by_cases e : i = n + p
      · subst e
        have : p = 0 := by omega
        subst this
        omega
      · rw [zms_n _ _ (by omega), h1 i (by omega)]
    · by_cases e : i = n
      · subst e
        rw [Nat.add_comm p i, zms_s, h1 _ (by omega)]
      · rw [zms_n _ _ (by omega), h2 i (by omega) hi2]
theorem Row_makeRoom_ok (hr : zRow S r L) {p : Nat} (hx : zRN M r xs) (hl : xs.length ≤ L) (hp : p < 2 ^ 31) (h0 : L < xs.length + p → Φ (some (.int 0)) S M) (hk : xs.length + p ≤ L → ∀ M', M' r 1 = nI (p + xs.length) → (∀ i, i < xs.length → M' (r + 1) (p + i) = nI (xs.getD i 0)) → zfr M M' [r, r + 1] → Φ (some (.int 1)) S M') : zW E m_Row_makeRoom 0 S M 0 [some (.ref r), some (.int (nI p)), none] [] Φ := by
  have hL : L < 2 ^ 31 := hr.2.2.2.2
  refine vc_Row_makeRoom_0 E S M r L (nI p) Φ hr ?_
  rw [hx.1, pk_sub hl]
  refine ⟨fun c => absurd c (nI_pos hp), fun _ => ⟨fun c => ?_, fun c => h0 ?_⟩⟩
  · rintro _ rfl
    have c' := (nI_leI hp (by omega)).mp c
    exact Row_makeRoom_loop hr (by omega) M (hk (by omega)) xs.length M (Nat.le_refl _) hx.1 hx.2 (fun i h1 h2 => absurd h1 (by omega)) (zfr_rfl _ _)
  · have c' : ¬ p ≤ L - xs.length := fun q => c ((nI_leI hp (by omega)).mpr q)
    omega
theorem Row_pushAhead_ok {v : Nat} (hr : zRow S r L) (hx : zRN M r xs) (hl : xs.length ≤ L) (h0 : xs.length = L → Φ (some (.int 0)) S M) (h1 : xs.length < L → ∀ M', zRN M' r (v :: xs) → zfr M M' [r, r + 1] → Φ (some (.int 1)) S M') : zW E m_Row_pushAhead 1 S M 0 [some (.ref r), some (.int (nI v))] [] Φ := by
  have hL : L < 2 ^ 31 := hr.2.2.2.2
  refine vc_Row_pushAhead_0 E S M r L (nI v) Φ hr ?_
  refine Row_makeRoom_ok (p := 1) hr hx hl (by decide) (fun c => ⟨0, rfl, rfl, fun _ => h0 (by omega), fun c => absurd rfl c⟩) (fun c M1 hc hi hf => ⟨1, rfl, rfl, fun c => absurd c (by decide), fun _ => ⟨fun _ => ⟨by omega, ?_⟩, fun c => absurd c (nI_ne0 (by omega) hL)⟩⟩)
  rintro _ rfl
  refine h1 (by omega) _ ⟨?_, fun i hi2 => ?_⟩ (zfr_tr hf (zfr_ms _ _ _ _ (by simp)))
  · rw [zms_n _ _ (by omega), hc]
    congr 1
    simp
    omega
  · cases i with
    | zero => rw [zms_s]; rfl
    | succ i =>
      rw [List.length_cons] at hi2
      rw [zms_n _ _ (by omega), Nat.add_comm i 1, hi i (by omega), Nat.add_comm 1 i]
      rfl
theorem Row_putAhead_loop (hr : zRow S r L) (ho : zRow S o Lo) (hap : r + 1 < o ∨ o + 1 < r) (hlo : ys.length ≤ Lo) (hl : xs.length + ys.length ≤ L) (M0 : ZM) (hk : ∀ M', zRN M' r (ys ++ xs) → zfr M0 M' [r, r + 1] → Φ (some (.int 1)) S M') :
    ∀ (n j : Nat) (M : ZM), j + n = ys.length → zRN M o ys → M r 1 = nI (ys.length + xs.length) → (∀ i, i < xs.length → M (r + 1) (ys.length + i) = nI (xs.getD i 0)) → (∀ i, i < j → M (r + 1) i = nI (ys.getD i 0)) → zfr M0 M [r, r + 1] → zW E m_Row_putAhead 1 S M 17 [some (.ref r), some (.ref o), some (.int (nI ys.length)), some (.int (nI j))] [] Φ := by
  have hL : L < 2 ^ 31 := hr.2.2.2.2
  have hLo : Lo < 2 ^ 31 := ho.2.2.2.2
  intro n
  induction n with
  | zero =>
    intro j M hj hy hc hi1 hi hf
    refine vc_Row_putAhead_17 E S M r L o Lo (nI ys.length) (nI j) Φ hr ho ⟨fun _ => hk M ⟨by rw [hc, List.length_append], fun i h => ?_⟩ hf, fun c => absurd (nI_le (by omega) (by omega)) c⟩
    rw [List.length_append] at h
    by_cases e : i < ys.length
    · rw [hi i (by omega), getD_app_l e]
    · have e2 : i = ys.length + (i - ys.length) := by omega
      rw [e2, hi1 _ (by omega), getD_app_r]
  | succ n ih =>
    intro j M hj hy hc hi1 hi hf
    refine vc_Row_putAhead_17 E S M r L o Lo (nI ys.length) (nI j) Φ hr ho ⟨fun c => absurd c (nI_ge (by omega) (by omega)), fun _ => ⟨fun c => absurd c (nI_ge (by omega) (by omega)), fun _ => ⟨fun c => absurd c (nI_ge (by omega) (by omega)), fun _ => ⟨j, by omega, rfl, j, by omega, rfl, ?_⟩⟩⟩⟩
    rintro _ rfl _ rfl
    rw [nI_1]
    refine ih (j + 1) _ (by omega) ?_ ?_ (fun i h => ?_) (fun i h => ?_) (zfr_tr hf (zfr_ms _ _ _ _ (by simp)))
    · exact zRN_fr hy (zms_ne _ _ _ (by omega)) (zms_ne _ _ _ (by omega))
    · rw [zms_n _ _ (by omega), hc]
    · rw [zms_n _ _ (by omega), hi1 i h]
    · by_cases e : i = j
      · subst e
        rw [zms_s, hy.2 _ (by omega)]
      · rw [zms_n _ _ (by omega), hi i (by omega)]
theorem Row_putAhead_ok (hr : zRow S r L) (ho : zRow S o Lo) (hap : r + 1 < o ∨ o + 1 < r) (hx : zRN M r xs) (hy : zRN M o ys) (hlo : ys.length ≤ Lo) (hl : xs.length ≤ L) (h0 : L < xs.length + ys.length → Φ (some (.int 0)) S M) (hk : xs.length + ys.length ≤ L → ∀ M', zRN M' r (ys ++ xs) → zfr M M' [r, r + 1] → Φ (some (.int 1)) S M') : zW E m_Row_putAhead 1 S M 0 [some (.ref r), some (.ref o), none, none] [] Φ := by
  have hL : L < 2 ^ 31 := hr.2.2.2.2
  have hLo : Lo < 2 ^ 31 := ho.2.2.2.2
  refine vc_Row_putAhead_0 E S M r L o Lo Φ hr ho ?_
  rintro _ rfl
  rw [hy.1]
  refine Row_makeRoom_ok (p := ys.length) hr hx hl (by omega) (fun c => ⟨0, rfl, rfl, fun c => absurd rfl c, fun _ => h0 c⟩) (fun c M1 hc hi hf => ⟨1, rfl, rfl, fun _ => ?_, fun c => absurd c (by decide)⟩)
  exact Row_putAhead_loop hr ho hap hlo c M (hk c) ys.length 0 M1 (by omega) (zRN_keep hy hf (by simp; omega) (by simp; omega)) hc hi (fun i h => absurd h (Nat.not_lt_zero _)) hf
end ROW
