/-! Trial: words, maps, what is allowed -/
def szw (w : Nat) : Nat := if w < 1 then 0 else if w < 3 then 1 else if w < 7 then 2 else 3
def wLw (w : Nat) : List Nat := ([[], [0], [1], [0, 0], [0, 1], [1, 0], [1, 1], [0, 0, 0], [0, 0, 1], [0, 1, 0], [0, 1, 1], [1, 0, 0], [1, 0, 1], [1, 1, 0], [1, 1, 1]] : List (List Nat)).getD w []
theorem wLw_s : ∀ w, w < 15 → 0 < w → (w - 1) / 2 < w ∧ wLw w = wLw ((w - 1) / 2) ++ [(w - 1) % 2] := by decide +kernel
theorem wLw_len : ∀ w, w < 15 → (wLw w).length = szw w := by decide +kernel
theorem szw_le : ∀ w, w < 15 → szw w ≤ 3 ∧ 2 ^ szw w ≤ w + 1 ∧ w + 1 - 2 ^ szw w < 2 ^ szw w := by decide +kernel
theorem wLw_lt : ∀ w, w < 15 → ∀ y ∈ wLw w, y < 2 := by decide +kernel
theorem wmp_snoc (g : Nat → Nat) (l : List Nat) (a : Nat) : wmp g (l ++ [a]) = stp g a (wmp g l) := by simp [wmp]
theorem wmp_wl {g : Nat → Nat} (hg : okg g) {w : Nat} (hw : w < 15) : ok3 (wmp g (wLw w)) := wmp_ok hg _ (wLw_lt w hw) _ ⟨by decide, by decide, by decide⟩
theorem b_1 : ∀ i, i < 32 → bt 1 i = decide (i = 0) := by decide +kernel
theorem and1 (x : Int32) : (x &&& 1) = 0 ↔ bt x 0 = false := by
  constructor
  · intro h
    have := congrArg (fun y => bt y 0) h
    simp only [b_and, b_0, b_1 0 (by decide)] at this
    simpa using this
  · intro h
    refine b_ext (fun i hi => ?_)
    rw [b_and, b_1 i hi, b_0]
    by_cases c : i = 0
    · rw [c, h]; rfl
    · simp [c]
theorem bit_at {x : Int32} {w : Nat} (hw : w < 32) : ((x >>> (nI w &&& 31)) &&& 1) = 0 ↔ bt x w = false := by
  rw [and1, b_sshr w hw x (by decide)]
  simp [hw]
def aok (g : Nat → Nat) (n w : Nat) : Bool := allow n (wmp g (wLw w))
section TRIAL
variable {E : ZE} {k : Nat} {M : ZM} {Φ : Option Value → ZS → ZM → Prop} {g : Nat → Nat}
def zMp (M : ZM) (g : Nat → Nat) (j : Nat) : Prop := ∀ w, w < j → M 70 w = nI (mb (wmp g (wLw w)))
theorem findMaps_loop (hg : okg g) {M0 : ZM} (hk : ∀ M', zMp M' g 15 → zfr M0 M' [70] → Φ none (zSt k) M') : ∀ (n j : Nat) (M : ZM), j + n = 15 → 0 < j → zMp M g j → zGo M 8 g → zfr M0 M [70] → zW E m_Trial_findMaps 2 (zSt k) M 11 [some (.ref 69), some (.ref 8), some (.int (nI j))] [] Φ
  | 0, j, M, hj, h0, hm, hgo, hf => by
    have : j = 15 := by omega
    subst this
    exact vc_Trial_findMaps_11 E k M 8 _ Φ (ts_8 k) ⟨fun _ => hk M hm hf, fun c => absurd (by decide) c⟩
  | n + 1, j, M, hj, h0, hm, hgo, hf => by
    have hj15 : j < 15 := by omega
    obtain ⟨q1, q2⟩ := wLw_s j hj15 h0
    have e1 : nI j - 1 = nI (j - 1) := pk_sub (b := 1) (by omega)
    refine vc_Trial_findMaps_11 E k M 8 _ Φ (ts_8 k) ⟨fun c => absurd ((nI_leI (a := 15) (by decide) (by omega)).mp c) (by omega), fun _ => ⟨(j - 1) / 2, by omega, ?_, ?_⟩⟩
    · rw [e1]
      exact pk_div (d := 2) (by omega) (by decide) (by decide)
    · rw [e1, show nI (j - 1) - nI (j - 1) / 2 * 2 = nI ((j - 1) % 2) from pk_rem (d := 2) (by omega) (by decide) (by decide), hm _ q1]
      refine Machine_mapBehind_ok (ts_8 k) hgo hg (wmp_wl hg (by omega)) (Nat.mod_lt _ (by decide)) ⟨_, rfl, rfl, j, hj15, rfl, ?_⟩
      rintro _ rfl _ rfl
      rw [nI_1]
      have f : zfr M (zms M 70 j (nI (mb (stp g ((j - 1) % 2) (wmp g (wLw ((j - 1) / 2))))))) [70] := zfr_ms _ _ _ _ (by simp)
      refine findMaps_loop hg hk n (j + 1) _ (by omega) (by omega) (fun w hw => ?_) (zGo_keep hgo f (by decide)) (zfr_tr hf f)
      by_cases c : w = j
      · rw [c, zms_s, q2, wmp_snoc]
      · rw [zms_k _ _ c]
        exact hm w (by omega)
theorem findMaps_ok (hg : okg g) (hgo : zGo M 8 g) (hk : ∀ M', zMp M' g 15 → zfr M M' [70] → Φ none (zSt k) M') : zW E m_Trial_findMaps 2 (zSt k) M 0 [some (.ref 69), some (.ref 8), none] [] Φ := by
  refine vc_Trial_findMaps_0 E k M 8 Φ (ts_8 k) ?_
  rintro _ rfl
  have f : zfr M (zms M 70 0 273) [70] := zfr_ms _ _ _ _ (by simp)
  refine findMaps_loop hg hk 14 1 _ rfl (by decide) (fun w hw => ?_) (zGo_keep hgo f (by decide)) f
  have : w = 0 := by omega
  subst this
  rw [zms_s]
  rfl
theorem allowedWords_loop (hg : okg g) {n : Nat} (hn : n < 512) (hm : zMp M g 15) (hk : ∀ y : Int32, (∀ i, i < 32 → bt y i = (decide (i < 15) && aok g n i)) → Φ (some (.int y)) (zSt k) M) : ∀ (m j : Nat) (y : Int32), j + m = 15 → (∀ i, i < 32 → bt y i = (decide (i < j) && aok g n i)) → zW E m_Trial_allowedWords 1 (zSt k) M 4 [some (.ref 69), some (.int (nI n)), some (.int y), some (.int (nI j))] [] Φ
  | 0, j, y, hj, hy => by
    have : j = 15 := by omega
    subst this
    exact vc_Trial_allowedWords_4 E k M _ _ _ Φ ⟨fun _ => hk y hy, fun c => absurd (by decide) c⟩
  | m + 1, j, y, hj, hy => by
    have hj15 : j < 15 := by omega
    refine vc_Trial_allowedWords_4 E k M _ _ _ Φ ⟨fun c => absurd ((nI_leI (a := 15) (by decide) (by omega)).mp c) (by omega), fun _ => ⟨j, hj15, rfl, ?_⟩⟩
    rw [hm j hj15]
    refine Need_allows_ok hn (wmp_wl hg hj15) ⟨_, rfl, rfl, fun c => ?_, fun c => ?_⟩
    · have c' : aok g n j = false := by
        cases h : aok g n j with
        | false => rfl
        | true =>
          have h : allow n (wmp g (wLw j)) = true := h
          rw [if_pos h] at c; exact absurd c (by decide)
      rintro _ rfl
      rw [nI_1]
      refine allowedWords_loop hg hn hm hk m (j + 1) y (by omega) (fun i hi => ?_)
      rw [hy i hi]
      by_cases e : i = j
      · rw [e, c']; simp
      · rw [show decide (i < j + 1) = decide (i < j) from by simp; omega]
    · have c' : aok g n j = true := by
        cases h : aok g n j with
        | true => rfl
        | false =>
          have h : allow n (wmp g (wLw j)) = false := h
          rw [h] at c; exact absurd rfl c
      rintro _ rfl _ rfl
      rw [nI_1]
      refine allowedWords_loop hg hn hm hk m (j + 1) _ (by omega) (fun i hi => ?_)
      rw [b_or, hy i hi, b_shl j (by omega) 1 hi, b_1 (i - j) (by omega)]
      by_cases e : i = j
      · subst e
        simp [c']
      · by_cases e2 : i < j
        · simp [e2, show ¬ j ≤ i by omega, show i < j + 1 by omega]
        · simp [e2, show j ≤ i by omega, show ¬ i < j + 1 by omega, show ¬ i - j = 0 by omega]
theorem allowedWords_ok (hg : okg g) {n : Nat} (hn : n < 512) (hm : zMp M g 15) (hk : ∀ y : Int32, (∀ i, i < 32 → bt y i = (decide (i < 15) && aok g n i)) → Φ (some (.int y)) (zSt k) M) : zW E m_Trial_allowedWords 1 (zSt k) M 0 [some (.ref 69), some (.int (nI n)), none, none] [] Φ :=
  vc_Trial_allowedWords_0 E k M _ Φ (allowedWords_loop hg hn hm hk 15 0 0 rfl (fun i hi => by rw [b_0]; simp))
def zAl (M : ZM) (g : Nat → Nat) (n : T3) (j : Nat) : Prop := ∀ v, v < j → ∀ i, i < 32 → bt (M 71 v) i = (decide (i < 15) && aok g (t3 n v) i)
theorem sizeOf_ok {w : Nat} (hw : w < 15) (hk : Φ (some (.int (nI (szw w)))) (zSt k) M) : zW E m_Trial_sizeOf 0 (zSt k) M 0 [some (.int (nI w))] [] Φ := by
  refine vc_Trial_sizeOf_0 E k M _ Φ ?_
  have l1 : (1 : Int32) ≤ nI w ↔ 1 ≤ w := nI_leI (a := 1) (by decide) (by omega)
  have l3 : (3 : Int32) ≤ nI w ↔ 3 ≤ w := nI_leI (a := 3) (by decide) (by omega)
  have l7 : (7 : Int32) ≤ nI w ↔ 7 ≤ w := nI_leI (a := 7) (by decide) (by omega)
  rw [l1, l3, l7]
  unfold szw at hk
  refine ⟨fun c1 => ⟨fun c3 => ⟨fun c7 => ?_, fun c7 => ?_⟩, fun c3 => ?_⟩, fun c1 => ?_⟩
  · rw [if_neg (by omega), if_neg (by omega), if_neg (by omega)] at hk; exact hk
  · rw [if_neg (by omega), if_neg (by omega), if_pos (by omega)] at hk; exact hk
  · rw [if_neg (by omega), if_pos (by omega)] at hk; exact hk
  · rw [if_pos (by omega)] at hk; exact hk
theorem shl1 : ∀ s, s < 4 → ((1 : Int32) <<< (nI s &&& 31)) = nI (2 ^ s) ∧ ((2 : Int32) <<< (nI s &&& 31)) = nI (2 * 2 ^ s) := by decide +kernel
/-- what is tried for a symbol stands in the two rows -/
def zTd (M : ZM) (s : Nat) (z d : Nat) : Prop := M 72 s = nI z ∧ M 73 s = nI d
theorem choose_ok {n : T3} {v w : Nat} (hv : v < 3) (hw : w < 15) (ha : zAl M g n 3) (h0 : aok g (t3 n v) w = false → Φ (some (.int 0)) (zSt k) M) (h1 : aok g (t3 n v) w = true → ∀ M', zTd M' (v + 2) (szw w) (w + 1 - 2 ^ szw w) → (∀ s, s ≠ v + 2 → M' 72 s = M 72 s ∧ M' 73 s = M 73 s) → zfr M M' [72, 73] → Φ (some (.int 1)) (zSt k) M') : zW E m_Trial_choose 1 (zSt k) M 0 [some (.ref 69), some (.int (nI v)), some (.int (nI w))] [] Φ := by
  refine vc_Trial_choose_0 E k M _ _ Φ (H_isVariable_ok (fun u hu e => ⟨1, rfl, rfl, fun q => absurd q (by decide), fun _ => ⟨v, hv, rfl, fun c => ?_, fun c => ?_⟩⟩) (fun q => ?_))
  · have c' : aok g (t3 n v) w = true := by
      rw [bit_at (by omega), ha v hv w (by omega)] at c
      simpa [hw] using c
    obtain ⟨s1, s2, s3⟩ := szw_le w hw
    refine sizeOf_ok hw ⟨_, rfl, rfl, v + 2, by omega, nI_addN v 2, ?_⟩
    rintro _ rfl
    refine sizeOf_ok hw ⟨_, rfl, rfl, v + 2, by omega, nI_addN v 2, ?_⟩
    rintro _ rfl
    rw [(shl1 _ (by omega)).1, nI_1, pk_sub s2]
    refine h1 c' _ ⟨?_, ?_⟩ (fun s hs => ⟨?_, ?_⟩) (zfr_tr (zfr_ms _ _ _ _ (by simp)) (zfr_ms _ _ _ _ (by simp)))
    · rw [zms_n _ _ (by omega), zms_s]
    · rw [zms_s]
    · rw [zms_n _ _ (by omega), zms_n _ _ (by omega)]
    · rw [zms_n _ _ (by omega), zms_n _ _ (by omega)]
  · rw [bit_at (by omega), ha v hv w (by omega)] at c
    refine h0 ?_
    simpa [hw] using c
  · rcases q with q | q
    · exact absurd q (nI_pos (by omega))
    · exact absurd ((nI_leI (a := 3) (by decide) (by omega)).mp q) (by omega)
end TRIAL
