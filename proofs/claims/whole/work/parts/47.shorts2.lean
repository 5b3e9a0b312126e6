/-! Shorts: the first map that a need allows; words -/
section SHORTS2
variable {E : ZE} {k : Nat} {M : ZM} {Φ : Option Value → ZS → ZM → Prop}
theorem and511 {n : Nat} (h : n < 512) : nI n &&& 511 = nI n := by
  rw [pk_andN (by omega) 9 (by decide)]
  congr 1
  omega
theorem nI_ne6 {n : Nat} (h : n < 2 ^ 31) : nI n ≠ -6 := by
  intro q
  have q := congrArg Int32.toInt q
  rw [nI_toInt h, (by decide : (-6 : Int32).toInt = -6)] at q
  omega
theorem nI_ne1 {n : Nat} (h : n < 2 ^ 31) : nI n ≠ -1 := by
  intro q
  have q := congrArg Int32.toInt q
  rw [nI_toInt h, (by decide : (-1 : Int32).toInt = -1)] at q
  omega
theorem zFit_up {D : BD} {n : Nat} {M M' : ZM} (h : zFit M D) (h1 : ∀ i, i ≠ n → M' 49 i = M 49 i) (h2 : M' 49 n = fitv D n) : zFit M' D := by
  intro i hi
  by_cases e : i = n
  · subst e
    exact Or.inr h2
  · rw [h1 i e]
    exact h i hi
theorem fitv_ne {D : BD} (h : D.length ≤ 27) (n : Nat) : fitv D n ≠ -1 := by
  unfold fitv oN
  cases q : sIx D n with
  | none => decide
  | some e =>
    have := (fIx_some q).2.1
    exact nI_ne1 (by omega)
theorem Shorts_firstFit_loop {D : BD} {n : Nat} (hn : n < 512) (hD : okD D) (hk : ∀ M', zSh M' D → zFit M' D → M' 45 6 = M 45 6 → zfr M M' [49] → Φ (some (.int (fitv D n))) (zSt k) M') (hF : zFit M D) :
    ∀ (c j : Nat) (M1 : ZM), j + c = D.length → zSh M1 D → (∀ i, i ≠ n → M1 49 i = M 49 i) → M1 49 n = -6 → M1 45 6 = M 45 6 → zfr M M1 [49] → sIx D n = fIx (fun e => allow n (dT D e)) j c → zW E m_Shorts_firstFit 1 (zSt k) M1 26 [some (.ref 45), some (.int (nI n)), some (.int (nI n)), some (.int (nI j))] [] Φ := by
  have hl := okD_27 hD
  intro c
  induction c with
  | zero =>
    intro j M1 hj hM h1 h2 h3 hf hs
    refine vc_Shorts_firstFit_26 E k M1 _ _ _ Φ ?_
    rw [hM.1]
    refine ⟨fun _ => ⟨n, hn, rfl, ?_⟩, fun c => absurd (nI_le (by omega) (by omega)) c⟩
    have e : fitv D n = -6 := by unfold fitv; rw [hs]; rfl
    have := hk M1 hM (zFit_up hF h1 (by rw [h2, e])) h3 hf
    rw [h2]
    rw [e] at this
    exact this
  | succ c ih =>
    intro j M1 hj hM h1 h2 h3 hf hs
    have hjl : j < D.length := by omega
    refine vc_Shorts_firstFit_26 E k M1 _ _ _ Φ ?_
    rw [hM.1]
    refine ⟨fun c => absurd c (nI_ge (by omega) (by omega)), fun _ => ⟨fun c => absurd c (nI_ge (b := 27) (by omega) (by decide)), fun _ => ⟨j, by omega, rfl, ?_⟩⟩⟩
    rw [(hM.2 j hjl).1]
    refine Need_allows_ok hn (hD.2.2.2.1 j hjl).1 ⟨_, rfl, rfl, ?_⟩
    unfold fIx at hs
    by_cases a : allow n (dT D j) = true
    · rw [if_pos a]
      rw [if_pos a] at hs
      refine ⟨fun c => absurd c (by decide), fun _ => ⟨n, hn, rfl, ?_⟩⟩
      rintro _ rfl
      refine ⟨n, hn, rfl, ?_⟩
      rw [zms_s]
      have e : fitv D n = nI j := by unfold fitv; rw [hs]; rfl
      have := hk (zms M1 49 n (nI j)) (zSh_keep hM (zms_ne _ _ _ (by decide)) (zms_ne _ _ _ (by decide)) (zms_ne _ _ _ (by decide)) (zms_ne _ _ _ (by decide))) (zFit_up hF (fun i hi => by rw [zms_k _ _ hi, h1 i hi]) (by rw [zms_s, e])) (by rw [zms_n _ _ (by omega), h3]) (zfr_tr hf (zfr_ms _ _ _ _ (by simp)))
      rw [e] at this
      exact this
    · rw [if_neg a]
      rw [if_neg a] at hs
      refine ⟨fun _ => ?_, fun c => absurd rfl c⟩
      rintro _ rfl
      rw [nI_1]
      exact ih (j + 1) M1 (by omega) hM h1 h2 h3 hf hs
theorem Shorts_firstFit_ok {D : BD} {n : Nat} (hn : n < 512) (hD : okD D) (hM : zSh M D) (hF : zFit M D) (hk : ∀ M', zSh M' D → zFit M' D → M' 45 6 = M 45 6 → zfr M M' [49] → Φ (some (.int (fitv D n))) (zSt k) M') : zW E m_Shorts_firstFit 1 (zSt k) M 0 [some (.ref 45), some (.int (nI n)), none, none] [] Φ := by
  refine vc_Shorts_firstFit_0 E k M _ Φ ?_
  rintro _ rfl
  rw [and511 hn]
  refine ⟨n, hn, rfl, fun c => ⟨n, hn, rfl, ?_⟩, fun c => ⟨n, hn, rfl, ?_⟩⟩
  · rcases hF n hn with h | h
    · exact absurd h c
    · rw [h]
      exact hk M hM hF rfl (zfr_rfl _ _)
  · rintro _ rfl
    exact Shorts_firstFit_loop hn hD hk hF D.length 0 _ (by omega) (zSh_keep hM (zms_ne _ _ _ (by decide)) (zms_ne _ _ _ (by decide)) (zms_ne _ _ _ (by decide)) (zms_ne _ _ _ (by decide))) (fun i hi => zms_k _ _ hi) (zms_s _ _ _ _) (zms_n _ _ (by omega)) (zfr_ms _ _ _ _ (by simp)) rfl
theorem fitv_none {D : BD} (h : D.length ≤ 27) {n : Nat} : fitv D n = -6 ↔ sIx D n = none := by
  unfold fitv oN
  cases q : sIx D n with
  | none => simp
  | some e =>
    have := (fIx_some q).2.1
    simp only [reduceCtorEq, iff_false]
    exact nI_ne6 (by omega)
/-- whether a variable is hopeless -/
def hopl (D : BD) (n : T3) : Bool := (sIx D (t3 n 0)).isNone || (sIx D (t3 n 1)).isNone || (sIx D (t3 n 2)).isNone
theorem hopl_iff {D : BD} {n : T3} : hopl D n = true ↔ ∃ v, v < 3 ∧ sIx D (t3 n v) = none := by
  unfold hopl
  simp only [Bool.or_eq_true, Option.isNone_iff_eq_none]
  constructor
  · rintro ((h | h) | h)
    · exact ⟨0, by decide, h⟩
    · exact ⟨1, by decide, h⟩
    · exact ⟨2, by decide, h⟩
  · rintro ⟨v, hv, h⟩
    rcases (show v = 0 ∨ v = 1 ∨ v = 2 by omega) with rfl | rfl | rfl
    · exact Or.inl (Or.inl h)
    · exact Or.inl (Or.inr h)
    · exact Or.inr h
theorem Shorts_anyHopeless_loop {D : BD} {n : T3} (hn : okn n) (hD : okD D) (M0 : ZM) (hk : ∀ M', zSh M' D → zFit M' D → M' 45 6 = M0 45 6 → zfr M0 M' [49] → Φ (some (.int (if hopl D n = true then 1 else 0))) (zSt k) M') :
    ∀ (c j : Nat) (M : ZM), j + c = 3 → zSh M D → zFit M D → M 45 6 = M0 45 6 → zfr M0 M [49] → (∀ v, v < j → sIx D (t3 n v) ≠ none) → zW E m_Shorts_anyHopeless 2 (zSt k) M 2 [some (.ref 45), some (.int (nI (pkn n))), some (.int (nI j))] [] Φ := by
  have hl := okD_27 hD
  intro c
  induction c with
  | zero =>
    intro j M hj hM hF h6 hf hi
    have : j = 3 := by omega
    subst this
    have e : hopl D n = false := by
      cases q : hopl D n with
      | false => rfl
      | true =>
        obtain ⟨v, hv, h⟩ := hopl_iff.mp q
        exact absurd h (hi v hv)
    have := hk M hM hF h6 hf
    rw [e] at this
    exact vc_Shorts_anyHopeless_2 E k M _ _ Φ ⟨fun _ => this, fun c => absurd (by decide) c⟩
  | succ c ih =>
    intro j M hj hM hF h6 hf hi
    refine vc_Shorts_anyHopeless_2 E k M _ _ Φ ⟨fun c => absurd c (nI_ge (b := 3) (by omega) (by decide)), fun _ => ?_⟩
    refine Need_ofVariable_ok hn (by omega) ⟨_, rfl, rfl, Shorts_firstFit_ok (okn_t3 hn _) hD hM hF (fun M1 a1 a2 a3 a4 => ⟨_, rfl, rfl, fun c => ?_, fun c => ?_⟩)⟩
    · rintro _ rfl
      rw [nI_1]
      refine ih (j + 1) M1 (by omega) a1 a2 (a3.trans h6) (zfr_tr hf a4) (fun v hv => ?_)
      by_cases e : v = j
      · rw [e]; exact fun q => c ((fitv_none hl).mpr q)
      · exact hi v (by omega)
    · have e : hopl D n = true := hopl_iff.mpr ⟨j, by omega, (fitv_none hl).mp c⟩
      have := hk M1 a1 a2 (a3.trans h6) (zfr_tr hf a4)
      rw [e] at this
      exact this
theorem Shorts_anyHopeless_ok {D : BD} {n : T3} (hn : okn n) (hD : okD D) (hM : zSh M D) (hF : zFit M D) (hk : ∀ M', zSh M' D → zFit M' D → M' 45 6 = M 45 6 → zfr M M' [49] → Φ (some (.int (if hopl D n = true then 1 else 0))) (zSt k) M') : zW E m_Shorts_anyHopeless 2 (zSt k) M 0 [some (.ref 45), some (.int (nI (pkn n))), none] [] Φ :=
  vc_Shorts_anyHopeless_0 E k M _ Φ (Shorts_anyHopeless_loop hn hD M hk 3 0 M rfl hM hF rfl (zfr_rfl _ _) (fun v hv => absurd hv (Nat.not_lt_zero _)))
theorem Shorts_write_loop {D : BD} {r L : Nat} {w : List Nat} (hr : zRow (zSt k) r L) (hap : 48 < r) (hD : okD D) (hL : 27 ≤ L) (hw : w.length ≤ 26) (M0 : ZM) (hk : ∀ M', zRN M' r w → zfr M0 M' [r, r + 1] → Φ none (zSt k) M') :
    ∀ (c e : Nat) (M : ZM) (s : List Nat), e < c → e < D.length → c + s.length ≤ 27 → w = dW D e ++ s → zSh M D → zRN M r s → zfr M0 M [r, r + 1] → zW E m_Shorts_write 2 (zSt k) M 9 [some (.ref 45), none, some (.ref r), some (.int (nI e)), some (.int (nI s.length))] [] Φ := by
  have hl := okD_27 hD
  have hL2 : L < 2 ^ 31 := hr.2.2.2.2
  intro c
  induction c with
  | zero =>
    intro e M s he
    exact absurd he (Nat.not_lt_zero _)
  | succ c ih =>
    intro e M s he hel hcs hws hM hs hf
    refine vc_Shorts_write_9 E k M r L _ _ Φ hr ⟨fun q => absurd q (nI_ge (b := 27) (by omega) (by decide)), fun _ => ⟨fun q => ?_, fun q => ⟨fun q2 => absurd q2 (nI_ge (b := 27) (by omega) (by decide)), fun _ => ⟨e, by omega, rfl, ?_⟩⟩⟩⟩
    · have e0 : e = 0 := by
        by_cases z : e = 0
        · exact z
        · exact absurd q (nI_nle (by omega) (by omega))
      subst e0
      rw [hD.2.2.1] at hws
      rw [hws] at hk
      exact hk M hs hf
    · have e0 : 0 < e := by
        by_cases z : e = 0
        · subst z; exact absurd (by decide) q
        · omega
      obtain ⟨e', l, d1, d2, d3, d4, d5⟩ := (hM.2 e hel).2 e0
      rw [d4]
      refine Row_pushAhead_ok hr hs (by omega) (fun q => absurd q (by omega)) (fun _ M1 s1 f1 => ⟨1, rfl, rfl, e, by omega, rfl, ?_⟩)
      rintro _ rfl _ rfl
      rw [f1 47 (by simp <;> omega), d3, nI_1]
      refine ih e' M1 (l :: s) (by omega) (by omega) (by simp; omega) (by rw [hws, d5]; simp) ?_ s1 (zfr_tr hf f1)
      exact zSh_keep hM (f1 _ (by simp <;> omega)) (f1 _ (by simp <;> omega)) (f1 _ (by simp <;> omega)) (f1 _ (by simp <;> omega))
theorem Shorts_write_ok {D : BD} {r L e : Nat} (hr : zRow (zSt k) r L) (hap : 48 < r) (hD : okD D) (hL : 27 ≤ L) (hM : zSh M D) (he : e < D.length) (hk : ∀ M', zRN M' r (dW D e) → zfr M M' [r, r + 1] → Φ none (zSt k) M') : zW E m_Shorts_write 2 (zSt k) M 0 [some (.ref 45), some (.int (nI e)), some (.ref r), none, none] [] Φ := by
  have hl := okD_27 hD
  have hw := (hD.2.2.2.1 e he).2.1
  refine vc_Shorts_write_0 E k M _ r L Φ hr (Row_makeEmpty_ok hr (fun M1 s1 f1 => ⟨rfl, rfl, ?_⟩))
  refine Shorts_write_loop hr hap hD hL (w := dW D e) (by omega) M hk 27 e M1 [] (by omega) he (by simp) (by simp) ?_ s1 (zfr_mono f1 (by simp))
  exact zSh_keep hM (f1 _ (by simp <;> omega)) (f1 _ (by simp <;> omega)) (f1 _ (by simp <;> omega)) (f1 _ (by simp <;> omega))
end SHORTS2
