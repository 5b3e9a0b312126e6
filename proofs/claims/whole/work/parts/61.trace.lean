/-! Answer.trace -/
def sW (D : BD) (n : Nat) : List Nat := match sIx D n with
  | some e => dW D e
  | none => []
def ans0 (D : BD) (n : T3) : W3 := (sW D (t3 n 0), sW D (t3 n 1), sW D (t3 n 2))
theorem ans0_l3 {D : BD} {n : T3} {v : Nat} (hv : v < 3) : l3 (ans0 D n) v = sW D (t3 n v) := by
  rcases (show v = 0 ∨ v = 1 ∨ v = 2 by omega) with rfl | rfl | rfl <;> rfl
def atr (N : List NR) : Nat → Nat → W3 → Option W3
  | 0, _, _ => none
  | n + 1, e, ws => match (nN N e).2.2.1 with
    | none => some ws
    | some (p, c) => match uback (nN N p).1 c ws with
      | none => none
      | some ws' => atr N n p ws'
def fEnd (B : AB) : Option Nat := fIx (fun e => isEn (bfs B.2.1) (nN (netOf B) e).1) 0 (netOf B).length
def ansOf (B : AB) : Option W3 := match fEnd B with
  | none => none
  | some e => atr (netOf B) 150 e (ans0 (bfs B.2.1) (nN (netOf B) e).1.2)
def zAns (B : AB) (M : ZM) : Prop := (ansOf B = none → M 61 3 = 0) ∧ ∀ ws, ansOf B = some ws → M 61 3 = 1 ∧ zWd M 62 ws ∧ okw ws 60
theorem zfr_63 {M M' : ZM} (h : zfi M M' 63 6) : zfr M M' [49, 61, 63, 64, 65, 66, 67, 68] := fun p hp => h p (by simp at hp; omega)
theorem sIx_lt {D : BD} {n e : Nat} (h : sIx D n = some e) : e < D.length := by
  have := (fIx_some h).2.1
  omega
section TRACE
variable {E : ZE} {k : Nat} {M : ZM} {Φ : Option Value → ZS → ZM → Prop} {N : List NR} {T : Nat → List (Nat × Nat)} {D : BD} {g : Nat → Nat}
theorem trace_70 (hmv : nMv D g N) {R : Option W3} : ∀ (n s e : Nat) (M : ZM) (ws : W3), s + n = 150 → e < N.length → zNt k M N T → zWd M 62 ws → okw ws 60 → M 61 3 = 0 → R = atr N n e ws →
    (∀ M', (R = none → M' 61 3 = 0) → (∀ ws, R = some ws → M' 61 3 = 1 ∧ zWd M' 62 ws ∧ okw ws 60) → zfr M M' [49, 61, 63, 64, 65, 66, 67, 68] → M' 49 = M 49 → Φ none (zSt k) M') →
    zW E m_Answer_trace 3 (zSt k) M 70 [some (.ref 61), some (.ref (na e)), some (.int (nI s)), none] [] Φ
  | 0, s, e, M, ws, hs, he, hN, hw, ho, h0, hR, hk => by
    have hb := hN.1
    have : s = 150 := by omega
    subst this
    refine vc_Answer_trace_70 E k M (na e) _ Φ (tN (by omega)) ⟨fun _ => hk M (fun _ => h0) (fun ws q => ?_) (zfr_rfl _ _) rfl, fun c => absurd (by decide) c⟩
    rw [hR] at q
    cases q
  | n + 1, s, e, M, ws, hs, he, hN, hw, ho, h0, hR, hk => by
    have hb := hN.1
    obtain ⟨b1, b2, b3⟩ := hN.2.2.2.1 e he
    refine vc_Answer_trace_70 E k M (na e) _ Φ (tN (by omega)) ⟨fun c => absurd ((nI_leI (a := 150) (by decide) (by omega)).mp c) (by omega), fun _ => ?_⟩
    have hR' : R = match (nN N e).2.2.1 with
      | none => some ws
      | some (p, c) => match uback (nN N p).1 c ws with
        | none => none
        | some ws' => atr N n p ws' := hR
    cases hpar : (nN N e).2.2.1 with
    | none =>
      have e7 : M (na e) 7 = -6 := by rw [b2.2.2.2.2.1, hpar]; rfl
      rw [e7]
      rw [hpar] at hR'
      refine Net_at_ok ⟨hb.1, hb.2.1⟩ hN.2.1 (fun _ => ⟨none, rfl, rfl, fun _ => ?_, fun b c => (by cases c)⟩) (fun j hj c => absurd c.symm (nI_ne6 (by omega)))
      rintro _ rfl
      refine hk _ (fun q => by rw [hR'] at q; cases q) (fun ws2 q => ?_) (zfr_ms _ _ _ _ (by simp)) (zms_ne _ _ _ (by decide))
      rw [hR'] at q
      cases q
      exact ⟨zms_s _ _ _ _, fun v hv => zRN_fr (hw v hv) (zms_ne _ _ _ (by omega)) (zms_ne _ _ _ (by omega)), ho⟩
    | some pc =>
      obtain ⟨p, c⟩ := pc
      obtain ⟨hpl, hmem⟩ := hmv e he p c hpar
      have e7 : M (na e) 7 = nI p := by rw [b2.2.2.2.2.1, hpar]; rfl
      have e8 : M (na e) 8 = nI c := by rw [b2.2.2.2.2.2.1, hpar]; rfl
      rw [e7]
      rw [hpar] at hR'
      refine Net_at_ok ⟨hb.1, hb.2.1⟩ hN.2.1 (fun q => absurd (by rw [nI_toInt (by omega)]; omega) q) (fun j hj q => ⟨some (na j), rfl, rfl, fun q => (by cases q), fun b q2 => ?_⟩)
      cases q2
      have q := (nI_eq (by omega) (by omega)).mp q
      subst q
      obtain ⟨d1, d2, d3⟩ := hN.2.2.2.1 p hpl
      refine ⟨tN (by omega), ?_⟩
      rw [e8]
      refine goBack_ok (tN (by omega)) d2.1 d2.2.1 d1 hmem hw ho (fun q => ⟨0, rfl, rfl, fun q => absurd rfl q, fun _ => ?_⟩) (fun M' ws' q w' o' f' => ⟨1, rfl, rfl, fun _ => ?_, fun q => absurd q (by decide)⟩)
      · have hR2 : R = none := by rw [hR']; simp only [q]
        exact hk M (fun _ => h0) (fun ws q => by rw [hR2] at q; cases q) (zfr_rfl _ _) rfl
      · rintro _ rfl
        rw [nI_1]
        have f2 := zfr_63 f'
        refine trace_70 hmv n (s + 1) p M' ws' (by omega) hpl (zNt_keep hN f2 (by decide) (by rw [f2 50 (by decide)])) w' o' (by rw [f' 61 (by omega)]; exact h0) (by rw [hR']; simp only [q]) (fun M2 a1 a2 a3 a4 => hk M2 a1 a2 (zfr_tr f2 a3) (by rw [a4, f' 49 (by omega)]))
theorem trace_27 {e : Nat} (hD : okD D) (he : e < N.length) (hno : hopl D (nN N e).1.2 = false) : ∀ (n v : Nat) (M : ZM), v + n = 3 → zNt k M N T → (zSh M D ∧ zFit M D) → (∀ u, u < v → zRN M (62 + 1 + 2 * u) (sW D (t3 (nN N e).1.2 u))) →
    (∀ M', zWd M' 62 (ans0 D (nN N e).1.2) → zNt k M' N T → (zSh M' D ∧ zFit M' D) → M' 61 = M 61 → zfr M M' [49, 61, 63, 64, 65, 66, 67, 68] → zW E m_Answer_trace 3 (zSt k) M' 70 [some (.ref 61), some (.ref (na e)), some (.int 0), none] [] Φ) →
    zW E m_Answer_trace 3 (zSt k) M 27 [some (.ref 61), some (.ref (na e)), some (.int (nI v)), none] [] Φ
  | 0, v, M, hv, hN, hS, hw, hk => by
    have hb := hN.1
    have : v = 3 := by omega
    subst this
    refine vc_Answer_trace_27 E k M (na e) _ Φ (tN (by omega)) ⟨fun _ => hk M (fun u hu => by rw [ans0_l3 hu]; exact hw u hu) hN hS rfl (zfr_rfl _ _), fun c => absurd (by decide) c⟩
  | n + 1, v, M, hv, hN, hS, hw, hk => by
    have hb := hN.1
    obtain ⟨b1, b2, b3⟩ := hN.2.2.2.1 e he
    have hv3 : v < 3 := by omega
    have h27 := okD_27 hD
    refine vc_Answer_trace_27 E k M (na e) _ Φ (tN (by omega)) ⟨fun c => absurd ((nI_leI (a := 3) (by decide) (by omega)).mp c) (by omega), fun _ => ?_⟩
    rw [b2.2.2.1]
    refine Need_ofVariable_ok b1.1.2.2.1 hv3 ⟨_, rfl, rfl, ?_⟩
    refine Shorts_firstFit_ok (okn_t3 b1.1.2.2.1 _) hD hS.1 hS.2 (fun M3 s1 s2 s3 f3 => ⟨_, rfl, rfl, ?_⟩)
    obtain ⟨j, hj⟩ : ∃ j, sIx D (t3 (nN N e).1.2 v) = some j := by
      cases q : sIx D (t3 (nN N e).1.2 v) with
      | none =>
        have : hopl D (nN N e).1.2 = true := hopl_iff.mpr ⟨v, hv3, q⟩
        rw [hno] at this; cases this
      | some j => exact ⟨j, rfl⟩
    refine Words_of_ok (ts_62 k) hv3 ⟨62 + 1 + 2 * v, 60, rfl, rfl, zWords_row (ts_62 k) hv3, ?_⟩
    rw [show fitv D (t3 (nN N e).1.2 v) = nI j by unfold fitv; rw [hj]; rfl]
    refine Shorts_write_ok (zWords_row (ts_62 k) hv3) (by omega) hD (by decide) s1 (sIx_lt hj) (fun M5 x5 f5 => ⟨rfl, rfl, ?_⟩)
    rintro _ rfl
    rw [nI_1]
    have f5' : zfi M3 M5 63 6 := zfi_of f5 (by simp <;> omega)
    have f5w : zfi M3 M5 (62 + 1 + 2 * v) 2 := zfi_of f5 (by simp <;> omega)
    have f35 : zfr M M5 [49, 61, 63, 64, 65, 66, 67, 68] := zfr_tr (zfr_mono f3 (by simp)) (zfr_63 f5')
    have hS5 : zSh M5 D ∧ zFit M5 D := zSF_keep (A := [61, 63, 64, 65, 66, 67, 68]) ⟨s1, s2⟩ (fun p _ hp => f5' p (by simp at hp; omega)) (by decide)
    refine trace_27 hD he hno n (v + 1) M5 (by omega) (zNt_keep hN f35 (by decide) (by rw [f35 50 (by decide)])) hS5 (fun u hu => ?_) (fun M' a1 a2 a3 a4 a5 => hk M' a1 a2 a3 (by rw [a4, f5' 61 (by omega), f3 61 (by decide)]) (zfr_tr f35 a5))
    by_cases c : u = v
    · rw [c]
      rw [show sW D (t3 (nN N e).1.2 v) = dW D j by unfold sW; rw [hj]]
      exact x5
    · exact zRN_fi (zRN_fr (hw u (by omega)) (f3 _ (by simp; omega)) (f3 _ (by simp; omega))) f5w (by omega)
theorem sW_ok {n : Nat} (hD : okD D) : (sW D n).length ≤ 60 ∧ ∀ y ∈ sW D n, y < 2 := by
  unfold sW
  have h27 := okD_27 hD
  cases h : sIx D n with
  | none => exact ⟨by simp, by simp⟩
  | some e =>
    have he := sIx_lt h
    obtain ⟨-, a2, a3⟩ := hD.2.2.2.1 e he
    exact ⟨by show (dW D e).length ≤ 60; omega, a3⟩
theorem trace_ok {B : AB} (hg : okg B.2.1) (hZ : zNet B k M) (hS : zSh M (bfs B.2.1) ∧ zFit M (bfs B.2.1)) (hk : ∀ M', zAns B M' → zNet B k M' → (zSh M' (bfs B.2.1) ∧ zFit M' (bfs B.2.1)) → zfr M M' [49, 61, 63, 64, 65, 66, 67, 68] → Φ none (zSt k) M') : zW E m_Answer_trace 3 (zSt k) M 0 [some (.ref 61), none, none, none] [] Φ := by
  obtain ⟨T, hN, hI, hT, h10, h11, h12⟩ := hZ
  have hb := hN.1
  have hD : okD (bfs B.2.1) := okD_P hg 27
  have net : ∀ M', zfr M M' [49, 61, 63, 64, 65, 66, 67, 68] → zNet B k M' := fun M' f => ⟨T, zNt_keep hN f (by decide) (by rw [f 50 (by decide)]), hI, hT, by rw [f 50 (by decide)]; exact h10, by rw [f 50 (by decide)]; exact h11, by rw [f 50 (by decide)]; exact h12⟩
  refine vc_Answer_trace_0 E k M Φ ?_
  rintro _ rfl
  have f1 : zfr M (zms M 61 3 0) [49, 61, 63, 64, 65, 66, 67, 68] := zfr_ms _ _ _ _ (by simp)
  have hN1 : zNt k (zms M 61 3 0) (netOf B) T := zNt_keep hN f1 (by decide) (by rw [f1 50 (by decide)])
  have hS1 : zSh (zms M 61 3 0) (bfs B.2.1) ∧ zFit (zms M 61 3 0) (bfs B.2.1) := zSF_keep (A := [61]) hS (zfb_of (zfr_ms _ _ _ _ (A := [61]) (by simp)) (by simp)) (by simp)
  have e10 : zms M 61 3 0 50 10 = oN (fEnd B) := by rw [f1 50 (by decide)]; exact h10
  rw [e10]
  cases hf : fEnd B with
  | none =>
    have ha : ansOf B = none := by unfold ansOf; rw [hf]
    refine Net_at_ok ⟨hb.1, hb.2.1⟩ hN1.2.1 (fun _ => ⟨none, rfl, rfl, fun _ => ?_, fun b c => (by cases c)⟩) (fun j hj c => absurd c.symm (nI_ne6 (by omega)))
    exact hk _ ⟨fun _ => zms_s _ _ _ _, fun ws q => by rw [ha] at q; cases q⟩ (net _ f1) hS1 f1
  | some e =>
    obtain ⟨-, he, hen, -⟩ := fIx_some hf
    have he : e < (netOf B).length := by omega
    have ha : ansOf B = atr (netOf B) 150 e (ans0 (bfs B.2.1) (nN (netOf B) e).1.2) := by unfold ansOf; rw [hf]
    have hno : hopl (bfs B.2.1) (nN (netOf B) e).1.2 = false := by
      have hen : isEn (bfs B.2.1) (nN (netOf B) e).1 = true := hen
      unfold isEn at hen
      simp only [Bool.and_eq_true, Bool.not_eq_true'] at hen
      exact hen.2
    refine Net_at_ok ⟨hb.1, hb.2.1⟩ hN1.2.1 (fun q => absurd (by show 0 ≤ (nI e).toInt ∧ (nI e).toInt < _; rw [nI_toInt (by omega)]; omega) q) (fun j hj q => ⟨some (na j), rfl, rfl, fun q => (by cases q), fun b q2 => ?_⟩)
    cases q2
    have q := (nI_eq (a := e) (by omega) (by omega)).mp q
    subst q
    refine ⟨tN (by omega), ?_⟩
    refine trace_27 hD he hno 3 0 _ rfl hN1 hS1 (fun u hu => absurd hu (by omega)) (fun M2 w2 n2 s2 e2 f2 => ?_)
    refine trace_70 (nMv_P 150) (R := ansOf B) 150 0 e M2 _ rfl he n2 w2 (fun v hv => by rw [ans0_l3 hv]; exact sW_ok hD) (by rw [e2]; exact zms_s _ _ _ _) ha (fun M3 a1 a2 a3 a4 => ?_)
    have f3 := zfr_tr f1 (zfr_tr f2 a3)
    refine hk M3 ⟨a1, a2⟩ (net M3 f3) ⟨zSh_keep s2.1 (a3 45 (by decide)) (a3 46 (by decide)) (a3 47 (by decide)) (a3 48 (by decide)), fun n hn => by rw [a4]; exact s2.2 n hn⟩ f3
end TRACE
