/-! the reference: the answer -/
section REF12
variable {E : ZE} {k : Nat} {M M' M1 M2 : ZM} {Φ : Option Value → ZS → ZM → Prop} {A A' Q Q' : List Nat} {D : BD} {N : List NR} {g : Nat → Nat}
theorem ans_word {e v : Nat} {x1 : Int32} {d : Nat} (hD : okD D) (hv : v < 3) (hd : d < D.length) {M0 : ZM} (hR : zRD M0 D) (hk : ∀ M', zSl (M' 107) (61 * v) (dW D d) → (∀ i, i < 61 * v ∨ 61 * v + 61 ≤ i → M' 107 i = M0 107 i) → zfq M0 M' [107] [] → zW E m_Mo_isAnswered 6 (zSt k) M' 22 [some (.ref 83), some (.int (nI e)), some (.int (nI (v + 1))), none, none] [] Φ) : ∀ (c j : Nat) (M : ZM), j + c = (dW D d).length → (∀ i, i < j → M 107 (61 * v + i) = nI ((dW D d).getD i 0)) → (∀ i, i < 61 * v ∨ 61 * v + 61 ≤ i → M 107 i = M0 107 i) → zfq M0 M [107] [] → zW E m_Mo_isAnswered 6 (zSt k) M 59 [some (.ref 83), some (.int (nI e)), some (.int (nI v)), some (.int (nI d)), some (.int (nI j))] [] Φ
  | 0, j, M, hj, h1, h2, hf => by
    have l27 := okD_27 hD
    obtain ⟨-, o2, o3⟩ := hD.2.2.2.1 d hd
    obtain ⟨-, m2, m3⟩ := hR.2 d hd
    refine vc_Mo_isAnswered_59 E k M _ _ _ _ Φ ⟨d, by omega, rfl, ?_⟩
    rw [hf.1 95 (by decide) (by decide), m3]
    refine ⟨fun _ => ?_, fun q => absurd (nI_le (by omega) (by omega)) q⟩
    rintro _ rfl
    rw [nI_1]
    exact hk M (fun i hi => h1 i (by omega)) h2 hf
  | c + 1, j, M, hj, h1, h2, hf => by
    have l27 := okD_27 hD
    obtain ⟨-, o2, o3⟩ := hD.2.2.2.1 d hd
    obtain ⟨-, m2, m3⟩ := hR.2 d hd
    have hjl : j < (dW D d).length := by omega
    have hlt : wbt (dW D d) < 2 ^ 31 := Nat.lt_of_lt_of_le (wbt_lt o3) (Nat.pow_le_pow_right (by decide) (by omega))
    refine vc_Mo_isAnswered_59 E k M _ _ _ _ Φ ⟨d, by omega, rfl, ?_⟩
    rw [hf.1 95 (by decide) (by decide), m3, hf.1 94 (by decide) (by decide)]
    refine ⟨fun q => absurd q (nI_ge hjl (by omega)), fun _ => ⟨d, by omega, rfl, 61 * v + j, by omega, n61 v j, ?_⟩⟩
    rw [m2, k_digN hlt (by omega), wbt_dig o3 hjl]
    rintro _ rfl _ rfl
    rw [nI_1]
    refine ans_word (x1 := x1) hD hv hd hR hk c (j + 1) _ (by omega) (fun i hi => ?_) (fun i hi => ?_) (zfq_tr hf (zfq_ms _ _ _ (by simp) (by decide)))
    · by_cases e : i = j
      · rw [e, zms_s]
      · rw [zms_k _ _ (by omega)]; exact h1 i (by omega)
    · rw [zms_k _ _ (by omega)]; exact h2 i hi
theorem ans_init {e : Nat} {q : NR} (hD : okD D) (he : e < 150) (hq : okN q.1) (hno : hopl D q.1.2 = false) {M0 : ZM} (hR : zRD M0 D) (hM : zRNd M0 e q) (hk : ∀ M', zSa M' (ans0 D q.1.2) → zfq M0 M' [107, 108] [] → zW E m_Mo_isAnswered 6 (zSt k) M' 107 [some (.ref 83), none, some (.int (nI e)), none, none] [] Φ) : ∀ (c v : Nat) (M : ZM), v + c = 3 → (∀ u, u < v → M 108 u = nI (sW D (t3 q.1.2 u)).length ∧ zSl (M 107) (61 * u) (sW D (t3 q.1.2 u))) → zfq M0 M [107, 108] [] → zW E m_Mo_isAnswered 6 (zSt k) M 22 [some (.ref 83), some (.int (nI e)), some (.int (nI v)), none, none] [] Φ
  | 0, v, M, hv, h1, hf => by
    have : v = 3 := by omega
    subst this
    refine vc_Mo_isAnswered_22 E k M _ _ Φ ⟨fun _ => hk M (fun u hu => ?_) hf, fun q => absurd (by decide) q⟩
    rw [ans0_l3 hu]
    exact h1 u hu
  | c + 1, v, M, hv, h1, hf => by
    have l27 := okD_27 hD
    have hv3 : v < 3 := by omega
    have e0 : (9 : Int32) * nI e + 3 * nI v = nI (9 * e + 3 * v) := by
      have a : (9 : Int32) * nI e = nI (9 * e) := pk_mul 9 e
      have b : (3 : Int32) * nI v = nI (3 * v) := pk_mul 3 v
      rw [a, b, nI_add]
    have hs : ∃ d, sIx D (t3 q.1.2 v) = some d := by
      cases h : sIx D (t3 q.1.2 v) with
      | some d => exact ⟨d, rfl⟩
      | none =>
        have := hopl_iff.mpr ⟨v, hv3, h⟩
        rw [hno] at this
        cases this
    obtain ⟨d, hs⟩ := hs
    have hd := sIx_lt hs
    have ef : fitv D (t3 q.1.2 v) = nI d := by unfold fitv; rw [hs]; rfl
    have ew : sW D (t3 q.1.2 v) = dW D d := by unfold sW; rw [hs]
    refine vc_Mo_isAnswered_22 E k M _ _ Φ ⟨fun z => absurd z (nI_ge (b := 3) (by omega) (by decide)), fun _ => ?_⟩
    rw [e0]
    refine firstFor_ok (ta_98 k) (by omega) (okn_t3 hq.1.2.2.1 v) hD (zRD_keep hR hf (by simp) (by simp)) (fun s hs => by rw [hf.1 98 (by decide) (by decide), Nat.add_assoc]; exact hM.2.1 v s hv3 hs) ⟨_, rfl, rfl, d, by omega, ef, v, hv3, rfl, ?_⟩
    intro M1 g1
    rw [ef]
    have f1 : zfq M M1 [107, 108] [] := by rw [g1]; exact zfq_ms _ _ _ (by simp) (by decide)
    obtain ⟨-, o2, o3⟩ := hD.2.2.2.1 d hd
    refine ans_word (x1 := 0) hD hv3 hd (M0 := M1) (zRD_keep (zRD_keep hR hf (by simp) (by simp)) f1 (by simp) (by simp)) (fun M2 c1 c2 f2 => ?_) (dW D d).length 0 M1 (Nat.zero_add _) (fun i hi => absurd hi (Nat.not_lt_zero _)) (fun i _ => rfl) (zfq_rfl _ _ _)
    refine ans_init hD he hq hno hR hM hk c (v + 1) M2 (by omega) (fun u hu => ?_) (zfq_tr hf (zfq_tr f1 (zfq_mono f2 (by simp) (by simp))))
    by_cases eu : u = v
    · rw [eu, ew]
      refine ⟨?_, c1⟩
      rw [f2.1 108 (by decide) (by decide), g1, zms_s, hf.1 95 (by decide) (by decide)]
      exact (hR.2 d hd).2.2
    · obtain ⟨b1, b2⟩ := h1 u (by omega)
      refine ⟨?_, fun i hi => ?_⟩
      · rw [f2.1 108 (by decide) (by decide), g1, zms_k _ _ eu]; exact b1
      · have := (sW_ok (n := t3 q.1.2 u) hD).1
        rw [c2 _ (by omega), g1, zms_ne _ _ _ (by decide)]; exact b2 i hi
theorem ans_trace (hgi : gI N) (hmv : nMv D g N) {M0 : ZM} {R : Option W3} (hk1 : ∀ ws M', R = some ws → zSa M' ws → okw ws 60 → zfq M0 M' [107, 108] [33] → Φ (some (.int 1)) (zSt k) M') (hk0 : ∀ M', R = none → zfq M0 M' [107, 108] [33] → Φ (some (.int 0)) (zSt k) M') : ∀ (n e : Nat) (M : ZM) (ws : W3), e < n → e < N.length → zRT M N → zSa M ws → okw ws 60 → M 83 33 = 0 → R = atr N n e ws → zfq M0 M [107, 108] [33] → zW E m_Mo_isAnswered 6 (zSt k) M 107 [some (.ref 83), none, some (.int (nI e)), none, none] [] Φ
  | 0, e, M, ws, h, _, _, _, _, _, _, _ => absurd h (Nat.not_lt_zero _)
  | n + 1, e, M, ws, hen, heN, hT, hw, ho, h33, hR, hf => by
    have l150 := hgi.1.1
    unfold atr at hR
    by_cases c : e = 0
    · subst c
      rw [hgi.2.2.1] at hR
      refine vc_Mo_isAnswered_107 E k M _ Φ ⟨fun _ => ⟨fun q => absurd h33 q, fun _ => hk1 ws M hR hw ho hf⟩, fun q => absurd (by decide) q⟩
    · obtain ⟨p, cd, hpc, hp, -, -⟩ := hgi.2.2.2.2 e (by omega) heN
      rw [hpc] at hR
      simp only at hR
      refine vc_Mo_isAnswered_107 E k M _ Φ ⟨fun q => absurd q (nI_nle (by omega) (by omega)), fun _ => ⟨fun q => absurd h33 q, fun _ => ?_⟩⟩
      refine undoMove_ok hgi hmv heN hT hpc hp h33 hw ho (fun M1 z1 z2 f1 => ⟨rfl, rfl, e, by omega, rfl, ?_⟩)
      have hT1 := zRT_keep hT f1 (by simp) (by simp)
      have ep : M1 100 e = nI p := by
        have := (hT1.2 e heN).2.2.1.2.1
        rw [hpc] at this
        exact this
      rintro _ rfl
      rw [ep]
      have hf1 := zfq_tr hf f1
      cases hub : uback (nN N p).1 cd ws with
      | some ws' =>
        rw [hub] at hR
        obtain ⟨y1, y2, y3⟩ := z1 ws' hub
        exact ans_trace hgi hmv hk1 hk0 n p M1 ws' (by omega) (by omega) hT1 y1 y2 y3 hR hf1
      | none =>
        rw [hub] at hR
        have y := z2 hub
        have ne : ¬ M1 83 33 = 0 := by rw [y]; decide
        exact vc_Mo_isAnswered_107 E k M1 _ Φ ⟨fun _ => ⟨fun _ => hk0 M1 hR hf1, fun q => absurd q ne⟩, fun _ => ⟨fun _ => ⟨fun _ => hk0 M1 hR hf1, fun q => absurd q ne⟩, fun q => absurd q ne⟩⟩
theorem isAnswered_ok {a : AS} (h : zRI M a) (hk1 : ∀ ws M', ansOf a.2.1 = some ws → zSa M' ws → okw ws 60 → zRI M' a → zMh M M' → Φ (some (.int 1)) (zSt k) M') (hk0 : ∀ M', ansOf a.2.1 = none → zRI M' a → zMh M M' → Φ (some (.int 0)) (zSt k) M') : zW E m_Mo_isAnswered 6 (zSt k) M 0 [some (.ref 83), none, none, none, none] [] Φ := by
  have hB := h.1.2.1
  have hg := hB.2.2.1
  have hD : okD (bfs a.2.1.2.1) := okD_P hg 27
  have hgi := gI_net hB
  have l150 := hgi.1.1
  have hmv : nMv (bfs a.2.1.2.1) a.2.1.2.1 (netOf a.2.1) := nMv_P 150
  refine vc_Mo_isAnswered_0 E k M Φ (findNet_ok h (fun M1 z1 z2 f1 => ⟨rfl, rfl, firstEnd_ok hD hgi z2.1 z2.2 ⟨_, rfl, rfl, ?_⟩⟩))
  have hlt : ∀ e, fEnd a.2.1 = some e → e < 2 ^ 31 := fun e he => by
    have := (fIx_some he).2.1
    omega
  rw [show fIx (fun e => isEn (bfs a.2.1.2.1) (nN (netOf a.2.1) e).1) 0 (netOf a.2.1).length = fEnd a.2.1 from rfl, (oN_neg hlt).1]
  cases hE : fEnd a.2.1 with
  | none =>
    refine ⟨fun q => absurd rfl q, fun _ => hk0 M1 ?_ z1 (zfq_Mh f1 (by decide))⟩
    unfold ansOf
    rw [hE]
  | some e =>
    refine ⟨fun _ => ?_, fun q => absurd (by simp) q⟩
    intro M2 g2
    have f2 : zfq M1 M2 [107, 108] [33] := by rw [g2]; exact zfq_mq _ _ _ (by simp)
    obtain ⟨-, he1, he2, -⟩ := fIx_some hE
    have he : e < (netOf a.2.1).length := by omega
    have hno : hopl (bfs a.2.1.2.1) (nN (netOf a.2.1) e).1.2 = false := by
      unfold isEn at he2
      simp at he2
      exact he2.2
    have aO : ansOf a.2.1 = atr (netOf a.2.1) 150 e (ans0 (bfs a.2.1.2.1) (nN (netOf a.2.1) e).1.2) := by
      unfold ansOf
      rw [hE]
    rw [show oN (some e) = nI e from rfl]
    refine ans_init (e := e) (q := nN (netOf a.2.1) e) (M0 := M2) hD (by omega) (hgi.1.2 e he) hno (zRD_keep z2.1 f2 (by simp) (by simp)) ((zRT_keep z2.2 f2 (by simp) (by simp)).2 e he) (fun M3 z3 f3 => ?_) 3 0 M2 rfl (fun u hu => absurd hu (Nat.not_lt_zero _)) (zfq_rfl _ _ _)
    have f3' : zfq M1 M3 [107, 108] [33] := zfq_tr f2 (zfq_mono f3 (by simp) (by simp))
    have hT3 := zRT_keep z2.2 f3' (by simp) (by simp)
    have h330 : M3 83 33 = 0 := by rw [f3.2 33 (by decide), g2, zms_s]
    have how : okw (ans0 (bfs a.2.1.2.1) (nN (netOf a.2.1) e).1.2) 60 := fun v hv => by rw [ans0_l3 hv]; exact sW_ok hD
    obtain ⟨N, hN⟩ : ∃ N, N = netOf a.2.1 := ⟨_, rfl⟩
    obtain ⟨R, hR⟩ : ∃ R, R = ansOf a.2.1 := ⟨_, rfl⟩
    rw [← hN] at hgi hmv he hT3 how aO z3
    rw [← hR] at aO hk1 hk0
    obtain ⟨W, hW⟩ : ∃ W, W = ans0 (bfs a.2.1.2.1) (nN N e).1.2 := ⟨_, rfl⟩
    rw [← hW] at aO how z3
    have e150 : e < 150 := by omega
    refine ans_trace (N := N) (D := bfs a.2.1.2.1) (g := a.2.1.2.1) hgi hmv (M0 := M1) (R := R) (fun ws M4 y1 y2 y3 f4 => hk1 ws M4 y1 y2 y3 (zRI_keep z1 f4 (by simp) (by simp)) (zMh_tr (zfq_Mh f1 (by decide)) (zfq_Mh f4 (by simp)))) (fun M4 y1 f4 => hk0 M4 y1 (zRI_keep z1 f4 (by simp) (by simp)) (zMh_tr (zfq_Mh f1 (by decide)) (zfq_Mh f4 (by simp)))) 150 e M3 W e150 he hT3 z3 how h330 aO f3'
theorem Mo_answer_ok {a : AS} {x y : Int32} (h : zRI M a) (hk : ∀ M', zRI M' a → zMh M M' → Φ (some (.int (aAnswer a x y))) (zSt k) M') : zW E m_Mo_answer 7 (zSt k) M 0 [some (.ref 83), some (.int x), some (.int y)] [] Φ := by
  unfold aAnswer at hk
  refine vc_Mo_answer_0 E k M x y Φ (Mo_isThird_ok (fun v hv ex qx => ⟨1, rfl, rfl, fun _ => ?_, fun q => absurd q (by decide)⟩) (fun qx => ⟨0, rfl, rfl, fun q => absurd rfl q, fun _ => ?_⟩))
  · rw [qx] at hk
    simp only at hk
    refine isAnswered_ok h (fun ws M1 e1 z1 z2 z3 f1 => ⟨1, rfl, rfl, fun _ => ?_, fun q => absurd q (by decide)⟩) (fun M1 e1 z3 f1 => ⟨0, rfl, rfl, fun q => absurd rfl q, fun _ => ?_⟩)
    · rw [e1] at hk
      simp only at hk
      have hk := hk M1 z3 f1
      unfold szIt at hk
      have hl := (z2 v hv).1
      obtain ⟨a1, a2⟩ := z1 v hv
      refine ⟨fun q => ⟨v, hv, ex, ?_⟩, fun q => ⟨v, hv, ex, ?_⟩⟩
      · rw [if_neg q] at hk
        rw [a1]
        refine Mo_inN_ok (n := (l3 ws v).length) (up1 (by omega)) (fun u hu eu qu => ⟨1, rfl, rfl, fun c => absurd c (by decide), fun _ => ⟨61 * v + u, by omega, by rw [ex, eu]; exact n61 v u, ?_⟩⟩) (fun qu => ⟨0, rfl, rfl, fun _ => ?_, fun c => absurd rfl c⟩)
        · rw [zat_s (by omega) hu eu] at hk
          rw [a2 u hu]; exact hk
        · rw [zat_none qu] at hk; exact hk
      · rw [if_pos q] at hk
        rw [a1]; exact hk
    · rw [e1] at hk
      exact hk M1 z3 f1
  · rw [qx] at hk
    exact hk M h (zMh_rfl _)
theorem take_word {v : Nat} {w : List Nat} (hv : v < 3) (hl : w.length ≤ 12) {M0 : ZM} (hc : M0 108 v = nI w.length) (hx : zSl (M0 107) (61 * v) w) (hk : ∀ M', zSl (M' 88) (12 * v) w → (∀ i, i < 12 * v ∨ 12 * v + 12 ≤ i → M' 88 i = M0 88 i) → zfq M0 M' [88] [] → zW E m_Mo_take 7 (zSt k) M' 48 [some (.ref 83), some (.int (nI (v + 1))), none] [] Φ) : ∀ (c j : Nat) (M : ZM), j + c = w.length → (∀ i, i < j → M 88 (12 * v + i) = nI (w.getD i 0)) → (∀ i, i < 12 * v ∨ 12 * v + 12 ≤ i → M 88 i = M0 88 i) → zfq M0 M [88] [] → zW E m_Mo_take 7 (zSt k) M 67 [some (.ref 83), some (.int (nI v)), some (.int (nI j))] [] Φ
  | 0, j, M, hj, h1, h2, hf => by
    refine vc_Mo_take_67 E k M _ _ Φ ⟨v, hv, rfl, ?_⟩
    rw [hf.1 108 (by decide) (by decide), hc]
    refine ⟨fun _ => ?_, fun q => absurd (nI_le (by omega) (by omega)) q⟩
    rintro _ rfl
    rw [nI_1]
    exact hk M (fun i hi => h1 i (by omega)) h2 hf
  | c + 1, j, M, hj, h1, h2, hf => by
    have e1 : (12 : Int32) * nI v + nI j = nI (12 * v + j) := by
      have a : (12 : Int32) * nI v = nI (12 * v) := pk_mul 12 v
      rw [a, nI_add]
    refine vc_Mo_take_67 E k M _ _ Φ ⟨v, hv, rfl, ?_⟩
    rw [hf.1 108 (by decide) (by decide), hc, hf.1 107 (by decide) (by decide)]
    refine ⟨fun q => absurd q (nI_ge (by omega) (by omega)), fun _ => ⟨61 * v + j, by omega, n61 v j, 12 * v + j, by omega, e1, ?_⟩⟩
    rw [hx j (by omega)]
    rintro _ rfl _ rfl
    rw [nI_1]
    refine take_word hv hl hc hx hk c (j + 1) _ (by omega) (fun i hi => ?_) (fun i hi => ?_) (zfq_tr hf (zfq_ms _ _ _ (by simp) (by decide)))
    · by_cases e : i = j
      · rw [e, zms_s]
      · rw [zms_k _ _ (by omega)]; exact h1 i (by omega)
    · rw [zms_k _ _ (by omega)]; exact h2 i hi
theorem take_loop {ws : W3} (ho : ∀ v, v < 3 → (l3 ws v).length ≤ 12) {M0 : ZM} (hw : zSa M0 ws) (hk : ∀ M', (∀ v, v < 3 → M' 89 v = nI (l3 ws v).length ∧ zSl (M' 88) (12 * v) (l3 ws v)) → zfq M0 M' [88, 89] [] → Φ (some (.int (nI ((l3 ws 0).length + (l3 ws 1).length + (l3 ws 2).length)))) (zSt k) M') : ∀ (c v : Nat) (M : ZM), v + c = 3 → (∀ u, u < v → M 89 u = nI (l3 ws u).length ∧ zSl (M 88) (12 * u) (l3 ws u)) → zfq M0 M [88, 89] [] → zW E m_Mo_take 7 (zSt k) M 48 [some (.ref 83), some (.int (nI v)), none] [] Φ
  | 0, v, M, hv, h1, hf => by
    have : v = 3 := by omega
    subst this
    refine vc_Mo_take_48 E k M _ Φ ⟨fun _ => ?_, fun q => absurd (by decide) q⟩
    rw [hf.1 108 (by decide) (by decide), (hw 0 (by decide)).1, (hw 1 (by decide)).1, (hw 2 (by decide)).1, nI_add, nI_add]
    exact hk M h1 hf
  | c + 1, v, M, hv, h1, hf => by
    have hv3 : v < 3 := by omega
    refine vc_Mo_take_48 E k M _ Φ ⟨fun q => absurd q (nI_ge (b := 3) (by omega) (by decide)), fun _ => ⟨v, hv3, rfl, v, hv3, rfl, ?_⟩⟩
    intro M1 g1
    have f1 : zfq M M1 [88, 89] [] := by rw [g1]; exact zfq_ms _ _ _ (by simp) (by decide)
    have f1' := zfq_tr hf f1
    refine take_word hv3 (ho v hv3) (M0 := M1) (by rw [f1'.1 108 (by decide) (by decide)]; exact (hw v hv3).1) (by rw [f1'.1 107 (by decide) (by decide)]; exact (hw v hv3).2) (fun M2 c1 c2 f2 => ?_) (l3 ws v).length 0 M1 (Nat.zero_add _) (fun i hi => absurd hi (Nat.not_lt_zero _)) (fun i _ => rfl) (zfq_rfl _ _ _)
    refine take_loop ho hw hk c (v + 1) M2 (by omega) (fun u hu => ?_) (zfq_tr f1' (zfq_mono f2 (by simp) (by simp)))
    by_cases eu : u = v
    · rw [eu]
      refine ⟨?_, c1⟩
      rw [f2.1 89 (by decide) (by decide), g1, zms_s, hf.1 108 (by decide) (by decide)]
      exact (hw v hv3).1
    · obtain ⟨b1, b2⟩ := h1 u (by omega)
      have := ho u (by omega)
      refine ⟨?_, fun i hi => ?_⟩
      · rw [f2.1 89 (by decide) (by decide), g1, zms_k _ _ eu]; exact b1
      · rw [c2 _ (by omega), g1, zms_ne _ _ _ (by decide)]; exact b2 i hi
/-- only the words have changed -/
theorem zRI_words {a : AS} {w : W3} (h : zRI M a) (f : zfq M M' [88, 89] []) (ho : okS (a.1, setW a.2.1 w, a.2.2)) (hw : ∀ v, v < 3 → M' 89 v = nI (l3 w v).length ∧ zSl (M' 88) (12 * v) (l3 w v)) : zRI M' (a.1, setW a.2.1 w, a.2.2) := by
  obtain ⟨c1, ⟨c2, ⟨b1, b2, b3, -⟩, c4⟩, c5⟩ := h
  refine ⟨ho, ⟨?_, ⟨?_, ?_, ?_, hw⟩, zRIm_keep c4.1 (f.1 _ (by decide) (by decide)) (f.1 _ (by decide) (by decide)), zRIm_keep c4.2 (f.1 _ (by decide) (by decide)) (f.1 _ (by decide) (by decide))⟩, ?_⟩
  · rw [f.2 7 (by decide), f.1 90 (by decide) (by decide)]; exact c2
  · rw [f.1 84 (by decide) (by decide), f.1 85 (by decide) (by decide)]; exact b1
  · rw [f.1 86 (by decide) (by decide)]; exact b2
  · rw [f.1 87 (by decide) (by decide)]; exact b3
  · have := zRS_keep c5 f (by simp) (by simp)
    unfold zRS zRW at this ⊢
    show M' 83 22 = 0 ∨ (M' 83 22 = 1 ∧ zRD M' (bfs a.2.1.2.1) ∧ zRT M' (netOf (setW a.2.1 w)))
    rw [netOf_w]
    exact this
theorem Mo_take_ok {a : AS} (h : zRI M a) (ho : okS (aTake a).2) (hk : ∀ M', zRI M' (aTake a).2 → zMh M M' → Φ (some (.int (aTake a).1)) (zSt k) M') : zW E m_Mo_take 7 (zSt k) M 0 [some (.ref 83), none, none] [] Φ := by
  unfold aTake at hk ho
  refine vc_Mo_take_0 E k M Φ (isAnswered_ok h (fun ws M1 e1 z1 z2 z3 f1 => ⟨1, rfl, rfl, fun _ => ?_, fun q => absurd q (by decide)⟩) (fun M1 e1 z3 f1 => ⟨0, rfl, rfl, fun q => absurd rfl q, fun _ => ?_⟩))
  · rw [e1] at hk ho
    simp only at hk ho
    have l0 : ws.1.length ≤ 60 := (z2 0 (by decide)).1
    have l1 : ws.2.1.length ≤ 60 := (z2 1 (by decide)).1
    have l2 : ws.2.2.length ≤ 60 := (z2 2 (by decide)).1
    have q0 : 12 < M1 108 0 ↔ 12 < ws.1.length := by rw [(z1 0 (by decide)).1]; exact nI_ltI (a := 12) (by decide) (by show ws.1.length < _; omega)
    have q1 : 12 < M1 108 1 ↔ 12 < ws.2.1.length := by rw [(z1 1 (by decide)).1]; exact nI_ltI (a := 12) (by decide) (by show ws.2.1.length < _; omega)
    have q2 : M1 108 2 ≤ 12 ↔ ws.2.2.length ≤ 12 := by rw [(z1 2 (by decide)).1]; exact nI_leI (b := 12) (by show ws.2.2.length < _; omega) (by decide)
    rw [q0, q1, q2]
    refine ⟨fun c => ?_, fun c => ⟨fun c2 => ?_, fun c2 => ⟨fun c3 => ?_, fun c3 => ?_⟩⟩⟩
    · rw [if_neg (by omega)] at hk; exact hk M1 z3 f1
    · rw [if_neg (by omega)] at hk; exact hk M1 z3 f1
    · rw [if_pos (by omega)] at hk ho
      refine take_loop (ws := ws) (fun v hv => ?_) (M0 := M1) z1 (fun M2 y1 f2 => ?_) 3 0 M1 rfl (fun u hu => absurd hu (Nat.not_lt_zero _)) (zfq_rfl _ _ _)
      · rcases (show v = 0 ∨ v = 1 ∨ v = 2 by omega) with rfl | rfl | rfl
        · show ws.1.length ≤ 12; omega
        · show ws.2.1.length ≤ 12; omega
        · exact c3
      · exact hk M2 (zRI_words z3 f2 ho y1) (zMh_tr f1 (zfq_Mh f2 (by simp)))
    · rw [if_neg (by omega)] at hk; exact hk M1 z3 f1
  · rw [e1] at hk
    exact hk M1 z3 f1
theorem Mo_spell_ok {a : AS} {x y : Int32} (h : zRI M a) (ho : okS (aSpell a x y).2) (hk : ∀ M', zRI M' (aSpell a x y).2 → zMh M M' → Φ (some (.int (aSpell a x y).1)) (zSt k) M') : zW E m_Mo_spell 2 (zSt k) M 0 [some (.ref 83), some (.int x), some (.int y)] [] Φ := by
  unfold aSpell at hk ho
  refine vc_Mo_spell_0 E k M x y Φ (Mo_isThird_ok (fun v hv ex qx => ⟨1, rfl, rfl, fun q => absurd q (by decide), fun _ => ?_⟩) (fun qx => ⟨0, rfl, rfl, fun _ => ?_, fun q => absurd rfl q⟩))
  · refine Mo_inN_ok (n := 2) (by decide) (fun l hl ey qy => ⟨1, rfl, rfl, fun _ => ⟨v, hv, ex, ?_⟩, fun c => absurd c (by decide)⟩) (fun qy => ⟨0, rfl, rfl, fun c => absurd rfl c, fun _ => ?_⟩)
    · rw [qx, qy] at hk ho
      simp only at hk ho
      obtain ⟨a1, a2⟩ := h.2.1.2.1.2.2.2 v hv
      have hlen := (h.1.2.1.2.2.2.2 v hv).1
      have e12 : M 89 v = 12 ↔ (l3 a.2.1.2.2.2 v).length = 12 := by rw [a1]; exact nI_eq (b := 12) (by omega) (by decide)
      rw [e12]
      refine ⟨fun c => ⟨v, hv, ex, 12 * v + (l3 a.2.1.2.2.2 v).length, by omega, ?_, ?_⟩, fun c => ?_⟩
      · have b : (12 : Int32) * nI v = nI (12 * v) := pk_mul 12 v
        rw [ex, a1, b, nI_add]
      · intro M1 g1
        refine ⟨v, hv, ex, v, hv, ex, ?_⟩
        intro M2 g2
        refine ⟨v, hv, ex, ?_⟩
        rw [if_pos (by omega)] at hk ho
        have c1 : M1 89 v = nI (l3 a.2.1.2.2.2 v).length := by rw [g1, zms_n _ _ (by omega)]; exact a1
        rw [c1, nI_1] at g2
        have f : zfq M M2 [88, 89] [] := by rw [g2, g1]; exact zfq_tr (zfq_ms _ _ _ (by simp) (by decide)) (zfq_ms _ _ _ (by simp) (by decide))
        rw [show M2 89 v = nI ((l3 a.2.1.2.2.2 v).length + 1) by rw [g2, zms_s]]
        refine hk M2 (zRI_words h f ho (fun u hu => ?_)) (zfq_Mh f (by simp))
        rw [l3_lset hv hu]
        by_cases e : u = v
        · rw [if_pos e, e]
          refine ⟨by rw [g2, zms_s]; simp, zSl_snoc a2 (fun i hi => ?_) ?_⟩
          · rw [g2, zms_n _ _ (by omega), g1, zms_k _ _ (by omega)]
          · rw [g2, zms_n _ _ (by omega), g1, zms_s, ey]
        · rw [if_neg e]
          obtain ⟨b1, b2⟩ := h.2.1.2.1.2.2.2 u hu
          have hlu := (h.1.2.1.2.2.2.2 u hu).1
          refine ⟨by rw [g2, zms_k _ _ e, g1, zms_ne _ _ _ (by decide)]; exact b1, fun i hi => ?_⟩
          rw [g2, zms_n _ _ (by omega), g1, zms_k _ _ (by omega)]
          exact b2 i hi
      · rw [if_neg (by omega)] at hk
        exact hk M h (zMh_rfl _)
    · rw [qx, qy] at hk
      exact hk M h (zMh_rfl _)
  · rw [qx] at hk
    exact hk M h (zMh_rfl _)
theorem Mo_clear_ok {a : AS} {x : Int32} (h : zRI M a) (ho : okS (aClear a x).2) (hk : ∀ M', zRI M' (aClear a x).2 → zMh M M' → Φ (some (.int (aClear a x).1)) (zSt k) M') : zW E m_Mo_clear 2 (zSt k) M 0 [some (.ref 83), some (.int x), none] [] Φ := by
  unfold aClear at hk ho
  refine vc_Mo_clear_0 E k M x Φ (Mo_isThird_ok (fun v hv ex qx => ⟨1, rfl, rfl, fun _ => ⟨v, hv, ex, ?_⟩, fun q => absurd q (by decide)⟩) (fun qx => ⟨0, rfl, rfl, fun q => absurd rfl q, fun _ => ?_⟩))
  · rw [qx] at hk ho
    simp only at hk ho
    rintro _ rfl
    refine ⟨v, hv, ex, ?_⟩
    intro M1 g1
    have f : zfq M M1 [88, 89] [] := by rw [g1]; exact zfq_ms _ _ _ (by simp) (by decide)
    rw [(h.2.1.2.1.2.2.2 v hv).1]
    refine hk M1 (zRI_words h f ho (fun u hu => ?_)) (zfq_Mh f (by simp))
    rw [l3_lset hv hu, g1, zms_ne M v 0 (show (88 : Nat) ≠ 89 by decide)]
    by_cases e : u = v
    · rw [if_pos e, e, zms_s]
      exact ⟨rfl, zSl_nil _ _⟩
    · rw [if_neg e, zms_k _ _ e]
      exact h.2.1.2.1.2.2.2 u hu
  · rw [qx] at hk
    exact hk M h (zMh_rfl _)
end REF12
