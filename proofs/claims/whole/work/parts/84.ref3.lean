/-! the reference: the maps that words make, the first word that needs allow -/
theorem wbt_snoc (l : Nat) : ∀ (w : List Nat), wbt (w ++ [l]) = 2 ^ w.length * l + wbt w
  | [] => by simp [wbt]
  | x :: w => by
    have ih := wbt_snoc l w
    show x + 2 * wbt (w ++ [l]) = 2 ^ (w.length + 1) * l + (x + 2 * wbt w)
    rw [ih, Nat.pow_succ, Nat.mul_add, Nat.mul_comm (2 ^ w.length) 2, Nat.mul_assoc]
    omega
theorem wbt_lt : ∀ {w : List Nat}, (∀ y ∈ w, y < 2) → wbt w < 2 ^ w.length
  | [], _ => by simp [wbt]
  | x :: w, h => by
    have ih := wbt_lt (w := w) (fun y hy => h y (List.mem_cons_of_mem _ hy))
    have hx := h x List.mem_cons_self
    show x + 2 * wbt w < 2 ^ (w.length + 1)
    rw [Nat.pow_succ]
    omega
theorem wbt_dig : ∀ {w : List Nat} {j : Nat}, (∀ y ∈ w, y < 2) → j < w.length → wbt w / 2 ^ j % 2 = w.getD j 0
  | [], j, _, hj => absurd hj (Nat.not_lt_zero _)
  | x :: w, 0, h, _ => by
    have hx := h x List.mem_cons_self
    show (x + 2 * wbt w) / 2 ^ 0 % 2 = x
    simp
    omega
  | x :: w, j + 1, h, hj => by
    have hx := h x List.mem_cons_self
    have ih := wbt_dig (w := w) (j := j) (fun y hy => h y (List.mem_cons_of_mem _ hy)) (by simpa using hj)
    show (x + 2 * wbt w) / 2 ^ (j + 1) % 2 = w.getD j 0
    rw [← ih, Nat.pow_succ, Nat.mul_comm (2 ^ j) 2, ← Nat.div_div_eq_div_mul]
    congr 2
    omega
theorem k_wbt {w : List Nat} {l : Nat} (hw : ∀ y ∈ w, y < 2) (hl : w.length ≤ 26) : (nI (wbt w) ||| ((nI l : Int32) <<< (nI w.length &&& 31))) = nI (wbt (w ++ [l])) := by
  apply b_ext
  intro i hi
  rw [wbt_snoc, b_or, b_shl _ (by omega) _ hi, bt_nI _ i hi, bt_nI _ i hi, Nat.testBit_two_pow_mul_add _ (wbt_lt hw)]
  by_cases h1 : i < w.length
  · simp [h1, Nat.not_le.mpr h1]
  · have : (wbt w).testBit i = false := Nat.testBit_lt_two_pow (Nat.lt_of_lt_of_le (wbt_lt hw) (Nat.pow_le_pow_right (by decide) (by omega)))
    rw [if_neg h1, bt_nI _ _ (by omega)]
    simp [this, Nat.not_lt.mp h1]
theorem k_digN {n j : Nat} (hn : n < 2 ^ 31) (hj : j < 31) : (((nI n : Int32) >>> (nI j &&& 31)) &&& 1) = nI (n / 2 ^ j % 2) := by
  have e : ∀ j, j < 31 → (((nI j &&& 31 : Int32)).toBitVec.smod 32).toNat = j := by decide +kernel
  rw [pk_shrN hn _ j (e j hj)]
  have : n / 2 ^ j < 2 ^ 31 := Nat.lt_of_le_of_lt (Nat.div_le_self _ _) hn
  exact pk_andN (by omega) 1 (by decide)
theorem k_alw : ∀ n, n < 512 → ∀ a, a < 3 → ∀ b, b < 3 → ∀ c, c < 3 → allow n (a, b, c) = ((dg n 0).testBit a && (dg n 1).testBit b && (dg n 2).testBit c) := by decide +kernel
theorem allow_dg {n : Nat} {t : T3} (hn : n < 512) (ht : ok3 t) : allow n t = ((dg n 0).testBit (t3 t 0) && (dg n 1).testBit (t3 t 1) && (dg n 2).testBit (t3 t 2)) := by
  obtain ⟨a, b, c⟩ := t
  exact k_alw n hn a ht.1 b ht.2.1 c ht.2.2
theorem up1 {n : Nat} (h : n < 2 ^ 31) : (Int32.toInt64 (nI n - 1)).toInt = (n : Int) - 1 := by
  rw [Int32.toInt_toInt64, iI_nat, show (1 : Int32) = iI 1 by decide, iI_sub, iI_toInt (by omega)]
theorem zat_s {xs : List Nat} {y : Int32} {v : Nat} (hl : xs.length < 2 ^ 31) (hv : v < xs.length) (e : y = nI v) : zat xs y = nI (xs.getD v 0) := by rw [e]; exact zat_nI hv hl
theorem zat_none {xs : List Nat} {y : Int32} (h : inN xs.length y = none) : zat xs y = -6 := by
  unfold inN at h
  unfold zat
  by_cases c : 0 ≤ y.toInt ∧ y.toInt < xs.length
  · rw [if_pos c] at h; cases h
  · rw [if_neg c]
section REF3
variable {E : ZE} {k : Nat} {M M' M1 M2 : ZM} {Φ : Option Value → ZS → ZM → Prop} {A A' Q Q' : List Nat} {D : BD}
theorem n3 (j : Nat) : 3 * nI j = nI (3 * j) := pk_mul 3 j
theorem n31 (j : Nat) : 3 * nI j + 1 = nI (3 * j + 1) := by rw [n3, nI_1]
theorem n32 (j : Nat) : 3 * nI j + 2 = nI (3 * j + 2) := by rw [n3]; exact nI_addN _ 2
theorem isDone_loop {t : T3} (ht : ok3 t) (hl : D.length ≤ 27) (ho : ∀ e, e < D.length → ok3 (dT D e)) (hM : zRD M D) (h : Φ (some (.int (if bhas D t = true then 1 else 0))) (zSt k) M) : ∀ (n j : Nat) (c : Bool), j + n = D.length → (c = true ↔ ∃ i, i < j ∧ dT D i = t) → zW E m_Mo_isDone 0 (zSt k) M 6 [some (.ref 83), some (.int (nI (t3 t 0))), some (.int (nI (t3 t 1))), some (.int (nI (t3 t 2))), some (.int (if c = true then 1 else 0)), some (.int (nI j))] [] Φ
  | 0, j, c, hj, hc => by
    have : j = D.length := by omega
    subst this
    have e : c = bhas D t := by
      cases c with
      | true => exact (bhas_iff.mpr (hc.mp rfl)).symm
      | false =>
        cases q : bhas D t with
        | false => rfl
        | true => exact absurd (hc.mpr (bhas_iff.mp q)) (by decide)
    refine vc_Mo_isDone_6 E k M _ _ _ _ _ Φ ?_
    rw [hM.1]
    refine ⟨fun _ => ⟨by cases c; exact Or.inl rfl; exact Or.inr rfl, by rw [e]; exact h⟩, fun q => absurd (nI_le (Nat.le_refl _) (by omega)) q⟩
  | n + 1, j, c, hj, hc => by
    have hjl : j < D.length := by omega
    obtain ⟨m1, -, -⟩ := hM.2 j hjl
    have o := ho j hjl
    have ex : ∀ s, s < 3 → (M 93 (3 * j + s) = nI (t3 t s) ↔ t3 (dT D j) s = t3 t s) := fun s hs => by
      rw [m1 s hs]
      exact nI_eq (by have := ok3_t3 o s; omega) (by have := ok3_t3 ht s; omega)
    refine vc_Mo_isDone_6 E k M _ _ _ _ _ Φ ?_
    rw [hM.1, n3, nI_1, nI_1, show nI (3 * j) + 2 = nI (3 * j + 2) from nI_addN _ 2]
    refine ⟨fun q => absurd q (nI_ge hjl (by omega)), fun _ => ⟨fun q => ?_, fun q => ⟨3 * j, by omega, rfl, ?_⟩⟩⟩
    · cases c with
      | false => exact absurd rfl q
      | true =>
        rintro _ rfl
        obtain ⟨i, h1, h2⟩ := hc.mp rfl
        exact isDone_loop ht hl ho hM h n (j + 1) true (by omega) ⟨fun _ => ⟨i, by omega, h2⟩, fun _ => rfl⟩
    · cases c with
      | true => exact absurd q (by decide)
      | false =>
        have hno : ∀ i, i < j → dT D i ≠ t := fun i hi e => absurd (hc.mpr ⟨i, hi, e⟩) (by decide)
        have nx : dT D j ≠ t → zW E m_Mo_isDone 0 (zSt k) M 6 [some (.ref 83), some (.int (nI (t3 t 0))), some (.int (nI (t3 t 1))), some (.int (nI (t3 t 2))), some (.int 0), some (.int (nI (j + 1)))] [] Φ := fun hne =>
          isDone_loop ht hl ho hM h n (j + 1) false (by omega) ⟨fun q => absurd q (by decide), fun ⟨i, h1, h2⟩ => by
            by_cases e : i = j
            · subst e; exact absurd h2 hne
            · exact absurd h2 (hno i (by omega))⟩
        have e0 := ex 0 (by decide)
        have e1 := ex 1 (by decide)
        have e2 := ex 2 (by decide)
        rw [Nat.add_zero] at e0
        rw [e0]
        refine ⟨fun q0 => ?_, fun q0 => ⟨3 * j + 1, by omega, rfl, ?_⟩⟩
        · rintro _ rfl; exact nx (fun e => q0 (by rw [e]))
        · rw [e1]
          refine ⟨fun q1 => ?_, fun q1 => ⟨3 * j + 2, by omega, rfl, ?_⟩⟩
          · rintro _ rfl; exact nx (fun e => q1 (by rw [e]))
          · rw [e2]
            refine ⟨fun q2 => ?_, fun q2 => ?_⟩
            · rintro _ rfl; exact nx (fun e => q2 (by rw [e]))
            · rintro _ rfl
              have e : dT D j = t := t3_ext (fun v hv => by rcases (show v = 0 ∨ v = 1 ∨ v = 2 by omega) with rfl | rfl | rfl; exact q0; exact q1; exact q2)
              exact isDone_loop ht hl ho hM h n (j + 1) true (by omega) ⟨fun _ => ⟨j, by omega, e⟩, fun _ => rfl⟩
theorem addDone_ok {t : T3} {w : List Nat} (ht : ok3 t) (hl : D.length ≤ 27) (ho : ∀ e, e < D.length → ok3 (dT D e)) (h27 : bhas D t = false → D.length < 27) (hM : zRD M D) (hk : ∀ M', zRD M' (badd D t w) → zfq M M' [93, 94, 95] [13] → Φ none (zSt k) M') : zW E m_Mo_addDone 1 (zSt k) M 0 [some (.ref 83), some (.int (nI (t3 t 0))), some (.int (nI (t3 t 1))), some (.int (nI (t3 t 2))), some (.int (nI (wbt w))), some (.int (nI w.length))] [] Φ := by
  refine vc_Mo_addDone_0 E k M _ _ _ _ _ Φ (vc_Mo_isDone_0 E k M _ _ _ _ (isDone_loop ht hl ho hM ?_ D.length 0 false (by omega) ⟨fun q => absurd q (by decide), fun ⟨i, hi, _⟩ => absurd hi (Nat.not_lt_zero _)⟩))
  cases hb : bhas D t with
  | true =>
    refine ⟨1, rfl, rfl, fun _ => ?_, fun q => absurd q (by decide)⟩
    exact hk M (by rw [badd, if_pos hb]; exact hM) (zfq_rfl _ _ _)
  | false =>
    have h27 := h27 hb
    refine ⟨0, rfl, rfl, fun q => absurd rfl q, fun _ => ?_⟩
    rw [hM.1, n3]
    refine ⟨3 * D.length, by omega, rfl, ?_⟩
    intro M1 e1
    have c1 : M1 83 13 = nI D.length := by rw [e1, zms_n _ _ (by omega)]; exact hM.1
    rw [c1, n31]
    refine ⟨_, by omega, rfl, ?_⟩
    intro M2 e2
    have c2 : M2 83 13 = nI D.length := by rw [e2, zms_n _ _ (by omega)]; exact c1
    rw [c2, n32]
    refine ⟨_, by omega, rfl, ?_⟩
    intro M3 e3
    have c3 : M3 83 13 = nI D.length := by rw [e3, zms_n _ _ (by omega)]; exact c2
    refine ⟨_, h27, c3, ?_⟩
    intro M4 e4
    have c4 : M4 83 13 = nI D.length := by rw [e4, zms_n _ _ (by omega)]; exact c3
    refine ⟨_, h27, c4, ?_⟩
    intro M5 e5
    have c5 : M5 83 13 = nI D.length := by rw [e5, zms_n _ _ (by omega)]; exact c4
    intro M6 e6
    rw [c5, nI_1] at e6
    refine hk M6 ?_ ?_
    · rw [badd, if_neg (by rw [hb]; decide)]
      refine ⟨by rw [e6, zms_s]; simp, fun e he => ?_⟩
      by_cases el : e < D.length
      · obtain ⟨d1, d2, d3⟩ := hM.2 e el
        rw [(dT_l el).1, (dT_l el).2]
        refine ⟨fun s hs => ?_, ?_, ?_⟩
        · rw [e6, zms_n _ _ (by omega), e5, zms_n _ _ (by omega), e4, zms_n _ _ (by omega), e3, zms_n _ _ (by omega), e2, zms_n _ _ (by omega), e1, zms_n _ _ (by omega)]; exact d1 s hs
        · rw [e6, zms_n _ _ (by omega), e5, zms_n _ _ (by omega), e4, zms_n _ _ (by omega), e3, zms_n _ _ (by omega), e2, zms_n _ _ (by omega), e1, zms_n _ _ (by omega)]; exact d2
        · rw [e6, zms_n _ _ (by omega), e5, zms_n _ _ (by omega), e4, zms_n _ _ (by omega), e3, zms_n _ _ (by omega), e2, zms_n _ _ (by omega), e1, zms_n _ _ (by omega)]; exact d3
      · have : e = D.length := by simp at he; omega
        subst this
        rw [dT_r.1, dT_r.2]
        refine ⟨fun s hs => ?_, ?_, ?_⟩
        · rw [e6, zms_n _ _ (by omega), e5, zms_n _ _ (by omega), e4, zms_n _ _ (by omega), e3]
          rcases (show s = 0 ∨ s = 1 ∨ s = 2 by omega) with rfl | rfl | rfl
          · rw [zms_n _ _ (by omega), e2, zms_n _ _ (by omega), e1, Nat.add_zero, zms_s]
          · rw [zms_n _ _ (by omega), e2, zms_s]
          · rw [zms_s]
        · rw [e6, zms_n _ _ (by omega), e5, zms_n _ _ (by omega), e4, zms_s]
        · rw [e6, zms_n _ _ (by omega), e5, zms_s]
    · rw [e6, e5, e4, e3, e2, e1]
      exact zfq_tr (zfq_tr (zfq_tr (zfq_tr (zfq_tr (zfq_ms _ _ _ (by simp) (by decide)) (zfq_ms _ _ _ (by simp) (by decide))) (zfq_ms _ _ _ (by simp) (by decide))) (zfq_ms _ _ _ (by simp) (by decide))) (zfq_ms _ _ _ (by simp) (by decide))) (zfq_mq _ _ _ (by simp))
theorem findDone_one {g : Nat → Nat} {e l : Nat} (hg : okg g) (hl2 : l < 2) (hD : okD D) (hB : okD (badd D (stp g l (dT D e)) (dW D e ++ [l]))) (he : e < D.length) (hG : ∀ i, i < 6 → M 86 i = nI (g i)) (hM : zRD M D) (hk : ∀ M', zRD M' (badd D (stp g l (dT D e)) (dW D e ++ [l])) → zfq M M' [93, 94, 95] [13] → zW E m_Mo_findDone 2 (zSt k) M' 26 [some (.ref 83), some (.int (nI e)), some (.int (nI (l + 1))), none] [] Φ) : zW E m_Mo_findDone 2 (zSt k) M 26 [some (.ref 83), some (.int (nI e)), some (.int (nI l)), none] [] Φ := by
  have hl := okD_27 hD
  obtain ⟨o1, o2, o3⟩ := hD.2.2.2.1 e he
  obtain ⟨m1, m2, m3⟩ := hM.2 e he
  have m10 := m1 0 (by decide)
  rw [Nat.add_zero] at m10
  refine vc_Mo_findDone_26 E k M _ _ Φ ⟨fun c => absurd c (nI_ge (b := 2) (by omega) (by decide)), fun _ => ?_⟩
  rintro _ rfl
  rw [n3, n3, nI_1, show nI (3 * e) + 2 = nI (3 * e + 2) from nI_addN _ 2]
  have a0 := ok3_t3 o1 0
  have a1 := ok3_t3 o1 1
  have a2 := ok3_t3 o1 2
  refine ⟨3 * e, by omega, rfl, 3 * l + t3 (dT D e) 0, by omega, by rw [m10, nI_add], 3 * e + 1, by omega, rfl, 3 * l + t3 (dT D e) 1, by omega, by rw [m1 1 (by decide), nI_add], 3 * e + 2, by omega, rfl, 3 * l + t3 (dT D e) 2, by omega, by rw [m1 2 (by decide), nI_add], e, by omega, rfl, e, by omega, rfl, e, by omega, rfl, ?_⟩
  rw [hG _ (by omega), hG _ (by omega), hG _ (by omega), m2, m3, k_wbt o3 (by omega), nI_1]
  have := addDone_ok (E := E) (k := k) (D := D) (M := M) (t := stp g l (dT D e)) (w := dW D e ++ [l]) (Φ := (fun q13 T13 M13 => q13 = none ∧ (zSt k) = T13 ∧ ∀ y14 : Int32, y14 = nI l + 1 → zW E m_Mo_findDone 2 (zSt k) M13 26 [some (.ref 83), some (.int (nI e)), some (.int y14), none] [] Φ)) (ok3_stp hg o1 hl2) hl (fun e' he' => (hD.2.2.2.1 e' he').1) (fun hb => ?_) hM (fun M' z f => ⟨rfl, rfl, ?_⟩)
  · rw [List.length_append, List.length_singleton] at this
    exact this
  · have := okD_27 hB
    rw [badd, if_neg (by rw [hb]; decide), List.length_append, List.length_singleton] at this
    omega
  · rintro _ rfl
    rw [nI_1]
    exact hk M' z f
theorem findDone_loop {g : Nat → Nat} (hg : okg g) {M0 : ZM} (hG : ∀ i, i < 6 → M0 86 i = nI (g i)) (hk : ∀ M', zRD M' (bfs g) → zfq M0 M' [93, 94, 95] [13] → Φ none (zSt k) M') : ∀ (n e : Nat) (M : ZM), e + n = 28 → e ≤ (bfP g e).length → zRD M (bfP g e) → zfq M0 M [93, 94, 95] [13] → zW E m_Mo_findDone 2 (zSt k) M 16 [some (.ref 83), some (.int (nI e)), none, none] [] Φ
  | 0, e, M, hn, hel, hM, hf => by
    have := okD_27 (okD_P hg e)
    omega
  | n + 1, e, M, hn, hel, hM, hf => by
    have hD := okD_P hg e
    have hl := okD_27 hD
    refine vc_Mo_findDone_16 E k M _ Φ ?_
    rw [hM.1]
    by_cases c : e < (bfP g e).length
    · refine ⟨fun q => absurd q (nI_ge c (by omega)), fun _ => ?_⟩
      have hS := okD_st hg hD e
      obtain ⟨o1, o2, o3⟩ := hD.2.2.2.1 e c
      unfold bst at hS
      rw [if_pos c] at hS
      have ho1 : ∀ l, l < 2 → ∀ y ∈ dW (bfP g e) e ++ [l], y < 2 := by
        intro l hl y hy
        rcases List.mem_append.mp hy with hy | hy
        · exact o3 y hy
        · rw [List.mem_singleton.mp hy]; exact hl
      have h1 : okD (badd (bfP g e) (stp g 0 (dT (bfP g e) e)) (dW (bfP g e) e ++ [0])) := okD_add hD (ok3_stp hg o1 (by decide)) (by simp; omega) (ho1 0 (by decide))
      refine findDone_one (l := 0) hg (by decide) hD h1 c (fun i hi => by rw [hf.1 86 (by decide) (by decide)]; exact hG i hi) hM (fun M1 z1 f1 => ?_)
      have c1 : e < (badd (bfP g e) (stp g 0 (dT (bfP g e) e)) (dW (bfP g e) e ++ [0])).length := Nat.lt_of_lt_of_le c (badd_len _ _ _)
      have old := badd_old (t := stp g 0 (dT (bfP g e) e)) (w := dW (bfP g e) e ++ [0]) c
      refine findDone_one (l := 1) hg (by decide) h1 (by rw [old.1, old.2]; exact hS) c1 (fun i hi => by rw [f1.1 86 (by decide) (by decide), hf.1 86 (by decide) (by decide)]; exact hG i hi) z1 (fun M2 z2 f2 => ?_)
      rw [old.1, old.2] at z2
      refine vc_Mo_findDone_26 E k M2 _ _ Φ ⟨fun _ => ?_, fun q => absurd (by decide) q⟩
      rintro _ rfl
      rw [nI_1]
      have eS : bfP g (e + 1) = badd (badd (bfP g e) (stp g 0 (dT (bfP g e) e)) (dW (bfP g e) e ++ [0])) (stp g 1 (dT (bfP g e) e)) (dW (bfP g e) e ++ [1]) := by
        show bst g (bfP g e) e = _
        unfold bst
        rw [if_pos c]
      refine findDone_loop hg hG hk n (e + 1) M2 (by omega) ?_ (by rw [eS]; exact z2) (zfq_tr hf (zfq_tr f1 f2))
      rw [eS]
      exact Nat.lt_of_lt_of_le c1 (badd_len _ _ _)
    · refine ⟨fun _ => ?_, fun q => absurd (nI_le (by omega) (by omega)) q⟩
      refine hk M ?_ hf
      rw [← bfP_bfs hg (e := e) (by omega) (by omega)]
      exact hM
theorem findDone_ok {g : Nat → Nat} (hg : okg g) (hG : ∀ i, i < 6 → M 86 i = nI (g i)) (hk : ∀ M', zRD M' (bfs g) → zfq M M' [93, 94, 95] [13] → Φ none (zSt k) M') : zW E m_Mo_findDone 2 (zSt k) M 0 [some (.ref 83), none, none, none] [] Φ := by
  refine vc_Mo_findDone_0 E k M Φ ?_
  intro M1 e1
  have f1 : zfq M M1 [93, 94, 95] [13] := by rw [e1]; exact zfq_mq _ _ _ (by simp)
  refine addDone_ok (D := []) (t := (0, 1, 2)) (w := []) ⟨by decide, by decide, by decide⟩ (by simp) (fun e he => absurd he (Nat.not_lt_zero _)) (fun _ => by simp) ⟨by rw [e1, zms_s]; rfl, fun e he => absurd he (Nat.not_lt_zero _)⟩ (fun M2 z2 f2 => ⟨rfl, rfl, ?_⟩)
  exact findDone_loop hg (M0 := M) hG hk 28 0 M2 rfl (Nat.zero_le _) z2 (zfq_tr f1 f2)
theorem firstFor_loop {r L f n : Nat} (hr : zArr (zSt k) r L) (hf3 : f + 3 ≤ L) (hn : n < 512) (hl : D.length ≤ 27) (ho : ∀ e, e < D.length → ok3 (dT D e)) (hM : zRD M D) (hN : ∀ s, s < 3 → M r (f + s) = nI (dg n s)) (h : Φ (some (.int (fitv D n))) (zSt k) M) : ∀ (c j : Nat), j + c = D.length → (∀ i, i < j → allow n (dT D i) = false) → zW E m_Mo_firstFor 1 (zSt k) M 2 [some (.ref 83), some (.ref r), some (.int (nI f)), some (.int (nI j))] [] Φ
  | 0, j, hj, hi => by
    refine vc_Mo_firstFor_2 E k M r L _ _ Φ hr ?_
    rw [hM.1]
    refine ⟨fun _ => ?_, fun q => absurd (nI_le (by omega) (by omega)) q⟩
    have e : fitv D n = -6 := (fitv_none hl).mpr (fIx_none.mpr (fun i _ h2 => hi i (by omega)))
    rw [e] at h
    exact h
  | c + 1, j, hj, hi => by
    have hjl : j < D.length := by omega
    obtain ⟨m1, -, -⟩ := hM.2 j hjl
    have o := ho j hjl
    have al := allow_dg hn o
    have nx : allow n (dT D j) = false → zW E m_Mo_firstFor 1 (zSt k) M 2 [some (.ref 83), some (.ref r), some (.int (nI f)), some (.int (nI (j + 1)))] [] Φ := fun hne => firstFor_loop hr hf3 hn hl ho hM hN h c (j + 1) (by omega) (fun i h1 => by
      by_cases e : i = j
      · subst e; exact hne
      · exact hi i (by omega))
    have m10 := m1 0 (by decide)
    have hN0 := hN 0 (by decide)
    rw [Nat.add_zero] at m10 hN0
    refine vc_Mo_firstFor_2 E k M r L _ _ Φ hr ?_
    rw [hM.1, n3, nI_1, nI_1, show nI (3 * j) + 2 = nI (3 * j + 2) from nI_addN _ 2, show nI f + 2 = nI (f + 2) from nI_addN _ 2, nI_1]
    refine ⟨fun q => absurd q (nI_ge hjl (by omega)), fun _ => ⟨f, by omega, rfl, 3 * j, by omega, rfl, ?_⟩⟩
    rw [m10, hN0]
    refine Mo_has_ok (dg_lt _ _) (ok3_t3 o 0) ⟨_, rfl, rfl, fun q => ?_, fun q => ⟨f + 1, by omega, rfl, 3 * j + 1, by omega, rfl, ?_⟩⟩
    · rintro _ rfl
      refine nx ?_
      rw [al]
      cases e : (dg n 0).testBit (t3 (dT D j) 0) with
      | false => rfl
      | true => rw [e] at q; exact absurd q (by decide)
    · have q0 : (dg n 0).testBit (t3 (dT D j) 0) = true := by
        cases e : (dg n 0).testBit (t3 (dT D j) 0) with
        | true => rfl
        | false => rw [e] at q; exact absurd rfl q
      rw [m1 1 (by decide), hN 1 (by decide)]
      refine Mo_has_ok (dg_lt _ _) (ok3_t3 o 1) ⟨_, rfl, rfl, fun q => ?_, fun q => ⟨f + 2, by omega, rfl, 3 * j + 2, by omega, rfl, ?_⟩⟩
      · rintro _ rfl
        refine nx ?_
        rw [al, q0]
        cases e : (dg n 1).testBit (t3 (dT D j) 1) with
        | false => rfl
        | true => rw [e] at q; exact absurd q (by decide)
      · have q1 : (dg n 1).testBit (t3 (dT D j) 1) = true := by
          cases e : (dg n 1).testBit (t3 (dT D j) 1) with
          | true => rfl
          | false => rw [e] at q; exact absurd rfl q
        rw [m1 2 (by decide), hN 2 (by decide)]
        refine Mo_has_ok (dg_lt _ _) (ok3_t3 o 2) ⟨_, rfl, rfl, fun q => ?_, fun q => ?_⟩
        · rintro _ rfl
          refine nx ?_
          rw [al, q0, q1]
          cases e : (dg n 2).testBit (t3 (dT D j) 2) with
          | false => rfl
          | true => rw [e] at q; exact absurd q (by decide)
        · have q2 : (dg n 2).testBit (t3 (dT D j) 2) = true := by
            cases e : (dg n 2).testBit (t3 (dT D j) 2) with
            | true => rfl
            | false => rw [e] at q; exact absurd rfl q
          have e : fitv D n = nI j := by
            unfold fitv sIx
            rw [fIx_at (e := j) hjl (by rw [al, q0, q1, q2]; rfl) hi]
            rfl
          rw [e] at h
          exact h
theorem firstFor_ok {r L f n : Nat} (hr : zArr (zSt k) r L) (hf3 : f + 3 ≤ L) (hn : n < 512) (hD : okD D) (hM : zRD M D) (hN : ∀ s, s < 3 → M r (f + s) = nI (dg n s)) (h : Φ (some (.int (fitv D n))) (zSt k) M) : zW E m_Mo_firstFor 1 (zSt k) M 0 [some (.ref 83), some (.ref r), some (.int (nI f)), none] [] Φ :=
  vc_Mo_firstFor_0 E k M r L _ Φ hr (firstFor_loop hr hf3 hn (okD_27 hD) (fun e he => (hD.2.2.2.1 e he).1) hM hN h D.length 0 (by omega) (fun i hi => absurd hi (Nat.not_lt_zero _)))
theorem oN_neg {o : Option Nat} (h : ∀ e, o = some e → e < 2 ^ 31) : (0 ≤ oN o ↔ o ≠ none) ∧ (oN o < 0 ↔ o = none) := by
  cases o with
  | none => exact ⟨⟨fun q => absurd q (by decide), fun q => absurd rfl q⟩, ⟨fun _ => rfl, fun _ => by decide⟩⟩
  | some e =>
    have := h e rfl
    refine ⟨⟨fun _ => by simp, fun _ => ?_⟩, ⟨fun q => absurd q (nI_pos this), fun q => by cases q⟩⟩
    exact nI_pos' this
theorem fitv_neg (hl : D.length ≤ 27) (n : Nat) : (0 ≤ fitv D n ↔ sIx D n ≠ none) ∧ (fitv D n < 0 ↔ sIx D n = none) := oN_neg (fun e h => by have := sIx_lt h; omega)
/-- the maps are found anew: nothing else has changed -/
theorem zRI_done {a : AS} (h : zRI M a) (f : zfq M M' [93, 94, 95] [13]) (hD : zRD M' (bfs a.2.1.2.1)) : zRI M' a := by
  refine ⟨h.1, zRP_keep h.2.1 f (by simp) (by simp), ?_⟩
  have e := f.2 22 (by decide)
  rcases h.2.2 with q | ⟨q1, q2, q3⟩
  · exact Or.inl (by rw [e]; exact q)
  · exact Or.inr ⟨by rw [e]; exact q1, hD, zRT_keep q3 f (by simp) (by simp)⟩
theorem Mo_brief_ok {a : AS} {x y : Int32} (h : zRI M a) (hk : ∀ M', zRI M' a → zMh M M' → Φ (some (.int (aBrief a x y))) (zSt k) M') : zW E m_Mo_brief 3 (zSt k) M 0 [some (.ref 83), some (.int x), some (.int y), none] [] Φ := by
  unfold aBrief at hk
  have hn : okn a.2.1.2.2.1 := h.1.2.1.2.2.2.1
  have hg := h.1.2.1.2.2.1
  have hD : okD (bfs a.2.1.2.1) := okD_P hg 27
  have h27 := okD_27 hD
  refine vc_Mo_brief_0 E k M x y Φ (Mo_isThird_ok (fun v hv ev qv => ⟨1, rfl, rfl, fun _ => ?_, fun q => absurd q (by decide)⟩) (fun qv => ⟨0, rfl, rfl, fun q => absurd rfl q, fun _ => ?_⟩))
  · rw [qv] at hk
    simp only at hk
    refine findDone_ok hg h.2.1.2.1.2.1 (fun M3 z3 f3 => ⟨rfl, rfl, ?_⟩)
    have h3 := zRI_done h f3 z3
    rw [ev, n3]
    refine firstFor_ok (ta_87 k) (by omega) (okn_t3 hn v) hD z3 (fun s hs => ?_) ⟨_, rfl, rfl, ?_⟩
    · exact h3.2.1.2.1.2.2.1 v s hv hs
    · rw [(fitv_neg h27 _).1]
      cases hs : sIx (bfs a.2.1.2.1) (t3 a.2.1.2.2.1 v) with
      | none =>
        rw [hs] at hk
        exact ⟨fun q => absurd rfl q, fun _ => hk M3 h3 (zfq_Mh f3 (by simp))⟩
      | some e =>
        rw [hs] at hk
        simp only at hk
        have he := sIx_lt hs
        obtain ⟨o1, o2, o3⟩ := hD.2.2.2.1 e he
        obtain ⟨m1, m2, m3⟩ := z3.2 e he
        have ee : fitv (bfs a.2.1.2.1) (t3 a.2.1.2.2.1 v) = nI e := by unfold fitv; rw [hs]; rfl
        unfold szIt at hk
        refine ⟨fun _ => ⟨fun q => ⟨e, by omega, ee, ?_⟩, fun q => ⟨e, by omega, ee, ?_⟩⟩, fun q => absurd (by simp) q⟩
        · rw [if_neg q] at hk
          rw [m3]
          refine Mo_inN_ok (n := (dW (bfs a.2.1.2.1) e).length) (up1 (by omega)) (fun u hu eu qu => ⟨1, rfl, rfl, fun c => absurd c (by decide), fun _ => ⟨e, by omega, ee, ?_⟩⟩) (fun qu => ⟨0, rfl, rfl, fun _ => ?_, fun c => absurd rfl c⟩)
          · rw [zat_s (by omega) hu eu] at hk
            have hlt : wbt (dW (bfs a.2.1.2.1) e) < 2 ^ 31 := Nat.lt_of_lt_of_le (wbt_lt o3) (Nat.pow_le_pow_right (by decide) (by omega))
            rw [m2, eu, k_digN hlt (by omega), wbt_dig o3 hu]
            exact hk M3 h3 (zfq_Mh f3 (by simp))
          · rw [zat_none qu] at hk
            exact hk M3 h3 (zfq_Mh f3 (by simp))
        · rw [if_pos q] at hk
          rw [m3]
          exact hk M3 h3 (zfq_Mh f3 (by simp))
  · rw [qv] at hk
    exact hk M h (zMh_rfl _)
end REF3
