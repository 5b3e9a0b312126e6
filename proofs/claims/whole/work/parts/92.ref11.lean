/-! the reference: words are found back along the way -/
def zSa (M : ZM) (ws : W3) : Prop := ∀ v, v < 3 → M 108 v = nI (l3 ws v).length ∧ zSl (M 107) (61 * v) (l3 ws v)
theorem nI_m1 (a : Nat) : nI (a + 1) + (-1) = nI a := by
  rw [← nI_1, Int32.add_assoc, show (1 : Int32) + (-1) = 0 by decide, Int32.add_zero]
theorem k_cv : ∀ c, c < 2000 → (nI c / 100) - (nI c / 100) / 10 * 10 = nI (c / 100 % 10) := by decide +kernel
section REF11
variable {E : ZE} {k : Nat} {M M' M1 M2 : ZM} {Φ : Option Value → ZS → ZM → Prop} {A A' Q Q' : List Nat} {D : BD} {N : List NR} {g : Nat → Nat}
theorem n61 (v j : Nat) : (61 : Int32) * nI v + nI j = nI (61 * v + j) := by
  have a : (61 : Int32) * nI v = nI (61 * v) := pk_mul 61 v
  rw [a, nI_add]
theorem ahead_loop {v l : Nat} {w : List Nat} (hv : v < 3) (hl : w.length < 60) {M0 : ZM} (hc : M0 108 v = nI w.length) (hk : ∀ M', M' 108 v = nI (w.length + 1) → (∀ u, u ≠ v → M' 108 u = M0 108 u) → zSl (M' 107) (61 * v) (l :: w) → (∀ i, i < 61 * v ∨ 61 * v + 61 ≤ i → M' 107 i = M0 107 i) → zfq M0 M' [107, 108] [] → Φ none (zSt k) M') : ∀ (c : Nat) (M : ZM), c ≤ w.length → (∀ i, i < c → M 107 (61 * v + i) = nI (w.getD i 0)) → (∀ i, c < i → i ≤ w.length → M 107 (61 * v + i) = nI (w.getD (i - 1) 0)) → (∀ i, i < 61 * v ∨ 61 * v + 61 ≤ i → M 107 i = M0 107 i) → zfq M0 M [107] [] → zW E m_Mo_ahead 0 (zSt k) M 24 [some (.ref 83), some (.int (nI v)), some (.int (nI l)), some (.int (nI c))] [] Φ
  | 0, M, hcl, h1, h2, h3, hf => by
    have a : (61 : Int32) * nI v = nI (61 * v) := pk_mul 61 v
    refine vc_Mo_ahead_24 E k M _ _ _ Φ ⟨fun _ => ⟨61 * v, by omega, a, ?_⟩, fun q => absurd (by decide) q⟩
    intro M1 g1
    refine ⟨v, hv, rfl, v, hv, rfl, ?_⟩
    intro M2 g2
    have c1 : M1 108 v = nI w.length := by rw [g1, zms_n _ _ (by omega), hf.1 108 (by decide) (by decide)]; exact hc
    rw [c1, nI_1] at g2
    refine hk M2 (by rw [g2, zms_s]) (fun u hu => ?_) (fun i hi => ?_) (fun i hi => ?_) ?_
    · rw [g2, zms_k _ _ hu, g1, zms_ne _ _ _ (by decide), hf.1 108 (by decide) (by decide)]
    · rw [g2, zms_n _ _ (by omega), g1]
      cases i with
      | zero => rw [Nat.add_zero, zms_s]; rfl
      | succ i =>
        have hi : i + 1 < w.length + 1 := by simpa using hi
        rw [zms_k _ _ (by omega), h2 (i + 1) (by omega) (by omega)]
        rfl
    · rw [g2, zms_n _ _ (by omega), g1, zms_k _ _ (by omega)]; exact h3 i hi
    · rw [g2, g1]
      exact zfq_tr (zfq_mono hf (by simp) (by simp)) (zfq_tr (zfq_ms _ _ _ (by simp) (by decide)) (zfq_ms _ _ _ (by simp) (by decide)))
  | c + 1, M, hcl, h1, h2, h3, hf => by
    refine vc_Mo_ahead_24 E k M _ _ _ Φ ⟨fun q => absurd q (nI_nle (by omega) (by omega)), fun _ => ?_⟩
    rw [n61]
    refine ⟨61 * v + c, by omega, (pk_sub (b := 1) (by omega)).trans rfl, 61 * v + (c + 1), by omega, rfl, ?_⟩
    rintro _ rfl _ rfl
    rw [nI_m1]
    refine ahead_loop hv hl hc hk c _ (by omega) (fun i hi => ?_) (fun i hi hi2 => ?_) (fun i hi => ?_) (zfq_tr hf (zfq_ms _ _ _ (by simp) (by decide)))
    · rw [zms_k _ _ (by omega)]; exact h1 i (by omega)
    · by_cases e : i = c + 1
      · rw [e, zms_s, h1 c (by omega)]; rfl
      · rw [zms_k _ _ (by omega)]; exact h2 i (by omega) hi2
    · rw [zms_k _ _ (by omega)]; exact h3 i hi
theorem ahead_ok {v l : Nat} {ws : W3} (hv : v < 3) (hl : l < 2) (hw : zSa M ws) (ho : okw ws 60) (h1 : (l3 ws v).length < 60 → ∀ M', zSa M' (lset ws v (l :: l3 ws v)) → zfq M M' [107, 108] [] → Φ none (zSt k) M') (h2 : (l3 ws v).length = 60 → ∀ M', M' 83 33 = 1 → zSa M' ws → zfq M M' [] [33] → Φ none (zSt k) M') : zW E m_Mo_ahead 0 (zSt k) M 0 [some (.ref 83), some (.int (nI v)), some (.int (nI l)), none] [] Φ := by
  have hlen := (ho v hv).1
  obtain ⟨a1, a2⟩ := hw v hv
  have e60 : M 108 v = 60 ↔ (l3 ws v).length = 60 := by rw [a1]; exact nI_eq (b := 60) (by omega) (by decide)
  refine vc_Mo_ahead_0 E k M _ _ Φ ⟨v, hv, rfl, ?_⟩
  rw [e60]
  refine ⟨fun q => ⟨v, hv, rfl, ?_⟩, fun q => ?_⟩
  · rintro _ rfl
    rw [a1]
    refine ahead_loop hv (by omega) (M0 := M) a1 (fun M' b1 b2 b3 b4 f => h1 (by omega) M' (fun u hu => ?_) f) (l3 ws v).length M (Nat.le_refl _) (fun i hi => a2 i hi) (fun i h1 h2 => absurd h1 (by omega)) (fun i _ => rfl) (zfq_rfl _ _ _)
    rw [l3_lset hv hu]
    by_cases e : u = v
    · rw [if_pos e, e]
      exact ⟨by rw [b1]; simp, b3⟩
    · rw [if_neg e, b2 u e]
      refine ⟨(hw u hu).1, fun i hi => ?_⟩
      have := (ho u hu).1
      rw [b4 _ (by omega)]
      exact (hw u hu).2 i hi
  · intro M1 g1
    refine h2 q M1 (by rw [g1, zms_s]) (fun u hu => ?_) (by rw [g1]; exact zfq_mq _ _ _ (by simp))
    rw [g1, zms_ne _ _ _ (by decide), zms_ne _ _ _ (by decide)]
    exact hw u hu
theorem zSa_keep {ws : W3} (h : zSa M ws) (f : zfq M M' A Q) (h7 : 107 ∉ A) (h8 : 108 ∉ A) : zSa M' ws := by
  unfold zSa
  rw [f.1 107 (by decide) h7, f.1 108 (by decide) h8]
  exact h
/-- another word ahead, letter by letter -/
theorem undo_loop {v o : Nat} {ws : W3} (hv : v < 3) (hov : o < 3) (hvo : o ≠ v) (ho : okw ws 60) {M0 : ZM} (hk1 : (l3 ws v).length + (l3 ws o).length ≤ 60 → ∀ M', M' 83 33 = 0 → zSa M' (lset ws v (l3 ws o ++ l3 ws v)) → zfq M0 M' [107, 108] [33] → Φ none (zSt k) M') (hk2 : 60 < (l3 ws v).length + (l3 ws o).length → ∀ M', M' 83 33 = 1 → zfq M0 M' [107, 108] [33] → Φ none (zSt k) M') : ∀ (c : Nat) (M : ZM) (u : W3), c ≤ (l3 ws o).length → zSa M u → okw u 60 → l3 u o = l3 ws o → ((M 83 33 = 0 ∧ u = lset ws v ((l3 ws o).drop c ++ l3 ws v)) ∨ (M 83 33 = 1 ∧ 60 < (l3 ws v).length + (l3 ws o).length)) → zfq M0 M [107, 108] [33] → zW E m_Mo_undoMove 1 (zSt k) M 100 [some (.ref 83), none, none, some (.int (nI v)), none, some (.int (nI (o + 2))), some (.int (nI c - 1))] [] Φ
  | 0, M, u, hc, hu, hou, huo, hst, hf => by
    refine vc_Mo_undoMove_100 E k M _ _ _ Φ ⟨fun _ => ?_, fun q => absurd (show nI 0 - 1 < 0 by decide) q⟩
    rcases hst with ⟨h0, hu2⟩ | ⟨h1, h2⟩
    · rw [List.drop_zero] at hu2
      have hl := (hou v hv).1
      rw [hu2, l3_lset hv hv, if_pos rfl, List.length_append] at hl
      rw [hu2] at hu
      exact hk1 (by omega) M h0 hu hf
    · exact hk2 h2 M h1 hf
  | c + 1, M, u, hc, hu, hou, huo, hst, hf => by
    have e1 : nI (c + 1) - 1 = nI c := pk_sub (b := 1) (by omega)
    have e2 : nI (o + 2) - 2 = nI o := pk_sub (b := 2) (by omega)
    have hlo := (ho o hov)
    have hcl : c < (l3 ws o).length := by omega
    have hlet : M 107 (61 * o + c) = nI ((l3 ws o).getD c 0) := by
      have := (hu o hov).2 c (by rw [huo]; exact hcl)
      rw [huo] at this
      exact this
    rw [e1]
    refine vc_Mo_undoMove_100 E k M _ _ _ Φ ⟨fun q => absurd q (nI_pos (by omega)), fun _ => ?_⟩
    rw [e2, n61]
    refine ⟨61 * o + c, by omega, rfl, ?_⟩
    rw [hlet]
    have hl2 : (l3 ws o).getD c 0 < 2 := getD_mem_lt hlo.2 hcl
    have em : nI c + (-1) = nI c - 1 := by
      rw [Int32.sub_eq_add_neg]
    have dr : (l3 ws o).drop c = (l3 ws o).getD c 0 :: (l3 ws o).drop (c + 1) := drop_cons hcl
    refine ahead_ok hv hl2 hu hou (fun hlt M1 z1 f1 => ⟨rfl, rfl, ?_⟩) (fun heq M1 z0 z1 f1 => ⟨rfl, rfl, ?_⟩)
    · rintro _ rfl
      rw [em]
      refine undo_loop hv hov hvo ho hk1 hk2 c M1 _ (by omega) z1 ?_ ?_ ?_ (zfq_tr hf (zfq_mono f1 (by simp) (by simp)))
      · refine okw_set hou hv (by simp; omega) (fun y hy => ?_)
        rcases List.mem_cons.mp hy with hy | hy
        · rw [hy]; exact hl2
        · exact (hou v hv).2 y hy
      · rw [l3_lset hv hov, if_neg hvo]; exact huo
      · rcases hst with ⟨h0, hu2⟩ | ⟨h1, h2⟩
        · refine Or.inl ⟨by rw [f1.2 33 (by decide)]; exact h0, ?_⟩
          rw [hu2, l3_lset hv hv, if_pos rfl, dr]
          unfold lset
          rcases (show v = 0 ∨ v = 1 ∨ v = 2 by omega) with rfl | rfl | rfl <;> rfl
        · exact Or.inr ⟨by rw [f1.2 33 (by decide)]; exact h1, h2⟩
    · rintro _ rfl
      rw [em]
      refine undo_loop hv hov hvo ho hk1 hk2 c M1 u (by omega) z1 hou huo (Or.inr ⟨z0, ?_⟩) (zfq_tr hf (zfq_mono f1 (by simp) (by simp)))
      rcases hst with ⟨h0, hu2⟩ | ⟨h1, h2⟩
      · rw [hu2, l3_lset hv hv, if_pos rfl, List.length_append, List.length_drop] at heq
        omega
      · exact h2
theorem undoMove_ok {i p c : Nat} {ws : W3} (hgi : gI N) (hmv : nMv D g N) (hi : i < N.length) (hT : zRT M N) (hpc : (nN N i).2.2.1 = some (p, c)) (hp : p < i) (h33 : M 83 33 = 0) (hw : zSa M ws) (ho : okw ws 60) (hk : ∀ M', (∀ ws', uback (nN N p).1 c ws = some ws' → zSa M' ws' ∧ okw ws' 60 ∧ M' 83 33 = 0) → (uback (nN N p).1 c ws = none → M' 83 33 = 1) → zfq M M' [107, 108] [33] → Φ none (zSt k) M') : zW E m_Mo_undoMove 1 (zSt k) M 0 [some (.ref 83), some (.int (nI i)), none, none, none, none, none] [] Φ := by
  have l150 := hgi.1.1
  have hpl : p < N.length := by omega
  have hxp := hgi.1.2 p hpl
  have hm := (hmv i hi p c hpc).2
  obtain ⟨hv, hc2, hcc⟩ := mvs_code hxp.1 hm
  obtain ⟨v, ev⟩ : ∃ v, c / 100 % 10 = v := ⟨_, rfl⟩
  obtain ⟨-, -, ⟨-, a7, a8⟩, -⟩ := hT.2 i hi
  rw [hpc] at a7 a8
  have a7 : M 100 i = nI p := a7
  have a8 : M 101 i = nI c := a8
  have e4 : nI v + 2 = nI (v + 2) := nI_addN _ 2
  have e1000 : 1000 ≤ nI c ↔ 1000 ≤ c := nI_leI (a := 1000) (by decide) (by omega)
  unfold uback at hk
  rw [ev] at hv hcc hk
  -- the three ways behind the choice of the other symbol
  have small : c < 1000 → ∀ M2, M2 = zms M 108 v 0 → Φ none (zSt k) M2 := fun h M2 g2 => by
    rw [if_pos h] at hk
    refine hk M2 (fun ws' e => ?_) (fun e => by cases e) (by rw [g2]; exact zfq_ms _ _ _ (by simp) (by decide))
    cases e
    refine ⟨fun u hu => ?_, okw_set ho hv (by simp) (fun y hy => by cases hy), by rw [g2, zms_n _ _ (by omega)]; exact h33⟩
    rw [l3_lset hv hu, g2]
    by_cases e : u = v
    · rw [if_pos e, e, zms_s]
      exact ⟨rfl, zSl_nil _ _⟩
    · rw [if_neg e, zms_k _ _ e, zms_ne _ _ _ (by decide)]
      exact hw u hu
  have big : 1000 ≤ c → ∀ o, o < 5 → o ≠ v + 2 → (if (nN N p).1.1.1.head? = some (v + 2) then (nN N p).1.1.2.head? else (nN N p).1.1.1.head?) = some o → (2 ≤ nI o → ∃ j10 : Nat, j10 < 3 ∧ (nI o - 2) = nI j10 ∧ (∀ y11 : Int32, y11 = ((M 108 j10) - 1) → zW E m_Mo_undoMove 1 (zSt k) M 100 [some (.ref 83), none, none, some (.int (nI v)), none, some (.int (nI o)), some (.int y11)] [] Φ)) ∧ (¬ 2 ≤ nI o → zW E m_Mo_ahead 0 (zSt k) M 0 [some (.ref 83), some (.int (nI v)), some (.int (nI o)), none] [] (fun q12 T12 M12 => q12 = none ∧ (zSt k) = T12 ∧ Φ none (zSt k) M12)) := fun h o ho5 hne eo => by
    rw [if_neg (by omega), eo] at hk
    simp only at hk
    have e2 : 2 ≤ nI o ↔ 2 ≤ o := nI_leI (a := 2) (by decide) (by omega)
    rw [e2]
    refine ⟨fun q => ⟨o - 2, by omega, pk_sub (b := 2) q, ?_⟩, fun q => ?_⟩
    · rintro _ rfl
      rw [if_pos q] at hk
      rw [(hw (o - 2) (by omega)).1]
      have hl3 := ho (o - 2) (by omega)
      have hlv := ho v hv
      have := undo_loop (E := E) (k := k) (Φ := Φ) (v := v) (o := o - 2) (ws := ws) hv (by omega) (by omega) ho (M0 := M) (fun hle M' z0 z1 f => ?_) (fun hgt M' z0 f => ?_) (l3 ws (o - 2)).length M ws (Nat.le_refl _) hw ho rfl (Or.inl ⟨h33, ?_⟩) (zfq_rfl _ _ _)
      · rw [show o - 2 + 2 = o by omega] at this
        exact this
      · rw [if_pos hle] at hk
        refine hk M' (fun ws' e => ?_) (fun e => by cases e) f
        cases e
        refine ⟨z1, okw_set ho hv (by rw [List.length_append]; omega) (fun y hy => ?_), z0⟩
        rcases List.mem_append.mp hy with hy | hy
        · exact hl3.2 y hy
        · exact hlv.2 y hy
      · rw [if_neg (by omega)] at hk
        exact hk M' (fun ws' e => by cases e) (fun _ => z0) f
      · rw [List.drop_length, List.nil_append]
        unfold lset l3
        rcases (show v = 0 ∨ v = 1 ∨ v = 2 by omega) with rfl | rfl | rfl <;> rfl
    · rw [if_neg q] at hk
      have hlv := ho v hv
      refine ahead_ok hv (by omega) hw ho (fun hlt M1 z1 f1 => ⟨rfl, rfl, ?_⟩) (fun heq M1 z0 z1 f1 => ⟨rfl, rfl, ?_⟩)
      · rw [if_pos hlt] at hk
        refine hk M1 (fun ws' e => ?_) (fun e => by cases e) (zfq_mono f1 (by simp) (by simp))
        cases e
        refine ⟨z1, okw_set ho hv (by simp; omega) (fun y hy => ?_), by rw [f1.2 33 (by decide)]; exact h33⟩
        rcases List.mem_cons.mp hy with hy | hy
        · rw [hy]; omega
        · exact hlv.2 y hy
      · rw [if_neg (by omega)] at hk
        exact hk M1 (fun ws' e => by cases e) (fun _ => z0) (zfq_mono f1 (by simp) (by simp))
  refine vc_Mo_undoMove_0 E k M _ Φ ⟨i, by omega, rfl, ?_⟩
  rw [a7]
  rintro _ rfl
  refine ⟨i, by omega, rfl, ?_⟩
  rw [a8, k_cv c hc2, ev]
  rintro _ rfl
  rw [e4]
  refine firstOf_ok (r := 0) (by omega) (by decide) hxp (hT.2 p hpl) ⟨_, rfl, rfl, fun q => ⟨i, by omega, rfl, ?_⟩, fun q => firstOf_ok (r := 1) (by omega) (by decide) hxp (hT.2 p hpl) ⟨_, rfl, rfl, i, by omega, rfl, ?_⟩⟩
  · rw [a8, e1000]
    simp only [↓reduceIte] at q ⊢
    refine ⟨fun h => ?_, fun h => ⟨v, hv, rfl, small (by omega)⟩⟩
    obtain ⟨u, w, h1, h2, h3⟩ := hcc h
    have hu5 := hxp.1.1 u (List.mem_of_mem_head? h1)
    have hne : u ≠ v + 2 := fun z => q (by rw [h1, z]; rfl)
    rw [h1]
    exact big h u hu5 hne (by rw [h1, if_neg (by simpa using hne)])
  · rw [a8, e1000]
    simp only [Nat.one_ne_zero, ↓reduceIte] at q ⊢
    refine ⟨fun h => ?_, fun h => ⟨v, hv, rfl, small (by omega)⟩⟩
    obtain ⟨u, w, h1, h2, h3⟩ := hcc h
    have hu5 := hxp.1.1 u (List.mem_of_mem_head? h1)
    have hw5 := hxp.1.2.1 w (List.mem_of_mem_head? h2)
    have hne := hxp.1.2.2.2 u w h1 h2
    rw [h1] at q
    have eu : u = v + 2 := (nI_eq (by omega) (by omega)).mp q
    rw [h2]
    exact big h w hw5 (by omega) (by rw [h1, if_pos (by rw [eu]), h2])
end REF11
