/-! what stands at first; both sides leave each other alone -/
def a0 : AS := ([], (([], []), (fun k => k % 3), (511, 511, 511), ([], [], [])), none, none)
theorem a0_ok : okS a0 := by
  refine ⟨⟨Nat.zero_le _, fun s hs => by cases hs⟩, ⟨⟨Nat.zero_le _, fun s hs => by cases hs⟩, ⟨Nat.zero_le _, fun s hs => by cases hs⟩, fun k _ => Nat.mod_lt _ (by decide), ⟨by decide, by decide, by decide⟩, fun v hv => ?_⟩, fun B h => (by cases h), fun B h => (by cases h)⟩
  rcases (show v = 0 ∨ v = 1 ∨ v = 2 by omega) with rfl | rfl | rfl <;> exact ⟨Nat.zero_le _, fun s hs => by cases hs⟩
theorem rn0 {M : ZM} {r : Nat} (h : M r 1 = 0) : zRN M r [] := ⟨h, fun i hi => absurd hi (Nat.not_lt_zero _)⟩
theorem ci_first : zCI 0 mc_40 a0 := by
  refine ⟨a0_ok, rn0 (by decide +kernel), ⟨rn0 (by decide +kernel), rn0 (by decide +kernel), fun j hj => ?_, fun v hv => ?_, by decide +kernel⟩, ⟨⟨fun _ => by decide +kernel, fun B h => (by cases h)⟩, ⟨fun _ => by decide +kernel, fun B h => (by cases h)⟩⟩, ⟨Nat.zero_le _, fun e he => absurd he (Nat.not_lt_zero _), rn0 (by decide +kernel), rn0 (by decide +kernel)⟩, ⟨Or.inl (by decide +kernel), Or.inl (by decide +kernel)⟩, Or.inl (by decide +kernel), fun s hs => ?_⟩
  · exact (by decide +kernel : ∀ j, j < 6 → mc_40 9 j = nI (j % 3)) j hj
  · rcases (show v = 0 ∨ v = 1 ∨ v = 2 by omega) with rfl | rfl | rfl <;> exact rn0 (by decide +kernel)
  · rcases (show s = 0 ∨ s = 1 by omega) with rfl | rfl <;> exact ⟨by decide +kernel, by decide +kernel⟩
theorem ri_first : zRI mc_40 a0 := by
  refine ⟨a0_ok, ⟨⟨by decide +kernel, zSl_nil _ _⟩, ⟨⟨⟨by decide +kernel, zSl_nil _ _⟩, ⟨by decide +kernel, zSl_nil _ _⟩⟩, fun i hi => ?_, fun v s hv hs => ?_, fun v hv => ?_⟩, ⟨fun _ => by decide +kernel, fun B h => (by cases h)⟩, ⟨fun _ => by decide +kernel, fun B h => (by cases h)⟩⟩, Or.inl (by decide +kernel)⟩
  · exact (by decide +kernel : ∀ j, j < 6 → mc_40 86 j = nI (j % 3)) i hi
  · exact (by decide +kernel : ∀ v, v < 3 → ∀ s, s < 3 → mc_40 87 (3 * v + s) = nI (dg (t3 (511, 511, 511) v) s)) v hv s hs
  · rcases (show v = 0 ∨ v = 1 ∨ v = 2 by omega) with rfl | rfl | rfl <;> exact ⟨by decide +kernel, zSl_nil _ _⟩
theorem zCI_mh {k : Nat} {M M' : ZM} {a : AS} (h : zCI k M a) (hm : zMh M M') : zCI k M' a := by
  have f : zfr M M' (List.range' 83 33) := fun p hp => hm p (by rw [List.mem_range'_1] at hp; omega)
  have hA : ∀ p ∈ List.range' 83 33, 83 ≤ p ∧ p < 116 := fun p hp => by rw [List.mem_range'_1] at hp; omega
  obtain ⟨c1, c2, c3, ⟨c4, c5⟩, c6, ⟨c7, c8⟩, c9, c10⟩ := h
  exact ⟨c1, zRN_keep c2 f (fun q => by have := hA _ q; omega) (fun q => by have := hA _ q; omega), zBk_fr c3 f (fun p hp => by have := hA p hp; omega), ⟨zIm_fr c4 f (fun p hp => by have := hA p hp; omega), zIm_fr c5 f (fun p hp => by have := hA p hp; omega)⟩, zNz_fr c6 f (fun p hp => by have := hA p hp; omega), ⟨zSd_fr c7 f (fun p hp => by have := hA p hp; omega), zNs_fr c8 f (fun p hp => by have := hA p hp; omega)⟩, zTrS_fr c9 f (fun p hp => by have := hA p hp; omega), zTx_fr c10 f (fun p hp => by have := hA p hp; omega)⟩
theorem zRI_mo {M M' : ZM} {a : AS} (h : zRI M a) (hm : zMo M M') : zRI M' a := by
  have e : ∀ p, 83 ≤ p → p < 116 → M' p = M p := hm
  have hD : ∀ D, zRD M D → zRD M' D := fun D h => by
    unfold zRD
    rw [e 83 (by decide) (by decide), e 93 (by decide) (by decide), e 94 (by decide) (by decide), e 95 (by decide) (by decide)]
    exact h
  have hT : ∀ N, zRT M N → zRT M' N := fun N h => by
    unfold zRT zRNd
    rw [e 83 (by decide) (by decide), e 96 (by decide) (by decide), e 97 (by decide) (by decide), e 98 (by decide) (by decide), e 99 (by decide) (by decide), e 100 (by decide) (by decide), e 101 (by decide) (by decide), e 102 (by decide) (by decide)]
    exact h
  refine ⟨h.1, ⟨?_, ?_, zRIm_keep h.2.1.2.2.1 (e 114 (by decide) (by decide)) (e 115 (by decide) (by decide)), zRIm_keep h.2.1.2.2.2 (e 114 (by decide) (by decide)) (e 115 (by decide) (by decide))⟩, ?_⟩
  · rw [e 83 (by decide) (by decide), e 90 (by decide) (by decide)]; exact h.2.1.1
  · rw [e 84 (by decide) (by decide), e 85 (by decide) (by decide), e 86 (by decide) (by decide), e 87 (by decide) (by decide), e 88 (by decide) (by decide), e 89 (by decide) (by decide)]; exact h.2.1.2.1
  · rcases h.2.2 with q | ⟨q1, q2, q3⟩
    · exact Or.inl (by rw [e 83 (by decide) (by decide)]; exact q)
    · exact Or.inr ⟨by rw [e 83 (by decide) (by decide)]; exact q1, hD _ q2, hT _ q3⟩
theorem zOf_r (T : List ZTc) (a j : Nat) : (zOf T).2.2.2 a j = (T.getD a zTd0).2.2.getD j none := rfl
theorem zSt_r0 (b j : Nat) : (zSt 0).2.2.2 b j = (if b = 51 then (if j < 0 then some (116 + 9 * j) else none) else if b < 116 then (zRmL.getD b []).getD j none else zNrm b ((b - 116) % 9) j) := rfl
theorem ft_1 : ∀ b, b < 116 → (zSt 0).2.1 b = (zOf tc_235).2.1 b ∧ (zSt 0).2.2.1 b = (zOf tc_235).2.2.1 b := by decide +kernel
theorem ft_2 : ∀ b, b < 116 → (b = 51 → (tc_235.getD b zTd0).2.2 = []) ∧ (b ≠ 51 → zRmL.getD b [] = (tc_235.getD b zTd0).2.2) := by decide +kernel
/-- the cells that the constructors leave are the layout -/
theorem zws_of (E : ZE) (M : ZM) {T : List ZTc} (hl : T.length = 116) (t : ∀ b, b < 116 → (zSt 0).2.1 b = (zOf T).2.1 b ∧ (zSt 0).2.2.1 b = (zOf T).2.2.1 b) (r : ∀ b, b < 116 → (b = 51 → (T.getD b zTd0).2.2 = []) ∧ (b ≠ 51 → zRmL.getD b [] = (T.getD b zTd0).2.2)) : zws E (zSt 0) M = zws E (zOf T) M := by
  refine zws_eq (by rw [zOf_1, hl]; rfl) (fun b hb => ?_)
  rw [zOf_1, hl] at hb
  refine zce_congr (t b hb).1 (t b hb).2 (funext fun j => ?_) rfl
  rw [zOf_r, zSt_r0]
  by_cases e : b = 51
  · rw [if_pos e, if_neg (Nat.not_lt_zero _), (r b hb).1 e]
    rfl
  · rw [if_neg e, if_pos hb, (r b hb).2 e]
theorem zws_first (E : ZE) (M : ZM) : zws E (zSt 0) M = zws E (zOf tc_235) M := zws_of E M tl_235 ft_1 ft_2
theorem zsl_first : zsl (zSt 0) = zsl (zOf tc_235) := by decide +kernel
theorem zsl_k (k : Nat) (hk : k ≤ 150) : zsl (zSt k) ≤ 1000000 := by
  have h0 : ∀ a, a < 116 → zszc (zSt k) a = zszc (zSt 0) a := fun a ha => by
    unfold zszc zSt
    simp only [if_pos ha]
  have h1 : ∀ a, 116 ≤ a → zszc (zSt k) a ≤ 56 := fun a ha => by
    unfold zszc zSt
    have hn : ¬ a < 116 := by omega
    simp only [if_neg hn]
    obtain ⟨o, ho⟩ : ∃ o, (a - 116) % 9 = o := ⟨_, rfl⟩
    rw [ho]
    have hl : o < 9 := by omega
    exact (by decide +kernel : ∀ o, o < 9 → (if zNty o < 12 then znf (zNty o) else zNlen o) ≤ 56) o hl
  have s0 : ((List.range 116).map (zszc (zSt k))).sum ≤ 100000 := by
    rw [List.map_congr_left (fun a ha => h0 a (List.mem_range.mp ha))]
    decide +kernel
  have s1 : ∀ n, ((List.range (116 + n)).map (zszc (zSt k))).sum ≤ 100000 + 56 * n := by
    intro n
    induction n with
    | zero => exact s0
    | succ n ih =>
      rw [show 116 + (n + 1) = 116 + n + 1 from rfl, List.range_succ, List.map_append, List.sum_append]
      have := h1 (116 + n) (by omega)
      simp only [List.map_cons, List.map_nil, List.sum_cons, List.sum_nil]
      omega
  have := s1 (9 * k)
  show ((List.range (116 + 9 * k)).map (zszc (zSt k))).sum ≤ 1000000
  omega
