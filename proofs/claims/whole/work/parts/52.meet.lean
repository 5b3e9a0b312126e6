/-! Node.start, Node.addMove, Net.meet -/
theorem zce_obj {E : ZE} {S S' : ZS} {M : ZM} {b ci : Nat} (h : S.2.1 b = ci) (h' : S'.2.1 b = ci) (hc : ci < 12) (hr : ∀ j, zrf ci j = true → S'.2.2.2 b j = S.2.2.2 b j) : zce E S' M b = zce E S M b := by
  rw [zce_o h hc, zce_o h' hc]
  congr 2
  refine List.map_congr_left (fun j _ => ?_)
  unfold zpv
  rw [h, h']
  by_cases c : zrf ci j = true
  · rw [if_pos c, if_pos c, hr j c]
  · rw [if_neg c, if_neg c]
theorem zce_arr {E : ZE} {S S' : ZS} {M : ZM} {b : Nat} (h : S.2.1 b = 12) (h' : S'.2.1 b = 12) (hl : S'.2.2.1 b = S.2.2.1 b) : zce E S' M b = zce E S M b := by
  rw [zce_i h, zce_i h', hl]
theorem zsl_congr {S S' : ZS} (hn : S'.1 = S.1) (h : ∀ b, b < S.1 → zszc S' b = zszc S b) : zsl S' = zsl S := by
  unfold zsl
  rw [hn]
  congr 1
  exact List.map_congr_left (fun b hb => h b (List.mem_range.mp hb))
theorem zrf_out {ci j : Nat} (h : znf ci ≤ j) : zrf ci j = false := by
  unfold zrf znf at *
  rw [List.getElem?_eq_none h]
  rfl
theorem zrf4 {j : Nat} (h : zrf 4 j = true) : j = 1 ∨ j = 2 ∨ j = 3 ∨ j = 4 := by
  by_cases c : j < 11
  · exact (by decide : ∀ j, j < 11 → zrf 4 j = true → j = 1 ∨ j = 2 ∨ j = 3 ∨ j = 4) j c h
  · rw [zrf_out (show znf 4 ≤ j by show 11 ≤ j; omega)] at h
    cases h
theorem zrf5 {j : Nat} (h : zrf 5 j = true) : j = 0 := by
  by_cases c : j < 2
  · exact (by decide : ∀ j, j < 2 → zrf 5 j = true → j = 0) j c h
  · rw [zrf_out (show znf 5 ≤ j by show 2 ≤ j; omega)] at h
    cases h
/-- what isn't a node, but these, stays -/
def zfb (M M' : ZM) (A : List Nat) : Prop := ∀ p, p < 116 → p ∉ A → M' p = M p
theorem zfb_rfl (M : ZM) (A : List Nat) : zfb M M A := fun _ _ _ => rfl
theorem zfb_tr {M M1 M2 : ZM} {A : List Nat} (h1 : zfb M M1 A) (h2 : zfb M1 M2 A) : zfb M M2 A := fun p h hp => (h2 p h hp).trans (h1 p h hp)
theorem zfb_of {M M1 : ZM} {A B : List Nat} (h1 : zfr M M1 A) (h : ∀ p, p ∈ A → p ∈ B ∨ 116 ≤ p) : zfb M M1 B := fun p hp hb => h1 p (fun q => by rcases h p q with h | h; exact hb h; omega)
theorem zfb_mono {M M1 : ZM} {A B : List Nat} (h1 : zfb M M1 A) (h : ∀ p, p ∈ A → p ∈ B) : zfb M M1 B := fun p h0 hp => h1 p h0 (fun q => hp (h p q))
theorem zRN_fb {M M' : ZM} {r : Nat} {xs : List Nat} {A : List Nat} (h : zRN M r xs) (hf : zfb M M' A) (hr : r + 1 < 116) (h1 : r ∉ A) (h2 : r + 1 ∉ A) : zRN M' r xs := zRN_fr h (hf r (by omega) h1) (hf (r + 1) hr h2)
section MEET
variable {E : ZE} {k : Nat} {M : ZM} {Φ : Option Value → ZS → ZM → Prop} {N : List NR} {T : Nat → List (Nat × Nat)}
theorem Node_start_ok {S : ZS} {p : Nat} {x : ND} (hp : zNode S p) (h53 : zRow S 53 48) (h55 : zRow S 55 48) (hpa : 116 ≤ p) (hr : zRN M 53 x.1.1) (hr2 : zRN M 55 x.1.2) (hl : x.1.1.length ≤ 24 ∧ x.1.2.length ≤ 24) (hk : ∀ M', zNd M' p (x, 0, none, false) [] → M' p 0 = M p 0 → M' p 9 = M p 9 → zfi M M' p 9 → Φ none S M') : zW E m_Node_start 1 S M 0 [some (.ref p), some (.int (nI (pkn x.2))), some (.ref 53), some (.ref 55)] [] Φ := by
  refine vc_Node_start_0 E S M p _ 53 48 55 48 Φ hp h53 h55 ?_
  refine Row_copy_ok hp.2.1.2 h53 (by omega) hr (by omega) hl.1 (fun M1 x1 f1 => ⟨rfl, rfl, ?_⟩)
  have f1' : zfi M M1 (p + 1) 2 := zfi_of f1 (by simp <;> omega)
  refine Row_copy_ok hp.2.2.1.2 h55 (by omega) (zRN_fi hr2 f1' (by omega)) (by omega) hl.2 (fun M2 x2 f2 => ⟨rfl, rfl, ?_⟩)
  have f2' : zfi M1 M2 (p + 3) 2 := zfi_of f2 (by simp <;> omega)
  refine Row_makeEmpty_ok hp.2.2.2.1.2 (fun M3 x3 f3 => ⟨rfl, rfl, ?_⟩)
  have f3' : zfi M2 M3 (p + 5) 1 := zfi_of f3 (by simp <;> omega)
  refine Row_makeEmpty_ok hp.2.2.2.2.2 (fun M4 x4 f4 => ⟨rfl, rfl, ?_⟩)
  have f4' : zfi M3 M4 (p + 7) 1 := zfi_of f4 (by simp <;> omega)
  rintro _ rfl _ rfl _ rfl _ rfl _ rfl
  have f5 : zfi M4 (zms (zms (zms (zms (zms M4 p 5 (nI (pkn x.2))) p 6 0) p 7 (-6)) p 8 (-6)) p 10 0) p 1 := by
    refine zfi_of (A := [p]) ?_ (by simp)
    exact zfr_tr (zfr_tr (zfr_tr (zfr_tr (zfr_ms _ _ _ _ (by simp)) (zfr_ms _ _ _ _ (by simp))) (zfr_ms _ _ _ _ (by simp))) (zfr_ms _ _ _ _ (by simp))) (zfr_ms _ _ _ _ (by simp))
  refine hk _ ⟨?_, ?_, ?_, ?_, ?_, ?_, ?_, ?_, ?_⟩ ?_ ?_ ?_
  · exact zRN_fi (zRN_fi (zRN_fi (zRN_fi x1 f2' (by omega)) f3' (by omega)) f4' (by omega)) f5 (by omega)
  · exact zRN_fi (zRN_fi (zRN_fi x2 f3' (by omega)) f4' (by omega)) f5 (by omega)
  · rw [zms_n _ _ (by omega), zms_n _ _ (by omega), zms_n _ _ (by omega), zms_n _ _ (by omega), zms_s]
  · rw [zms_n _ _ (by omega), zms_n _ _ (by omega), zms_n _ _ (by omega), zms_s]
    rfl
  · rw [zms_n _ _ (by omega), zms_n _ _ (by omega), zms_s]
    rfl
  · rw [zms_n _ _ (by omega), zms_s]
    rfl
  · rw [zms_s]
    rfl
  · exact zRN_fi (zRN_fi x3 f4' (by omega)) f5 (by omega)
  · exact zRN_fi x4 f5 (by omega)
  · rw [zms_n _ _ (by omega), zms_n _ _ (by omega), zms_n _ _ (by omega), zms_n _ _ (by omega), zms_n _ _ (by omega), f4' _ (by omega), f3' _ (by omega), f2' _ (by omega), f1' _ (by omega)]
  · rw [zms_n _ _ (by omega), zms_n _ _ (by omega), zms_n _ _ (by omega), zms_n _ _ (by omega), zms_n _ _ (by omega), f4' _ (by omega), f3' _ (by omega), f2' _ (by omega), f1' _ (by omega)]
  · exact zfi_tr (zfi_mono f1' (by omega) (by omega)) (zfi_tr (zfi_mono f2' (by omega) (by omega)) (zfi_tr (zfi_mono f3' (by omega) (by omega)) (zfi_tr (zfi_mono f4' (by omega) (by omega)) (zfi_mono f5 (by omega) (by omega)))))
/-- the net with one node more -/
theorem zNt_push {x : ND} {M' : ZM} (hN : zNt k M N T) (h150 : N.length < 150) (hk : N.length < k) (hx : okN x) (hnf : nfind N x = none) (hd : zNd M' (na N.length) (x, 0, none, false) []) (h9 : M' 50 9 = nI (N.length + 1)) (h0 : ∀ e, e < k → M' (na e) 0 = M (na e) 0) (hold : ∀ p, 116 ≤ p → (p < na N.length ∨ na N.length + 9 ≤ p) → M' p = M p) (hnx : M' (na N.length) 9 = M 52 (hsh x)) (hb : ∀ b, b < 256 → M' 52 b = if b = hsh x then nI N.length else M 52 b) : zNt k M' (N ++ [(x, 0, none, false)]) (zup T N.length []) := by
  obtain ⟨⟨a0, a1, a1'⟩, a2, a3, a4, a5, a6⟩ := hN
  have hl : (N ++ [((x, 0, none, false) : NR)]).length = N.length + 1 := by simp
  have hpv : ∀ b n, n ≤ N.length → prv (N ++ [((x, 0, none, false) : NR)]) b n = prv N b n := fun b n hn => prv_congr (fun e he => by rw [nN_l (by omega)])
  refine ⟨⟨by rw [hl]; omega, by rw [hl]; omega, a1'⟩, by rw [h9, hl], fun e he => by rw [h0 e he]; exact a3 e he, fun e he => ?_, fun b hb' => ?_, fun i j hi hj hij => ?_⟩
  · rw [hl] at he
    by_cases c : e < N.length
    · obtain ⟨b1, b2, b3⟩ := a4 e c
      rw [nN_l c, hpv _ _ (by omega)]
      have hz : zfi M M' (na N.length) 9 ∨ True := Or.inr trivial
      have hold' : ∀ o, o < 9 → M' (na e + o) = M (na e + o) := fun o ho => hold _ (by show 116 ≤ 116 + 9 * e + o; omega) (Or.inl (by show 116 + 9 * e + o < 116 + 9 * N.length; omega))
      refine ⟨b1, ?_, by have := hold' 0 (by decide); rw [Nat.add_zero] at this; rw [this]; exact b3⟩
      have e0 := hold' 0 (by decide)
      rw [Nat.add_zero] at e0
      obtain ⟨c1, c2, c3, c4, c5, c6, c7, c8, c9⟩ := b2
      simp only [zup, if_neg (Nat.ne_of_lt c)]
      exact ⟨zRN_fr c1 (hold' 1 (by decide)) (hold' 2 (by decide)), zRN_fr c2 (hold' 3 (by decide)) (hold' 4 (by decide)), by rw [e0]; exact c3, by rw [e0]; exact c4, by rw [e0]; exact c5, by rw [e0]; exact c6, by rw [e0]; exact c7, zRN_fr c8 (hold' 5 (by decide)) (hold' 6 (by decide)), zRN_fr c9 (hold' 7 (by decide)) (hold' 8 (by decide))⟩
    · have c' : e = N.length := by omega
      subst c'
      rw [nN_r, hpv _ _ (Nat.le_refl _)]
      refine ⟨hx, by simp only [zup, if_true]; exact hd, ?_⟩
      rw [hnx]
      exact a5 _ (hsh_ok x).1
  · rw [hb b hb', hl]
    unfold prv
    rw [nN_r, hpv _ _ (Nat.le_refl _)]
    by_cases c : b = hsh x
    · rw [if_pos c, if_pos c.symm]
      rfl
    · rw [if_neg c, if_neg (Ne.symm c)]
      exact a5 b hb'
  · rw [hl] at hi hj
    by_cases c1 : i < N.length <;> by_cases c2 : j < N.length
    · rw [nN_l c1, nN_l c2] at hij
      exact a6 i j c1 c2 hij
    · have : j = N.length := by omega
      subst this
      rw [nN_l c1, nN_r] at hij
      exact absurd hij (nfind_none hnf c1)
    · have : i = N.length := by omega
      subst this
      rw [nN_l c2, nN_r] at hij
      exact absurd hij.symm (nfind_none hnf c2)
    · omega
theorem Net_meet_55 {x : ND} (hN : zNt k M N T) (h150 : N.length < 150) (hk : N.length < k) (hx : okN x) (hnf : nfind N x = none) (hm : M 50 8 = rMark x.1.1 * 31 + rMark x.1.2) (hr : zRN M 53 x.1.1) (hr2 : zRN M 55 x.1.2)
    (hΦ : ∀ M', zNt k M' (N ++ [(x, 0, none, false)]) (zup T N.length []) → (∀ j, j ≠ 9 → M' 50 j = M 50 j) → zfb M M' [50, 52] → Φ (some (va_rf (some (na N.length)))) (zSt k) M') : zW E m_Net_meet 3 (zSt k) M 55 [some (.ref 50), some (.int (nI (pkn x.2))), some (.ref (na N.length)), none] [] Φ := by
  have hna : 116 ≤ na N.length := Nat.le_add_right _ _
  refine vc_Net_meet_55 E k M _ (na N.length) Φ (tN hk) ?_
  refine Node_start_ok (tN hk) (ts_53 k) (ts_55 k) hna hr hr2 ⟨hx.2.1, hx.2.2⟩ (fun M1 d1 d2 d3 d4 => ⟨rfl, rfl, ?_⟩)
  have e50 : M1 50 = M 50 := d4 50 (by omega)
  have e52 : M1 52 = M 52 := d4 52 (by omega)
  refine Net_bucketOf_ok (by rw [e50]; exact hm) ⟨_, rfl, rfl, hsh x, (hsh_ok x).1, rfl, ?_⟩
  rintro _ rfl
  refine ⟨hsh x, (hsh_ok x).1, rfl, ?_⟩
  rintro _ rfl _ rfl
  have h9 : M 50 9 = nI N.length := hN.2.1
  refine hΦ _ (zNt_push hN h150 hk hx hnf ?_ ?_ (fun e he => ?_) (fun p h1 h2 => ?_) ?_ (fun b hb => ?_)) (fun j hj => ?_) (fun p h1 h2 => ?_)
  · have f : zfi M1 (zms (zms (zms M1 (na N.length) 9 (M1 52 (hsh x))) 52 (hsh x) ((zms M1 (na N.length) 9 (M1 52 (hsh x))) 50 9)) 50 9 ((zms (zms M1 (na N.length) 9 (M1 52 (hsh x))) 52 (hsh x) ((zms M1 (na N.length) 9 (M1 52 (hsh x))) 50 9)) 50 9 + 1)) 0 116 ∨ True := Or.inr trivial
    obtain ⟨c1, c2, c3, c4, c5, c6, c7, c8, c9⟩ := d1
    have key : ∀ p, 116 ≤ p → p ≠ na N.length → (zms (zms (zms M1 (na N.length) 9 (M1 52 (hsh x))) 52 (hsh x) ((zms M1 (na N.length) 9 (M1 52 (hsh x))) 50 9)) 50 9 ((zms (zms M1 (na N.length) 9 (M1 52 (hsh x))) 52 (hsh x) ((zms M1 (na N.length) 9 (M1 52 (hsh x))) 50 9)) 50 9 + 1)) p = M1 p := by
      intro p h1 h2
      rw [zms_ne _ _ _ (by omega), zms_ne _ _ _ (by omega), zms_ne _ _ _ h2]
    have key2 : ∀ j, j ≠ 9 → (zms (zms (zms M1 (na N.length) 9 (M1 52 (hsh x))) 52 (hsh x) ((zms M1 (na N.length) 9 (M1 52 (hsh x))) 50 9)) 50 9 ((zms (zms M1 (na N.length) 9 (M1 52 (hsh x))) 52 (hsh x) ((zms M1 (na N.length) 9 (M1 52 (hsh x))) 50 9)) 50 9 + 1)) (na N.length) j = M1 (na N.length) j := by
      intro j hj
      rw [zms_ne _ _ _ (by omega), zms_ne _ _ _ (by omega), zms_k _ _ hj]
    exact ⟨zRN_fr c1 (key _ (by omega) (by omega)) (key _ (by omega) (by omega)), zRN_fr c2 (key _ (by omega) (by omega)) (key _ (by omega) (by omega)), by rw [key2 _ (by decide)]; exact c3, by rw [key2 _ (by decide)]; exact c4, by rw [key2 _ (by decide)]; exact c5, by rw [key2 _ (by decide)]; exact c6, by rw [key2 _ (by decide)]; exact c7, zRN_fr c8 (key _ (by omega) (by omega)) (key _ (by omega) (by omega)), zRN_fr c9 (key _ (by omega) (by omega)) (key _ (by omega) (by omega))⟩
  · rw [zms_s, zms_n _ _ (by omega), zms_n _ _ (by omega), e50, h9, nI_1]
  · have hne : 116 ≤ na e := Nat.le_add_right _ _
    rw [zms_n _ _ (by omega), zms_n _ _ (by omega), zms_n _ _ (by omega)]
    by_cases c : e = N.length
    · rw [c, d2]
    · rw [d4 _ (by show 116 + 9 * e < 116 + 9 * N.length ∨ 116 + 9 * N.length + 9 ≤ 116 + 9 * e; omega)]
  · rw [zms_ne _ _ _ (by omega), zms_ne _ _ _ (by omega), zms_ne _ _ _ (by omega), d4 p h2]
  · rw [zms_n _ _ (by omega), zms_n _ _ (by omega), zms_s, e52]
  · rw [zms_n _ _ (by omega)]
    by_cases c : b = hsh x
    · rw [if_pos c, c, zms_s, zms_n _ _ (by omega), e50, h9]
    · rw [if_neg c, zms_k _ _ c, zms_n _ _ (by omega), e52]
  · rw [zms_k _ _ hj, zms_n _ _ (by omega), zms_n _ _ (by omega), e50]
  · simp at h2
    rw [zms_ne _ _ _ (by omega), zms_ne _ _ _ (by omega), zms_ne _ _ _ (by omega), d4 p (by omega)]
theorem zNt_grow {M' : ZM} (hN : zNt k M N T) (hk : k < 150) (hold : ∀ p, p < na k → M' p = M p) (hnew : M' (na k) 0 = nI k) : zNt (k + 1) M' N T := by
  obtain ⟨⟨a0, a1, a1'⟩, a2, a3, a4, a5, a6⟩ := hN
  have h116 : 116 ≤ na k := Nat.le_add_right _ _
  refine ⟨⟨by omega, a1, by omega⟩, by rw [hold 50 (by omega)]; exact a2, fun e he => ?_, fun e he => ?_, fun b hb => by rw [hold 52 (by omega)]; exact a5 b hb, a6⟩
  · by_cases c : e < k
    · rw [hold _ (by show 116 + 9 * e < 116 + 9 * k; omega)]
      exact a3 e c
    · have : e = k := by omega
      rw [this]
      exact hnew
  · obtain ⟨b1, b2, b3⟩ := a4 e he
    have hz : zfi M M' (na k) (if False then 0 else 0) ∨ True := Or.inr trivial
    refine ⟨b1, ?_, by rw [hold _ (by show 116 + 9 * e < 116 + 9 * k; omega)]; exact b3⟩
    have h' : ∀ o, o < 9 → M' (na e + o) = M (na e + o) := fun o ho => hold _ (by show 116 + 9 * e + o < 116 + 9 * k; omega)
    have e0 := h' 0 (by decide)
    rw [Nat.add_zero] at e0
    obtain ⟨c1, c2, c3, c4, c5, c6, c7, c8, c9⟩ := b2
    exact ⟨zRN_fr c1 (h' 1 (by decide)) (h' 2 (by decide)), zRN_fr c2 (h' 3 (by decide)) (h' 4 (by decide)), by rw [e0]; exact c3, by rw [e0]; exact c4, by rw [e0]; exact c5, by rw [e0]; exact c6, by rw [e0]; exact c7, zRN_fr c8 (h' 5 (by decide)) (h' 6 (by decide)), zRN_fr c9 (h' 7 (by decide)) (h' 8 (by decide))⟩
end MEET
