/-! the reference: a node more; the moves -/
def zMv (M : ZM) (ms : List Nat) : Prop := M 83 27 = nI ms.length ∧ zSl (M 106) 0 ms
section REF5
variable {E : ZE} {k : Nat} {M M' M1 M2 : ZM} {Φ : Option Value → ZS → ZM → Prop} {A A' Q Q' : List Nat} {D : BD} {N : List NR}
theorem addRow_loop {xs : List Nat} {r n : Nat} {x1 x2 x3 : Int32} (hr : r < 2) (hl : xs.length ≤ 24) (hn : n < 150) {M0 : ZM} (hc : M0 104 r = nI xs.length) (h21 : M0 83 21 = nI n) (hx : zSl (M0 103) (48 * r) xs) (hk : ∀ M', zSl (M' 96) (48 * n + 24 * r) xs → (∀ i, i < 48 * n + 24 * r ∨ 48 * n + 24 * r + 24 ≤ i → M' 96 i = M0 96 i) → zfq M0 M' [96] [] → zW E m_Mo_addNode 0 (zSt k) M' 3 [some (.ref 83), some (.int x1), some (.int x2), some (.int x3), some (.int (nI (r + 1))), none] [] Φ) : ∀ (c j : Nat) (M : ZM), j + c = xs.length → (∀ i, i < j → M 96 (48 * n + 24 * r + i) = nI (xs.getD i 0)) → (∀ i, i < 48 * n + 24 * r ∨ 48 * n + 24 * r + j ≤ i → M 96 i = M0 96 i) → zfq M0 M [96] [] → zW E m_Mo_addNode 0 (zSt k) M 33 [some (.ref 83), some (.int x1), some (.int x2), some (.int x3), some (.int (nI r)), some (.int (nI j))] [] Φ
  | 0, j, M, hj, h1, h2, hf => by
    refine vc_Mo_addNode_33 E k M _ _ _ _ _ Φ ⟨r, hr, rfl, ?_⟩
    rw [hf.1 104 (by decide) (by decide), hc]
    refine ⟨fun _ => ?_, fun q => absurd (nI_le (by omega) (by omega)) q⟩
    rintro _ rfl
    rw [nI_1]
    exact hk M (fun i hi => h1 i (by omega)) (fun i hi => h2 i (by omega)) hf
  | c + 1, j, M, hj, h1, h2, hf => by
    have e1 : (48 : Int32) * nI r + nI j = nI (48 * r + j) := by
      have : (48 : Int32) * nI r = nI (48 * r) := pk_mul 48 r
      rw [this, nI_add]
    have e2 : (48 : Int32) * nI n + 24 * nI r + nI j = nI (48 * n + 24 * r + j) := by
      have a : (48 : Int32) * nI n = nI (48 * n) := pk_mul 48 n
      have b : (24 : Int32) * nI r = nI (24 * r) := pk_mul 24 r
      rw [a, b, nI_add, nI_add]
    refine vc_Mo_addNode_33 E k M _ _ _ _ _ Φ ⟨r, hr, rfl, ?_⟩
    rw [hf.1 104 (by decide) (by decide), hc, hf.2 21 (by decide), h21, e1, e2, hf.1 103 (by decide) (by decide)]
    refine ⟨fun q => absurd q (nI_ge (by omega) (by omega)), fun _ => ⟨_, by omega, rfl, _, by omega, rfl, ?_⟩⟩
    rintro _ rfl _ rfl
    rw [nI_1]
    refine addRow_loop hr hl hn hc h21 hx hk c (j + 1) _ (by omega) (fun i hi => ?_) (fun i hi => ?_) (zfq_tr hf (zfq_ms _ _ _ (by simp) (by decide)))
    · by_cases e : i = j
      · subst e
        rw [zms_s]; exact hx i (by omega)
      · rw [zms_k _ _ (by omega)]; exact h1 i (by omega)
    · rw [zms_k _ _ (by omega)]; exact h2 i (by omega)
theorem addNeed_loop {n : Nat} {x1 x2 x3 : Int32} (hn : n < 150) {M0 : ZM} (h21 : M0 83 21 = nI n) (hk : ∀ M', (∀ i, i < 9 → M' 98 (9 * n + i) = M0 105 i) → (∀ i, i < 9 * n → M' 98 i = M0 98 i) → zfq M0 M' [98] [] → zW E m_Mo_addNode 0 (zSt k) M' 94 [some (.ref 83), some (.int x1), some (.int x2), some (.int x3), some (.int (nI 9)), none] [] Φ) : ∀ (c j : Nat) (M : ZM), j + c = 9 → (∀ i, i < j → M 98 (9 * n + i) = M0 105 i) → (∀ i, i < 9 * n → M 98 i = M0 98 i) → zfq M0 M [98] [] → zW E m_Mo_addNode 0 (zSt k) M 94 [some (.ref 83), some (.int x1), some (.int x2), some (.int x3), some (.int (nI j)), none] [] Φ
  | 0, j, M, hj, h1, h2, hf => by
    have : j = 9 := by omega
    subst this
    exact hk M h1 h2 hf
  | c + 1, j, M, hj, h1, h2, hf => by
    have e1 : (9 : Int32) * nI n + nI j = nI (9 * n + j) := by
      have : (9 : Int32) * nI n = nI (9 * n) := pk_mul 9 n
      rw [this, nI_add]
    refine vc_Mo_addNode_94 E k M _ _ _ _ Φ ?_
    rw [hf.2 21 (by decide), h21, e1, hf.1 105 (by decide) (by decide)]
    refine ⟨fun q => absurd q (nI_ge (b := 9) (by omega) (by decide)), fun _ => ⟨j, by omega, rfl, _, by omega, rfl, ?_⟩⟩
    rintro _ rfl _ rfl
    rw [nI_1]
    refine addNeed_loop hn h21 hk c (j + 1) _ (by omega) (fun i hi => ?_) (fun i hi => ?_) (zfq_tr hf (zfq_ms _ _ _ (by simp) (by decide)))
    · by_cases e : i = j
      · subst e; rw [zms_s]
      · rw [zms_k _ _ (by omega)]; exact h1 i (by omega)
    · rw [zms_k _ _ (by omega)]; exact h2 i hi
theorem addNode_ok {x : ND} {d : Nat} {o : Option (Nat × Nat)} (hN : okNs N) (hx : okN x) (hl : N.length < 150) (hM : zRT M N) (hr : zMr M x.1) (hn : zMn M x.2) (hk : ∀ M', zRT M' (N ++ [(x, d, o, false)]) → zfq M M' [96, 97, 98, 99, 100, 101, 102] [21] → Φ none (zSt k) M') : zW E m_Mo_addNode 0 (zSt k) M 0 [some (.ref 83), some (.int (nI d)), some (.int (oN (o.map (fun z => z.1)))), some (.int (oN (o.map (fun z => z.2)))), none, none] [] Φ := by
  obtain ⟨⟨b1, b2⟩, ⟨b3, b4⟩⟩ := hr
  obtain ⟨h21, hM⟩ := hM
  obtain ⟨-, p4, p5⟩ := hx
  have e2 : (2 : Int32) * nI N.length + nI 0 = nI (2 * N.length) := by
    have a : (2 : Int32) * nI N.length = nI (2 * N.length) := pk_mul 2 _
    rw [a, nI_add, Nat.add_zero]
  have e21 : (2 : Int32) * nI N.length + nI 1 = nI (2 * N.length + 1) := by
    have a : (2 : Int32) * nI N.length = nI (2 * N.length) := pk_mul 2 _
    rw [a, nI_add]
  refine vc_Mo_addNode_0 E k M _ _ _ Φ (vc_Mo_addNode_3 E k M _ _ _ (nI 0) Φ ⟨fun q => absurd q (by decide), fun _ => ⟨0, by decide, rfl, 2 * N.length, by omega, by rw [h21]; exact e2, ?_⟩⟩)
  intro M1 g1
  have f1 : zfq M M1 [97] [] := by rw [g1]; exact zfq_ms _ _ _ (by simp) (by decide)
  refine addRow_loop (r := 0) (n := N.length) (M0 := M1) (by decide) p4 hl (by rw [f1.1 104 (by decide) (by decide)]; exact b1) (by rw [f1.2 21 (by decide)]; exact h21) (by rw [f1.1 103 (by decide) (by decide)]; exact b2) (fun M2 c1 c2 f2 => ?_) x.1.1.length 0 M1 (Nat.zero_add _) (fun i hi => absurd hi (Nat.not_lt_zero _)) (fun i _ => rfl) (zfq_rfl _ _ _)
  refine vc_Mo_addNode_3 E k M2 _ _ _ (nI 1) Φ ⟨fun q => absurd q (by decide), fun _ => ⟨1, by decide, rfl, 2 * N.length + 1, by omega, by rw [f2.2 21 (by decide), f1.2 21 (by decide), h21]; exact e21, ?_⟩⟩
  intro M3 g3
  have f3 : zfq M2 M3 [97] [] := by rw [g3]; exact zfq_ms _ _ _ (by simp) (by decide)
  have k3 : ∀ p, p = 103 ∨ p = 104 ∨ p = 105 → M3 p = M p := fun p hp => by
    rw [f3.1 p (by omega) (by simp; omega), f2.1 p (by omega) (by simp; omega), f1.1 p (by omega) (by simp; omega)]
  have q3 : M3 83 21 = nI N.length := by rw [f3.2 21 (by decide), f2.2 21 (by decide), f1.2 21 (by decide)]; exact h21
  refine addRow_loop (r := 1) (n := N.length) (M0 := M3) (by decide) p5 hl (by rw [k3 104 (by omega)]; exact b3) q3 (by rw [k3 103 (by omega)]; exact b4) (fun M4 c3 c4 f4 => ?_) x.1.2.length 0 M3 (Nat.zero_add _) (fun i hi => absurd hi (Nat.not_lt_zero _)) (fun i _ => rfl) (zfq_rfl _ _ _)
  refine vc_Mo_addNode_3 E k M4 _ _ _ (nI (1 + 1)) Φ ⟨fun _ => ?_, fun q => absurd (by decide) q⟩
  have q4 : M4 83 21 = nI N.length := by rw [f4.2 21 (by decide)]; exact q3
  refine addNeed_loop (M0 := M4) hl q4 (fun M5 c5 c6 f5 => ?_) 9 0 M4 rfl (fun i hi => absurd hi (Nat.not_lt_zero _)) (fun i _ => rfl) (zfq_rfl _ _ _)
  have q5 : M5 83 21 = nI N.length := by rw [f5.2 21 (by decide)]; exact q4
  refine vc_Mo_addNode_94 E k M5 _ _ _ _ Φ ⟨fun _ => ⟨_, hl, q5, ?_⟩, fun q => absurd (by decide) q⟩
  intro M6 g6
  refine ⟨_, hl, by rw [g6, zms_n _ _ (by omega)]; exact q5, ?_⟩
  intro M7 g7
  refine ⟨_, hl, by rw [g7, zms_n _ _ (by omega), g6, zms_n _ _ (by omega)]; exact q5, ?_⟩
  intro M8 g8
  refine ⟨_, hl, by rw [g8, zms_n _ _ (by omega), g7, zms_n _ _ (by omega), g6, zms_n _ _ (by omega)]; exact q5, ?_⟩
  intro M9 g9
  intro M10 g10
  have q9 : M9 83 21 = nI N.length := by rw [g9, zms_n _ _ (by omega), g8, zms_n _ _ (by omega), g7, zms_n _ _ (by omega), g6, zms_n _ _ (by omega)]; exact q5
  rw [q9, nI_1] at g10
  have m96 : M10 96 = M4 96 := by rw [g10, zms_ne _ _ _ (by decide), g9, zms_ne _ _ _ (by decide), g8, zms_ne _ _ _ (by decide), g7, zms_ne _ _ _ (by decide), g6, zms_ne _ _ _ (by decide), f5.1 96 (by decide) (by decide)]
  have m97 : M10 97 = M3 97 := by rw [g10, zms_ne _ _ _ (by decide), g9, zms_ne _ _ _ (by decide), g8, zms_ne _ _ _ (by decide), g7, zms_ne _ _ _ (by decide), g6, zms_ne _ _ _ (by decide), f5.1 97 (by decide) (by decide), f4.1 97 (by decide) (by decide)]
  have m98 : M10 98 = M5 98 := by rw [g10, zms_ne _ _ _ (by decide), g9, zms_ne _ _ _ (by decide), g8, zms_ne _ _ _ (by decide), g7, zms_ne _ _ _ (by decide), g6, zms_ne _ _ _ (by decide)]
  have k5 : ∀ p, 99 ≤ p → p ≤ 102 → M5 p = M p := fun p h1 h2 => by
    rw [f5.1 p (by omega) (by simp; omega), f4.1 p (by omega) (by simp; omega), f3.1 p (by omega) (by simp; omega), f2.1 p (by omega) (by simp; omega), f1.1 p (by omega) (by simp; omega)]
  refine hk M10 ⟨by rw [g10, zms_s]; simp, fun e he => ?_⟩ ?_
  · by_cases el : e < N.length
    · rw [nN_l el]
      obtain ⟨⟨⟨a1, a2⟩, ⟨a3, a4⟩⟩, a5, ⟨a6, a7, a8⟩, a9⟩ := hM e el
      obtain ⟨-, o4, o5⟩ := hN.2 e el
      refine ⟨⟨⟨?_, fun i hi => ?_⟩, ⟨?_, fun i hi => ?_⟩⟩, fun v s hv hs => ?_, ⟨?_, ?_, ?_⟩, ?_⟩
      · rw [m97, g3, zms_k _ _ (by omega), f2.1 97 (by decide) (by decide), g1, zms_k _ _ (by omega)]; exact a1
      · rw [m96, c4 _ (by omega), f3.1 96 (by decide) (by decide), c2 _ (by omega), f1.1 96 (by decide) (by decide)]; exact a2 i hi
      · rw [m97, g3, zms_k _ _ (by omega), f2.1 97 (by decide) (by decide), g1, zms_k _ _ (by omega)]; exact a3
      · rw [m96, c4 _ (by omega), f3.1 96 (by decide) (by decide), c2 _ (by omega), f1.1 96 (by decide) (by decide)]; exact a4 i hi
      · rw [m98, c6 _ (by omega), f4.1 98 (by decide) (by decide), f3.1 98 (by decide) (by decide), f2.1 98 (by decide) (by decide), f1.1 98 (by decide) (by decide)]; exact a5 v s hv hs
      · rw [g10, zms_n _ _ (by omega), g9, zms_n _ _ (by omega), g8, zms_n _ _ (by omega), g7, zms_n _ _ (by omega), g6, zms_n _ _ (by omega), k5 99 (by omega) (by omega)]; exact a6
      · rw [g10, zms_n _ _ (by omega), g9, zms_n _ _ (by omega), g8, zms_n _ _ (by omega), g7, zms_n _ _ (by omega), g6, zms_n _ _ (by omega), k5 100 (by omega) (by omega)]; exact a7
      · rw [g10, zms_n _ _ (by omega), g9, zms_n _ _ (by omega), g8, zms_n _ _ (by omega), g7, zms_n _ _ (by omega), g6, zms_n _ _ (by omega), k5 101 (by omega) (by omega)]; exact a8
      · rw [g10, zms_n _ _ (by omega), g9, zms_n _ _ (by omega), g8, zms_n _ _ (by omega), g7, zms_n _ _ (by omega), g6, zms_n _ _ (by omega), k5 102 (by omega) (by omega)]; exact a9
    · have : e = N.length := by simp at he; omega
      subst this
      rw [nN_r]
      refine ⟨⟨⟨?_, fun i hi => ?_⟩, ⟨?_, fun i hi => ?_⟩⟩, fun v s hv hs => ?_, ⟨?_, ?_, ?_⟩, ?_⟩
      · rw [m97, g3, zms_k _ _ (by omega), f2.1 97 (by decide) (by decide), g1, zms_s]; exact b1
      · have hi : i < x.1.1.length := hi
        rw [m96, c4 _ (by omega), f3.1 96 (by decide) (by decide)]; exact c1 i hi
      · rw [m97, g3, zms_s, f2.1 104 (by decide) (by decide), f1.1 104 (by decide) (by decide)]; exact b3
      · have hi : i < x.1.2.length := hi
        rw [m96]; exact c3 i hi
      · rw [m98, c5 _ (by omega), f4.1 105 (by decide) (by decide), k3 105 (by omega)]; exact hn v s hv hs
      · rw [g10, zms_n _ _ (by omega), g9, zms_n _ _ (by omega), g8, zms_n _ _ (by omega), g7, zms_n _ _ (by omega), g6, zms_s]
      · rw [g10, zms_n _ _ (by omega), g9, zms_n _ _ (by omega), g8, zms_n _ _ (by omega), g7, zms_s]
      · rw [g10, zms_n _ _ (by omega), g9, zms_n _ _ (by omega), g8, zms_s]
      · rw [g10, zms_n _ _ (by omega), g9, zms_s]; rfl
  · have t : ∀ {Ma Mb : ZM} {a i : Nat} {v : Int32}, Mb = zms Ma a i v → a ∈ [96, 97, 98, 99, 100, 101, 102] → zfq Ma Mb [96, 97, 98, 99, 100, 101, 102] [21] := fun {Ma Mb a i v} e ha => by
      rw [e]
      exact zfq_ms _ _ _ ha (fun z => by subst z; exact absurd ha (by decide))
    refine zfq_tr (zfq_mono f1 (by simp) (by simp)) (zfq_tr (zfq_mono f2 (by simp) (by simp)) (zfq_tr (zfq_mono f3 (by simp) (by simp)) (zfq_tr (zfq_mono f4 (by simp) (by simp)) (zfq_tr (zfq_mono f5 (by simp) (by simp)) (zfq_tr (t g6 (by simp)) (zfq_tr (t g7 (by simp)) (zfq_tr (t g8 (by simp)) (zfq_tr (t g9 (by simp)) ?_))))))))
    rw [g10]
    exact zfq_mq _ _ _ (by simp)
theorem addMove_ok {ki v t : Nat} {ms : List Nat} (hl : ms.length < 60) (hm : zMv M ms) (hk : ∀ M', zMv M' (ms ++ [1000 * ki + 100 * v + t]) → zfq M M' [106] [27] → Φ none (zSt k) M') : zW E m_Mo_addMove 0 (zSt k) M 0 [some (.ref 83), some (.int (nI ki)), some (.int (nI v)), some (.int (nI t))] [] Φ := by
  have e : ((1000 : Int32) * nI ki + 100 * nI v) + nI t = nI (1000 * ki + 100 * v + t) := by
    have a : (1000 : Int32) * nI ki = nI (1000 * ki) := pk_mul 1000 ki
    have b : (100 : Int32) * nI v = nI (100 * v) := pk_mul 100 v
    rw [a, b, nI_add, nI_add]
  refine vc_Mo_addMove_0 E k M _ _ _ Φ ⟨ms.length, hl, hm.1, ?_⟩
  rw [e]
  intro M1 g1 M2 g2
  refine hk M2 ⟨?_, ?_⟩ ?_
  · rw [g2, zms_s, g1, zms_n _ _ (by omega), hm.1, nI_1]; simp
  · refine zSl_snoc hm.2 (fun i hi => ?_) ?_
    · rw [g2, zms_n _ _ (by omega), g1, zms_k _ _ (by omega)]
    · rw [g2, zms_n _ _ (by omega), g1, Nat.zero_add, zms_s]
  · rw [g2, g1]
    exact zfq_tr (zfq_ms _ _ _ (by simp) (by decide)) (zfq_mq _ _ _ (by simp))
theorem third_ok {s : Nat} (hs : s < 3) (h : Φ (some (.int (nI (3 ^ s)))) (zSt k) M) : zW E m_Mo_third 0 (zSt k) M 0 [some (.int (nI s))] [] Φ := by
  refine vc_Mo_third_0 E k M _ Φ ?_
  rcases (show s = 0 ∨ s = 1 ∨ s = 2 by omega) with rfl | rfl | rfl
  · exact ⟨fun c => absurd rfl c, fun _ => h⟩
  · exact ⟨fun _ => ⟨fun c => absurd rfl c, fun _ => h⟩, fun c => absurd c (by decide)⟩
  · exact ⟨fun _ => ⟨fun _ => h, fun c => absurd c (by decide)⟩, fun c => absurd c (by decide)⟩
theorem k_third : ∀ q, q < 27 → ∀ s, s < 3 → (nI q / nI (3 ^ s)) - (nI q / nI (3 ^ s)) / 3 * 3 = nI (tq q s) := by decide +kernel
theorem n3n0 : ∀ s, s < 3 → ¬ nI (3 ^ s) = 0 := by decide +kernel
theorem n933 (i v j : Nat) : (9 : Int32) * nI i + 3 * nI v + nI j = nI (9 * i + (3 * v + j)) := by
  have a : (9 : Int32) * nI i = nI (9 * i) := pk_mul 9 i
  have b : (3 : Int32) * nI v = nI (3 * v) := pk_mul 3 v
  rw [a, b, nI_add, nI_add, Nat.add_assoc]
theorem isTurn_no {i v q : Nat} (h : Φ (some (.int 0)) (zSt k) M) : ∀ (c j : Nat), j + c = 3 → zW E m_Mo_isTurn 1 (zSt k) M 6 [some (.ref 83), some (.int (nI i)), some (.int (nI v)), some (.int (nI q)), some (.int 0), some (.int (nI j))] [] Φ
  | 0, j, hj => by
    have : j = 3 := by omega
    subst this
    exact vc_Mo_isTurn_6 E k M _ _ _ _ _ Φ ⟨fun _ => ⟨Or.inl rfl, h⟩, fun c => absurd (by decide) c⟩
  | c + 1, j, hj => by
    refine vc_Mo_isTurn_6 E k M _ _ _ _ _ Φ ⟨fun q => absurd q (nI_ge (b := 3) (by omega) (by decide)), fun _ => ⟨fun _ => ?_, fun q => absurd rfl q⟩⟩
    rintro _ rfl
    rw [nI_1]
    exact isTurn_no h c (j + 1) (by omega)
theorem isTurn_loop {i v q n : Nat} (hi : i < 150) (hv : v < 3) (hq : q < 27) (hM : ∀ s, s < 3 → M 98 (9 * i + (3 * v + s)) = nI (dg n s)) (h : Φ (some (.int (if iT n q = true then 1 else 0))) (zSt k) M) : ∀ (c j : Nat), j + c = 3 → (∀ s, s < j → dg n s = 7 → tq q s = 0) → zW E m_Mo_isTurn 1 (zSt k) M 6 [some (.ref 83), some (.int (nI i)), some (.int (nI v)), some (.int (nI q)), some (.int 1), some (.int (nI j))] [] Φ
  | 0, j, hj, hu => by
    have : j = 3 := by omega
    subst this
    rw [if_pos ((iT_spec n q).mpr hu)] at h
    exact vc_Mo_isTurn_6 E k M _ _ _ _ _ Φ ⟨fun _ => ⟨Or.inr rfl, h⟩, fun c => absurd (by decide) c⟩
  | c + 1, j, hj, hu => by
    have hj3 : j < 3 := by omega
    have b := dg_lt n j
    have e7 : M 98 (9 * i + (3 * v + j)) = 7 ↔ dg n j = 7 := by rw [hM j hj3]; exact nI_eq (b := 7) (by omega) (by decide)
    have nx : (dg n j = 7 → tq q j = 0) → zW E m_Mo_isTurn 1 (zSt k) M 6 [some (.ref 83), some (.int (nI i)), some (.int (nI v)), some (.int (nI q)), some (.int 1), some (.int (nI (j + 1)))] [] Φ := fun z => isTurn_loop hi hv hq hM h c (j + 1) (by omega) (fun s hs => by
      by_cases e : s = j
      · rw [e]; exact z
      · exact hu s (by omega))
    refine vc_Mo_isTurn_6 E k M _ _ _ _ _ Φ ?_
    rw [n933]
    refine ⟨fun q => absurd q (nI_ge (b := 3) (by omega) (by decide)), fun _ => ⟨fun q => absurd q (by decide), fun _ => ⟨_, by omega, rfl, ?_⟩⟩⟩
    rw [e7]
    refine ⟨fun z => ?_, fun z => third_ok hj3 ⟨_, rfl, rfl, n3n0 j hj3, ?_⟩⟩
    · rintro _ rfl
      rw [nI_1]
      exact nx (fun w => absurd w z)
    · rw [k_third q hq j hj3]
      have b2 := tq_lt q j
      have e0 : nI (tq q j) = 0 ↔ tq q j = 0 := nI_eq (b := 0) (by omega) (by decide)
      rw [e0]
      refine ⟨fun w => ?_, fun w => ?_⟩
      · rintro _ rfl
        rw [nI_1]
        rw [if_neg (fun y => w ((iT_spec n q).mp y j hj3 z))] at h
        exact isTurn_no h c (j + 1) (by omega)
      · rintro _ rfl
        rw [nI_1]
        exact nx (fun _ => w)
/-- the moves by which a variable begins with another symbol -/
def c1 (n v o : Nat) : List Nat := if o < 2 then [1000 + 100 * v] else (turnsOf n).map (fun q => 1000 + 100 * v + q)
theorem turns_len (n : Nat) : (turnsOf n).length ≤ 27 := by
  unfold turnsOf
  refine Nat.le_trans (List.length_filter_le _ _) ?_
  simp
theorem turns_s (n q : Nat) : ((List.range (q + 1)).filter (fun q => iT n q)) = ((List.range q).filter (fun q => iT n q)) ++ (if iT n q = true then [q] else []) := by
  rw [List.range_succ, List.filter_append]
  congr 1
  by_cases e : iT n q = true <;> simp [e]
theorem addBegins_loop {i v : Nat} {q : NR} {ms : List Nat} (hi : i < 150) (hv : v < 3) (hl : ms.length + 27 ≤ 60) {M0 : ZM} (hM : zRNd M0 i q) (hk : ∀ M', zMv M' (ms ++ c1 (t3 q.1.2 v) v 2) → zfq M0 M' [106] [27] → Φ none (zSt k) M') : ∀ (c j : Nat) (M : ZM), j + c = 27 → zMv M (ms ++ ((List.range j).filter (fun t => iT (t3 q.1.2 v) t)).map (fun t => 1000 + 100 * v + t)) → zfq M0 M [106] [27] → zW E m_Mo_addBegins 2 (zSt k) M 16 [some (.ref 83), some (.int (nI i)), some (.int (nI v)), none, some (.int (nI j))] [] Φ
  | 0, j, M, hj, hm, hf => by
    have : j = 27 := by omega
    subst this
    exact vc_Mo_addBegins_16 E k M _ _ _ Φ ⟨fun _ => hk M hm hf, fun c => absurd (by decide) c⟩
  | c + 1, j, M, hj, hm, hf => by
    have hlen : (((List.range j).filter (fun t => iT (t3 q.1.2 v) t)).map (fun t => 1000 + 100 * v + t)).length ≤ j := by
      rw [List.length_map]
      refine Nat.le_trans (List.length_filter_le _ _) ?_
      simp
    refine vc_Mo_addBegins_16 E k M _ _ _ Φ ⟨fun q => absurd q (nI_ge (b := 27) (by omega) (by decide)), fun _ => ?_⟩
    refine vc_Mo_isTurn_0 E k M _ _ _ _ (isTurn_loop hi hv (by omega) (n := t3 q.1.2 v) (fun s hs => by rw [hf.1 98 (by decide) (by decide)]; exact hM.2.1 v s hv hs) ⟨_, rfl, rfl, fun z => ?_, fun z => ?_⟩ 3 0 rfl (fun s hs => absurd hs (Nat.not_lt_zero _)))
    · have e : ¬ iT (t3 q.1.2 v) j = true := fun w => by rw [if_pos w] at z; exact absurd z (by decide)
      rintro _ rfl
      rw [nI_1]
      refine addBegins_loop hi hv hl hM hk c (j + 1) M (by omega) ?_ hf
      rw [turns_s, if_neg e, List.append_nil]
      exact hm
    · have e : iT (t3 q.1.2 v) j = true := by
        by_cases w : iT (t3 q.1.2 v) j = true
        · exact w
        · rw [if_neg w] at z; exact absurd rfl z
      refine addMove_ok (ki := 1) (by rw [List.length_append]; omega) hm (fun M1 z1 f1 => ⟨rfl, rfl, ?_⟩)
      rintro _ rfl
      rw [nI_1]
      refine addBegins_loop hi hv hl hM hk c (j + 1) M1 (by omega) ?_ (zfq_tr hf f1)
      rw [turns_s, if_pos e, List.map_append, ← List.append_assoc]
      exact z1
theorem addBegins_ok {i v o : Nat} {q : NR} {ms : List Nat} (hi : i < 150) (hv : v < 3) (ho : o < 5) (hl : ms.length + 27 ≤ 60) (hM : zRNd M i q) (hm : zMv M ms) (hk : ∀ M', zMv M' (ms ++ c1 (t3 q.1.2 v) v o) → zfq M M' [106] [27] → Φ none (zSt k) M') : zW E m_Mo_addBegins 2 (zSt k) M 0 [some (.ref 83), some (.int (nI i)), some (.int (nI v)), some (.int (nI o)), none] [] Φ := by
  have e2 : 2 ≤ nI o ↔ 2 ≤ o := nI_leI (a := 2) (by decide) (by omega)
  refine vc_Mo_addBegins_0 E k M _ _ _ Φ ?_
  rw [e2]
  refine ⟨fun c => ?_, fun c => ?_⟩
  · refine addBegins_loop hi hv hl hM (fun M' z f => hk M' ?_ f) 27 0 M rfl (by simpa using hm) (zfq_rfl _ _ _)
    have : c1 (t3 q.1.2 v) v o = c1 (t3 q.1.2 v) v 2 := by
      unfold c1
      rw [if_neg (by omega), if_neg (by omega)]
    rw [this]; exact z
  · refine addMove_ok (ki := 1) (t := 0) (by omega) hm (fun M1 z1 f1 => ⟨rfl, rfl, hk M1 ?_ f1⟩)
    unfold c1
    rw [if_pos (by omega)]
    exact z1
theorem c1_len (n v o : Nat) : (c1 n v o).length ≤ 27 := by
  unfold c1
  split
  · simp
  · rw [List.length_map]; exact turns_len n
theorem k0_fst (D : BD) (x : ND) (s : Nat) : (k0 D x s).map (fun m => m.1) = if 2 ≤ s then [100 * (s - 2)] else [] := by
  unfold k0
  by_cases c : 2 ≤ s
  · rw [if_pos c, if_pos c]; rfl
  · rw [if_neg c, if_neg c]; rfl
theorem k1_fst (D : BD) (g : Nat → Nat) (x : ND) (s o : Nat) : (k1 D g x s o).map (fun m => m.1) = if 2 ≤ s then c1 (t3 x.2 (s - 2)) (s - 2) o else [] := by
  unfold k1 c1
  by_cases c : 2 ≤ s
  · rw [if_pos c, if_pos c]
    by_cases c2 : o < 2
    · rw [if_pos c2, if_pos c2]; rfl
    · rw [if_neg c2, if_neg c2, List.map_map]; rfl
  · rw [if_neg c, if_neg c]; rfl
theorem findMoves_ok {i : Nat} {q : NR} {g : Nat → Nat} (hi : i < 150) (hq : okN q.1) (hM : zRNd M i q) (hk : ∀ M', zMv M' ((mvs D g q.1).map (fun m => m.1)) → zfq M M' [106] [27] → Φ none (zSt k) M') : zW E m_Mo_findMoves 3 (zSt k) M 0 [some (.ref 83), some (.int (nI i)), none, none] [] Φ := by
  refine vc_Mo_findMoves_0 E k M _ Φ ?_
  intro M1 g1
  have f1 : zfq M M1 [106] [27] := by rw [g1]; exact zfq_mq _ _ _ (by simp)
  have kp : ∀ {M' : ZM}, zfq M M' [106] [27] → zRNd M' i q := fun {M'} f => by
    unfold zRNd
    rw [f.1 96 (by decide) (by decide), f.1 97 (by decide) (by decide), f.1 98 (by decide) (by decide), f.1 99 (by decide) (by decide), f.1 100 (by decide) (by decide), f.1 101 (by decide) (by decide), f.1 102 (by decide) (by decide)]
    exact hM
  have hm1 : zMv M1 [] := ⟨by rw [g1, zms_s]; rfl, zSl_nil _ _⟩
  refine firstOf_ok (r := 0) hi (by decide) hq (kp f1) ⟨_, rfl, rfl, firstOf_ok (r := 1) hi (by decide) hq (kp f1) ⟨_, rfl, rfl, ?_⟩⟩
  have F : ∀ s, s < 5 → (nI s < 0) = False ∧ (nI s < 2 ↔ s < 2) := fun s hs => ⟨eq_false (nI_pos (by omega)), nI_ltI (b := 2) (by omega) (by decide)⟩
  have G : ((-6 : Int32) < 0) = True ∧ ((-6 : Int32) < 2) = True := ⟨eq_true (by decide), eq_true (by decide)⟩
  have S : ∀ s, 2 ≤ s → nI s - 2 = nI (s - 2) := fun s hs => pk_sub (b := 2) hs
  have hu5 : ∀ u, q.1.1.1.head? = some u → u < 5 := fun u h => hq.1.1 u (List.mem_of_mem_head? h)
  have hv5 : ∀ v, q.1.1.2.head? = some v → v < 5 := fun v h => hq.1.2.1 v (List.mem_of_mem_head? h)
  simp only [Nat.one_ne_zero, ↓reduceIte]
  unfold mvs at hk
  cases hu : q.1.1.1.head? with
  | none =>
    cases hv : q.1.1.2.head? with
    | none =>
      rw [hu, hv] at hk
      simp only [oN, G, true_implies, not_true_eq_false, false_implies, and_true]
      exact hk M1 hm1 f1
    | some v =>
      rw [hu, hv] at hk
      simp only [k0_fst] at hk
      have v5 := hv5 v hv
      by_cases c : v < 2
      · have c' : (nI v < 2) = True := eq_true ((F v v5).2.mpr c)
        simp only [oN, G, (F v v5).1, c', true_implies, not_true_eq_false, false_implies, and_true]
        rw [if_neg (by omega)] at hk
        exact hk M1 hm1 f1
      · have c' : (nI v < 2) = False := eq_false (fun z => c ((F v v5).2.mp z))
        simp only [oN, G, (F v v5).1, c', true_implies, not_true_eq_false, not_false_eq_true, false_implies, and_true, true_and]
        rw [if_pos (by omega)] at hk
        rw [S v (by omega)]
        refine addMove_ok (ki := 0) (t := 0) (by simp) hm1 (fun M2 z2 f2 => ⟨rfl, rfl, ?_⟩)
        refine hk M2 ?_ (zfq_tr f1 f2)
        simpa using z2
  | some u =>
    have u5 := hu5 u hu
    cases hv : q.1.1.2.head? with
    | none =>
      rw [hu, hv] at hk
      simp only [k0_fst] at hk
      by_cases c : u < 2
      · have c' : (nI u < 2) = True := eq_true ((F u u5).2.mpr c)
        simp only [oN, G, (F u u5).1, c', true_implies, not_true_eq_false, false_implies, and_true]
        rw [if_neg (by omega)] at hk
        exact hk M1 hm1 f1
      · have c' : (nI u < 2) = False := eq_false (fun z => c ((F u u5).2.mp z))
        simp only [oN, G, (F u u5).1, c', true_implies, not_true_eq_false, not_false_eq_true, false_implies, and_true, true_and]
        rw [if_pos (by omega)] at hk
        rw [S u (by omega)]
        refine addMove_ok (ki := 0) (t := 0) (by simp) hm1 (fun M2 z2 f2 => ⟨rfl, rfl, ?_⟩)
        refine hk M2 ?_ (zfq_tr f1 f2)
        simpa using z2
    | some v =>
      have v5 := hv5 v hv
      rw [hu, hv] at hk
      simp only [List.map_append, k0_fst, k1_fst] at hk
      by_cases c : u < 2
      · have c' : (nI u < 2) = True := eq_true ((F u u5).2.mpr c)
        by_cases d : v < 2
        · have d' : (nI v < 2) = True := eq_true ((F v v5).2.mpr d)
          simp only [oN, (F u u5).1, (F v v5).1, c', d', true_implies, not_true_eq_false, not_false_eq_true, false_implies, and_true, true_and]
          rw [if_neg (by omega), if_neg (by omega), if_neg (by omega), if_neg (by omega)] at hk
          exact hk M1 hm1 f1
        · have d' : (nI v < 2) = False := eq_false (fun z => d ((F v v5).2.mp z))
          simp only [oN, (F u u5).1, (F v v5).1, c', d', true_implies, not_true_eq_false, not_false_eq_true, false_implies, and_true, true_and]
          rw [if_neg (by omega), if_pos (by omega), if_neg (by omega), if_pos (by omega)] at hk
          rw [S v (by omega)]
          refine addMove_ok (ki := 0) (t := 0) (by simp) hm1 (fun M2 z2 f2 => ⟨rfl, rfl, ?_⟩)
          refine addBegins_ok hi (by omega) u5 (by simp) (kp (zfq_tr f1 f2)) z2 (fun M3 z3 f3 => ⟨rfl, rfl, ?_⟩)
          refine hk M3 ?_ (zfq_tr f1 (zfq_tr f2 f3))
          simpa using z3
      · have c' : (nI u < 2) = False := eq_false (fun z => c ((F u u5).2.mp z))
        by_cases d : v < 2
        · have d' : (nI v < 2) = True := eq_true ((F v v5).2.mpr d)
          simp only [oN, (F u u5).1, (F v v5).1, c', d', true_implies, not_true_eq_false, not_false_eq_true, false_implies, and_true, true_and]
          rw [if_pos (by omega), if_neg (by omega), if_pos (by omega), if_neg (by omega)] at hk
          rw [S u (by omega)]
          refine addMove_ok (ki := 0) (t := 0) (by simp) hm1 (fun M2 z2 f2 => ⟨rfl, rfl, ?_⟩)
          refine addBegins_ok hi (by omega) v5 (by simp) (kp (zfq_tr f1 f2)) z2 (fun M3 z3 f3 => ⟨rfl, rfl, ?_⟩)
          refine hk M3 ?_ (zfq_tr f1 (zfq_tr f2 f3))
          simpa using z3
        · have d' : (nI v < 2) = False := eq_false (fun z => d ((F v v5).2.mp z))
          simp only [oN, (F u u5).1, (F v v5).1, c', d', true_implies, not_true_eq_false, not_false_eq_true, false_implies, and_true, true_and]
          rw [if_pos (by omega), if_pos (by omega), if_pos (by omega), if_pos (by omega)] at hk
          rw [S u (by omega), S v (by omega)]
          refine addMove_ok (ki := 0) (t := 0) (by simp) hm1 (fun M2 z2 f2 => ⟨rfl, rfl, ?_⟩)
          refine addMove_ok (ki := 0) (t := 0) (by simp) z2 (fun M3 z3 f3 => ⟨rfl, rfl, ?_⟩)
          refine addBegins_ok hi (by omega) v5 (by simp) (kp (zfq_tr f1 (zfq_tr f2 f3))) z3 (fun M4 z4 f4 => ⟨rfl, rfl, ?_⟩)
          have hl4 := c1_len (t3 q.1.2 (u - 2)) (u - 2) v
          refine addBegins_ok hi (by omega) u5 (by simp; omega) (kp (zfq_tr f1 (zfq_tr f2 (zfq_tr f3 f4)))) z4 (fun M5 z5 f5 => ⟨rfl, rfl, ?_⟩)
          refine hk M5 ?_ (zfq_tr f1 (zfq_tr f2 (zfq_tr f3 (zfq_tr f4 f5))))
          simpa using z5
end REF5
