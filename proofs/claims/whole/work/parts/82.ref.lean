/-! the reference: what always holds of it -/
def zSl (f : Nat → Int32) (o : Nat) (xs : List Nat) : Prop := ∀ i, i < xs.length → f (o + i) = nI (xs.getD i 0)
def zRB (R RM G W O OM : Nat → Int32) (B : AB) : Prop := ((RM 0 = nI B.1.1.length ∧ zSl R 0 B.1.1) ∧ (RM 1 = nI B.1.2.length ∧ zSl R 12 B.1.2)) ∧ (∀ i, i < 6 → G i = nI (B.2.1 i)) ∧ (∀ v s, v < 3 → s < 3 → W (3 * v + s) = nI (dg (t3 B.2.2.1 v) s)) ∧ ∀ v, v < 3 → OM v = nI (l3 B.2.2.2 v).length ∧ zSl O (12 * v) (l3 B.2.2.2 v)
/-- all that is kept of it in an image is so many numbers of each row -/
theorem zRB_congr {R RM G W O OM R' RM' G' W' O' OM' : Nat → Int32} {B : AB} (hB : okB B) (h : zRB R RM G W O OM B) (h1 : ∀ i, i < 24 → R' i = R i) (h2 : ∀ i, i < 2 → RM' i = RM i) (h3 : ∀ i, i < 6 → G' i = G i) (h4 : ∀ i, i < 9 → W' i = W i) (h5 : ∀ i, i < 36 → O' i = O i) (h6 : ∀ i, i < 3 → OM' i = OM i) : zRB R' RM' G' W' O' OM' B := by
  obtain ⟨⟨⟨a1, a2⟩, ⟨a3, a4⟩⟩, a5, a6, a7⟩ := h
  have l1 := hB.1.1
  have l2 := hB.2.1.1
  refine ⟨⟨⟨by rw [h2 0 (by decide)]; exact a1, fun i hi => by rw [h1 _ (by omega)]; exact a2 i hi⟩, ⟨by rw [h2 1 (by decide)]; exact a3, fun i hi => by rw [h1 _ (by omega)]; exact a4 i hi⟩⟩, fun i hi => by rw [h3 i hi]; exact a5 i hi, fun v s hv hs => by rw [h4 _ (by omega)]; exact a6 v s hv hs, fun v hv => ⟨by rw [h6 v hv]; exact (a7 v hv).1, fun i hi => ?_⟩⟩
  have := (hB.2.2.2.2 v hv).1
  rw [h5 _ (by omega)]
  exact (a7 v hv).2 i hi
def zRIm (M : ZM) (j : Nat) (o : Option AB) : Prop := (o = none → M 115 j = 0) ∧ ∀ B, o = some B → M 115 j = 1 ∧ zRB (fun i => M 114 (90 * j + i)) (fun i => M 114 (90 * j + 24 + i)) (fun i => M 114 (90 * j + 26 + i)) (fun i => M 114 (90 * j + 32 + i)) (fun i => M 114 (90 * j + 41 + i)) (fun i => M 114 (90 * j + 77 + i)) B
/-- a word's letters as bits -/
def wbt (w : List Nat) : Nat := w.foldr (fun b a => b + 2 * a) 0
def zRD (M : ZM) (D : BD) : Prop := M 83 13 = nI D.length ∧ ∀ e, e < D.length → (∀ s, s < 3 → M 93 (3 * e + s) = nI (t3 (dT D e) s)) ∧ M 94 e = nI (wbt (dW D e)) ∧ M 95 e = nI (dW D e).length
def zRNd (M : ZM) (i : Nat) (q : NR) : Prop := ((M 97 (2 * i) = nI q.1.1.1.length ∧ zSl (M 96) (48 * i) q.1.1.1) ∧ (M 97 (2 * i + 1) = nI q.1.1.2.length ∧ zSl (M 96) (48 * i + 24) q.1.1.2)) ∧ (∀ v s, v < 3 → s < 3 → M 98 (9 * i + (3 * v + s)) = nI (dg (t3 q.1.2 v) s)) ∧ (M 99 i = nI q.2.1 ∧ M 100 i = oN (q.2.2.1.map (fun z => z.1)) ∧ M 101 i = oN (q.2.2.1.map (fun z => z.2))) ∧ M 102 i = (if q.2.2.2 = true then 1 else 0)
def zRT (M : ZM) (N : List NR) : Prop := M 83 21 = nI N.length ∧ ∀ e, e < N.length → zRNd M e (nN N e)
def zRP (M : ZM) (a : AS) : Prop := (M 83 7 = nI a.1.length ∧ zSl (M 90) 0 a.1) ∧ zRB (M 84) (M 85) (M 86) (M 87) (M 88) (M 89) a.2.1 ∧ zRIm M 0 a.2.2.1 ∧ zRIm M 1 a.2.2.2
def zRW (B : AB) (M : ZM) : Prop := zRD M (bfs B.2.1) ∧ zRT M (netOf B)
def zRS (B : AB) (M : ZM) : Prop := M 83 22 = 0 ∨ (M 83 22 = 1 ∧ zRW B M)
def zRI (M : ZM) (a : AS) : Prop := okS a ∧ zRP M a ∧ zRS a.2.1 M
/-- the class's rows stay -/
def zMh (M M' : ZM) : Prop := ∀ p, p < 83 ∨ 116 ≤ p → M' p = M p
theorem zMh_rfl (M : ZM) : zMh M M := fun _ _ => rfl
theorem zMh_tr {M M1 M2 : ZM} (h1 : zMh M M1) (h2 : zMh M1 M2) : zMh M M2 := fun p a => (h2 p a).trans (h1 p a)
/-- only these rows have changed, and these fields of the reference -/
def zfq (M M' : ZM) (A Q : List Nat) : Prop := (∀ p, p ≠ 83 → p ∉ A → M' p = M p) ∧ ∀ q, q ∉ Q → M' 83 q = M 83 q
section REF
variable {E : ZE} {k : Nat} {M M' M1 M2 : ZM} {Φ : Option Value → ZS → ZM → Prop} {A A' Q Q' : List Nat}
theorem zfq_rfl (M : ZM) (A Q : List Nat) : zfq M M A Q := ⟨fun _ _ _ => rfl, fun _ _ => rfl⟩
theorem zfq_tr (h1 : zfq M M1 A Q) (h2 : zfq M1 M2 A Q) : zfq M M2 A Q := ⟨fun p a b => (h2.1 p a b).trans (h1.1 p a b), fun q a => (h2.2 q a).trans (h1.2 q a)⟩
theorem zfq_mono (h : zfq M M1 A Q) (hA : ∀ p ∈ A, p ∈ A') (hQ : ∀ p ∈ Q, p ∈ Q') : zfq M M1 A' Q' := ⟨fun p a b => h.1 p a (fun q => b (hA p q)), fun q a => h.2 q (fun c => a (hQ q c))⟩
theorem zfq_ms (M : ZM) {a : Nat} (i : Nat) (v : Int32) (h : a ∈ A) (h83 : a ≠ 83) : zfq M (zms M a i v) A Q := ⟨fun p _ b => zms_ne M i v (fun e => b (e ▸ h)), fun q _ => zms_n M v (fun e => h83 e.1.symm)⟩
theorem zfq_mq (M : ZM) (i : Nat) (v : Int32) (h : i ∈ Q) : zfq M (zms M 83 i v) A Q := ⟨fun p a _ => zms_ne M i v a, fun q b => zms_n M v (fun e => b (e.2 ▸ h))⟩
theorem zfq_Mh (h : zfq M M' A Q) (hA : ∀ p ∈ A, 83 ≤ p ∧ p < 116) : zMh M M' := fun p hp => h.1 p (by omega) (fun q => by have := hA p q; omega)
theorem zRIm_keep {j : Nat} {o : Option AB} (h : zRIm M j o) (h1 : M' 114 = M 114) (h2 : M' 115 = M 115) : zRIm M' j o := by
  unfold zRIm
  rw [h1, h2]
  exact h
theorem zRD_keep {D : BD} (h : zRD M D) (f : zfq M M' A Q) (hA : ∀ p ∈ A, p < 93 ∨ 95 < p) (hQ : 13 ∉ Q) : zRD M' D := by
  have q : ∀ p, 93 ≤ p → p ≤ 95 → M' p = M p := fun p h1 h2 => f.1 p (by omega) (fun c => by have := hA p c; omega)
  unfold zRD
  rw [f.2 13 hQ, q 93 (by decide) (by decide), q 94 (by decide) (by decide), q 95 (by decide) (by decide)]
  exact h
theorem zRT_keep {N : List NR} (h : zRT M N) (f : zfq M M' A Q) (hA : ∀ p ∈ A, p < 96 ∨ 102 < p) (hQ : 21 ∉ Q) : zRT M' N := by
  have q : ∀ p, 96 ≤ p → p ≤ 102 → M' p = M p := fun p h1 h2 => f.1 p (by omega) (fun c => by have := hA p c; omega)
  unfold zRT zRNd
  rw [f.2 21 hQ, q 96 (by decide) (by decide), q 97 (by decide) (by decide), q 98 (by decide) (by decide), q 99 (by decide) (by decide), q 100 (by decide) (by decide), q 101 (by decide) (by decide), q 102 (by decide) (by decide)]
  exact h
theorem zRP_keep {a : AS} (h : zRP M a) (f : zfq M M' A Q) (hA : ∀ p ∈ A, p < 84 ∨ (90 < p ∧ p < 114) ∨ 115 < p) (hQ : 7 ∉ Q) : zRP M' a := by
  have q : ∀ p, (84 ≤ p ∧ p ≤ 90) ∨ p = 114 ∨ p = 115 → M' p = M p := fun p h1 => f.1 p (by omega) (fun c => by have := hA p c; omega)
  unfold zRP
  rw [f.2 7 hQ, q 84 (by omega), q 85 (by omega), q 86 (by omega), q 87 (by omega), q 88 (by omega), q 89 (by omega), q 90 (by omega)]
  exact ⟨h.1, h.2.1, zRIm_keep h.2.2.1 (q 114 (by omega)) (q 115 (by omega)), zRIm_keep h.2.2.2 (q 114 (by omega)) (q 115 (by omega))⟩
theorem zRS_keep {B : AB} (h : zRS B M) (f : zfq M M' A Q) (hA : ∀ p ∈ A, p < 93 ∨ 102 < p) (hQ : ∀ p ∈ Q, p ≠ 13 ∧ p ≠ 21 ∧ p ≠ 22) : zRS B M' := by
  have e := f.2 22 (fun c => (hQ 22 c).2.2 rfl)
  rcases h with h | ⟨h1, h2, h3⟩
  · exact Or.inl (by rw [e]; exact h)
  · exact Or.inr ⟨by rw [e]; exact h1, zRD_keep h2 f (fun p hp => by have := hA p hp; omega) (fun c => (hQ 13 c).1 rfl), zRT_keep h3 f (fun p hp => by have := hA p hp; omega) (fun c => (hQ 21 c).2.1 rfl)⟩
theorem zRI_keep {a : AS} (h : zRI M a) (f : zfq M M' A Q) (hA : ∀ p ∈ A, p < 84 ∨ (90 < p ∧ p < 93) ∨ (102 < p ∧ p < 114) ∨ 115 < p) (hQ : ∀ p ∈ Q, p ≠ 7 ∧ p ≠ 13 ∧ p ≠ 21 ∧ p ≠ 22) : zRI M' a :=
  ⟨h.1, zRP_keep h.2.1 f (fun p hp => by have := hA p hp; omega) (fun c => (hQ 7 c).1 rfl), zRS_keep h.2.2 f (fun p hp => by have := hA p hp; omega) (fun p hp => (hQ p hp).2)⟩
/-! small methods -/
theorem inN_both (n : Nat) (x : Int32) : (∃ v, v < n ∧ x = nI v ∧ inN n x = some v ∧ (0 ≤ x.toInt ∧ x.toInt ≤ (n : Int) - 1)) ∨ (inN n x = none ∧ ¬ (0 ≤ x.toInt ∧ x.toInt ≤ (n : Int) - 1)) := by
  unfold inN
  by_cases c : 0 ≤ x.toInt ∧ x.toInt < n
  · obtain ⟨v, hv⟩ : ∃ v : Nat, x.toInt.toNat = v := ⟨_, rfl⟩
    refine Or.inl ⟨v, by omega, ?_, by rw [if_pos c, hv], by omega⟩
    rw [iI_nat, ← hv, Int.toNat_of_nonneg (by omega)]
    exact iI_of x
  · exact Or.inr ⟨by rw [if_neg c], by omega⟩
theorem Mo_inN_ok {x : Int32} {b : Int64} {n : Nat} (eb : b.toInt = (n : Int) - 1) (h1 : ∀ v, v < n → x = nI v → inN n x = some v → Φ (some (.int 1)) (zSt k) M) (h0 : inN n x = none → Φ (some (.int 0)) (zSt k) M) : zW E m_Mo_in 0 (zSt k) M 0 [some (.long (Int32.toInt64 x)), none, some (.long 0), none, some (.long b), none] [] Φ := by
  rcases inN_both n x with ⟨v, a1, a2, a3, a4⟩ | ⟨a1, a2⟩
  · exact Mo_in_ok (l := 0) (h := (n : Int) - 1) (by decide) eb (fun _ => h1 v a1 a2 a3) (fun c => absurd a4 c)
  · exact Mo_in_ok (l := 0) (h := (n : Int) - 1) (by decide) eb (fun c => absurd c a2) (fun _ => h0 a1)
theorem Mo_isThird_ok {x : Int32} (h1 : ∀ v, v < 3 → x = nI v → inN 3 x = some v → Φ (some (.int 1)) (zSt k) M) (h0 : inN 3 x = none → Φ (some (.int 0)) (zSt k) M) : zW E m_Mo_isThird 1 (zSt k) M 0 [some (.int x)] [] Φ :=
  vc_Mo_isThird_0 E k M x Φ (Mo_inN_ok (n := 3) (by decide) (fun v a b c => ⟨1, rfl, rfl, Or.inr rfl, h1 v a b c⟩) (fun c => ⟨0, rfl, rfl, Or.inl rfl, h0 c⟩))
theorem k_has : ∀ n, n < 8 → ∀ s, s < 3 → ((((nI n : Int32) >>> (nI s &&& 31)) &&& 1) = 1 ↔ n.testBit s = true) := by decide +kernel
theorem Mo_has_ok {n s : Nat} (hn : n < 8) (hs : s < 3) (h : Φ (some (.int (if n.testBit s = true then 1 else 0))) (zSt k) M) : zW E m_Mo_has 0 (zSt k) M 0 [some (.int (nI n)), some (.int (nI s))] [] Φ := by
  refine vc_Mo_has_0 E k M _ _ Φ ?_
  rw [k_has n hn s hs]
  refine ⟨fun c => ?_, fun c => ?_⟩
  · rw [if_neg c] at h; exact h
  · rw [if_pos c] at h; exact h
theorem Mo_symbolOf_ok {c : Nat} (hc : c < 1000) (hk : Φ (some (.int (oN (symN c)))) (zSt k) M) : zW E m_Mo_symbolOf 1 (zSt k) M 0 [some (.int (nI c))] [] Φ := by
  unfold symN at hk
  refine vc_Mo_symbolOf_0 E k M _ Φ (Mo_in_ok (l := 97) (h := 98) (by decide) (by decide) (fun h => ⟨1, rfl, rfl, fun q => absurd q (by decide), fun _ => ?_⟩) (fun h => ⟨0, rfl, rfl, fun _ => ?_, fun q => absurd rfl q⟩))
  · rw [nI_toInt (by omega)] at h
    rcases (show c = 97 ∨ c = 98 by omega) with e | e
    · subst e; exact hk
    · subst e; exact hk
  · rw [nI_toInt (by omega)] at h
    rw [if_neg (by omega), if_neg (by omega)] at hk
    refine Mo_in_ok (l := 120) (h := 122) (by decide) (by decide) (fun h2 => ⟨1, rfl, rfl, fun q => absurd q (by decide), fun _ => ?_⟩) (fun h2 => ⟨0, rfl, rfl, fun _ => ?_, fun q => absurd rfl q⟩)
    · rw [nI_toInt (by omega)] at h2
      rw [if_pos (by omega)] at hk
      rw [show nI c - 120 = nI (c - 120) from pk_sub (b := 120) (by omega), show nI (c - 120) + 2 = nI (c - 120 + 2) from nI_addN _ 2, show c - 120 + 2 = c - 118 by omega]
      exact hk
    · rw [nI_toInt (by omega)] at h2
      rw [if_neg (by omega)] at hk
      exact hk
theorem zSl_snoc {f f' : Nat → Int32} {o v : Nat} {xs : List Nat} (h : zSl f o xs) (h1 : ∀ i, i < xs.length → f' (o + i) = f (o + i)) (h2 : f' (o + xs.length) = nI v) : zSl f' o (xs ++ [v]) := by
  intro i hi
  rw [List.length_append, List.length_singleton] at hi
  by_cases e : i < xs.length
  · rw [h1 i e, getD_app_l e]; exact h i e
  · have : i = xs.length := by omega
    subst this
    rw [h2]
    have := getD_app_r (xs := xs) (ys := [v]) (i := 0)
    rw [Nat.add_zero] at this
    rw [this]
    rfl
theorem zSl_nil (f : Nat → Int32) (o : Nat) : zSl f o [] := fun i hi => absurd hi (Nat.not_lt_zero _)
theorem zSl_congr {f f' : Nat → Int32} {o : Nat} {xs : List Nat} (h : zSl f o xs) (h1 : ∀ i, i < xs.length → f' (o + i) = f (o + i)) : zSl f' o xs := fun i hi => by rw [h1 i hi]; exact h i hi
theorem Mo_say_ok {a : AS} {x : Int32} (h : zRI M a) (hk : ∀ M', zRI M' (aSay a x).2 → zMh M M' → Φ (some (.int (aSay a x).1)) (zSt k) M') : zW E m_Mo_say 1 (zSt k) M 0 [some (.ref 83), some (.int x)] [] Φ := by
  unfold aSay at hk
  have hl := h.1.1.1
  obtain ⟨c1, ⟨⟨c2, c3⟩, c4⟩, c5⟩ := h
  have h : zRI M a := ⟨c1, ⟨⟨c2, c3⟩, c4⟩, c5⟩
  have e40 : M 83 7 = 40 ↔ a.1.length = 40 := by rw [c2]; exact nI_eq (b := 40) (by omega) (by decide)
  refine vc_Mo_say_0 E k M x Φ (Mo_in_ok (l := 33) (h := 126) (by decide) (by decide) (fun c => ⟨1, rfl, rfl, fun _ => ⟨fun c6 => ?_, fun c6 => ?_⟩, fun q => absurd q (by decide)⟩) (fun c => ⟨0, rfl, rfl, fun q => absurd rfl q, fun _ => ?_⟩))
  · rw [if_pos c] at hk
    rw [e40] at c6
    rw [if_pos (by omega)] at hk
    refine ⟨a.1.length, by omega, c2, ?_⟩
    rintro _ rfl _ rfl
    have e7 : zms (zms M 90 a.1.length x) 83 7 (zms M 90 a.1.length x 83 7 + 1) 83 7 = nI (a.1.length + 1) := by
      rw [zms_s, zms_n _ _ (by omega), c2, nI_1]
    obtain ⟨v, hv⟩ : ∃ v : Nat, x.toInt.toNat = v := ⟨_, rfl⟩
    have ex : x = nI v := by
      rw [iI_nat, ← hv, Int.toNat_of_nonneg (by omega)]
      exact iI_of x
    rw [hv] at hk
    have f : zfq M (zms (zms M 90 a.1.length x) 83 7 (zms M 90 a.1.length x 83 7 + 1)) [90] [7] := zfq_tr (zfq_ms _ _ _ (by simp) (by decide)) (zfq_mq _ _ _ (by simp))
    rw [e7]
    refine hk _ ⟨⟨⟨by simp; omega, fun s hs => ?_⟩, c1.2⟩, ⟨⟨by rw [e7]; simp, ?_⟩, ?_⟩, zRS_keep c5 f (by simp) (by simp)⟩ (zfq_Mh f (by simp))
    · rcases List.mem_append.mp hs with q | q
      · exact c1.1.2 s q
      · rw [List.mem_singleton.mp q]; omega
    · refine zSl_snoc c3 (fun i hi => ?_) ?_
      · rw [zms_n _ _ (by omega), zms_n _ _ (by omega)]
      · rw [zms_n _ _ (by omega), Nat.zero_add, zms_s, ex]
    · exact ⟨by rw [f.1 84 (by decide) (by decide), f.1 85 (by decide) (by decide), f.1 86 (by decide) (by decide), f.1 87 (by decide) (by decide), f.1 88 (by decide) (by decide), f.1 89 (by decide) (by decide)]; exact c4.1, zRIm_keep c4.2.1 (f.1 _ (by decide) (by decide)) (f.1 _ (by decide) (by decide)), zRIm_keep c4.2.2 (f.1 _ (by decide) (by decide)) (f.1 _ (by decide) (by decide))⟩
  · rw [if_pos c] at hk
    rw [e40] at c6
    rw [if_neg (by omega)] at hk
    exact hk M h (zMh_rfl _)
  · rw [if_neg c] at hk
    exact hk M h (zMh_rfl _)
theorem Mo_wipe_ok {a : AS} (h : zRI M a) (hk : ∀ M', zRI M' (aWipe a).2 → zMh M M' → Φ (some (.int (aWipe a).1)) (zSt k) M') : zW E m_Mo_wipe 0 (zSt k) M 0 [some (.ref 83), none] [] Φ := by
  refine vc_Mo_wipe_0 E k M Φ ?_
  rintro _ rfl _ rfl
  obtain ⟨c1, ⟨⟨c2, c3⟩, c4⟩, c5⟩ := h
  have f : zfq M (zms M 83 7 0) [] [7] := zfq_mq _ _ _ (by simp)
  rw [c2]
  refine hk _ ⟨⟨⟨Nat.zero_le _, fun s hs => by cases hs⟩, c1.2⟩, ⟨⟨by rw [zms_s]; rfl, zSl_nil _ _⟩, ?_⟩, zRS_keep c5 f (by simp) (by simp)⟩ (zfq_Mh f (by simp))
  exact ⟨by rw [f.1 84 (by decide) (by decide), f.1 85 (by decide) (by decide), f.1 86 (by decide) (by decide), f.1 87 (by decide) (by decide), f.1 88 (by decide) (by decide), f.1 89 (by decide) (by decide)]; exact c4.1, zRIm_keep c4.2.1 (f.1 _ (by decide) (by decide)) (f.1 _ (by decide) (by decide)), zRIm_keep c4.2.2 (f.1 _ (by decide) (by decide)) (f.1 _ (by decide) (by decide))⟩
end REF
