/-! the net in memory, and what the small methods of Net and Node do -/
def hshI (x : ND) : Int32 := (((Int32.toUInt32 (((rMark x.1.1 * 31 + rMark x.1.2) ^^^ (nI (pkn x.2) * 31)) * (-1640531535)) >>> (Int32.toUInt32 24 &&& Int32.toUInt32 31)).toInt32) &&& 255)
def hsh (x : ND) : Nat := (hshI x).toNatClampNeg
theorem hsh_ok (x : ND) : hsh x < 256 ∧ hshI x = nI (hsh x) := by
  obtain ⟨j, h1, h2⟩ := pk_andE (Int32.toUInt32 (((rMark x.1.1 * 31 + rMark x.1.2) ^^^ (nI (pkn x.2) * 31)) * (-1640531535)) >>> (Int32.toUInt32 24 &&& Int32.toUInt32 31)).toInt32 (m := 255) 8 (by decide)
  have e : hshI x = nI j := h2
  have e2 : hsh x = j := by
    unfold hsh
    rw [e, nI_clamp (by omega)]
  rw [e2]
  exact ⟨h1, e⟩
/-- the last node before n in a bucket -/
def prv (N : List NR) (b : Nat) : Nat → Option Nat
  | 0 => none
  | n + 1 => if hsh (nN N n).1 = b then some n else prv N b n
theorem prv_congr {N N' : List NR} {b : Nat} : ∀ {n : Nat}, (∀ e, e < n → (nN N' e).1 = (nN N e).1) → prv N' b n = prv N b n
  | 0, _ => rfl
  | n + 1, h => by
    unfold prv
    rw [h n (by omega), prv_congr (fun e he => h e (by omega))]
theorem prv_spec {N : List NR} {b : Nat} : ∀ {n : Nat}, (∀ e, prv N b n = some e → e < n ∧ hsh (nN N e).1 = b ∧ ∀ i, e < i → i < n → hsh (nN N i).1 ≠ b) ∧ (prv N b n = none → ∀ i, i < n → hsh (nN N i).1 ≠ b)
  | 0 => ⟨fun e h => by simp [prv] at h, fun _ i hi => absurd hi (Nat.not_lt_zero _)⟩
  | n + 1 => by
    obtain ⟨h1, h2⟩ := prv_spec (N := N) (b := b) (n := n)
    unfold prv
    by_cases c : hsh (nN N n).1 = b
    · rw [if_pos c]
      refine ⟨fun e h => ?_, fun h => by cases h⟩
      cases h
      exact ⟨by omega, c, fun i a1 a2 => absurd a1 (by omega)⟩
    · rw [if_neg c]
      refine ⟨fun e h => ?_, fun h i hi => ?_⟩
      · obtain ⟨a1, a2, a3⟩ := h1 e h
        refine ⟨by omega, a2, fun i b1 b2 => ?_⟩
        by_cases ei : i = n
        · rw [ei]; exact c
        · exact a3 i b1 (by omega)
      · by_cases ei : i = n
        · rw [ei]; exact c
        · exact h2 h i (by omega)
abbrev na (e : Nat) : Nat := 116 + 9 * e
def zNd (M : ZM) (p : Nat) (q : NR) (tl : List (Nat × Nat)) : Prop := zRN M (p + 1) q.1.1.1 ∧ zRN M (p + 3) q.1.1.2 ∧ M p 5 = nI (pkn q.1.2) ∧ M p 6 = nI q.2.1 ∧ M p 7 = oN (q.2.2.1.map (fun z => z.1)) ∧ M p 8 = oN (q.2.2.1.map (fun z => z.2)) ∧ M p 10 = (if q.2.2.2 = true then 1 else 0) ∧ zRN M (p + 5) (tl.map (fun z => z.1)) ∧ zRN M (p + 7) (tl.map (fun z => z.2))
theorem zNd_fi {M M' : ZM} {p lo n : Nat} {q : NR} {tl : List (Nat × Nat)} (h : zNd M p q tl) (hf : zfi M M' lo n) (h1 : p + 8 < lo ∨ lo + n ≤ p) : zNd M' p q tl := by
  obtain ⟨a1, a2, a3, a4, a5, a6, a7, a8, a9⟩ := h
  have e := hf p (by omega)
  exact ⟨zRN_fi a1 hf (by omega), zRN_fi a2 hf (by omega), by rw [e]; exact a3, by rw [e]; exact a4, by rw [e]; exact a5, by rw [e]; exact a6, by rw [e]; exact a7, zRN_fi a8 hf (by omega), zRN_fi a9 hf (by omega)⟩
/-- the net in memory: nodes, buckets, the row in which the nodes of a bucket hang -/
def zNt (k : Nat) (M : ZM) (N : List NR) (T : Nat → List (Nat × Nat)) : Prop :=
  (N.length ≤ k ∧ N.length ≤ 150 ∧ k ≤ 150) ∧ M 50 9 = nI N.length ∧ (∀ e, e < k → M (na e) 0 = nI e) ∧ (∀ e, e < N.length → okN (nN N e).1 ∧ zNd M (na e) (nN N e) (T e) ∧ M (na e) 9 = oN (prv N (hsh (nN N e).1) e)) ∧ (∀ b, b < 256 → M 52 b = oN (prv N b N.length)) ∧ (∀ i j, i < N.length → j < N.length → (nN N i).1 = (nN N j).1 → i = j)
/-- only these rows below the nodes may have changed, and no node -/
theorem zNt_keep {k : Nat} {M M' : ZM} {N : List NR} {T : Nat → List (Nat × Nat)} {A : List Nat} (h : zNt k M N T) (hf : zfr M M' A) (hA : ∀ p ∈ A, p < 116 ∧ p ≠ 52) (h9 : M' 50 9 = M 50 9) : zNt k M' N T := by
  obtain ⟨a1, a2, a3, a4, a5, a6⟩ := h
  have hn : ∀ p, 116 ≤ p → M' p = M p := fun p hp => hf p (fun q => by have := hA p q; omega)
  refine ⟨a1, by rw [h9]; exact a2, fun e he => by rw [hn _ (by show 116 ≤ 116 + 9 * e; omega)]; exact a3 e he, fun e he => ?_, fun b hb => ?_, a6⟩
  · obtain ⟨b1, b2, b3⟩ := a4 e he
    refine ⟨b1, ?_, by rw [hn _ (by show 116 ≤ 116 + 9 * e; omega)]; exact b3⟩
    have hz : zfi M M' 0 116 := fun p hp => hn p (by omega)
    exact zNd_fi b2 hz (by show _ ∨ 0 + 116 ≤ 116 + 9 * e; omega)
  · rw [hf 52 (fun q => (hA 52 q).2 rfl)]
    exact a5 b hb
section NETM
variable {E : ZE} {k : Nat} {M : ZM} {Φ : Option Value → ZS → ZM → Prop} {N : List NR} {T : Nat → List (Nat × Nat)}
theorem Net_at_ok {x : Int32} {n : Nat} (hn : n ≤ k ∧ n ≤ 150) (h9 : M 50 9 = nI n) (h0 : ¬ (0 ≤ x.toInt ∧ x.toInt < n) → Φ (some (va_rf none)) (zSt k) M) (h1 : ∀ j, j < n → x = nI j → Φ (some (va_rf (some (na j)))) (zSt k) M) : zW E m_Net_at 0 (zSt k) M 0 [some (.ref 50), some (.int x)] [] Φ := by
  refine vc_Net_at_0 E k M x Φ ?_
  rw [h9]
  refine ⟨fun c => h0 ?_, fun c => ⟨fun c2 => h0 ?_, fun c2 => ⟨fun c3 => ?_, fun c3 => ?_⟩⟩⟩
  · rw [Int32.lt_iff_toInt_lt, Int32.toInt_zero] at c
    omega
  · rw [Int32.le_iff_toInt_le, nI_toInt (by omega)] at c2
    omega
  · exfalso
    rw [Int32.le_iff_toInt_le, nI_toInt (by omega)] at c2
    rw [Int32.le_iff_toInt_le, (by decide : (150 : Int32).toInt = 150)] at c3
    omega
  · rw [Int32.lt_iff_toInt_lt, Int32.toInt_zero] at c
    rw [Int32.le_iff_toInt_le, nI_toInt (by omega)] at c2
    have e : x = nI x.toInt.toNat := by
      rw [iI_nat, Int.toNat_of_nonneg (by omega)]
      exact iI_of x
    refine ⟨x.toInt.toNat, by omega, e, fun c4 => ?_, fun b c4 => ?_⟩
    · rw [tP_get, if_pos (by omega)] at c4; cases c4
    · rw [tP_get, if_pos (by omega)] at c4
      cases c4
      exact ⟨tN (by omega), h1 _ (by omega) e⟩
theorem oN_rng {o : Option Nat} {n : Nat} (h : ∀ e, o = some e → e < n) (hn : n < 2 ^ 31) : (o = none → ¬ (0 ≤ (oN o).toInt ∧ (oN o).toInt < n)) ∧ ∀ j, j < n → oN o = nI j → o = some j := by
  refine ⟨fun e => ?_, fun j hj e => ?_⟩
  · rw [e]
    show ¬ (0 ≤ (-6 : Int32).toInt ∧ (-6 : Int32).toInt < n)
    rw [(by decide : (-6 : Int32).toInt = -6)]
    omega
  · cases o with
    | none => exact absurd e.symm (nI_ne6 (by omega))
    | some i =>
      have := h i rfl
      rw [(nI_eq (by omega) (by omega)).mp e]
theorem Net_bucketOf_ok {x : ND} (hm : M 50 8 = rMark x.1.1 * 31 + rMark x.1.2) (h : Φ (some (.int (nI (hsh x)))) (zSt k) M) : zW E m_Net_bucketOf 0 (zSt k) M 0 [some (.ref 50), some (.int (nI (pkn x.2))), none] [] Φ := by
  refine vc_Net_bucketOf_0 E k M _ Φ ?_
  rintro _ rfl
  rw [hm]
  rw [← (hsh_ok x).2] at h
  exact h
theorem Net_metBefore_loop {x : ND} (hN : zNt k M N T) (hx : okn x.2) (hr : zRN M 53 x.1.1) (hr2 : zRN M 55 x.1.2) (hl : x.1.1.length ≤ 48 ∧ x.1.2.length ≤ 48) (hs : (∀ s ∈ x.1.1, s < 5) ∧ ∀ s ∈ x.1.2, s < 5) (h0 : nfind N x = none → Φ (some (va_rf none)) (zSt k) M) (h1 : ∀ t, nfind N x = some t → Φ (some (va_rf (some (na t)))) (zSt k) M) :
    ∀ (n st : Nat), st + n ≤ 150 → n ≤ N.length → (∀ e, n ≤ e → e < N.length → (nN N e).1 ≠ x) → zW E m_Net_metBefore 1 (zSt k) M 16 [some (.ref 50), some (.int (nI (pkn x.2))), none, some (.int (oN (prv N (hsh x) n))), some (.int (nI st)), none] [] Φ := by
  obtain ⟨⟨a0, a1, a1'⟩, a2, a3, a4, a5, a6⟩ := hN
  intro n
  induction n using Nat.strongRecOn with
  | ind n ih =>
    intro st hst hn hno
    have hs5 : ∀ {l : List Nat}, (∀ s ∈ l, s < 5) → ∀ s ∈ l, s < 2 ^ 31 := fun h s hs => by have := h s hs; omega
    refine vc_Net_metBefore_16 E k M _ _ _ Φ ⟨fun c => ?_, fun _ => ?_⟩
    · have c : 150 ≤ st := (nI_leI (a := 150) (by decide) (by omega)).mp c
      have : n = 0 := by omega
      subst this
      refine h0 (fIx_none.mpr (fun i _ hi => ?_))
      simpa using hno i (by omega) (by omega)
    · obtain ⟨p1, p2⟩ := prv_spec (N := N) (b := hsh x) (n := n)
      obtain ⟨r1, r2⟩ := oN_rng (o := prv N (hsh x) n) (n := N.length) (fun e he => by have := (p1 e he).1; omega) (by omega)
      refine Net_at_ok ⟨a0, a1⟩ a2 (fun c => ⟨none, rfl, rfl, fun _ => ?_, fun b c => (by cases c)⟩) (fun j hj cj => ⟨some (na j), rfl, rfl, fun c => (by cases c), fun b c => ?_⟩)
      · have hnone : prv N (hsh x) n = none := by
          cases q : prv N (hsh x) n with
          | none => rfl
          | some e =>
            exfalso
            apply c
            rw [q]
            have := (p1 e q).1
            show 0 ≤ (nI e).toInt ∧ (nI e).toInt < N.length
            rw [nI_toInt (by omega)]
            omega
        refine h0 (fIx_none.mpr (fun i _ hi => ?_))
        by_cases ci : n ≤ i
        · simpa using hno i ci (by omega)
        · have := p2 hnone i (by omega)
          simp
          intro e
          rw [e] at this
          exact this rfl
      · cases c
        have hj' := r2 j hj cj
        obtain ⟨q1, q2, q3⟩ := p1 j hj'
        obtain ⟨o1, o2, o3⟩ := a4 j hj
        have hno' : (nN N j).1 ≠ x → ∀ e, j ≤ e → e < N.length → (nN N e).1 ≠ x := by
          intro hne e he1 he2
          by_cases e3 : e = j
          · rw [e3]; exact hne
          · by_cases e4 : n ≤ e
            · exact hno e e4 he2
            · intro e5
              exact q3 e (by omega) (by omega) (by rw [e5])
        have go : (nN N j).1 ≠ x → zW E m_Net_metBefore 1 (zSt k) M 16 [some (.ref 50), some (.int (nI (pkn x.2))), none, some (.int (M (na j) 9)), some (.int (nI st + 1)), none] [] Φ := by
          intro hne
          rw [o3, nI_1, q2]
          exact ih j q1 (st + 1) (by omega) (by omega) (hno' hne)
        refine ⟨tN (by omega), ?_⟩
        refine ⟨fun c2 => ?_, fun c2 => ?_⟩
        · rintro _ rfl _ rfl
          exact go (fun e => c2 (by rw [o2.2.2.1, e]))
        · have c2 : (nN N j).1.2 = x.2 := by
            rw [o2.2.2.1] at c2
            have := (nI_eq (by have := pkn_lt o1.1.2.2.1; omega) (by have := pkn_lt hx; omega)).mp c2
            exact pkn_inj o1.1.2.2.1 hx this
          refine Row_sameAs_ok (tN (by omega)).2.1.2 (ts_53 k) o2.1 hr o1.2.1 hl.1 (hs5 o1.1.1) (hs5 hs.1) (fun c3 => ⟨1, rfl, rfl, fun q => absurd q (by decide), fun _ => ?_⟩) (fun c3 => ⟨0, rfl, rfl, fun _ => ?_, fun q => absurd rfl q⟩)
          · refine Row_sameAs_ok (tN (by omega)).2.2.1.2 (ts_55 k) o2.2.1 hr2 o1.2.2 hl.2 (hs5 o1.1.2.1) (hs5 hs.2) (fun c4 => ⟨1, rfl, rfl, fun q => absurd q (by decide), fun _ => ?_⟩) (fun c4 => ⟨0, rfl, rfl, fun _ => ?_, fun q => absurd rfl q⟩)
            · have e : (nN N j).1 = x := Prod.ext (Prod.ext c3 c4) c2
              refine h1 j (fIx_at hj (by simpa using e) (fun i hi => ?_))
              simp
              intro e2
              have := a6 i j (by omega) hj (e2.trans e.symm)
              omega
            · rintro _ rfl _ rfl
              exact go (fun e => c4 (by rw [e]))
          · rintro _ rfl _ rfl
            exact go (fun e => c3 (by rw [e]))
theorem Net_metBefore_ok {x : ND} (hN : zNt k M N T) (hm : M 50 8 = rMark x.1.1 * 31 + rMark x.1.2) (hx : okn x.2) (hr : zRN M 53 x.1.1) (hr2 : zRN M 55 x.1.2) (hl : x.1.1.length ≤ 48 ∧ x.1.2.length ≤ 48) (hs : (∀ s ∈ x.1.1, s < 5) ∧ ∀ s ∈ x.1.2, s < 5) (h0 : nfind N x = none → Φ (some (va_rf none)) (zSt k) M) (h1 : ∀ t, nfind N x = some t → Φ (some (va_rf (some (na t)))) (zSt k) M) : zW E m_Net_metBefore 1 (zSt k) M 0 [some (.ref 50), some (.int (nI (pkn x.2))), none, none, none, none] [] Φ := by
  refine vc_Net_metBefore_0 E k M _ Φ (Net_bucketOf_ok hm ⟨_, rfl, rfl, hsh x, (hsh_ok x).1, rfl, ?_⟩)
  rintro _ rfl
  rw [hN.2.2.2.2.1 _ (hsh_ok x).1]
  exact Net_metBefore_loop hN hx hr hr2 hl hs h0 h1 N.length 0 (by have := hN.1; omega) (Nat.le_refl _) (fun e h1 h2 => absurd h1 (by omega))
theorem Net_makeLean_ok {l r : List Nat} (hl : zRN M 53 l) (hr : zRN M 55 r) (hll : l.length ≤ 48 ∧ r.length ≤ 48) (hs : (∀ s ∈ l, s < 5) ∧ ∀ s ∈ r, s < 5) (hk : ∀ M', zRN M' 53 (rLean (l, r)).1 → zRN M' 55 (rLean (l, r)).2 → M' 50 8 = rMark (rLean (l, r)).1 * 31 + rMark (rLean (l, r)).2 → (∀ j, j ≠ 8 → M' 50 j = M 50 j) → zfr M M' [50, 53, 54, 55, 56] → Φ none (zSt k) M') : zW E m_Net_makeLean 2 (zSt k) M 0 [some (.ref 50), none] [] Φ := by
  have hs5 : ∀ {l : List Nat}, (∀ s ∈ l, s < 5) → ∀ s ∈ l, s < 2 ^ 31 := fun h s hs => by have := h s hs; omega
  have hf := rFront_le l r
  have e1 : (l.drop (rFront l r)).length ≤ 48 := by rw [List.length_drop]; omega
  have e2 : (r.drop (rFront l r)).length ≤ 48 := by rw [List.length_drop]; omega
  refine vc_Net_makeLean_0 E k M Φ (Row_sameAtFront_ok (ts_53 k) (ts_55 k) hl hr hll.1 hll.2 (hs5 hs.1) (hs5 hs.2) ⟨_, rfl, rfl, ?_⟩)
  refine Row_dropFirst_ok (ts_53 k) hl hf.1 hll.1 (fun M1 x1 f1 => ⟨rfl, rfl, ?_⟩)
  refine Row_dropFirst_ok (ts_55 k) (zRN_keep hr f1 (by decide) (by decide)) hf.2 hll.2 (fun M2 x2 f2 => ⟨rfl, rfl, ?_⟩)
  have x1' := zRN_keep x1 f2 (by decide) (by decide)
  refine Row_mark_ok (ts_53 k) x1' e1 ⟨_, rfl, rfl, Row_mark_ok (ts_55 k) x2 e2 ⟨_, rfl, rfl, ?_⟩⟩
  rintro _ rfl
  have f12 : zfr M M2 [53, 54, 55, 56] := zfr_tr (zfr_mono f1 (by simp)) (zfr_mono f2 (by simp))
  refine hk _ (zRN_fr x1' (zms_ne _ _ _ (by decide)) (zms_ne _ _ _ (by decide))) (zRN_fr x2 (zms_ne _ _ _ (by decide)) (zms_ne _ _ _ (by decide))) (zms_s _ _ _ _) (fun j hj => ?_) (zfr_tr (zfr_mono f12 (by simp)) (zfr_ms _ _ _ _ (by simp)))
  rw [zms_k _ _ hj, f12 50 (by decide)]
theorem Net_addDraft_ok {a c : Nat} {ds cs : List Nat} (hd : zRN M 57 ds) (hc : zRN M 59 cs) (hl : ds.length < 27 ∧ cs.length < 27) (hk : ∀ M', zRN M' 57 (ds ++ [a]) → zRN M' 59 (cs ++ [c]) → zfr M M' [57, 58, 59, 60] → Φ none (zSt k) M') : zW E m_Net_addDraft 1 (zSt k) M 0 [some (.ref 50), some (.int (nI a)), some (.int (nI c))] [] Φ := by
  refine vc_Net_addDraft_0 E k M _ _ Φ (Row_push_ok (ts_57 k) hd (by omega) (fun _ M1 x1 f1 => ⟨1, rfl, rfl, ?_⟩) (fun q => absurd q (by omega)))
  refine Row_push_ok (ts_59 k) (zRN_keep hc f1 (by decide) (by decide)) (by omega) (fun _ M2 x2 f2 => ⟨1, rfl, rfl, ?_⟩) (fun q => absurd q (by omega))
  exact hk M2 (zRN_keep x1 f2 (by decide) (by decide)) x2 (zfr_tr (zfr_mono f1 (by simp)) (zfr_mono f2 (by simp)))
end NETM
