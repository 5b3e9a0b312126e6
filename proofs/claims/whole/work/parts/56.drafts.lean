/-! drafts made and settled -/
theorem rLean_48 {l r : List Nat} (h1 : l.length ≤ 48) (h2 : r.length ≤ 48) : (rLean (l, r)).1.length ≤ 48 ∧ (rLean (l, r)).2.length ≤ 48 := by
  unfold rLean
  constructor
  · show (List.drop _ l).length ≤ 48
    rw [List.length_drop]
    omega
  · show (List.drop _ r).length ≤ 48
    rw [List.length_drop]
    omega
theorem nstep_len (i : Nat) (s : List NR × List (Nat × Nat)) (m : MR) : (nstep i s m).2.length ≤ s.2.length + 1 := by
  unfold nstep
  split
  · omega
  · exact Nat.le_succ _
  · split
    · simp
    · split
      · simp
      · exact Nat.le_succ _
section DRAFTS
variable {E : ZE} {k : Nat} {M : ZM} {Φ : Option Value → ZS → ZM → Prop} {N : List NR} {T : Nat → List (Nat × Nat)} {D : BD} {p : List Nat × List Nat} {ds : List (T3 × Nat)} {i : Nat}
theorem H_in3 {x : Int32} : (x < 0 ∨ 3 ≤ x) ∨ ∃ v, v < 3 ∧ x = nI v := by
  by_cases c : x < 0
  · exact Or.inl (Or.inl c)
  · by_cases c2 : 3 ≤ x
    · exact Or.inl (Or.inr c2)
    · rw [Int32.lt_iff_toInt_lt, Int32.toInt_zero] at c
      rw [Int32.le_iff_toInt_le, (by decide : (3 : Int32).toInt = 3)] at c2
      obtain ⟨j, h1, h2⟩ := nI_of_rng (x := x) (by omega)
      rw [h2, nI_toInt (by omega)] at c2
      exact Or.inr ⟨j, by omega, h2⟩
theorem H_isVariable_ok {x : Int32} (h1 : ∀ v, v < 3 → x = nI v → Φ (some (.int 1)) (zSt k) M) (h0 : (x < 0 ∨ 3 ≤ x) → Φ (some (.int 0)) (zSt k) M) : zW E m_H_isVariable 0 (zSt k) M 0 [some (.int x)] [] Φ := by
  refine vc_H_isVariable_0 E k M x Φ ⟨fun c => h0 (Or.inl c), fun c => ⟨fun c2 => h0 (Or.inr c2), fun c2 => ?_⟩⟩
  rcases H_in3 (x := x) with (h | h) | ⟨v, h, e⟩
  · exact absurd h c
  · exact absurd h c2
  · exact h1 v h e
theorem sub2_hi {s : Nat} (h : 2 ≤ s) (h5 : s < 5) : nI s - 2 = nI (s - 2) := by
  rcases (show s = 2 ∨ s = 3 ∨ s = 4 by omega) with rfl | rfl | rfl <;> decide
theorem sub2_no {s : Nat} (h : s < 2) : ∀ v, v < 3 → nI s - 2 ≠ nI v := by
  rcases (show s = 0 ∨ s = 1 by omega) with rfl | rfl <;> decide
theorem sub2_6 : ∀ v, v < 3 → (-6 : Int32) - 2 ≠ nI v := by decide
/-- the drafts in memory -/
def zDr (M : ZM) (p : List Nat × List Nat) (ds : List (T3 × Nat)) : Prop := (zRN M 53 p.1 ∧ zRN M 55 p.2) ∧ (zRN M 57 (ds.map (fun d => pkn d.1)) ∧ zRN M 59 (ds.map (fun d => d.2))) ∧ ds.length ≤ 27 ∧ (ds ≠ [] → M 50 8 = rMark p.1 * 31 + rMark p.2 ∧ (∀ n, okn n → okx (p, n)) ∧ (p.1.length ≤ 48 ∧ p.2.length ≤ 48) ∧ ∀ d ∈ ds, okn d.1 ∧ d.2 < 2000)
theorem settle_end {j : Nat} {x : Int32} (hN : zNt k M N T) (hI : nInv N) (hi : i < N.length) (hS : zSh M D ∧ zFit M D) (h57 : zRN M 57 (ds.map (fun d => pkn d.1))) (hdl : ds.length ≤ 27) (hj : ds.length ≤ j) (hj2 : j < 100)
    (hk : ∀ k' M' N' T', zGrow D i k N T k' M' N' T' → (N', T' i) = (N, T i) → (∀ j, j ≠ 9 → M' 50 j = M 50 j) → (zRN M' 57 [] ∧ zRN M' 59 []) → zfb M M' [49, 50, 52, 57, 59] → Φ none (zSt k') M') : zW E m_Net_settleDrafts 4 (zSt k) M 32 [some (.ref 50), some (.ref (na i)), some (.int x), some (.int (nI j)), none, none] [] Φ := by
  have hb := hN.1
  refine vc_Net_settleDrafts_32 E k M (na i) _ _ Φ (tN (by omega)) ?_
  refine Row_size_ok (ts_57 k) h57 ⟨_, rfl, rfl, fun _ => ?_, fun c => ?_⟩
  · refine Row_makeEmpty_ok (ts_57 k) (fun M3 x3 f3 => ⟨rfl, rfl, ?_⟩)
    refine Row_makeEmpty_ok (ts_59 k) (fun M4 x4 f4 => ⟨rfl, rfl, ?_⟩)
    have f : zfr M M4 [57, 59] := zfr_tr (zfr_mono f3 (by simp)) (zfr_mono f4 (by simp))
    refine hk k M4 N T ⟨⟨Nat.le_refl _, Nat.le_refl _⟩, zNt_keep hN f (by decide) (by rw [f 50 (by decide)]), hI, fun _ _ _ => rfl, fun e h1 h2 => absurd h1 (by omega), zSF_keep (A := [57, 59]) hS (zfb_of f (by simp)) (by simp), fun _ _ => rfl⟩ rfl (fun j _ => by rw [f 50 (by decide)]) ⟨zRN_keep x3 f4 (by decide) (by decide), x4⟩ (zfb_of f (by simp))
  · exact absurd ((nI_leI (by simp; omega) (by omega)).mpr (by simpa using hj)) c
theorem settle_loop (hD : okD D) (hpx : ∀ n, okn n → okx (p, n)) (hpl : p.1.length ≤ 48 ∧ p.2.length ≤ 48) (hds : ∀ d ∈ ds, okn d.1 ∧ d.2 < 2000) (hdl : ds.length ≤ 27) : ∀ (n j k : Nat) (M : ZM) (N : List NR) (T : Nat → List (Nat × Nat)), j + n = ds.length → zNt k M N T → nInv N → i < N.length → (zSh M D ∧ zFit M D) → zRN M 53 p.1 → zRN M 55 p.2 → M 50 8 = rMark p.1 * 31 + rMark p.2 → zRN M 57 (ds.map (fun d => pkn d.1)) → zRN M 59 (ds.map (fun d => d.2)) → (T i).length + n ≤ 56 →
    (∀ k' M' N' T', zGrow D i k N T k' M' N' T' → (N', T' i) = (dms D p (ds.drop j)).foldl (nstep i) (N, T i) → (∀ j, j ≠ 9 → M' 50 j = M 50 j) → (zRN M' 57 [] ∧ zRN M' 59 []) → zfb M M' [49, 50, 52, 57, 59] → Φ none (zSt k') M') →
    zW E m_Net_settleDrafts 4 (zSt k) M 32 [some (.ref 50), some (.ref (na i)), some (.int (if 24 < p.1.length ∨ 24 < p.2.length then 1 else 0)), some (.int (nI j)), none, none] [] Φ
  | 0, j, k, M, N, T, hn, hN, hI, hi, hS, h53, h55, hm, h57, h59, hT, hk => by
    refine settle_end hN hI hi hS h57 hdl (by omega) (by omega) (fun k' M' N' T' g1 g2 g3 g4 g5 => hk k' M' N' T' g1 ?_ g3 g4 g5)
    rw [List.drop_eq_nil_of_le (by omega)]
    exact g2
  | n + 1, j, k, M, N, T, hn, hN, hI, hi, hS, h53, h55, hm, h57, h59, hT, hk => by
    refine settle_one hD hpx hpl hds hdl hN hI hi hS h53 h55 hm h57 h59 (by omega) (by omega) (fun k1 M1 N1 T1 g1 g2 g3 g4 => ?_)
    have hlen : (T1 i).length ≤ (T i).length + 1 := by
      have e : T1 i = (nstep i (N, T i) ((ds.getD j ((0, 0, 0), 0)).2, fin D (p, (ds.getD j ((0, 0, 0), 0)).1))).2 := by rw [← g2]
      rw [e]
      exact nstep_len _ _ _
    have hi1 : i < N1.length := by have := g1.1.2; omega
    refine settle_loop hD hpx hpl hds hdl n (j + 1) k1 M1 N1 T1 (by omega) g1.2.1 g1.2.2.1 hi1 g1.2.2.2.2.2.1 (zRN_fb h53 g4 (by decide) (by decide) (by decide)) (zRN_fb h55 g4 (by decide) (by decide) (by decide)) (by rw [g3 8 (by decide)]; exact hm) (zRN_fb h57 g4 (by decide) (by decide) (by decide)) (zRN_fb h59 g4 (by decide) (by decide) (by decide)) (by omega) (fun k2 M2 N2 T2 q1 q2 q3 q4 q5 => hk k2 M2 N2 T2 (zGrow_tr hi g1 q1) ?_ (fun j hj => by rw [q3 j hj, g3 j hj]) q4 (zfb_tr (zfb_mono g4 (by simp)) q5))
    rw [q2, g2]
    have hj : j < ds.length := by omega
    rw [List.drop_eq_getElem_cons hj]
    unfold dms
    rw [List.map_cons, List.foldl_cons, List.getD_eq_getElem?_getD, List.getElem?_eq_getElem hj]
    rfl
theorem settleDrafts_ok (hD : okD D) (hdr : zDr M p ds) (hN : zNt k M N T) (hI : nInv N) (hi : i < N.length) (hS : zSh M D ∧ zFit M D) (hT : (T i).length + ds.length ≤ 56)
    (hk : ∀ k' M' N' T', zGrow D i k N T k' M' N' T' → (N', T' i) = (dms D p ds).foldl (nstep i) (N, T i) → (∀ j, j ≠ 9 → M' 50 j = M 50 j) → zDr M' p [] → zfb M M' [49, 50, 52, 57, 59] → Φ none (zSt k') M') : zW E m_Net_settleDrafts 4 (zSt k) M 0 [some (.ref 50), some (.ref (na i)), none, none, none, none] [] Φ := by
  obtain ⟨⟨h53, h55⟩, ⟨h57, h59⟩, hdl, hmk⟩ := hdr
  have hb := hN.1
  have dr : ∀ {M' : ZM}, (zRN M' 57 [] ∧ zRN M' 59 []) → zfb M M' [49, 50, 52, 57, 59] → zDr M' p [] := fun h f => ⟨⟨zRN_fb h53 f (by decide) (by decide) (by decide), zRN_fb h55 f (by decide) (by decide) (by decide)⟩, h, by simp, fun q => absurd rfl q⟩
  by_cases c : ds = []
  · subst c
    have go : ∀ x : Int32, zW E m_Net_settleDrafts 4 (zSt k) M 32 [some (.ref 50), some (.ref (na i)), some (.int x), some (.int 0), none, none] [] Φ := fun x => settle_end (ds := []) (j := 0) hN hI hi hS h57 (by simp) (by simp) (by decide) (fun k' M' N' T' g1 g2 g3 g4 g5 => hk k' M' N' T' g1 g2 g3 (dr g4 g5) g5)
    exact vc_Net_settleDrafts_0 E k M (na i) Φ (tN (by omega)) (Row_size_ok (ts_53 k) h53 ⟨_, rfl, rfl, fun _ => go 1, fun _ => Row_size_ok (ts_55 k) h55 ⟨_, rfl, rfl, fun _ => go 0, fun _ => go 1⟩⟩)
  · obtain ⟨m1, m2, m3, m4⟩ := hmk c
    have go := settle_loop (E := E) (Φ := Φ) (i := i) hD m2 m3 m4 hdl ds.length 0 k M N T (by omega) hN hI hi hS h53 h55 m1 h57 h59 hT (fun k' M' N' T' g1 g2 g3 g4 g5 => hk k' M' N' T' g1 g2 g3 (dr g4 g5) g5)
    refine vc_Net_settleDrafts_0 E k M (na i) Φ (tN (by omega)) (Row_size_ok (ts_53 k) h53 ⟨_, rfl, rfl, fun q => ?_, fun q => Row_size_ok (ts_55 k) h55 ⟨_, rfl, rfl, fun q2 => ?_, fun q2 => ?_⟩⟩)
    · have q : 24 < p.1.length := (nI_ltI (a := 24) (by decide) (by omega)).mp q
      rw [if_pos (Or.inl q)] at go
      exact go
    · have q : ¬ 24 < p.1.length := fun h => q ((nI_ltI (a := 24) (by decide) (by omega)).mpr h)
      have q2 : p.2.length ≤ 24 := (nI_leI (b := 24) (by omega) (by decide)).mp q2
      rw [if_neg (by omega)] at go
      exact go
    · have q2 : ¬ p.2.length ≤ 24 := fun h => q2 ((nI_leI (b := 24) (by omega) (by decide)).mpr h)
      rw [if_pos (Or.inr (by omega))] at go
      exact go
theorem draftNothing_ok {s : Nat} (hdr : zDr M p []) (hN : zNt k M N T) (hi : i < N.length) (hs : s < 5)
    (hk : ∀ p' ds' M', zDr M' p' ds' → (∀ st, (dms D p' ds').foldl (nstep i) st = (k0 D (nN N i).1 s).foldl (nstep i) st) → ds'.length ≤ (k0 D (nN N i).1 s).length → (∀ j, j ≠ 8 → M' 50 j = M 50 j) → zfr M M' [50, 53, 54, 55, 56, 57, 58, 59, 60] → Φ none (zSt k) M') : zW E m_Net_draftNothing 3 (zSt k) M 0 [some (.ref 50), some (.ref (na i)), some (.int (nI s)), none] [] Φ := by
  have hb := hN.1
  obtain ⟨b1, b2, b3⟩ := hN.2.2.2.1 i hi
  have hz := tN (k := k) (j := i) (by omega)
  have h116 : 116 ≤ na i := Nat.le_add_right _ _
  have h5 : ∀ {l : List Nat}, (∀ s ∈ l, s < 5) → ∀ s ∈ l, s < 2 ^ 31 := fun h s hs => by have := h s hs; omega
  refine vc_Net_draftNothing_0 E k M (na i) _ Φ hz ?_
  rintro _ rfl
  have no : k0 D (nN N i).1 s = [] → Φ none (zSt k) M := fun e => hk p [] M hdr (fun st => by rw [e]; rfl) (by simp) (fun _ _ => rfl) (zfr_rfl _ _)
  refine H_isVariable_ok (fun v hv e => ⟨1, rfl, rfl, fun q => absurd q (by decide), fun _ => ?_⟩) (fun q => ⟨0, rfl, rfl, fun _ => no ?_, fun q => absurd rfl q⟩)
  · have hs2 : 2 ≤ s := by
      by_cases c : 2 ≤ s
      · exact c
      · exact absurd e (sub2_no (by omega) v hv)
    obtain ⟨w, rfl⟩ : ∃ w, s = w + 2 := ⟨s - 2, by omega⟩
    have hw : w < 3 := by omega
    rw [sub2_hi hs2 hs, Nat.add_sub_cancel] at *
    clear e
    rw [b2.2.2.1]
    refine Need_ofVariable_ok b1.1.2.2.1 hw ⟨_, rfl, rfl, ?_⟩
    refine Need_allows_ok (t := (0, 1, 2)) (okn_t3 b1.1.2.2.1 _) ⟨by decide, by decide, by decide⟩ ⟨_, rfl, rfl, fun q => ?_, fun q => ?_⟩
    · have ha : allow (t3 (nN N i).1.2 w) (0, 1, 2) = true := by
        by_cases c : allow (t3 (nN N i).1.2 w) (0, 1, 2) = true
        · exact c
        · rw [if_neg c] at q; exact absurd rfl q
      refine Row_copyWithout_ok (ts_53 k) hz.2.1.2 (by omega) b2.1 b1.2.1 (by have := b1.2.1; omega) (by omega) (h5 b1.1.1) (fun M7 x7 f7 => ⟨rfl, rfl, ?_⟩)
      refine Row_copyWithout_ok (ts_55 k) hz.2.2.1.2 (by omega) (zRN_keep b2.2.1 f7 (by simp; omega) (by simp; omega)) b1.2.2 (by have := b1.2.2; omega) (by omega) (h5 b1.1.2.1) (fun M8 x8 f8 => ⟨rfl, rfl, ?_⟩)
      have l1 : (rWithout (w + 2) (nN N i).1.1.1).length ≤ 48 := by have := List.length_filter_le (fun y => y != w + 2) (nN N i).1.1.1; have := b1.2.1; unfold rWithout; omega
      have l2 : (rWithout (w + 2) (nN N i).1.1.2).length ≤ 48 := by have := List.length_filter_le (fun y => y != w + 2) (nN N i).1.1.2; have := b1.2.2; unfold rWithout; omega
      refine Net_makeLean_ok (zRN_keep x7 f8 (by decide) (by decide)) x8 ⟨l1, l2⟩ ⟨rWithout_lt b1.1.1, rWithout_lt b1.1.2.1⟩ (fun M9 r1 r2 r3 r4 f9 => ⟨rfl, rfl, ?_⟩)
      have f79 : zfr M M9 [50, 53, 54, 55, 56, 57, 58, 59, 60] := zfr_tr (zfr_mono f7 (by simp)) (zfr_tr (zfr_mono f8 (by simp)) (zfr_mono f9 (by simp)))
      have f79' : zfr M M9 [50, 53, 54, 55, 56] := zfr_tr (zfr_mono f7 (by simp)) (zfr_tr (zfr_mono f8 (by simp)) f9)
      rw [f79 (na i) (by simp; omega), b2.2.2.1]
      refine Need_withVariable_ok (x := 511) b1.1.2.2.1 hw (by decide) ⟨_, rfl, rfl, ?_⟩
      rw [show (100 : Int32) * nI w = nI (100 * w) from pk_mul 100 w]
      refine Net_addDraft_ok (ds := []) (cs := []) (zRN_keep hdr.2.1.1 f79' (by decide) (by decide)) (zRN_keep hdr.2.1.2 f79' (by decide) (by decide)) (by simp) (fun M11 d1 d2 f11 => ⟨rfl, rfl, ?_⟩)
      have hok := nd0_ok b1.1 w
      refine hk (nd0 (nN N i).1 w).1 [(nset (nN N i).1.2 w 511, 100 * w)] M11 ⟨⟨zRN_keep r1 f11 (by decide) (by decide), zRN_keep r2 f11 (by decide) (by decide)⟩, ⟨d1, d2⟩, by simp, fun _ => ⟨by rw [f11 50 (by decide)]; exact r3, fun n hn => rLean_ok (rWithout_lt b1.1.1) (rWithout_lt b1.1.2.1) hn, ?_, ?_⟩⟩ (fun st => ?_) ?_ (fun j hj => ?_) (zfr_tr f79 (zfr_mono f11 (by simp)))
      · exact rLean_48 l1 l2
      · intro d hd
        rw [List.mem_singleton.mp hd]
        exact ⟨hok.2.2.1, by show 100 * w < 2000; omega⟩
      · simp [k0, dms, ha, nd0]
      · simp [k0]
      · rw [f11 50 (by decide), r4 j hj, f8 50 (by decide), f7 50 (by decide)]
    · have ha : ¬ allow (t3 (nN N i).1.2 w) (0, 1, 2) = true := by
        intro c
        rw [if_pos c] at q
        exact absurd q (by decide)
      refine hk p [] M hdr (fun st => ?_) (by simp) (fun _ _ => rfl) (zfr_rfl _ _)
      simp [k0, ha, dms, nstep]
  · unfold k0
    rw [if_neg]
    intro c
    rw [sub2_hi c hs] at q
    rcases q with q | q
    · exact absurd q (nI_pos (by omega))
    · have := (nI_leI (a := 3) (by decide) (by omega)).mp q
      omega
theorem draftNothing_no {p : List Nat × List Nat} (hdr : zDr M p []) (hN : zNt k M N T) (hi : i < N.length) (hk : Φ none (zSt k) M) : zW E m_Net_draftNothing 3 (zSt k) M 0 [some (.ref 50), some (.ref (na i)), some (.int (-6)), none] [] Φ := by
  have hb := hN.1
  refine vc_Net_draftNothing_0 E k M (na i) _ Φ (tN (by omega)) ?_
  rintro _ rfl
  exact H_isVariable_ok (fun v hv e => absurd e (sub2_6 v hv)) (fun q => ⟨0, rfl, rfl, fun _ => hk, fun q => absurd rfl q⟩)
end DRAFTS
