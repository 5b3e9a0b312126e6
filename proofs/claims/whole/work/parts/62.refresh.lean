/-! Net.begin, refreshNet -/
def zNz (k : Nat) (M : ZM) : Prop := k ≤ 150 ∧ (∀ e, e < k → M (na e) 0 = nI e) ∧ zRN M 57 [] ∧ zRN M 59 []
theorem nd00_ok {B : AB} (h : okB B) : okN (nd00 B) := by
  obtain ⟨⟨a1, a2⟩, ⟨b1, b2⟩, -, c, -⟩ := h
  refine ⟨rLean_ok a2 b2 c, ?_, ?_⟩
  · show (List.drop _ B.1.1).length ≤ 24
    rw [List.length_drop]; omega
  · show (List.drop _ B.1.2).length ≤ 24
    rw [List.length_drop]; omega
section REFRESH
variable {E : ZE} {k : Nat} {M : ZM} {Φ : Option Value → ZS → ZM → Prop} {B : AB}
theorem begin_ok (hB : okB B) (hM : zBk M 3 B) (hz : zNz k M) (hS : zSh M (bfs B.2.1) ∧ zFit M (bfs B.2.1)) (hk : ∀ k' M', k ≤ k' → zLp B 0 k' M' [(nd00 B, 0, none, false)] (fun _ => []) → zfb M M' [50, 52, 53, 54, 55, 56] → Φ none (zSt k') M') : zW E m_Net_begin 4 (zSt k) M 0 [some (.ref 50)] [] Φ := by
  obtain ⟨z1, z2, z3, z4⟩ := hz
  obtain ⟨m1, m2, m3, m4, m5⟩ := hM
  have hN := nd00_ok hB
  obtain ⟨⟨a1, a2⟩, ⟨b1, b2⟩, hg, c, -⟩ := hB
  refine vc_Net_begin_0 E k M Φ ?_
  rintro _ rfl _ rfl _ rfl M4 hM4
  have f4 : zfr M M4 [50] := by
    rw [hM4]
    exact zfr_tr (zfr_tr (zfr_tr (zfr_ms _ _ _ _ (by simp)) (zfr_ms _ _ _ _ (by simp))) (zfr_ms _ _ _ _ (by simp))) (zfr_ms _ _ _ _ (by simp))
  have v9 : M4 50 9 = nI 0 := by rw [hM4, zms_k _ _ (by decide), zms_k _ _ (by decide), zms_k _ _ (by decide), zms_s]; rfl
  have v10 : M4 50 10 = -6 := by rw [hM4, zms_k _ _ (by decide), zms_k _ _ (by decide), zms_s]
  have v11 : M4 50 11 = nI 0 := by rw [hM4, zms_k _ _ (by decide), zms_s]; rfl
  have v12 : M4 50 12 = nI 0 := by rw [hM4, zms_s]; rfl
  refine Arr_fill_ok (ta_52 k) (fun M5 x5 f5 => ⟨rfl, rfl, ?_⟩)
  have f45 : zfr M M5 [50, 52] := zfr_tr (zfr_mono f4 (by simp)) (zfr_mono f5 (by simp))
  refine Row_copy_ok (ts_53 k) (ts_4 k) (by omega) (zRN_keep m1 f45 (by decide) (by decide)) a1 (by omega) (fun M6 x6 f6 => ⟨rfl, rfl, ?_⟩)
  have f46 : zfr M M6 [50, 52, 53, 54] := zfr_tr (zfr_mono f45 (by simp)) (zfr_mono f6 (by simp))
  refine Row_copy_ok (ts_55 k) (ts_6 k) (by omega) (zRN_keep m2 f46 (by decide) (by decide)) b1 (by omega) (fun M7 x7 f7 => ⟨rfl, rfl, ?_⟩)
  have f47 : zfr M M7 [50, 52, 53, 54, 55, 56] := zfr_tr (zfr_mono f46 (by simp)) (zfr_mono f7 (by simp))
  refine Net_makeLean_ok (zRN_keep x6 f7 (by decide) (by decide)) x7 (by omega) ⟨a2, b2⟩ (fun M8 r1 r2 r3 r4 f8 => ⟨rfl, rfl, ?_⟩)
  have f48 : zfr M M8 [50, 52, 53, 54, 55, 56] := zfr_tr f47 (zfr_mono f8 (by simp))
  have e50 : ∀ j, j ≠ 8 → M8 50 j = M4 50 j := fun j hj => by rw [r4 j hj, f7 50 (by decide), f6 50 (by decide), f5 50 (by decide)]
  have h116 : ∀ e, 116 ≤ na e := fun e => Nat.le_add_right _ _
  have hN8 : zNt k M8 [] (fun _ => []) := by
    refine ⟨⟨Nat.zero_le _, Nat.zero_le _, z1⟩, by rw [e50 9 (by decide)]; exact v9, fun e he => ?_, fun e he => absurd he (by simp), fun b hb => ?_, fun i j hi => absurd hi (by simp)⟩
    · rw [f48 (na e) (by have := h116 e; simp; omega)]
      exact z2 e he
    · rw [f8 52 (by decide), f7 52 (by decide), f6 52 (by decide), x5 b hb]
      rfl
  have e4 : M8 3 4 = nI (pkn (nd00 B).2) := by rw [f48 3 (by decide)]; exact m5
  rw [e4]
  refine Net_meet_ok (x := nd00 B) hN8 hN rfl r3 r1 r2 (fun h => absurd h (by simp)) (fun _ k' M' hkk n1 n2 n3 => ⟨k', _, rfl, rfl, fun c => (by cases c), fun b c => ?_⟩)
  cases c
  have hb := n1.1
  refine ⟨tN (by simp at hb ⊢; omega), ?_⟩
  have f : zfb M M' [50, 52, 53, 54, 55, 56] := zfb_tr (zfb_of f48 (fun p hp => Or.inl hp)) (zfb_mono n3 (by simp))
  have eT : (zup (fun _ => []) ([] : List NR).length [] : Nat → List (Nat × Nat)) = fun _ => [] := by
    funext j
    simp [zup]
  rw [eT] at n1
  refine hk k' M' hkk ⟨rfl, Nat.zero_le _, n1, ⟨by simp, rfl, rfl, fun e h0 he => absurd he (by simp; omega)⟩, zSF_keep hS f (by decide), ⟨(nd00 B).1, ⟨⟨zRN_fb r1 n3 (by decide) (by decide) (by decide), zRN_fb r2 n3 (by decide) (by decide) (by decide)⟩, ⟨zRN_fb z3 f (by decide) (by decide) (by decide), zRN_fb z4 f (by decide) (by decide) (by decide)⟩, by simp, fun q => absurd rfl q⟩⟩, fun j hj => by rw [f 9 (by decide) (by decide)]; exact m3 j hj, fun e he => absurd he (by omega), fun e _ he => ⟨rfl, ?_⟩, ?_, ?_, ?_⟩ f
  · have he : e < 1 := he
    have : e = 0 := by omega
    subst this
    rfl
  · rw [n2 10 (by decide), e50 10 (by decide), v10]; rfl
  · rw [n2 11 (by decide), e50 11 (by decide), v11]; rfl
  · rw [n2 12 (by decide), e50 12 (by decide), v12]; rfl
/-- the shorts and the net, as far as they stand -/
def zSd (B : AB) (M : ZM) : Prop := M 45 6 = 0 ∨ (M 45 6 = 1 ∧ zSho M B.2.1)
def zNs (B : AB) (k : Nat) (M : ZM) : Prop := M 0 12 = 0 ∨ (M 0 12 = 1 ∧ M 45 6 = 1 ∧ zNet B k M ∧ zAns B M)
theorem zNz_fb {k' : Nat} {M' : ZM} {A : List Nat} (hz : zNz k M) (f : zfb M M' A) (hA : 57 ∉ A ∧ 58 ∉ A ∧ 59 ∉ A ∧ 60 ∉ A) (hk : k' ≤ 150) (h0 : ∀ e, e < k' → M' (na e) 0 = nI e) : zNz k' M' :=
  ⟨hk, h0, zRN_fb hz.2.2.1 f (by decide) hA.1 hA.2.1, zRN_fb hz.2.2.2 f (by decide) hA.2.2.1 hA.2.2.2⟩
theorem refreshNet_ok (hB : okB B) (hM : zBk M 3 B) (hz : zNz k M) (hS : zSd B M) (hN : zNs B k M) (hk : ∀ k' M', k ≤ k' → M' 0 12 = 1 → (M' 45 6 = 1 ∧ zSho M' B.2.1) → zNet B k' M' → zAns B M' → zNz k' M' → (∀ j, j ≠ 12 → M' 0 j = M 0 j) → zfb M M' [0, 45, 46, 47, 48, 49, 50, 52, 53, 54, 55, 56, 57, 58, 59, 60, 61, 63, 64, 65, 66, 67, 68] → Φ none (zSt k') M') : zW E m_H_refreshNet 6 (zSt k) M 0 [some (.ref 0), none] [] Φ := by
  have hg : okg B.2.1 := hB.2.2.1
  refine vc_H_refreshNet_0 E k M Φ ⟨fun c => ?_, fun c => ?_⟩
  · refine Shorts_refresh_ok hg hM.2.2.1 hS (fun M2 s1 s2 f2 => ⟨rfl, rfl, ?_⟩)
    have hM2 : zBk M2 3 B := ⟨zRN_keep hM.1 f2 (by decide) (by decide), zRN_keep hM.2.1 f2 (by decide) (by decide), zGo_keep hM.2.2.1 f2 (by decide), fun v hv => zRN_keep (hM.2.2.2.1 v hv) f2 (by simp; omega) (by simp; omega), by rw [f2 3 (by decide)]; exact hM.2.2.2.2⟩
    have hz2 : zNz k M2 := zNz_fb hz (zfb_of (B := [45, 46, 47, 48, 49]) f2 (fun p hp => Or.inl hp)) (by decide) hz.1 (fun e he => by rw [f2 (na e) (by have : 116 ≤ na e := Nat.le_add_right _ _; simp; omega)]; exact hz.2.1 e he)
    refine begin_ok hB hM2 hz2 s1 (fun k3 M3 hk3 l3' f3 => ⟨k3, rfl, rfl, ?_⟩)
    refine net_loop hg 150 0 k3 M3 _ _ rfl l3' (fun k4 M4 hk4 n4 s4 d4 f4 => ?_)
    refine trace_ok hg n4 s4 (fun M5 a5 n5 s5 f5 => ⟨rfl, rfl, ?_⟩)
    rintro _ rfl
    have f6 : zfr M5 (zms M5 0 12 1) [0] := zfr_ms _ _ _ _ (by simp)
    have fall : zfb M M5 [45, 46, 47, 48, 49, 50, 52, 53, 54, 55, 56, 57, 58, 59, 60, 61, 63, 64, 65, 66, 67, 68] := zfb_tr (zfb_of f2 (by simp)) (zfb_tr (zfb_mono f3 (by simp)) (zfb_tr (zfb_mono f4 (by simp)) (zfb_of f5 (by simp))))
    have e45 : M5 45 6 = 1 := by rw [f5 45 (by decide), f4 45 (by decide) (by decide), f3 45 (by decide) (by decide), s2]
    have q : ∀ p, p ≠ 0 → zms M5 0 12 1 p = M5 p := fun p hp => f6 p (by simpa using hp)
    obtain ⟨T5, t1, t2, t3', t4, t5, t6⟩ := n5
    refine hk k4 _ (by omega) (zms_s _ _ _ _) ⟨by rw [q 45 (by decide)]; exact e45, zSh_keep s5.1 (q 45 (by decide)) (q 46 (by decide)) (q 47 (by decide)) (q 48 (by decide)), fun n hn => by rw [q 49 (by decide)]; exact s5.2 n hn⟩ ⟨T5, zNt_keep t1 f6 (by decide) (by rw [q 50 (by decide)]), t2, t3', by rw [q 50 (by decide)]; exact t4, by rw [q 50 (by decide)]; exact t5, by rw [q 50 (by decide)]; exact t6⟩ ⟨fun h => by rw [q 61 (by decide)]; exact a5.1 h, fun ws h => ?_⟩ ?_ (fun j hj => ?_) (zfb_tr (zfb_mono fall (fun p hp => List.mem_cons_of_mem _ hp)) (zfb_of f6 (by simp)))
    · obtain ⟨w1, w2, w3⟩ := a5.2 ws h
      exact ⟨by rw [q 61 (by decide)]; exact w1, fun v hv => zRN_fr (w2 v hv) (q _ (by omega)) (q _ (by omega)), w3⟩
    · obtain ⟨p4, -, ⟨d1, d2⟩, -⟩ := d4
      refine ⟨t1.1.2.2, fun e he => ?_, ?_, ?_⟩
      · rw [q (na e) (by have : 116 ≤ na e := Nat.le_add_right _ _; omega)]
        exact t1.2.2.1 e he
      · exact zRN_fr (zRN_keep d1 f5 (by decide) (by decide)) (q 57 (by decide)) (q 58 (by decide))
      · exact zRN_fr (zRN_keep d2 f5 (by decide) (by decide)) (q 59 (by decide)) (q 60 (by decide))
    · rw [zms_k _ _ hj, fall 0 (by decide) (by decide)]
  · rcases hN with h | ⟨h1, h2, h3, h4⟩
    · exact absurd h c
    · rcases hS with h | ⟨-, h⟩
      · rw [h2] at h; exact absurd h (by decide)
      · exact hk k M (Nat.le_refl _) h1 ⟨h2, h⟩ h3 h4 hz (fun _ _ => rfl) (zfb_rfl _ _)
end REFRESH
