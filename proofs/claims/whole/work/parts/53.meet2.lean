/-! Net.meet where a node is made; Node.addMove -/
theorem zSt_next_rm (k : Nat) : (zSt (k + 1)).2.2.2 51 = zup ((zSt k).2.2.2 51) k (some (na k)) := by
  funext j
  show (if j < k + 1 then some (116 + 9 * j) else none) = if j = k then some (116 + 9 * k) else (if j < k then some (116 + 9 * j) else none)
  by_cases c : j = k
  · subst c
    rw [if_pos rfl, if_pos (by omega)]
  · rw [if_neg c]
    by_cases c2 : j < k
    · rw [if_pos c2, if_pos (by omega)]
    · rw [if_neg c2, if_neg (by omega)]
/-- the cells behind the making of a node are those of one node more -/
theorem zSt_next {E : ZE} {k : Nat} {S2 : ZS} {M : ZM} (hn : S2.1 = na k + 9) (hx : zext (zadd (zSt k) 4 0) S2 (na k)) (h1 : S2.2.2.2 (na k) 1 = some (na k + 1) ∧ zRow S2 (na k + 1) 24) (h2 : S2.2.2.2 (na k) 2 = some (na k + 3) ∧ zRow S2 (na k + 3) 24) (h3 : S2.2.2.2 (na k) 3 = some (na k + 5) ∧ zRow S2 (na k + 5) 56) (h4 : S2.2.2.2 (na k) 4 = some (na k + 7) ∧ zRow S2 (na k + 7) 56) :
    (∀ b, b < S2.1 → zce E (zSt (k + 1)) M b = zce E (S2.1, S2.2.1, S2.2.2.1, zup S2.2.2.2 51 (zup (S2.2.2.2 51) k (some (na k)))) M b) ∧ zsl (zSt (k + 1)) = zsl (S2.1, S2.2.1, S2.2.2.1, zup S2.2.2.2 51 (zup (S2.2.2.2 51) k (some (na k)))) := by
  have h116 : 116 ≤ na k := Nat.le_add_right _ _
  have hS0 : (zSt k).1 = na k := rfl
  have old : ∀ b, b < na k → S2.2.1 b = (zSt k).2.1 b ∧ S2.2.2.1 b = (zSt k).2.2.1 b ∧ S2.2.2.2 b = (zSt k).2.2.2 b := by
    intro b hb
    obtain ⟨p1, p2, p3⟩ := hx.2 b (by show b < na k + 1; omega)
    have hne : b ≠ na k := by omega
    refine ⟨p1.trans ?_, p2.trans ?_, (p3 hne).trans ?_⟩ <;> simp [zadd, zup, hS0, hne]
  have hnode : S2.2.1 (na k) = 4 := by
    rw [(hx.2 (na k) (by show na k < na k + 1; omega)).1]
    simp [zadd, zup, hS0]
  have hsame : ∀ b, (zSt (k + 1)).2.1 b = (zSt k).2.1 b ∧ (zSt (k + 1)).2.2.1 b = (zSt k).2.2.1 b := fun b => ⟨rfl, rfl⟩
  have N' := tN (k := k + 1) (j := k) (by omega)
  obtain ⟨n0, ⟨n1, n2⟩, ⟨n3, n4⟩, ⟨n5, n6⟩, ⟨n7, n8⟩⟩ := N'
  have rowq : ∀ r L, na k < r → r < na k + 9 → zRow S2 r L → zRow (zSt (k + 1)) r L → zce E (zSt (k + 1)) M r = zce E (S2.1, S2.2.1, S2.2.2.1, zup S2.2.2.2 51 (zup (S2.2.2.2 51) k (some (na k)))) M r := by
    intro r L hr1 hr2 hr hr'
    refine zce_obj (S := (S2.1, S2.2.1, S2.2.2.1, zup S2.2.2.2 51 (zup (S2.2.2.2 51) k (some (na k))))) hr.1.2 hr'.1.2 (by decide) (fun j hj => ?_)
    rw [zrf5 hj, hr'.2.1]
    show some (r + 1) = (zup S2.2.2.2 51 _) r 0
    simp only [zup, if_neg (show r ≠ 51 by omega)]
    exact hr.2.1.symm
  have arrq : ∀ r L, zRow S2 r L → zRow (zSt (k + 1)) r L → zce E (zSt (k + 1)) M (r + 1) = zce E (S2.1, S2.2.1, S2.2.2.1, zup S2.2.2.2 51 (zup (S2.2.2.2 51) k (some (na k)))) M (r + 1) := by
    intro r L hr hr'
    exact zce_arr (S := (S2.1, S2.2.1, S2.2.2.1, zup S2.2.2.2 51 (zup (S2.2.2.2 51) k (some (na k))))) hr.2.2.1.2 hr'.2.2.1.2 (hr'.2.2.2.1.trans hr.2.2.2.1.symm)
  constructor
  · intro b hb
    by_cases c : b < na k
    · by_cases c51 : b = 51
      · subst c51
        refine zce_congr ?_ ?_ ?_ rfl
        · exact (old 51 c).1.symm
        · exact (old 51 c).2.1.symm
        · rw [zSt_next_rm]
          show _ = zup S2.2.2.2 51 _ 51
          simp only [zup, if_true]
          rw [(old 51 c).2.2]
      · refine zce_congr ?_ ?_ ?_ rfl
        · exact (old b c).1.symm
        · exact (old b c).2.1.symm
        · show _ = zup S2.2.2.2 51 _ b
          simp only [zup, if_neg c51]
          rw [(old b c).2.2]
          funext j
          show (if b = 51 then _ else _) = (if b = 51 then _ else _)
          rw [if_neg c51, if_neg c51]
    · rw [hn] at hb
      rcases (show b = na k ∨ b = na k + 1 ∨ b = na k + 2 ∨ b = na k + 3 ∨ b = na k + 4 ∨ b = na k + 5 ∨ b = na k + 6 ∨ b = na k + 7 ∨ b = na k + 8 by omega) with rfl | rfl | rfl | rfl | rfl | rfl | rfl | rfl | rfl
      · refine zce_obj (S := (S2.1, S2.2.1, S2.2.2.1, zup S2.2.2.2 51 (zup (S2.2.2.2 51) k (some (na k))))) hnode n0.2 (by decide) (fun j hj => ?_)
        show _ = zup S2.2.2.2 51 _ (na k) j
        simp only [zup, if_neg (show na k ≠ 51 by omega)]
        rcases zrf4 hj with rfl | rfl | rfl | rfl
        · rw [h1.1]; exact n1
        · rw [h2.1]; exact n3
        · rw [h3.1]; exact n5
        · rw [h4.1]; exact n7
      · exact rowq _ 24 (by omega) (by omega) h1.2 n2
      · exact arrq _ 24 h1.2 n2
      · exact rowq _ 24 (by omega) (by omega) h2.2 n4
      · exact arrq _ 24 h2.2 n4
      · exact rowq _ 56 (by omega) (by omega) h3.2 n6
      · exact arrq _ 56 h3.2 n6
      · exact rowq _ 56 (by omega) (by omega) h4.2 n8
      · exact arrq _ 56 h4.2 n8
  · refine zsl_congr (by show 116 + 9 * (k + 1) = S2.1; rw [hn]; show _ = 116 + 9 * k + 9; omega) (fun b hb => ?_)
    have obj : ∀ r ci, ci < 12 → S2.2.1 r = ci → (zSt (k + 1)).2.1 r = ci → zszc (zSt (k + 1)) r = zszc (S2.1, S2.2.1, S2.2.2.1, zup S2.2.2.2 51 (zup (S2.2.2.2 51) k (some (na k)))) r := by
      intro r ci hc e1 e2
      unfold zszc
      rw [e2, show (S2.1, S2.2.1, S2.2.2.1, zup S2.2.2.2 51 (zup (S2.2.2.2 51) k (some (na k)))).2.1 r = ci from e1, if_pos hc, if_pos hc]
    have arr : ∀ r L, zRow S2 r L → zRow (zSt (k + 1)) r L → zszc (zSt (k + 1)) (r + 1) = zszc (S2.1, S2.2.1, S2.2.2.1, zup S2.2.2.2 51 (zup (S2.2.2.2 51) k (some (na k)))) (r + 1) := by
      intro r L hr hr'
      unfold zszc
      rw [hr'.2.2.1.2, show (S2.1, S2.2.1, S2.2.2.1, zup S2.2.2.2 51 (zup (S2.2.2.2 51) k (some (na k)))).2.1 (r + 1) = 12 from hr.2.2.1.2, if_neg (by decide), if_neg (by decide), hr'.2.2.2.1]
      exact hr.2.2.2.1.symm
    by_cases c : b < na k
    · unfold zszc
      rw [(hsame b).1, (hsame b).2, ← (old b c).1, ← (old b c).2.1]
    · have hb : b < na k + 9 := by rw [← hn]; exact hb
      rcases (show b = na k ∨ b = na k + 1 ∨ b = na k + 2 ∨ b = na k + 3 ∨ b = na k + 4 ∨ b = na k + 5 ∨ b = na k + 6 ∨ b = na k + 7 ∨ b = na k + 8 by omega) with rfl | rfl | rfl | rfl | rfl | rfl | rfl | rfl | rfl
      · exact obj _ 4 (by decide) hnode n0.2
      · exact obj _ 5 (by decide) h1.2.1.2 n2.1.2
      · exact arr _ 24 h1.2 n2
      · exact obj _ 5 (by decide) h2.2.1.2 n4.1.2
      · exact arr _ 24 h2.2 n4
      · exact obj _ 5 (by decide) h3.2.1.2 n6.1.2
      · exact arr _ 56 h3.2 n6
      · exact obj _ 5 (by decide) h4.2.1.2 n8.1.2
      · exact arr _ 56 h4.2 n8
section MEET2
variable {E : ZE} {k : Nat} {M : ZM} {Φ : Option Value → ZS → ZM → Prop} {N : List NR} {T : Nat → List (Nat × Nat)}
theorem Net_meet_33 {x : ND} (hN : zNt k M N T) (h150 : N.length < 150) (hk : N.length = k) (hx : okN x) (hnf : nfind N x = none) (hm : M 50 8 = rMark x.1.1 * 31 + rMark x.1.2) (hr : zRN M 53 x.1.1) (hr2 : zRN M 55 x.1.2)
    (hΦ : ∀ M', zNt (k + 1) M' (N ++ [(x, 0, none, false)]) (zup T N.length []) → (∀ j, j ≠ 9 → M' 50 j = M 50 j) → zfb M M' [50, 52] → Φ (some (va_rf (some (na N.length)))) (zSt (k + 1)) M') : zW E m_Net_meet 3 (zSt k) M 33 [some (.ref 50), some (.int (nI (pkn x.2))), none, none] [] Φ := by
  have h116 : 116 ≤ na k := Nat.le_add_right _ _
  have hS0 : (zSt k).1 = na k := rfl
  refine z_new n_Net_9 d_Net_meet_33 ?_
  refine z_dup d_Net_meet_36 rfl ?_
  refine z_aload_n d_Net_meet_37 rfl ?_
  have x1 : zext (zSt k) (zadd (zSt k) 4 0) 200 := zext_add _ _ _ _
  refine z_geti f_Net_47 rfl d_Net_meet_38 (zA_ext x1 (tA_50 k)) ?_
  have m50 : (zM0 (zSt k) M) 50 = M 50 := by simp [zM0, zup, hS0, show (50 : Nat) ≠ na k by omega]
  rw [m50, hN.2.1, hk]
  have hA : zA (zadd (zSt k) 4 0) (na k) 4 := ⟨by show na k < na k + 1; omega, by simp [zadd, zup, hS0]⟩
  refine z_callI (as := [.int (nI k)]) (st := [.ref (na k)]) (d' := 2) i_Node_init rfl rfl v_Node_init l_Net_215 d_Net_meet_41 (by decide) rfl (Nat.le_of_ble_eq_true rfl) (Nat.le_of_ble_eq_true rfl) (Node_init_ok (Φ := fun r S' M' => r = none ∧ S'.1 = na k + 9 ∧ zext (zadd (zSt k) 4 0) S' (na k) ∧ (S'.2.2.2 (na k) 1 = some (na k + 1) ∧ zRow S' (na k + 1) 24) ∧ (S'.2.2.2 (na k) 2 = some (na k + 3) ∧ zRow S' (na k + 3) 24) ∧ (S'.2.2.2 (na k) 3 = some (na k + 5) ∧ zRow S' (na k + 5) 56) ∧ (S'.2.2.2 (na k) 4 = some (na k + 7) ∧ zRow S' (na k + 7) 56) ∧ (∀ b, b < na k → M' b = M b) ∧ M' (na k) 0 = nI k) hA (fun S' M' a1 a2 a3 a4 a5 a6 a7 a8 a9 => ⟨rfl, a1, a2, a3, a4, a5, a6, fun b hb => ?_, ?_⟩)) (fun r S2 M2 h => ?_)
  · rw [a7 b (by show b < na k + 1; omega) (by omega)]
    simp [zM0, zup, hS0, show b ≠ na k by omega]
  · have a9' : M' (na k) = zup (zM0 (zSt k) M (na k)) 0 (nI k) := a9
    rw [a9']
    simp [zup]
  · obtain ⟨rfl, b1, b2, b3, b4, b5, b6, b7, b8⟩ := h
    have e50 : zA S2 50 3 := zA_ext b2 (zA_ext x1 (tA_50 k))
    have r50 : S2.2.2.2 50 2 = some 51 := by
      rw [(b2.2 50 (by show 50 < na k + 1; omega)).2.2 (by omega), (x1.2 50 (by omega)).2.2 (by decide)]
      exact tr_50_2 k
    have e51 : zA S2 51 14 := zA_ext b2 (zA_ext x1 (tA_51 k))
    have l51 : S2.2.2.1 51 = 150 := by
      rw [(b2.2 51 (by show 51 < na k + 1; omega)).2.1, (x1.2 51 (by omega)).2.1]
      exact tP_len k
    have eN : zA S2 (na k) 4 := zA_ext b2 hA
    have c9 : M2 50 9 = nI k := by rw [b7 50 (by omega), hN.2.1, hk]
    refine z_astore_n (ls' := [some (.ref 50), some (.int (nI (pkn x.2))), some (.ref (na k)), none]) d_Net_meet_44 (Nat.le_of_ble_eq_true rfl) rfl rfl ?_
    refine z_aload_n d_Net_meet_45 rfl ?_
    refine z_getr f_Net_11 rfl d_Net_meet_46 e50 r50 ?_
    refine z_aload_n d_Net_meet_49 rfl ?_
    refine z_geti f_Net_47 rfl d_Net_meet_50 e50 ?_
    rw [c9]
    refine z_aload_n d_Net_meet_53 rfl ?_
    refine z_aastore d_Net_meet_54 e51 eN (by rw [l51]; exact vp_in_nI (by omega) (by decide)) ?_
    rw [nI_clamp (by omega)]
    obtain ⟨p1, p2⟩ := zSt_next (E := E) (M := M2) b1 b2 b3 b4 b5 b6
    refine zW_same (S1 := zSt (k + 1)) (M1 := M2) (by show 116 + 9 * (k + 1) = S2.1; rw [b1]; show _ = 116 + 9 * k + 9; omega) p1 p2 ?_
    have hN2 : zNt (k + 1) M2 N T := zNt_grow hN (by omega) b7 b8
    have f2 : zfr M M2 [] ∨ True := Or.inr trivial
    have := Net_meet_55 (E := E) (Φ := Φ) hN2 h150 (by omega) hx hnf (by rw [b7 50 (by omega)]; exact hm) (zRN_fr hr (b7 53 (by omega)) (b7 54 (by omega))) (zRN_fr hr2 (b7 55 (by omega)) (b7 56 (by omega))) (fun M3 g1 g2 g3 => hΦ M3 g1 (fun j hj => by rw [g2 j hj, b7 50 (by omega)]) (fun p q1 q2 => by rw [g3 p q1 q2, b7 p (by omega)]))
    rw [hk] at this
    exact this
theorem Net_meet_ok {x : ND} (hN : zNt k M N T) (hx : okN x) (hnf : nfind N x = none) (hm : M 50 8 = rMark x.1.1 * 31 + rMark x.1.2) (hr : zRN M 53 x.1.1) (hr2 : zRN M 55 x.1.2) (h0 : N.length = 150 → Φ (some (va_rf none)) (zSt k) M)
    (hΦ : N.length < 150 → ∀ k' M', k ≤ k' → zNt k' M' (N ++ [(x, 0, none, false)]) (zup T N.length []) → (∀ j, j ≠ 9 → M' 50 j = M 50 j) → zfb M M' [50, 52] → Φ (some (va_rf (some (na N.length)))) (zSt k') M') : zW E m_Net_meet 3 (zSt k) M 0 [some (.ref 50), some (.int (nI (pkn x.2))), none, none] [] Φ := by
  have hl := hN.1
  refine vc_Net_meet_0 E k M _ Φ ?_
  rw [hN.2.1]
  refine ⟨fun c => absurd c (nI_pos (by omega)), fun _ => ⟨fun c => ?_, fun c => h0 ?_⟩⟩
  · have c : N.length < 150 := (nI_ltI (b := 150) (by omega) (by decide)).mp c
    refine ⟨N.length, c, rfl, fun q => ?_, fun b q => ?_⟩
    · have hk : N.length = k := by
        rw [tP_get] at q
        by_cases z : N.length < k
        · rw [if_pos z] at q; cases q
        · omega
      exact Net_meet_33 hN c hk hx hnf hm hr hr2 (hΦ c (k + 1) · (by omega))
    · rw [tP_get] at q
      by_cases z : N.length < k
      · rw [if_pos z] at q
        cases q
        exact ⟨tN z, Net_meet_55 hN c z hx hnf hm hr hr2 (hΦ c k · (Nat.le_refl _))⟩
      · rw [if_neg z] at q; cases q
  · have c : ¬ N.length < 150 := fun q => c ((nI_ltI (b := 150) (by omega) (by decide)).mpr q)
    omega
end MEET2
