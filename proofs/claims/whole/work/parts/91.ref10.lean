/-! the reference: the moves that lead to nodes -/
def nex (N F : List NR) : Prop := N.length ≤ F.length ∧ ∀ e, e < N.length → (nN F e).1 = (nN N e).1
theorem nex_rfl (N : List NR) : nex N N := ⟨Nat.le_refl _, fun _ _ => rfl⟩
theorem nex_tr {N N1 N2 : List NR} (h1 : nex N N1) (h2 : nex N1 N2) : nex N N2 := ⟨Nat.le_trans h1.1 h2.1, fun e he => (h2.2 e (Nat.lt_of_lt_of_le he h1.1)).trans (h1.2 e he)⟩
theorem nkp_nex {i : Nat} {N N' : List NR} (h : nkp i N N') : nex N N' := ⟨h.1, fun e he => (h.2.1 e he).1⟩
def ld (F : List NR) (m : MR) : Option (Nat × Nat) := match m.2 with
  | some (some y) => (nfind F y).map (fun t => (t, m.1))
  | _ => none
theorem nfind_nex {N F : List NR} {x : ND} {t : Nat} (h : nex N F) (ht : nfind N x = some t) : nfind F x = some t := by
  obtain ⟨-, h2, h3, h4⟩ := fIx_some ht
  have h3 : (nN N t).1 = x := by simpa using h3
  refine fIx_at (Nat.lt_of_lt_of_le (by omega) h.1) (by rw [h.2 t (by omega), h3]; simp) (fun i hi => ?_)
  have := h4 i (by omega) hi
  rw [h.2 i (by omega)]
  exact this
theorem ld_fold {i : Nat} {F : List NR} (hF : F.length ≤ 150) : ∀ (L : List MR) (s : List NR × List (Nat × Nat)), i < s.1.length → nex (L.foldl (nstep i) s).1 F → (L.foldl (nstep i) s).2 = s.2 ++ L.filterMap (ld F)
  | [], s, _, _ => by simp
  | m :: L, s, hi, h => by
    have kp := nkp_step m hi
    have hi' := Nat.lt_of_lt_of_le hi kp.1
    have ih := ld_fold hF L (nstep i s m) hi' h
    have h1 : nex (nstep i s m).1 F := nex_tr (nkp_nex (nkp_fold L (nstep i s m) hi')) h
    show (L.foldl (nstep i) (nstep i s m)).2 = _
    rw [ih, List.filterMap_cons]
    obtain ⟨c, r⟩ := m
    cases r with
    | none => rfl
    | some r =>
      cases r with
      | none => rfl
      | some x =>
        cases hf : nfind s.1 x with
        | some t =>
          have e : nstep i s (c, some (some x)) = (s.1, s.2 ++ [(t, c)]) := by
            unfold nstep
            simp only [hf]
          rw [e] at h1 ⊢
          have e2 : ld F (c, some (some x)) = some (t, c) := by
            unfold ld
            simp only [nfind_nex h1 hf, Option.map_some]
          rw [e2]
          simp
        | none =>
          by_cases q : s.1.length < 150
          · have e : nstep i s (c, some (some x)) = (s.1 ++ [(x, (nN s.1 i).2.1 + 1, some (i, c), false)], s.2 ++ [(s.1.length, c)]) := by
              unfold nstep
              simp only [hf, q, ↓reduceIte]
            rw [e] at h1 ⊢
            have hn : nfind (s.1 ++ [(x, (nN s.1 i).2.1 + 1, some (i, c), false)]) x = some s.1.length := by
              refine fIx_at (by simp) (by rw [nN_r]; simp) (fun j hj => ?_)
              rw [nN_l hj]
              simpa using nfind_none hf hj
            have e2 : ld F (c, some (some x)) = some (s.1.length, c) := by
              unfold ld
              simp only [nfind_nex h1 hn, Option.map_some]
            rw [e2]
            simp
          · have e : nstep i s (c, some (some x)) = (ncut s.1 i, s.2) := by
              unfold nstep
              simp only [hf, q, ↓reduceIte]
            rw [e] at h1 ⊢
            have hn : nfind F x = none := by
              refine fIx_none.mpr (fun j _ hj => ?_)
              have hl := h1.1
              rw [ncut_len] at hl
              have hj' : j < s.1.length := by omega
              rw [h1.2 j (by rw [ncut_len]; exact hj'), (ncut_1 hi j).1]
              simpa using nfind_none hf hj'
            have e2 : ld F (c, some (some x)) = none := by
              unfold ld
              simp only [hn, Option.map_none]
            rw [e2]
theorem nex_P {D : BD} {g : Nat → Nat} {x0 : ND} (a : Nat) : ∀ n, nex (nP D g x0 a) (nP D g x0 (a + n))
  | 0 => nex_rfl _
  | n + 1 => by
    refine nex_tr (nex_P a n) ?_
    show nex (nP D g x0 (a + n)) (if a + n < (nP D g x0 (a + n)).length then (nnode D g (nP D g x0 (a + n)) (a + n)).1 else nP D g x0 (a + n))
    split
    · exact nkp_nex (nkp_node ‹_›)
    · exact nex_rfl _
theorem tgt_ld {B : AB} (hB : okB B) {e : Nat} (he : e < (netOf B).length) : tgt B e = (mvs (bfs B.2.1) B.2.1 (nN (netOf B) e).1).filterMap (ld (netOf B)) := by
  have h150 := (gI_net hB).1.1
  have hx : nex (nP (bfs B.2.1) B.2.1 (nd00 B) e) (netOf B) := by
    have := nex_P (D := bfs B.2.1) (g := B.2.1) (x0 := nd00 B) e (150 - e)
    rw [show e + (150 - e) = 150 by omega] at this
    exact this
  have hel : e < (nP (bfs B.2.1) B.2.1 (nd00 B) e).length := by
    by_cases c : e < (nP (bfs B.2.1) B.2.1 (nd00 B) e).length
    · exact c
    · have := nP_stop (D := bfs B.2.1) (g := B.2.1) (x0 := nd00 B) (i := e) (by omega) (150 - e)
      rw [show e + (150 - e) = 150 by omega] at this
      have this : netOf B = nP (bfs B.2.1) B.2.1 (nd00 B) e := this
      rw [this] at he
      exact absurd he c
  have hx1 : nex (nP (bfs B.2.1) B.2.1 (nd00 B) (e + 1)) (netOf B) := by
    have := nex_P (D := bfs B.2.1) (g := B.2.1) (x0 := nd00 B) (e + 1) (150 - (e + 1))
    rw [show e + 1 + (150 - (e + 1)) = 150 by omega] at this
    exact this
  rw [nP_s hel] at hx1
  unfold tgt nnode
  rw [hx.2 e hel, ld_fold h150 _ _ hel hx1]
  rfl
theorem zat_snoc {xs : List Nat} {c : Nat} {x : Int32} (hl : xs.length < 2 ^ 31) : zat (xs ++ [c]) x = if nI xs.length = x then nI c else zat xs x := by
  by_cases e : nI xs.length = x
  · rw [if_pos e, ← e]
    unfold zat
    rw [nI_toInt hl, if_pos (by simp; omega), Int.toNat_natCast]
    have := getD_app_r (xs := xs) (ys := [c]) (i := 0)
    rw [Nat.add_zero] at this
    rw [this]
    rfl
  · rw [if_neg e]
    have ne : x.toInt ≠ xs.length := fun z => e (by
      rw [iI_nat, ← z]
      exact (iI_of x).symm)
    unfold zat
    rw [List.length_append, List.length_singleton]
    by_cases c1 : 0 ≤ x.toInt ∧ x.toInt < xs.length
    · rw [if_pos c1, if_pos (by omega), getD_app_l (by omega)]
    · rw [if_neg c1, if_neg (by omega)]
section REF10
variable {E : ZE} {k : Nat} {M M' M1 M2 : ZM} {Φ : Option Value → ZS → ZM → Prop} {A A' Q Q' : List Nat} {D : BD} {N : List NR}
def zLd (M : ZM) (x : Int32) (T : List (Nat × Nat)) : Prop := M 83 28 = nI T.length ∧ M 83 29 = zat (T.map (fun z => z.2)) x ∧ M 83 30 = zat (T.map (fun z => z.1)) x
theorem lead_loop {i : Nat} {x : ND} {g : Nat → Nat} {x2 : Int32} (hg : okg g) (hD : okD D) (hgi : gI N) (hi : i < N.length) (hx : (nN N i).1 = x) {M0 : ZM} (hk : ∀ M', zLd M' x2 ((mvs D g x).filterMap (ld N)) → zfq M0 M' [103, 104, 105] [28, 29, 30] → Φ none (zSt k) M') : ∀ (rest done : List MR) (M : ZM), done ++ rest = mvs D g x → zRT M N → zMv M ((mvs D g x).map (fun m => m.1)) → zRD M D → (∀ u, u < 6 → M 86 u = nI (g u)) → zLd M x2 (done.filterMap (ld N)) → zfq M0 M [103, 104, 105] [28, 29, 30] → zW E m_Mo_findLeading 4 (zSt k) M 37 [some (.ref 83), some (.int (nI i)), some (.int x2), some (.int (nI done.length)), none] [] Φ
  | [], done, M, hd, hT, hV, hR, hG, hL, hf => by
    rw [List.append_nil] at hd
    have := mvs_len D g x
    refine vc_Mo_findLeading_37 E k M _ _ _ Φ ?_
    rw [hV.1, List.length_map, ← hd]
    rw [← hd] at this
    refine ⟨fun _ => ?_, fun q => absurd (nI_le (Nat.le_refl _) (by omega)) q⟩
    rw [← hd] at hk
    exact hk M hL hf
  | m :: rest, done, M, hd, hT, hV, hR, hG, hL, hf => by
    have hlen := mvs_len D g x
    have hdl : done.length < (mvs D g x).length := by rw [← hd]; simp
    have hmem : m ∈ mvs D g x := by rw [← hd]; simp
    have hcode : M 106 done.length = nI m.1 := by
      have := hV.2 done.length (by rw [List.length_map]; exact hdl)
      rw [Nat.zero_add] at this
      rw [this, ← hd]
      simp [List.getD_eq_getElem?_getD]
    have hgl := hgi.1.1
    have hi150 : i < 150 := by omega
    have hfl : (done.filterMap (ld N)).length ≤ 56 := Nat.le_trans (List.length_filterMap_le _ _) (by omega)
    have ih := lead_loop hg hD hgi hi hx hk rest (done ++ [m])
    have step : ∀ M', zLd M' x2 (done.filterMap (ld N) ++ (ld N m).toList) → zfq M M' [103, 104, 105] [28, 29, 30] → zW E m_Mo_findLeading 4 (zSt k) M' 37 [some (.ref 83), some (.int (nI i)), some (.int x2), some (.int (nI done.length + 1)), none] [] Φ := fun M' a1 f => by
      have := ih M' (by rw [List.append_assoc]; exact hd) (zRT_keep hT f (by simp) (by simp)) ⟨by rw [f.2 27 (by decide)]; exact hV.1, by rw [f.1 106 (by decide) (by decide)]; exact hV.2⟩ (zRD_keep hR f (by simp) (by simp)) (fun u hu => by rw [f.1 86 (by decide) (by decide)]; exact hG u hu) (by
        have e : [m].filterMap (ld N) = (ld N m).toList := by
          rw [List.filterMap_cons, List.filterMap_nil]
          cases ld N m <;> rfl
        rw [List.filterMap_append, e]; exact a1) (zfq_tr hf f)
      rw [List.length_append, List.length_singleton, ← nI_1] at this
      exact this
    refine vc_Mo_findLeading_37 E k M _ _ _ Φ ?_
    rw [hV.1, List.length_map]
    refine ⟨fun q => absurd q (nI_ge hdl (by omega)), fun _ => ⟨done.length, by omega, rfl, ?_⟩⟩
    rw [hcode]
    refine makeMove_ok hg hi150 hD (hgi.1.2 i hi) hR hG (hT.2 i hi) (by rw [hx]; exact hmem) (fun M3 y hy f3 => ⟨_, rfl, rfl, ?_⟩)
    have f3' : zfq M M3 [103, 104, 105] [28, 29, 30] := zfq_mono f3 (by simp) (by simp)
    have L3 : zLd M3 x2 (done.filterMap (ld N)) := ⟨by rw [f3.2 28 (by decide)]; exact hL.1, by rw [f3.2 29 (by decide)]; exact hL.2.1, by rw [f3.2 30 (by decide)]; exact hL.2.2⟩
    have none_ : ld N m = none → y ≠ 1 ∨ True → zW E m_Mo_findLeading 4 (zSt k) M3 37 [some (.ref 83), some (.int (nI i)), some (.int x2), some (.int (nI done.length + 1)), none] [] Φ := fun e _ => by
      rw [e] at step
      exact step M3 (by simpa using L3) f3'
    obtain ⟨c, r⟩ := m
    cases r with
    | none =>
      have hy : y = 0 := hy
      subst hy
      refine ⟨fun _ => ?_, fun q => absurd q (by decide)⟩
      rintro _ rfl
      exact none_ rfl (Or.inr trivial)
    | some r =>
      cases r with
      | none =>
        have hy : y = 2 := hy
        subst hy
        refine ⟨fun _ => ?_, fun q => absurd q (by decide)⟩
        rintro _ rfl
        exact none_ rfl (Or.inr trivial)
      | some w =>
        obtain ⟨hy, hr, hn⟩ := hy
        subst hy
        have hw : okN w := (mvs_ok (x := x) (by rw [← hx]; exact (hgi.1.2 i hi).1) hmem).1
        have hT3 : zRT M3 N := zRT_keep hT f3 (by simp) (by simp)
        refine ⟨fun q => absurd rfl q, fun _ => ?_⟩
        refine lookFor_ok hgi.1 hw hT3 hr hn ⟨_, rfl, rfl, ?_⟩
        have hlt : ∀ e, nfind N w = some e → e < 2 ^ 31 := fun e he => by
          have := (nfind_some he).1
          omega
        rw [(oN_neg hlt).2]
        cases hfd : nfind N w with
        | none =>
          have e : ld N (c, some (some w)) = none := by
            unfold ld
            simp only [hfd, Option.map_none]
          refine ⟨fun _ => ?_, fun q => absurd rfl q⟩
          rintro _ rfl
          exact none_ e (Or.inr trivial)
        | some t =>
          have e : ld N (c, some (some w)) = some (t, c) := by
            unfold ld
            simp only [hfd, Option.map_some]
          rw [e] at step
          simp only [Option.toList_some] at step
          have zs := zat_snoc (x := x2) (c := c) (xs := (done.filterMap (ld N)).map (fun z => z.2)) (by rw [List.length_map]; omega)
          have zf := zat_snoc (x := x2) (c := t) (xs := (done.filterMap (ld N)).map (fun z => z.1)) (by rw [List.length_map]; omega)
          rw [List.length_map] at zs zf
          have new : ∀ M', M' 83 28 = nI ((done.filterMap (ld N)).length + 1) → M' 83 29 = (if nI (done.filterMap (ld N)).length = x2 then nI c else zat ((done.filterMap (ld N)).map (fun z => z.2)) x2) → M' 83 30 = (if nI (done.filterMap (ld N)).length = x2 then nI t else zat ((done.filterMap (ld N)).map (fun z => z.1)) x2) → zfq M3 M' [] [28, 29, 30] → zW E m_Mo_findLeading 4 (zSt k) M' 37 [some (.ref 83), some (.int (nI i)), some (.int x2), some (.int (nI done.length + 1)), none] [] Φ := fun M' a b d f => by
            refine step M' ⟨by rw [a]; simp, ?_, ?_⟩ (zfq_tr f3' (zfq_mono f (by simp) (by simp)))
            · rw [b, List.map_append]; exact zs.symm
            · rw [d, List.map_append]; exact zf.symm
          refine ⟨fun q => absurd q (by simp), fun _ => ?_⟩
          rw [L3.1]
          have fq : ∀ a b d, zfq M3 (zms (zms (zms M3 83 29 a) 83 30 b) 83 28 d) [] [28, 29, 30] := fun a b d => zfq_tr (zfq_tr (zfq_mq _ _ _ (by simp)) (zfq_mq _ _ _ (by simp))) (zfq_mq _ _ _ (by simp))
          refine ⟨fun q => ?_, fun q => ⟨done.length, by omega, rfl, ?_⟩⟩
          · rintro _ rfl
            rw [zms_n _ _ (by omega), L3.1]
            refine ⟨fun _ => ?_, fun q2 => absurd q2 q⟩
            rintro _ rfl _ rfl _ rfl
            refine new _ ?_ ?_ ?_ (fq _ _ _)
            · rw [zms_s, zms_n _ _ (by omega), zms_n _ _ (by omega), L3.1, nI_1]
            · rw [if_neg q, zms_n _ _ (by omega), zms_n _ _ (by omega), zms_s]; exact L3.2.1
            · rw [if_neg q, zms_n _ _ (by omega), zms_s, zms_n _ _ (by omega)]; exact L3.2.2
          · rintro _ rfl
            rw [zms_n _ _ (by omega), L3.1]
            refine ⟨fun q2 => absurd q q2, fun _ => ?_⟩
            rintro _ rfl _ rfl _ rfl
            refine new _ ?_ ?_ ?_ (fq _ _ _)
            · rw [zms_s, zms_n _ _ (by omega), zms_n _ _ (by omega), L3.1, nI_1]
            · rw [if_pos q, zms_n _ _ (by omega), zms_n _ _ (by omega), zms_s, f3.1 106 (by decide) (by decide)]; exact hcode
            · rw [if_pos q, zms_n _ _ (by omega), zms_s]; rfl
theorem zat_nil (x : Int32) : zat [] x = -6 := by
  unfold zat
  rw [if_neg (by simp)]
theorem findLeading_ok {a : AS} {i : Nat} {x2 : Int32} (h : zRI M a) (hW : zRW a.2.1 M) (hi : i < (netOf a.2.1).length) (hk : ∀ M', zLd M' x2 (tgt a.2.1 i) → zRI M' a → zMh M M' → Φ none (zSt k) M') : zW E m_Mo_findLeading 4 (zSt k) M 0 [some (.ref 83), some (.int (nI i)), some (.int x2), none, none] [] Φ := by
  have hB := h.1.2.1
  have hg := hB.2.2.1
  have hD : okD (bfs a.2.1.2.1) := okD_P hg 27
  have hgi := gI_net hB
  have l150 := hgi.1.1
  rw [tgt_ld hB hi] at hk
  refine vc_Mo_findLeading_0 E k M _ _ Φ ?_
  intro M1 g1 M2 g2 M3 g3 M4 g4
  have f4 : zfq M M4 [103, 104, 105, 106] [27, 28, 29, 30] := by
    rw [g4, g3, g2, g1]
    exact zfq_tr (zfq_tr (zfq_tr (zfq_mq _ _ _ (by simp)) (zfq_mq _ _ _ (by simp))) (zfq_mq _ _ _ (by simp))) (zfq_mq _ _ _ (by simp))
  have L4 : ∀ {M' : ZM}, zfq M4 M' [106] [27] → zLd M' x2 [] := fun {M'} f => by
    refine ⟨?_, ?_, ?_⟩
    · rw [f.2 28 (by decide), g4, zms_n _ _ (by omega), g3, zms_n _ _ (by omega), g2, zms_n _ _ (by omega), g1, zms_s]; rfl
    · rw [f.2 29 (by decide), g4, zms_n _ _ (by omega), g3, zms_n _ _ (by omega), g2, zms_s]; exact (zat_nil _).symm
    · rw [f.2 30 (by decide), g4, zms_n _ _ (by omega), g3, zms_s]; exact (zat_nil _).symm
  have go : ∀ M', zMv M' ((mvs (bfs a.2.1.2.1) a.2.1.2.1 (nN (netOf a.2.1) i).1).map (fun m => m.1)) → zfq M4 M' [106] [27] → zW E m_Mo_findLeading 4 (zSt k) M' 37 [some (.ref 83), some (.int (nI i)), some (.int x2), some (.int 0), none] [] Φ := fun M' hV f => by
    have f' : zfq M M' [103, 104, 105, 106] [27, 28, 29, 30] := zfq_tr f4 (zfq_mono f (by simp) (by simp))
    refine lead_loop (D := bfs a.2.1.2.1) (g := a.2.1.2.1) (N := netOf a.2.1) (x := (nN (netOf a.2.1) i).1) hg hD hgi hi rfl (M0 := M') (fun M5 z5 f5 => ?_) (mvs (bfs a.2.1.2.1) a.2.1.2.1 (nN (netOf a.2.1) i).1) [] M' (List.nil_append _) (zRT_keep hW.2 f' (by simp) (by simp)) hV (zRD_keep hW.1 f' (by simp) (by simp)) (fun u hu => by rw [f'.1 86 (by decide) (by decide)]; exact h.2.1.2.1.2.1 u hu) (L4 f) (zfq_rfl _ _ _)
    have f5' := zfq_tr f' (zfq_mono f5 (A' := [103, 104, 105, 106]) (Q' := [27, 28, 29, 30]) (by simp) (by simp))
    exact hk M5 z5 (zRI_keep h f5' (by simp) (by simp)) (zfq_Mh f5' (by simp))
  refine isEnd_ok (by omega) hD (hgi.1.2 i hi) (zRD_keep hW.1 f4 (by simp) (by simp)) ((zRT_keep hW.2 f4 (by simp) (by simp)).2 i hi) ⟨_, rfl, rfl, fun q => ?_, fun q => ?_⟩
  · have w : isEn (bfs a.2.1.2.1) (nN (netOf a.2.1) i).1 = true := by
      by_cases w : isEn (bfs a.2.1.2.1) (nN (netOf a.2.1) i).1 = true
      · exact w
      · rw [if_neg w] at q; exact absurd rfl q
    refine go M4 ?_ (zfq_rfl _ _ _)
    rw [isEn_mvs w]
    exact ⟨by rw [g4, zms_s]; rfl, zSl_nil _ _⟩
  · exact findMoves_ok (by omega) (hgi.1.2 i hi) ((zRT_keep hW.2 f4 (by simp) (by simp)).2 i hi) (fun M5 z5 f5 => ⟨rfl, rfl, go M5 z5 f5⟩)
theorem isNode_ok {a : AS} {x : Int32} (h : zRI M a) (h1 : ∀ e M', e < (netOf a.2.1).length → x = nI e → inN (netOf a.2.1).length x = some e → zRI M' a → zRW a.2.1 M' → zMh M M' → Φ (some (.int 1)) (zSt k) M') (h0 : ∀ M', inN (netOf a.2.1).length x = none → zRI M' a → zMh M M' → Φ (some (.int 0)) (zSt k) M') : zW E m_Mo_isNode 6 (zSt k) M 0 [some (.ref 83), some (.int x)] [] Φ := by
  have l150 := (gI_net h.1.2.1).1.1
  refine vc_Mo_isNode_0 E k M x Φ (findNet_ok h (fun M1 z1 z2 f1 => ⟨rfl, rfl, ?_⟩))
  rw [z2.2.1]
  exact Mo_inN_ok (up1 (by omega)) (fun e a1 a2 a3 => ⟨1, rfl, rfl, Or.inr rfl, h1 e M1 a1 a2 a3 z1 z2 (zfq_Mh f1 (by decide))⟩) (fun a1 => ⟨0, rfl, rfl, Or.inl rfl, h0 M1 a1 z1 (zfq_Mh f1 (by decide))⟩)
theorem Mo_node_ok {a : AS} {x y : Int32} (h : zRI M a) (hk : ∀ M', zRI M' a → zMh M M' → Φ (some (.int (aNode a x y))) (zSt k) M') : zW E m_Mo_node 7 (zSt k) M 0 [some (.ref 83), some (.int x), some (.int y)] [] Φ := by
  unfold aNode at hk
  have l150 := (gI_net h.1.2.1).1.1
  refine vc_Mo_node_0 E k M x y Φ (isNode_ok h (fun e M1 he ex qx z1 z2 f1 => ⟨1, rfl, rfl, fun _ => ?_, fun q => absurd q (by decide)⟩) (fun M1 qx z1 f1 => ⟨0, rfl, rfl, fun q => absurd rfl q, fun _ => ?_⟩))
  · rw [qx] at hk
    simp only at hk
    obtain ⟨⟨⟨a1, -⟩, ⟨a3, -⟩⟩, -, ⟨a6, a7, a8⟩, a9⟩ := z2.2.2 e he
    have e2 : ∀ j : Nat, y.toInt = j → j < 2 → 2 * x + y = nI (2 * e + j) := fun j hj _ => by
      have ey : y = nI j := by rw [iI_nat, ← hj]; exact iI_of y
      have a : (2 : Int32) * nI e = nI (2 * e) := pk_mul 2 e
      rw [ex, ey, a, nI_add]
    refine ⟨fun q => ?_, fun q => ⟨2 * e, by omega, e2 0 q (by decide), ?_⟩, fun q => ⟨2 * e + 1, by omega, e2 1 q (by decide), ?_⟩, fun q => ⟨e, by omega, ex, ?_⟩, fun q => ⟨e, by omega, ex, ?_⟩, fun q => ⟨e, by omega, ex, ?_⟩, fun q => ?_, fun q => ⟨e, by omega, ex, ?_⟩⟩
    · rw [if_neg (by omega), if_neg (by omega), if_neg (by omega), if_neg (by omega), if_neg (by omega), if_neg (by omega), if_neg (by omega)] at hk
      exact hk M1 z1 f1
    · rw [if_pos q] at hk
      rw [a1]; exact hk M1 z1 f1
    · rw [if_neg (by omega), if_pos q] at hk
      rw [a3]; exact hk M1 z1 f1
    · rw [if_neg (by omega), if_neg (by omega), if_pos q] at hk
      rw [a6]; exact hk M1 z1 f1
    · rw [if_neg (by omega), if_neg (by omega), if_neg (by omega), if_pos q] at hk
      rw [a7]; exact hk M1 z1 f1
    · rw [if_neg (by omega), if_neg (by omega), if_neg (by omega), if_neg (by omega), if_pos q] at hk
      rw [a8]; exact hk M1 z1 f1
    · rw [if_neg (by omega), if_neg (by omega), if_neg (by omega), if_neg (by omega), if_neg (by omega), if_pos q] at hk
      rw [ex]
      refine findLeading_ok z1 z2 he (fun M2 y1 y2 f2 => ⟨rfl, rfl, ?_⟩)
      rw [y1.1]
      exact hk M2 y2 (zMh_tr f1 f2)
    · rw [if_neg (by omega), if_neg (by omega), if_neg (by omega), if_neg (by omega), if_neg (by omega), if_neg (by omega), if_pos q] at hk
      rw [a9]
      have hk := hk M1 z1 f1
      by_cases w : (nN (netOf a.2.1) e).2.2.2 = true
      · rw [if_pos w] at hk ⊢
        exact ⟨fun z => absurd z (by decide), fun _ => hk⟩
      · rw [if_neg w] at hk ⊢
        exact ⟨fun _ => hk, fun z => absurd rfl z⟩
  · rw [qx] at hk
    exact hk M1 z1 f1
theorem Mo_symbol_ok {a : AS} {x y z : Int32} (h : zRI M a) (hk : ∀ M', zRI M' a → zMh M M' → Φ (some (.int (aSymbol a x y z))) (zSt k) M') : zW E m_Mo_symbol 7 (zSt k) M 0 [some (.ref 83), some (.int x), some (.int y), some (.int z)] [] Φ := by
  unfold aSymbol at hk
  have hgi := gI_net h.1.2.1
  have l150 := hgi.1.1
  refine vc_Mo_symbol_0 E k M x y z Φ (isNode_ok h (fun e M1 he ex qx z1 z2 f1 => ⟨1, rfl, rfl, fun _ => ?_, fun q => absurd q (by decide)⟩) (fun M1 qx z1 f1 => ⟨0, rfl, rfl, fun q => absurd rfl q, fun _ => ?_⟩))
  · rw [qx] at hk
    simp only at hk
    obtain ⟨⟨⟨a1, a2⟩, ⟨a3, a4⟩⟩, -⟩ := z2.2.2 e he
    obtain ⟨-, o4, o5⟩ := hgi.1.2 e he
    refine Mo_inN_ok (n := 2) (by decide) (fun r hr ey qy => ⟨1, rfl, rfl, fun _ => ?_, fun c => absurd c (by decide)⟩) (fun qy => ⟨0, rfl, rfl, fun c => absurd rfl c, fun _ => ?_⟩)
    · simp only [qy] at hk
      have hk := hk M1 z1 f1
      have e1 : 2 * x + y = nI (2 * e + r) := by
        have a : (2 : Int32) * nI e = nI (2 * e) := pk_mul 2 e
        rw [ex, ey, a, nI_add]
      have key : ∀ xs : List Nat, xs.length ≤ 24 → M1 97 (2 * e + r) = nI xs.length → zSl (M1 96) (48 * e + 24 * r) xs → Φ (some (.int (zat xs z))) (zSt k) M1 → zW E m_Mo_in 0 (zSt k) M1 0 [some (.long (Int32.toInt64 z)), none, some (.long 0), none, some (.long (Int32.toInt64 ((M1 97 (2 * e + r)) - 1))), none] [] (fun q6 T6 M6 => ∃ y6 : Int32, q6 = some (.int y6) ∧ (zSt k) = T6 ∧ (y6 = 0 → Φ (some (.int (-6))) (zSt k) M6) ∧ (¬ y6 = 0 → ∃ j8 : Nat, j8 < 7200 ∧ (((48 * x) + (24 * y)) + z) = nI j8 ∧ (Φ (some (.int (M6 96 j8))) (zSt k) M6))) := by
        intro xs hl b1 b2 hk
        rw [b1]
        refine Mo_inN_ok (n := xs.length) (up1 (by omega)) (fun u hu eu qu => ⟨1, rfl, rfl, fun c => absurd c (by decide), fun _ => ⟨48 * e + 24 * r + u, by omega, ?_, ?_⟩⟩) (fun qu => ⟨0, rfl, rfl, fun _ => ?_, fun c => absurd rfl c⟩)
        · have a : (48 : Int32) * nI e = nI (48 * e) := pk_mul 48 e
          have b : (24 : Int32) * nI r = nI (24 * r) := pk_mul 24 r
          rw [ex, ey, eu, a, b, nI_add, nI_add]
        · rw [b2 u hu]
          rw [zat_s (by omega) hu eu] at hk
          exact hk
        · rw [zat_none qu] at hk; exact hk
      refine ⟨2 * e + r, by omega, e1, ?_⟩
      rcases (show r = 0 ∨ r = 1 by omega) with rfl | rfl
      · exact key _ o4 a1 a2 hk
      · exact key _ o5 a3 a4 hk
    · simp only [qy] at hk
      exact hk M1 z1 f1
  · rw [qx] at hk
    exact hk M1 z1 f1
theorem Mo_needs_ok {a : AS} {x y z : Int32} (h : zRI M a) (hk : ∀ M', zRI M' a → zMh M M' → Φ (some (.int (aNeeds a x y z))) (zSt k) M') : zW E m_Mo_needs 7 (zSt k) M 0 [some (.ref 83), some (.int x), some (.int y), some (.int z)] [] Φ := by
  unfold aNeeds at hk
  have l150 := (gI_net h.1.2.1).1.1
  refine vc_Mo_needs_0 E k M x y z Φ (isNode_ok h (fun e M1 he ex qx z1 z2 f1 => ⟨1, rfl, rfl, fun q => absurd q (by decide), fun _ => ?_⟩) (fun M1 qx z1 f1 => ⟨0, rfl, rfl, fun _ => ?_, fun q => absurd rfl q⟩))
  · refine Mo_isThird_ok (fun v hv ey qy => ⟨1, rfl, rfl, fun c => absurd c (by decide), fun _ => ?_⟩) (fun qy => ⟨0, rfl, rfl, fun _ => ?_, fun c => absurd rfl c⟩)
    · refine Mo_isThird_ok (fun s hs ez qz => ⟨1, rfl, rfl, fun c => absurd c (by decide), fun _ => ⟨9 * e + (3 * v + s), by omega, by rw [ex, ey, ez]; exact n933 e v s, ?_⟩⟩) (fun qz => ⟨0, rfl, rfl, fun _ => ?_, fun c => absurd rfl c⟩)
      · rw [qx, qy, qz] at hk
        rw [(z2.2.2 e he).2.1 v s hv hs]
        exact hk M1 z1 f1
      · rw [qx, qy, qz] at hk
        exact hk M1 z1 f1
    · rw [qx, qy] at hk
      exact hk M1 z1 f1
  · rw [qx] at hk
    exact hk M1 z1 f1
theorem Mo_move_ok {a : AS} {x y z : Int32} (h : zRI M a) (hk : ∀ M', zRI M' a → zMh M M' → Φ (some (.int (aMove a x y z))) (zSt k) M') : zW E m_Mo_move 7 (zSt k) M 0 [some (.ref 83), some (.int x), some (.int y), some (.int z)] [] Φ := by
  unfold aMove at hk
  refine vc_Mo_move_0 E k M x y z Φ (isNode_ok h (fun e M1 he ex qx z1 z2 f1 => ⟨1, rfl, rfl, fun _ => ?_, fun q => absurd q (by decide)⟩) (fun M1 qx z1 f1 => ⟨0, rfl, rfl, fun q => absurd rfl q, fun _ => ?_⟩))
  · rw [qx] at hk
    simp only at hk
    refine Mo_inN_ok (n := 2) (by decide) (fun r hr ez qz => ⟨1, rfl, rfl, fun _ => ?_, fun c => absurd c (by decide)⟩) (fun qz => ⟨0, rfl, rfl, fun c => absurd rfl c, fun _ => ?_⟩)
    · simp only [qz] at hk
      have ez0 : z = 0 ↔ r = 0 := by rw [ez]; exact nI_eq (b := 0) (by omega) (by decide)
      rw [ez0, ex]
      refine ⟨fun c => ?_, fun c => ?_⟩
      · refine findLeading_ok z1 z2 he (fun M2 y1 y2 f2 => ⟨rfl, rfl, fun q => ?_, fun q => ?_⟩)
        · rw [if_neg q] at hk
          rw [y1.2.1]; exact hk M2 y2 (zMh_tr f1 f2)
        · rw [if_pos q] at hk
          rw [y1.2.2]; exact hk M2 y2 (zMh_tr f1 f2)
      · have hy : ∀ xs : List Nat, zat xs y = -6 := fun xs => by
          unfold zat
          rw [Int32.le_iff_toInt_le, Int32.toInt_zero] at c
          rw [if_neg (by omega)]
        have h6 : ∀ xs : List Nat, zat xs (-6) = -6 := fun xs => by
          unfold zat
          rw [if_neg (by rw [(by decide : ((-6 : Int32)).toInt = -6)]; omega)]
        rw [hy] at hk
        refine findLeading_ok z1 z2 he (fun M2 y1 y2 f2 => ⟨rfl, rfl, fun q => ?_, fun q => ?_⟩)
        · rw [y1.2.1, h6]; exact hk M2 y2 (zMh_tr f1 f2)
        · rw [y1.2.2, h6]; exact hk M2 y2 (zMh_tr f1 f2)
    · simp only [qz] at hk
      exact hk M1 z1 f1
  · rw [qx] at hk
    exact hk M1 z1 f1
end REF10
