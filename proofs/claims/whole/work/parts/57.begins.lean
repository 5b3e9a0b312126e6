/-! draftTurns, draftBegins -/
theorem nI_addN (a b : Nat) : nI a + nI b = nI (a + b) := by
  rw [iI_nat, iI_nat, iI_nat, iI_add]
  rfl
def tds (n : T3) (v o c q : Nat) : List (T3 × Nat) := ((List.range q).filter (fun t => iT (t3 n v) t)).map (fun t => (nset (nset n v (bT (t3 n v) t)) o (aT (t3 n o) (t3 n v) t), c + t))
theorem tds_s {n : T3} {v o c q : Nat} : tds n v o c (q + 1) = if iT (t3 n v) q = true then tds n v o c q ++ [(nset (nset n v (bT (t3 n v) q)) o (aT (t3 n o) (t3 n v) q), c + q)] else tds n v o c q := by
  unfold tds
  rw [List.range_succ, List.filter_append]
  by_cases h : iT (t3 n v) q = true
  · rw [if_pos h]; simp [h]
  · rw [if_neg h]; simp [h]
theorem tds_len (n : T3) (v o c : Nat) : ∀ q, (tds n v o c q).length ≤ q
  | 0 => by simp [tds]
  | q + 1 => by
    have := tds_len n v o c q
    rw [tds_s]
    split
    · simp; omega
    · omega
theorem tds_ok {n : T3} {v o c : Nat} (hn : okn n) (hc : c ≤ 1500) : ∀ {q}, q ≤ 27 → ∀ d ∈ tds n v o c q, okn d.1 ∧ d.2 < 2000 := by
  intro q hq d hd
  unfold tds at hd
  obtain ⟨t, h1, rfl⟩ := List.mem_map.mp hd
  have := List.mem_range.mp (List.mem_filter.mp h1).1
  exact ⟨okn_nset (okn_nset hn (bT_lt _ _)) (aT_lt (okn_t3 hn _)), by show c + t < 2000; omega⟩
section BEGINS
variable {E : ZE} {k : Nat} {M : ZM} {Φ : Option Value → ZS → ZM → Prop} {N : List NR} {T : Nat → List (Nat × Nat)} {D : BD} {g : Nat → Nat} {p : List Nat × List Nat} {i : Nat}
theorem draftTurns_loop {n : T3} {v o c : Nat} (hn : okn n) (hv : v < 3) (ho : o < 3) : ∀ (m q : Nat) (M : ZM), q + m = 27 → zRN M 57 ((tds n v o c q).map (fun d => pkn d.1)) → zRN M 59 ((tds n v o c q).map (fun d => d.2)) → (∀ M', zRN M' 57 ((tds n v o c 27).map (fun d => pkn d.1)) → zRN M' 59 ((tds n v o c 27).map (fun d => d.2)) → zfr M M' [57, 58, 59, 60] → Φ none (zSt k) M') →
    zW E m_Net_draftTurns 2 (zSt k) M 17 [some (.ref 50), some (.int (nI (pkn n))), some (.int (nI v)), some (.int (nI o)), some (.int (nI c)), some (.int (nI (t3 n v))), some (.int (nI (t3 n o))), some (.int (nI q)), none] [] Φ
  | 0, q, M, hq, h57, h59, hk => by
    have : q = 27 := by omega
    subst this
    refine vc_Net_draftTurns_17 E k M _ _ _ _ _ _ _ Φ ⟨fun _ => hk M h57 h59 (zfr_rfl _ _), fun c => absurd ?_ c⟩
    decide
  | m + 1, q, M, hq, h57, h59, hk => by
    have hq27 : q < 27 := by omega
    have hl := tds_len n v o c q
    refine vc_Net_draftTurns_17 E k M _ _ _ _ _ _ _ Φ ⟨fun c => absurd ((nI_leI (a := 27) (by decide) (by omega)).mp c) (by omega), fun _ => ?_⟩
    refine Need_isTurn_ok hq27 (okn_t3 hn _) ⟨_, rfl, rfl, fun e => ?_, fun e => ?_⟩
    · have e' : ¬ iT (t3 n v) q = true := fun h => by rw [if_pos h] at e; exact absurd e (by decide)
      rintro _ rfl
      rw [nI_1]
      refine draftTurns_loop hn hv ho m (q + 1) M (by omega) ?_ ?_ hk
      · rw [tds_s, if_neg e']; exact h57
      · rw [tds_s, if_neg e']; exact h59
    · have e' : iT (t3 n v) q = true := by
        by_cases h : iT (t3 n v) q = true
        · exact h
        · rw [if_neg h] at e; exact absurd rfl e
      refine Need_behindTurn_ok hq27 (okn_t3 hn _) ⟨_, rfl, rfl, ?_⟩
      refine Need_withVariable_ok hn hv (bT_lt _ _) ⟨_, rfl, rfl, ?_⟩
      refine Need_aheadOfTurn_ok hq27 (okn_t3 hn _) (okn_t3 hn _) ⟨_, rfl, rfl, ?_⟩
      refine Need_withVariable_ok (okn_nset hn (bT_lt _ _)) ho (aT_lt (okn_t3 hn _)) ⟨_, rfl, rfl, ?_⟩
      rw [show nI c + nI q = nI (c + q) from nI_addN c q]
      refine Net_addDraft_ok h57 h59 (by simp; omega) (fun M9 d1 d2 f9 => ⟨rfl, rfl, ?_⟩)
      rintro _ rfl
      rw [nI_1]
      refine draftTurns_loop hn hv ho m (q + 1) M9 (by omega) ?_ ?_ (fun M' a1 a2 a3 => hk M' a1 a2 (zfr_tr f9 a3))
      · rw [tds_s, if_pos e', List.map_append]; exact d1
      · rw [tds_s, if_pos e', List.map_append]; exact d2
theorem draftTurns_ok {n : T3} {v o c : Nat} (hn : okn n) (hv : v < 3) (ho : o < 3) (h57 : zRN M 57 []) (h59 : zRN M 59 []) (hk : ∀ M', zRN M' 57 ((tds n v o c 27).map (fun d => pkn d.1)) → zRN M' 59 ((tds n v o c 27).map (fun d => d.2)) → zfr M M' [57, 58, 59, 60] → Φ none (zSt k) M') :
    zW E m_Net_draftTurns 2 (zSt k) M 0 [some (.ref 50), some (.int (nI (pkn n))), some (.int (nI v)), some (.int (nI o)), some (.int (nI c)), none, none, none, none] [] Φ :=
  vc_Net_draftTurns_0 E k M _ _ _ _ Φ (Need_ofVariable_ok hn hv ⟨_, rfl, rfl, Need_ofVariable_ok hn ho ⟨_, rfl, rfl, draftTurns_loop hn hv ho 27 0 M rfl h57 h59 hk⟩⟩)
theorem draftBegins_ok {s o : Nat} (hdr : zDr M p []) (hN : zNt k M N T) (hi : i < N.length) (hs : s < 5) (ho : o < 5) (hgo : zGo M 8 g) (hg : okg g)
    (hk : ∀ p' ds' M', zDr M' p' ds' → (∀ st, (dms D p' ds').foldl (nstep i) st = (k1 D g (nN N i).1 s o).foldl (nstep i) st) → ds'.length ≤ (k1 D g (nN N i).1 s o).length → (∀ j, j ≠ 8 → M' 50 j = M 50 j) → zfr M M' [50, 53, 54, 55, 56, 57, 58, 59, 60] → Φ none (zSt k) M') : zW E m_Net_draftBegins 3 (zSt k) M 0 [some (.ref 50), some (.ref (na i)), some (.int (nI s)), some (.int (nI o)), none, none, none, none] [] Φ := by
  have hb := hN.1
  obtain ⟨b1, b2, b3⟩ := hN.2.2.2.1 i hi
  have hz := tN (k := k) (j := i) (by omega)
  have h116 : 116 ≤ na i := Nat.le_add_right _ _
  have h5 : ∀ {l : List Nat}, (∀ s ∈ l, s < 5) → ∀ s ∈ l, s < 2 ^ 31 := fun h s hs => by have := h s hs; omega
  refine vc_Net_draftBegins_0 E k M (na i) _ _ Φ hz ?_
  rintro _ rfl
  have no : k1 D g (nN N i).1 s o = [] → Φ none (zSt k) M := fun e => hk p [] M hdr (fun st => by rw [e]; rfl) (by simp) (fun _ _ => rfl) (zfr_rfl _ _)
  refine H_isVariable_ok (fun v hv e => ⟨1, rfl, rfl, fun _ => ?_, fun q => absurd q (by decide)⟩) (fun q => ⟨0, rfl, rfl, fun q => absurd rfl q, fun _ => no ?_⟩)
  · have hs2 : 2 ≤ s := by
      by_cases c : 2 ≤ s
      · exact c
      · exact absurd e (sub2_no (by omega) v hv)
    obtain ⟨w, rfl⟩ : ∃ w, s = w + 2 := ⟨s - 2, by omega⟩
    have hw : w < 3 := by omega
    rw [sub2_hi hs2 hs, Nat.add_sub_cancel] at *
    clear e
    have l1 : (rAhead (w + 2) o (nN N i).1.1.1).length ≤ 48 := by have := rAhead_len (w + 2) o (nN N i).1.1.1; have := b1.2.1; omega
    have l2 : (rAhead (w + 2) o (nN N i).1.1.2).length ≤ 48 := by have := rAhead_len (w + 2) o (nN N i).1.1.2; have := b1.2.2; omega
    refine Row_copyWithAhead_ok (ts_53 k) hz.2.1.2 (by omega) b2.1 b1.2.1 (by have := b1.2.1; omega) (by omega) (h5 b1.1.1) (fun M7 x7 f7 => ⟨rfl, rfl, ?_⟩)
    refine Row_copyWithAhead_ok (ts_55 k) hz.2.2.1.2 (by omega) (zRN_keep b2.2.1 f7 (by simp; omega) (by simp; omega)) b1.2.2 (by have := b1.2.2; omega) (by omega) (h5 b1.1.2.1) (fun M8 x8 f8 => ⟨rfl, rfl, ?_⟩)
    refine Net_makeLean_ok (zRN_keep x7 f8 (by decide) (by decide)) x8 ⟨l1, l2⟩ ⟨rAhead_lt b1.1.1 ho, rAhead_lt b1.1.2.1 ho⟩ (fun M9 r1 r2 r3 r4 f9 => ⟨rfl, rfl, ?_⟩)
    have f79' : zfr M M9 [50, 53, 54, 55, 56] := zfr_tr (zfr_mono f7 (by simp)) (zfr_tr (zfr_mono f8 (by simp)) f9)
    have f79 : zfr M M9 [50, 53, 54, 55, 56, 57, 58, 59, 60] := zfr_mono f79' (by simp)
    have r57 := zRN_keep hdr.2.1.1 f79' (by decide) (by decide)
    have r59 := zRN_keep hdr.2.1.2 f79' (by decide) (by decide)
    have r50 : ∀ j, j ≠ 8 → M9 50 j = M 50 j := fun j hj => by rw [r4 j hj, f8 50 (by decide), f7 50 (by decide)]
    have eN : M9 (na i) 5 = nI (pkn (nN N i).1.2) := by rw [f79 (na i) (by simp; omega), b2.2.2.1]
    rintro _ rfl
    have ec : (1000 : Int32) + 100 * nI w = nI (1000 + 100 * w) := by
      rw [show (100 : Int32) * nI w = nI (100 * w) from pk_mul 100 w]
      exact nI_addN 1000 _
    rw [ec]
    have dr : ∀ M', zfr M9 M' [57, 58, 59, 60] → ∀ ds : List (T3 × Nat), zRN M' 57 (ds.map (fun d => pkn d.1)) → zRN M' 59 (ds.map (fun d => d.2)) → ds.length ≤ 27 → (∀ d ∈ ds, okn d.1 ∧ d.2 < 2000) → zDr M' (rLean (rAhead (w + 2) o (nN N i).1.1.1, rAhead (w + 2) o (nN N i).1.1.2)) ds := by
      intro M' f ds a1 a2 a3 a4
      exact ⟨⟨zRN_keep r1 f (by decide) (by decide), zRN_keep r2 f (by decide) (by decide)⟩, ⟨a1, a2⟩, a3, fun _ => ⟨by rw [f 50 (by decide)]; exact r3, fun n hn => rLean_ok (rAhead_lt b1.1.1 ho) (rAhead_lt b1.1.2.1 ho) hn, rLean_48 l1 l2, a4⟩⟩
    refine H_isVariable_ok (fun v2 hv2 e => ⟨1, rfl, rfl, fun q => absurd q (by decide), fun _ => ?_⟩) (fun q => ⟨0, rfl, rfl, fun _ => ?_, fun q => absurd rfl q⟩)
    · have ho2 : 2 ≤ o := by
        by_cases c : 2 ≤ o
        · exact c
        · exact absurd e (sub2_no (by omega) v2 hv2)
      rw [sub2_hi ho2 ho, eN]
      refine draftTurns_ok b1.1.2.2.1 hw (by omega) r57 r59 (fun M' t1 t2 f' => ⟨rfl, rfl, ?_⟩)
      refine hk _ (tds (nN N i).1.2 w (o - 2) (1000 + 100 * w) 27) M' (dr M' f' _ t1 t2 (tds_len _ _ _ _ _) (tds_ok b1.1.2.2.1 (by omega) (Nat.le_refl _))) (fun st => ?_) ?_ (fun j hj => by rw [f' 50 (by decide)]; exact r50 j hj) (zfr_tr f79 (zfr_mono f' (by simp)))
      · congr 1
        unfold k1 dms tds turnsOf nd1
        rw [if_pos hs2, if_neg (by omega), List.map_map, Nat.add_sub_cancel]
        refine List.map_congr_left (fun q _ => ?_)
        rw [if_neg (by omega)]
        rfl
      · unfold k1 tds turnsOf
        rw [if_pos hs2, if_neg (by omega)]
        simp
    · have ho2 : o < 2 := by
        by_cases c : 2 ≤ o
        · rw [sub2_hi c ho] at q
          rcases q with q | q
          · exact absurd q (nI_pos (by omega))
          · have := (nI_leI (a := 3) (by decide) (by omega)).mp q
            omega
        · omega
      rw [eN]
      refine Need_ofVariable_ok b1.1.2.2.1 hw ⟨_, rfl, rfl, ?_⟩
      refine Need_behindLetter_ok (ts_8 k) (zGo_keep hgo f79 (by decide)) hg ho2 (okn_t3 b1.1.2.2.1 _) ⟨_, rfl, rfl, ?_⟩
      rw [eN]
      refine Need_withVariable_ok b1.1.2.2.1 hw (bl_lt _ _ _) ⟨_, rfl, rfl, ?_⟩
      refine Net_addDraft_ok (ds := []) (cs := []) r57 r59 (by simp) (fun M11 d1 d2 f11 => ⟨rfl, rfl, ?_⟩)
      refine hk _ [(nset (nN N i).1.2 w (bl g (t3 (nN N i).1.2 w) o), 1000 + 100 * w)] M11 (dr M11 f11 _ d1 d2 (by simp) ?_) (fun st => ?_) ?_ (fun j hj => by rw [f11 50 (by decide)]; exact r50 j hj) (zfr_tr f79 (zfr_mono f11 (by simp)))
      · intro d hd
        rw [List.mem_singleton.mp hd]
        exact ⟨okn_nset b1.1.2.2.1 (bl_lt _ _ _), by show 1000 + 100 * w < 2000; omega⟩
      · congr 1
        unfold k1 dms nd1
        rw [if_pos hs2, if_pos ho2, if_pos ho2]
        rfl
      · unfold k1
        rw [if_pos hs2, if_pos ho2]
        simp
  · unfold k1
    rw [if_neg]
    intro c
    rw [sub2_hi c hs] at q
    rcases q with q | q
    · exact absurd q (nI_pos (by omega))
    · have := (nI_leI (a := 3) (by decide) (by omega)).mp q
      omega
end BEGINS
