/-! public methods over the net -/
section PUB
variable {E : ZE} {k : Nat} {M M' : ZM} {Φ : Option Value → ZS → ZM → Prop} {B : AB}
theorem zBk_eq {b : Nat} (h : zBk M b B) (q : ∀ p, b ≤ p → p < b + 14 → M' p = M p) : zBk M' b B :=
  ⟨zRN_fr h.1 (q _ (by omega) (by omega)) (q _ (by omega) (by omega)), zRN_fr h.2.1 (q _ (by omega) (by omega)) (q _ (by omega) (by omega)), fun j hj => by rw [q _ (by omega) (by omega)]; exact h.2.2.1 j hj, fun v hv => zRN_fr (h.2.2.2.1 v hv) (q _ (by omega) (by omega)) (q _ (by omega) (by omega)), by rw [q b (by omega) (by omega)]; exact h.2.2.2.2⟩
theorem zIm_eq {b : Nat} {o : Option AB} (h : zIm M b o) (q : ∀ p, b ≤ p → p < b + 14 → M' p = M p) : zIm M' b o :=
  ⟨fun e => by rw [q b (by omega) (by omega)]; exact h.1 e, fun B e => ⟨by rw [q b (by omega) (by omega)]; exact (h.2 B e).1, zBk_eq (h.2 B e).2 q⟩⟩
theorem zTrl_eq (h : zTrl B M) (e69 : M' 69 = M 69) (e72 : M' 72 = M 72) (e73 : M' 73 = M 73) : zTrl B M' := by
  rcases h with ⟨a1, a2⟩ | ⟨x, y, z, b1, b2, b3⟩
  · exact Or.inl ⟨by rw [e69]; exact a1, a2⟩
  · exact Or.inr ⟨x, y, z, b1, by rw [e69]; exact b2, fun s hs => by
      unfold zTd
      rw [e72, e73]
      exact b3 s hs⟩
theorem ci_refresh {a : AS} (h : zCI k M a) (hk : ∀ k' M', zCI k' M' a → zNet a.2.1 k' M' → zAns a.2.1 M' → zMo M M' → k ≤ k' → Φ none (zSt k') M') : zW E m_H_refreshNet 6 (zSt k) M 0 [some (.ref 0), none] [] Φ := by
  obtain ⟨c1, c2, c3, ⟨c4, c5⟩, c6, ⟨c7, c8⟩, c9, c10⟩ := h
  refine refreshNet_ok c1.2.1 c3 c6 c7 c8 (fun k' M' hk' h12 hS hN hA hz h0 f => ?_)
  have q : ∀ p, 0 < p → p < 45 ∨ (69 ≤ p ∧ p < 116) → M' p = M p := fun p h1 h2 => f p (by omega) (by simp; omega)
  refine hk k' M' ⟨c1, zRN_fr c2 (q 1 (by decide) (by decide)) (q 2 (by decide) (by decide)), zBk_eq c3 (fun p h1 h2 => q p (by omega) (by omega)), ⟨zIm_eq c4 (fun p h1 h2 => q p (by omega) (by omega)), zIm_eq c5 (fun p h1 h2 => q p (by omega) (by omega))⟩, hz, ⟨Or.inr hS, Or.inr ⟨h12, hS.1, hN, hA⟩⟩, ?_, ?_⟩ hN hA (zMo_fb f (by decide)) hk'
  · rcases c9 with c | ⟨a1, a2⟩
    · exact Or.inl (by rw [h0 13 (by decide)]; exact c)
    · exact Or.inr ⟨by rw [h0 13 (by decide)]; exact a1, zTrl_eq a2 (q 69 (by decide) (by decide)) (q 72 (by decide) (by decide)) (q 73 (by decide) (by decide))⟩
  · intro s hs
    unfold zTd
    rw [q 72 (by decide) (by decide), q 73 (by decide) (by decide)]
    exact c10 s hs
/-- a node of the net, or none -/
theorem ci_at {x : Int32} (hN : zNet B k M) (h0 : inN (netOf B).length x = none → Φ (some (va_rf none)) (zSt k) M) (h1 : ∀ e, inN (netOf B).length x = some e → e < (netOf B).length → zNode (zSt k) (na e) → okN (nN (netOf B) e).1 → zNd M (na e) (nN (netOf B) e) (tgt B e) → Φ (some (va_rf (some (na e)))) (zSt k) M) : zW E m_Net_at 0 (zSt k) M 0 [some (.ref 50), some (.int x)] [] Φ := by
  obtain ⟨T, a1, a2, a3, -⟩ := hN
  have hb := a1.1
  refine Net_at_ok ⟨hb.1, hb.2.1⟩ a1.2.1 (fun c => h0 ?_) (fun j hj e => h1 j (inN_s hj (by omega) e) hj (tN (by omega)) (a1.2.2.2.1 j hj).1 ?_)
  · unfold inN
    rw [if_neg c]
  · rw [← a3 j hj]
    exact (a1.2.2.2.1 j hj).2.1
theorem tgt_len (B : AB) (e : Nat) : (tgt B e).length ≤ 56 := by
  unfold tgt nnode
  refine Nat.le_trans (nfold_len e _ _) ?_
  rw [mvs_o]
  generalize (nN (nP (bfs B.2.1) B.2.1 (nd00 B) e) e).1 = x
  have h1 := k0o_len (bfs B.2.1) x x.1.1.head?
  have h2 := k0o_len (bfs B.2.1) x x.1.2.head?
  have h3 : (k1o (bfs B.2.1) B.2.1 x x.1.1.head? x.1.2.head?).length ≤ 54 := by
    cases x.1.1.head? with
    | none => simp [k1o]
    | some u =>
      cases x.1.2.head? with
      | none => simp [k1o]
      | some v =>
        have a1 := k1_len (bfs B.2.1) B.2.1 x u v
        have a2 := k1_len (bfs B.2.1) B.2.1 x v u
        show (_ ++ _ : List MR).length ≤ 54
        rw [List.length_append]
        omega
  simp only [List.length_append, List.length_nil]
  omega
def aNode (a : AS) (x y : Int32) : Int32 := match inN (netOf a.2.1).length x with
  | none => -1
  | some e => if y.toInt = 0 then nI (nN (netOf a.2.1) e).1.1.1.length else if y.toInt = 1 then nI (nN (netOf a.2.1) e).1.1.2.length else if y.toInt = 2 then nI (nN (netOf a.2.1) e).2.1 else if y.toInt = 3 then oN ((nN (netOf a.2.1) e).2.2.1.map (fun z => z.1)) else if y.toInt = 4 then oN ((nN (netOf a.2.1) e).2.2.1.map (fun z => z.2)) else if y.toInt = 5 then nI (tgt a.2.1 e).length else if y.toInt = 6 then (if (nN (netOf a.2.1) e).2.2.2 = true then 1 else 0) else -2
theorem H_node_ok {a : AS} {x y : Int32} (h : zCI k M a) (hk : ∀ k' M', zCI k' M' a → zMo M M' → k ≤ k' → Φ (some (.int (aNode a x y))) (zSt k') M') : zW E m_H_node 7 (zSt k) M 0 [some (.ref 0), some (.int x), some (.int y), none] [] Φ := by
  refine vc_H_node_0 E k M x y Φ (ci_refresh h (fun k1 M1 hC hN hA hm hkk => ⟨k1, rfl, rfl, ?_⟩))
  have hk := hk k1 M1 hC hm hkk
  unfold aNode at hk
  refine ci_at hN (fun e => ⟨none, rfl, rfl, fun _ => ?_, fun b c => (by cases c)⟩) (fun e he hl hz hok hd => ⟨some (na e), rfl, rfl, fun c => (by cases c), fun b c => ?_⟩)
  · rw [e] at hk; exact hk
  · cases c
    rw [he] at hk
    simp only at hk
    obtain ⟨d1, d2, d3, d4, d5, d6, d7, d8, d9⟩ := hd
    refine ⟨hz, fun q => ?_, fun q => ?_, fun q => ?_, fun q => ?_, fun q => ?_, fun q => ?_, fun q => ?_, fun q => ?_⟩
    · rw [if_neg (by omega), if_neg (by omega), if_neg (by omega), if_neg (by omega), if_neg (by omega), if_neg (by omega), if_neg (by omega)] at hk; exact hk
    · rw [if_pos q] at hk; exact Row_size_ok hz.2.1.2 d1 ⟨_, rfl, rfl, hk⟩
    · rw [if_neg (by omega), if_pos q] at hk; exact Row_size_ok hz.2.2.1.2 d2 ⟨_, rfl, rfl, hk⟩
    · rw [if_neg (by omega), if_neg (by omega), if_pos q] at hk; rw [d4]; exact hk
    · rw [if_neg (by omega), if_neg (by omega), if_neg (by omega), if_pos q] at hk; rw [d5]; exact hk
    · rw [if_neg (by omega), if_neg (by omega), if_neg (by omega), if_neg (by omega), if_pos q] at hk; rw [d6]; exact hk
    · rw [if_neg (by omega), if_neg (by omega), if_neg (by omega), if_neg (by omega), if_neg (by omega), if_pos q] at hk
      refine Row_size_ok hz.2.2.2.1.2 d8 ⟨_, rfl, rfl, ?_⟩
      rw [List.length_map]
      exact hk
    · rw [if_neg (by omega), if_neg (by omega), if_neg (by omega), if_neg (by omega), if_neg (by omega), if_neg (by omega), if_pos q] at hk
      rw [d7]
      by_cases c : (nN (netOf a.2.1) e).2.2.2 = true
      · rw [if_pos c] at hk ⊢
        exact ⟨fun z => absurd z (by decide), fun _ => hk⟩
      · rw [if_neg c] at hk ⊢
        exact ⟨fun _ => hk, fun z => absurd rfl z⟩
def aSymbol (a : AS) (x y z : Int32) : Int32 := match inN (netOf a.2.1).length x with
  | none => -1
  | some e => match inN 2 y with
    | none => -2
    | some s => zat (if s = 0 then (nN (netOf a.2.1) e).1.1.1 else (nN (netOf a.2.1) e).1.1.2) z
theorem in2 {y : Int32} : (y < 0 ∧ inN 2 y = none) ∨ (¬ y < 0 ∧ ¬ y ≤ 1 ∧ inN 2 y = none) ∨ (¬ y < 0 ∧ y ≤ 1 ∧ y = 0 ∧ inN 2 y = some 0) ∨ (¬ y < 0 ∧ y ≤ 1 ∧ ¬ y = 0 ∧ inN 2 y = some 1) := by
  unfold inN
  rw [Int32.lt_iff_toInt_lt, Int32.toInt_zero, Int32.le_iff_toInt_le, (by decide : (1 : Int32).toInt = 1), ← Int32.toInt_inj, Int32.toInt_zero]
  by_cases c : y.toInt < 0
  · exact Or.inl ⟨c, by rw [if_neg (by omega)]⟩
  · by_cases c2 : y.toInt ≤ 1
    · by_cases c3 : y.toInt = 0
      · exact Or.inr (Or.inr (Or.inl ⟨c, c2, c3, by rw [if_pos (by omega), c3]; rfl⟩))
      · have e : y.toInt = 1 := by omega
        exact Or.inr (Or.inr (Or.inr ⟨c, c2, c3, by rw [if_pos (by omega), e]; rfl⟩))
    · exact Or.inr (Or.inl ⟨c, c2, by rw [if_neg (by omega)]⟩)
theorem H_symbol_ok {a : AS} {x y z : Int32} (h : zCI k M a) (hk : ∀ k' M', zCI k' M' a → zMo M M' → k ≤ k' → Φ (some (.int (aSymbol a x y z))) (zSt k') M') : zW E m_H_symbol 7 (zSt k) M 0 [some (.ref 0), some (.int x), some (.int y), some (.int z), none] [] Φ := by
  refine vc_H_symbol_0 E k M x y z Φ (ci_refresh h (fun k1 M1 hC hN hA hm hkk => ⟨k1, rfl, rfl, ?_⟩))
  have hk := hk k1 M1 hC hm hkk
  unfold aSymbol at hk
  refine ci_at hN (fun e => ⟨none, rfl, rfl, fun _ => ?_, fun b c => (by cases c)⟩) (fun e he hl hz hok hd => ⟨some (na e), rfl, rfl, fun c => (by cases c), fun b c => ?_⟩)
  · rw [e] at hk; exact hk
  · cases c
    rw [he] at hk
    simp only at hk
    refine ⟨hz, ?_⟩
    rcases in2 (y := y) with ⟨q1, q2⟩ | ⟨q1, q2, q3⟩ | ⟨q1, q2, q3, q4⟩ | ⟨q1, q2, q3, q4⟩
    · rw [q2] at hk
      exact ⟨fun _ => hk, fun c => absurd q1 c⟩
    · rw [q3] at hk
      exact ⟨fun c => absurd c q1, fun _ => ⟨fun c => absurd c q2, fun _ => hk⟩⟩
    · rw [q4] at hk
      exact ⟨fun c => absurd c q1, fun _ => ⟨fun _ => ⟨fun c => absurd q3 c, fun _ => Row_at_ok hz.2.1.2 hd.1 hok.2.1 ⟨_, rfl, rfl, hk⟩⟩, fun c => absurd q2 c⟩⟩
    · rw [q4] at hk
      exact ⟨fun c => absurd c q1, fun _ => ⟨fun _ => ⟨fun _ => Row_at_ok hz.2.2.1.2 hd.2.1 hok.2.2 ⟨_, rfl, rfl, hk⟩, fun c => absurd c q3⟩, fun c => absurd q2 c⟩⟩
def aMove (a : AS) (x y z : Int32) : Int32 := match inN (netOf a.2.1).length x with
  | none => -1
  | some e => match inN 2 z with
    | none => -2
    | some s => zat (if s = 0 then (tgt a.2.1 e).map (fun z => z.1) else (tgt a.2.1 e).map (fun z => z.2)) y
theorem H_move_ok {a : AS} {x y z : Int32} (h : zCI k M a) (hk : ∀ k' M', zCI k' M' a → zMo M M' → k ≤ k' → Φ (some (.int (aMove a x y z))) (zSt k') M') : zW E m_H_move 7 (zSt k) M 0 [some (.ref 0), some (.int x), some (.int y), some (.int z), none] [] Φ := by
  refine vc_H_move_0 E k M x y z Φ (ci_refresh h (fun k1 M1 hC hN hA hm hkk => ⟨k1, rfl, rfl, ?_⟩))
  have hk := hk k1 M1 hC hm hkk
  unfold aMove at hk
  refine ci_at hN (fun e => ⟨none, rfl, rfl, fun _ => ?_, fun b c => (by cases c)⟩) (fun e he hl hz hok hd => ⟨some (na e), rfl, rfl, fun c => (by cases c), fun b c => ?_⟩)
  · rw [e] at hk; exact hk
  · cases c
    rw [he] at hk
    simp only at hk
    have ht := tgt_len a.2.1 e
    refine ⟨hz, ?_⟩
    rcases in2 (y := z) with ⟨q1, q2⟩ | ⟨q1, q2, q3⟩ | ⟨q1, q2, q3, q4⟩ | ⟨q1, q2, q3, q4⟩
    · rw [q2] at hk
      exact ⟨fun _ => hk, fun c => absurd q1 c⟩
    · rw [q3] at hk
      exact ⟨fun c => absurd c q1, fun _ => ⟨fun c => absurd c q2, fun _ => hk⟩⟩
    · rw [q4] at hk
      exact ⟨fun c => absurd c q1, fun _ => ⟨fun _ => ⟨fun c => absurd q3 c, fun _ => Row_at_ok hz.2.2.2.1.2 hd.2.2.2.2.2.2.2.1 (by simpa using ht) ⟨_, rfl, rfl, hk⟩⟩, fun c => absurd q2 c⟩⟩
    · rw [q4] at hk
      exact ⟨fun c => absurd c q1, fun _ => ⟨fun _ => ⟨fun _ => Row_at_ok hz.2.2.2.2.2 hd.2.2.2.2.2.2.2.2 (by simpa using ht) ⟨_, rfl, rfl, hk⟩, fun c => absurd c q3⟩, fun c => absurd q2 c⟩⟩
end PUB
