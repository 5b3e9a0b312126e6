/-! the whole net -/
def dmx (N : List NR) : Nat → Nat
  | 0 => 0
  | i + 1 => max (dmx N i) (nN N i).2.1
def ccn (N : List NR) : Nat → Nat
  | 0 => 0
  | i + 1 => ccn N i + (if (nN N i).2.2.2 = true then 1 else 0)
theorem dmx_congr {N N' : List NR} : ∀ {i : Nat}, (∀ e, e < i → (nN N' e).2.1 = (nN N e).2.1) → dmx N' i = dmx N i
  | 0, _ => rfl
  | i + 1, h => by
    unfold dmx
    rw [dmx_congr (fun e he => h e (by omega)), h i (by omega)]
theorem ccn_congr {N N' : List NR} : ∀ {i : Nat}, (∀ e, e < i → (nN N' e).2.2.2 = (nN N e).2.2.2) → ccn N' i = ccn N i
  | 0, _ => rfl
  | i + 1, h => by
    unfold ccn
    rw [ccn_congr (fun e he => h e (by omega)), h i (by omega)]
theorem ccn_le (N : List NR) : ∀ i, ccn N i ≤ i
  | 0 => Nat.le_refl _
  | i + 1 => by
    have := ccn_le N i
    unfold ccn
    split <;> omega
theorem dep_le {N : List NR} (h : nInv N) : ∀ e, e < N.length → (nN N e).2.1 ≤ e := by
  intro e
  induction e using Nat.strongRecOn with
  | ind e ih =>
    intro he
    by_cases c : e = 0
    · rw [c, h.2.2.1]; exact Nat.le_refl _
    · obtain ⟨p, c, a1, a2, a3, a4⟩ := h.2.2.2 e (by omega) he
      have := ih p a2 (by omega)
      omega
theorem dmx_le {N : List NR} (h : nInv N) : ∀ i, i ≤ N.length → dmx N i ≤ i
  | 0, _ => Nat.le_refl _
  | i + 1, hi => by
    have h1 := dmx_le h i (by omega)
    have h2 := dep_le h i (by omega)
    unfold dmx
    omega
/-- what a run of moves of node i keeps -/
def nkp (i : Nat) (N N' : List NR) : Prop := N.length ≤ N'.length ∧ (∀ e, e < N.length → (nN N' e).1 = (nN N e).1 ∧ (nN N' e).2.1 = (nN N e).2.1 ∧ (nN N' e).2.2.1 = (nN N e).2.2.1 ∧ (e ≠ i → (nN N' e).2.2.2 = (nN N e).2.2.2)) ∧ ∀ e, N.length ≤ e → e < N'.length → (nN N' e).2.2.2 = false
theorem nkp_rfl (i : Nat) (N : List NR) : nkp i N N := ⟨Nat.le_refl _, fun _ _ => ⟨rfl, rfl, rfl, fun _ => rfl⟩, fun e h1 h2 => absurd h1 (by omega)⟩
theorem nkp_tr {i : Nat} {N N1 N2 : List NR} (hi : i < N.length) (h1 : nkp i N N1) (h2 : nkp i N1 N2) : nkp i N N2 := by
  obtain ⟨a1, a2, a3⟩ := h1
  obtain ⟨b1, b2, b3⟩ := h2
  refine ⟨by omega, fun e he => ?_, fun e he1 he2 => ?_⟩
  · obtain ⟨c1, c2, c3, c4⟩ := a2 e he
    obtain ⟨d1, d2, d3, d4⟩ := b2 e (by omega)
    exact ⟨d1.trans c1, d2.trans c2, d3.trans c3, fun q => (d4 q).trans (c4 q)⟩
  · by_cases c : e < N1.length
    · rw [(b2 e c).2.2.2 (by omega), a3 e he1 c]
    · exact b3 e (by omega) he2
theorem nkp_cut {i : Nat} {N : List NR} (hi : i < N.length) : nkp i N (ncut N i) := by
  refine ⟨by rw [ncut_len]; exact Nat.le_refl _, fun e _ => ⟨(ncut_1 hi e).1, (ncut_1 hi e).2.1, (ncut_1 hi e).2.2, fun q => ?_⟩, fun e h1 h2 => absurd h2 (by rw [ncut_len]; omega)⟩
  rw [ncut_N hi, if_neg q]
theorem nkp_step {i : Nat} {s : List NR × List (Nat × Nat)} (m : MR) (hi : i < s.1.length) : nkp i s.1 (nstep i s m).1 := by
  unfold nstep
  split
  · exact nkp_rfl _ _
  · exact nkp_cut hi
  · split
    · exact nkp_rfl _ _
    · split
      · refine ⟨by simp, fun e he => by rw [nN_l he]; exact ⟨rfl, rfl, rfl, fun _ => rfl⟩, fun e h1 h2 => ?_⟩
        simp at h2
        have : e = s.1.length := by omega
        subst this
        rw [nN_r]
      · exact nkp_cut hi
theorem nkp_fold {i : Nat} : ∀ (L : List MR) (s : List NR × List (Nat × Nat)), i < s.1.length → nkp i s.1 (L.foldl (nstep i) s).1
  | [], s, _ => nkp_rfl _ _
  | m :: L, s, hi => by
    have h := nkp_step m hi
    exact nkp_tr hi h (nkp_fold L (nstep i s m) (Nat.lt_of_lt_of_le hi h.1))
theorem nkp_node {D : BD} {g : Nat → Nat} {N : List NR} {i : Nat} (hi : i < N.length) : nkp i N (nnode D g N i).1 := nkp_fold _ (N, []) hi
theorem nP_stop {D : BD} {g : Nat → Nat} {x0 : ND} {i : Nat} (h : (nP D g x0 i).length ≤ i) : ∀ m, nP D g x0 (i + m) = nP D g x0 i
  | 0 => rfl
  | m + 1 => by
    show (if i + m < (nP D g x0 (i + m)).length then (nnode D g (nP D g x0 (i + m)) (i + m)).1 else nP D g x0 (i + m)) = _
    rw [nP_stop h m, if_neg (by omega)]
theorem nP_s {D : BD} {g : Nat → Nat} {x0 : ND} {i : Nat} (h : i < (nP D g x0 i).length) : nP D g x0 (i + 1) = (nnode D g (nP D g x0 i) i).1 := by
  show (if i < (nP D g x0 i).length then (nnode D g (nP D g x0 i) i).1 else nP D g x0 i) = _
  rw [if_pos h]
def tgt (B : AB) (e : Nat) : List (Nat × Nat) := (nnode (bfs B.2.1) B.2.1 (nP (bfs B.2.1) B.2.1 (nd00 B) e) e).2
/-- the loop's state: i nodes are unfolded -/
def zLp (B : AB) (i k : Nat) (M : ZM) (N : List NR) (T : Nat → List (Nat × Nat)) : Prop :=
  N = nP (bfs B.2.1) B.2.1 (nd00 B) i ∧ i ≤ N.length ∧ zNt k M N T ∧ nInv N ∧ (zSh M (bfs B.2.1) ∧ zFit M (bfs B.2.1)) ∧ (∃ p, zDr M p []) ∧ zGo M 8 B.2.1 ∧ (∀ e, e < i → T e = tgt B e) ∧ (∀ e, i ≤ e → e < N.length → T e = [] ∧ (nN N e).2.2.2 = false) ∧ M 50 10 = oN (fIx (fun e => isEn (bfs B.2.1) (nN N e).1) 0 i) ∧ M 50 11 = nI (dmx N i) ∧ M 50 12 = nI (ccn N i)
theorem fIx_s {p : Nat → Bool} : ∀ {n j : Nat}, fIx p j (n + 1) = match fIx p j n with
    | some e => some e
    | none => if p (j + n) = true then some (j + n) else none := by
  intro n j
  cases h : fIx p j n with
  | some e =>
    obtain ⟨a1, a2, a3, a4⟩ := fIx_some h
    cases h2 : fIx p j (n + 1) with
    | none =>
      have := fIx_none.mp h2 e a1 (by omega)
      rw [a3] at this; cases this
    | some e2 =>
      obtain ⟨b1, b2, b3, b4⟩ := fIx_some h2
      have : e2 = e := by
        by_cases c : e2 < e
        · have := a4 e2 b1 c
          rw [b3] at this; cases this
        · by_cases c2 : e < e2
          · have := b4 e a1 c2
            rw [a3] at this; cases this
          · omega
      rw [this]
  | none =>
    have hn := fIx_none.mp h
    by_cases c : p (j + n) = true
    · rw [if_pos c]
      cases h2 : fIx p j (n + 1) with
      | none =>
        have := fIx_none.mp h2 (j + n) (by omega) (by omega)
        rw [c] at this; cases this
      | some e2 =>
        obtain ⟨b1, b2, b3, b4⟩ := fIx_some h2
        by_cases c2 : e2 < j + n
        · have := hn e2 b1 c2
          rw [b3] at this; cases this
        · have : e2 = j + n := by omega
          rw [this]
    · rw [if_neg c]
      refine fIx_none.mpr (fun e h1 h2 => ?_)
      by_cases c2 : e = j + n
      · rw [c2]; simpa using c
      · exact hn e h1 (by omega)
theorem zLp_step {B : AB} {i k k' : Nat} {M M' : ZM} {N N' : List NR} {T T' : Nat → List (Nat × Nat)} (h : zLp B i k M N T) (hi : i < N.length) (h2 : zUo (bfs B.2.1) B.2.1 i k M N T k' M' N' T') : zLp B (i + 1) k' M' N' T' := by
  obtain ⟨a1, a2, a3, a4, a5, a6, a7, a8, a9, a10, a11, a12⟩ := h
  obtain ⟨⟨b1, b2, b3, b4, b5, b6⟩, c1, c2, c3, c4, c5, c6⟩ := h2
  have eN : N' = (nnode (bfs B.2.1) B.2.1 N i).1 := by rw [← c3]
  have eT : T' i = (nnode (bfs B.2.1) B.2.1 N i).2 := by rw [← c3]
  have kp : nkp i N N' := by rw [eN]; exact nkp_node hi
  have hl : N.length ≤ N'.length := kp.1
  have h150 := a3.1.2.1
  refine ⟨?_, by omega, b1, b2, b4, b5, b6, fun e he => ?_, fun e h1 h2 => ?_, ?_, ?_, ?_⟩
  · rw [eN, a1]
    exact (nP_s (by rw [← a1]; exact hi)).symm
  · by_cases q : e = i
    · rw [q, eT, a1]; rfl
    · rw [c1.2.2.2.1 e q (by omega)]
      exact a8 e (by omega)
  · by_cases q : e < N.length
    · obtain ⟨d1, d2⟩ := a9 e (by omega) q
      exact ⟨by rw [c1.2.2.2.1 e (by omega) q]; exact d1, by rw [(kp.2.1 e q).2.2.2 (by omega)]; exact d2⟩
    · exact ⟨c1.2.2.2.2.1 e (by omega) h2, kp.2.2 e (by omega) h2⟩
  · have cg : fIx (fun e => isEn (bfs B.2.1) (nN N' e).1) 0 i = fIx (fun e => isEn (bfs B.2.1) (nN N e).1) 0 i := fIx_congr (fun e _ he => by rw [(kp.2.1 e (by omega)).1])
    rw [c4, fIx_s, cg, a10]
    cases hf : fIx (fun e => isEn (bfs B.2.1) (nN N e).1) 0 i with
    | some e =>
      have := fIx_some hf
      have hne : oN (some e) ≠ -6 := nI_ne6 (by omega)
      rw [if_neg (fun q => hne q.1)]
    | none =>
      show (if ((-6 : Int32) = -6 ∧ isEn (bfs B.2.1) (nN N i).1 = true) then nI i else -6) = oN (if isEn (bfs B.2.1) (nN N' (0 + i)).1 = true then some (0 + i) else none)
      rw [Nat.zero_add, (kp.2.1 i hi).1]
      by_cases q : isEn (bfs B.2.1) (nN N i).1 = true
      · rw [if_pos ⟨rfl, q⟩, if_pos q]; rfl
      · rw [if_neg (fun z => q z.2), if_neg q]; rfl
  · have hd := dep_le a4 i hi
    have hm := dmx_le a4 i (by omega)
    rw [c5, a11, nI_max (by omega) (by omega)]
    show _ = nI (max (dmx N' i) (nN N' i).2.1)
    rw [dmx_congr (fun e he => (kp.2.1 e (by omega)).2.1), (kp.2.1 i hi).2.1]
  · rw [c6, a12]
    show _ = nI (ccn N' i + (if (nN N' i).2.2.2 = true then 1 else 0))
    rw [ccn_congr (N := N) (fun e he => (kp.2.1 e (by omega)).2.2.2 (by omega))]
    by_cases q : (nN N' i).2.2.2 = true
    · rw [if_pos q, if_pos q, nI_1]
    · rw [if_neg q, if_neg q]; rfl
/-- the net as it stands -/
def zNet (B : AB) (k : Nat) (M : ZM) : Prop := ∃ T, zNt k M (netOf B) T ∧ nInv (netOf B) ∧ (∀ e, e < (netOf B).length → T e = tgt B e) ∧ M 50 10 = oN (fIx (fun e => isEn (bfs B.2.1) (nN (netOf B) e).1) 0 (netOf B).length) ∧ M 50 11 = nI (dmx (netOf B) (netOf B).length) ∧ M 50 12 = nI (ccn (netOf B) (netOf B).length)
theorem zLp_end {B : AB} {i k : Nat} {M : ZM} {N : List NR} {T : Nat → List (Nat × Nat)} (h : zLp B i k M N T) (hi : i = N.length) : zNet B k M := by
  obtain ⟨a1, a2, a3, a4, a5, a6, a7, a8, a9, a10, a11, a12⟩ := h
  have hb := a3.1
  have e : netOf B = N := by
    unfold netOf
    rw [a1]
    obtain ⟨m, hm⟩ : ∃ m, 150 = i + m := ⟨150 - i, by omega⟩
    rw [hm]
    exact nP_stop (by rw [← a1]; omega) m
  refine ⟨T, ?_⟩
  rw [e]
  subst hi
  exact ⟨a3, a4, a8, a10, a11, a12⟩
section NETALL
variable {E : ZE} {Φ : Option Value → ZS → ZM → Prop} {B : AB}
theorem net_loop (hg : okg B.2.1) : ∀ (n i k : Nat) (M : ZM) (N : List NR) (T : Nat → List (Nat × Nat)), i + n = 150 → zLp B i k M N T → (∀ k' M', k ≤ k' → zNet B k' M' → (zSh M' (bfs B.2.1) ∧ zFit M' (bfs B.2.1)) → (∃ p, zDr M' p []) → zfb M M' [49, 50, 52, 53, 54, 55, 56, 57, 58, 59, 60] → zW E m_Answer_trace 3 (zSt k') M' 0 [some (.ref 61), none, none, none] [] (fun q2 T2 M2 => q2 = none ∧ (zSt k') = T2 ∧ ∀ M3 : ZM, M3 = zms M2 0 12 1 → Φ none (zSt k') M3)) →
    zW E m_H_refreshNet 6 (zSt k) M 24 [some (.ref 0), some (.int (nI i))] [] Φ
  | 0, i, k, M, N, T, hn, h, hk => by
    have hi : i = 150 := by omega
    subst hi
    have hb := h.2.2.1.1
    have := h.2.1
    refine vc_H_refreshNet_24 E k M _ Φ ⟨fun _ => hk k M (Nat.le_refl _) (zLp_end h (by omega)) h.2.2.2.2.1 h.2.2.2.2.2.1 (zfb_rfl _ _), fun c => absurd (by decide) c⟩
  | n + 1, i, k, M, N, T, hn, h, hk => by
    have hb := h.2.2.1.1
    have h0 := h.2.1
    refine vc_H_refreshNet_24 E k M _ Φ ⟨fun c => absurd ((nI_leI (a := 150) (by decide) (by omega)).mp c) (by omega), fun _ => ?_⟩
    rw [h.2.2.1.2.1]
    refine ⟨fun c => ?_, fun c => ?_⟩
    · have c := (nI_leI (by omega) (by omega)).mp c
      exact hk k M (Nat.le_refl _) (zLp_end h (by omega)) h.2.2.2.2.1 h.2.2.2.2.2.1 (zfb_rfl _ _)
    · have c : i < N.length := by
        by_cases q : N.length ≤ i
        · exact absurd ((nI_leI (by omega) (by omega)).mpr q) c
        · omega
      obtain ⟨t1, t2⟩ := h.2.2.2.2.2.2.2.2.1 i (Nat.le_refl _) c
      refine unfold_ok (okD_P hg 27) hg ⟨h.2.2.1, h.2.2.2.1, c, h.2.2.2.2.1, h.2.2.2.2.2.1, h.2.2.2.2.2.2.1⟩ t1 t2 (fun k' M' N' T' u => ⟨k', rfl, rfl, ?_⟩)
      rintro _ rfl
      rw [nI_1]
      have hkk : k ≤ k' := u.2.1.1.1
      exact net_loop hg n (i + 1) k' M' N' T' (by omega) (zLp_step h c u) (fun k2 M2 q1 q2 q3 q4 q5 => hk k2 M2 (by omega) q2 q3 q4 (zfb_tr u.2.2.1 q5))
end NETALL
