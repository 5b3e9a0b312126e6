/-! the way back from an end -/
/-- the codes of moves -/
theorem mvs_code {D : BD} {g : Nat → Nat} {x : ND} {c : Nat} {r : Option (Option ND)} (hx : okx x) (h : (c, r) ∈ mvs D g x) : c / 100 % 10 < 3 ∧ c < 2000 ∧ (1000 ≤ c → ∃ u w, x.1.1.head? = some u ∧ x.1.2.head? = some w ∧ (c / 100 % 10 + 2 = u ∨ c / 100 % 10 + 2 = w)) := by
  rw [mvs_o] at h
  have hu5 : ∀ s, x.1.1.head? = some s → s < 5 := fun s q => hx.1 s (List.mem_of_mem_head? q)
  have hv5 : ∀ s, x.1.2.head? = some s → s < 5 := fun s q => hx.2.1 s (List.mem_of_mem_head? q)
  have H0 : ∀ o : Option Nat, (∀ s, o = some s → s < 5) → (c, r) ∈ k0o D x o → c / 100 % 10 < 3 ∧ c < 1000 := by
    intro o ho h
    cases o with
    | none => cases h
    | some s =>
      have hs := ho s rfl
      have h : (c, r) ∈ k0 D x s := h
      unfold k0 at h
      by_cases e : 2 ≤ s
      · rw [if_pos e, List.mem_singleton] at h
        have h := (Prod.mk.inj h).1
        omega
      · rw [if_neg e] at h; cases h
  have H1 : ∀ s o, s < 5 → (c, r) ∈ k1 D g x s o → c / 100 % 10 < 3 ∧ c < 2000 ∧ c / 100 % 10 + 2 = s := by
    intro s o hs h
    unfold k1 at h
    by_cases e : 2 ≤ s
    · rw [if_pos e] at h
      by_cases e2 : o < 2
      · rw [if_pos e2, List.mem_singleton] at h
        have h := (Prod.mk.inj h).1
        omega
      · rw [if_neg e2] at h
        obtain ⟨q, hq, h⟩ := List.mem_map.mp h
        have hq := List.mem_range.mp (List.mem_filter.mp hq).1
        have h := (Prod.mk.inj h).1
        omega
    · rw [if_neg e] at h; cases h
  simp only [List.mem_append] at h
  rcases h with (h | h) | h
  · have := H0 _ hu5 h
    exact ⟨this.1, by omega, fun q => absurd q (by omega)⟩
  · have := H0 _ hv5 h
    exact ⟨this.1, by omega, fun q => absurd q (by omega)⟩
  · cases hu : x.1.1.head? with
    | none => rw [hu] at h; cases h
    | some u =>
      cases hv : x.1.2.head? with
      | none => rw [hu, hv] at h; cases h
      | some v =>
        rw [hu, hv] at h
        rcases List.mem_append.mp h with h | h
        · obtain ⟨a1, a2, a3⟩ := H1 _ _ (hu5 u hu) h
          exact ⟨a1, a2, fun _ => ⟨u, v, rfl, rfl, Or.inl a3⟩⟩
        · obtain ⟨a1, a2, a3⟩ := H1 _ _ (hv5 v hv) h
          exact ⟨a1, a2, fun _ => ⟨u, v, rfl, rfl, Or.inr a3⟩⟩
/-- a node's parent leads to it -/
def nMv (D : BD) (g : Nat → Nat) (N : List NR) : Prop := ∀ e, e < N.length → ∀ p c, (nN N e).2.2.1 = some (p, c) → p < N.length ∧ (c, some (some (nN N e).1)) ∈ mvs D g (nN N p).1
theorem nMv_step {D : BD} {g : Nat → Nat} {i : Nat} {s : List NR × List (Nat × Nat)} {m : MR} (h : nMv D g s.1) (hi : i < s.1.length) (hm : m ∈ mvs D g (nN s.1 i).1) : nMv D g (nstep i s m).1 := by
  have cut : nMv D g (ncut s.1 i) := by
    intro e he p c hp
    rw [ncut_len] at he
    rw [(ncut_1 hi e).2.2] at hp
    obtain ⟨a1, a2⟩ := h e he p c hp
    rw [ncut_len, (ncut_1 hi e).1, (ncut_1 hi p).1]
    exact ⟨a1, a2⟩
  unfold nstep
  split
  · exact h
  · exact cut
  · rename_i x hx
    split
    · exact h
    · split
      · intro e he p c hp
        simp at he
        by_cases q : e < s.1.length
        · rw [nN_l q] at hp ⊢
          obtain ⟨a1, a2⟩ := h e q p c hp
          rw [nN_l a1]
          exact ⟨by simp; omega, a2⟩
        · have : e = s.1.length := by omega
          subst this
          rw [nN_r] at hp ⊢
          cases hp
          rw [nN_l hi]
          refine ⟨by simp; omega, ?_⟩
          rw [← hx]
          exact hm
      · exact cut
theorem nMv_fold {D : BD} {g : Nat → Nat} {i : Nat} {x : ND} : ∀ (L : List MR) (s : List NR × List (Nat × Nat)), (∀ m ∈ L, m ∈ mvs D g x) → nMv D g s.1 → i < s.1.length → (nN s.1 i).1 = x → nMv D g (L.foldl (nstep i) s).1
  | [], s, _, h, _, _ => h
  | m :: L, s, hL, h, hi, hx => by
    have k := nkp_step m hi
    refine nMv_fold L (nstep i s m) (fun m' q => hL m' (List.mem_cons_of_mem _ q)) (nMv_step h hi (by rw [hx]; exact hL m List.mem_cons_self)) (Nat.lt_of_lt_of_le hi k.1) ?_
    rw [(k.2.1 i hi).1, hx]
theorem nMv_P {D : BD} {g : Nat → Nat} {x0 : ND} : ∀ i, nMv D g (nP D g x0 i)
  | 0 => by
    intro e he p c hp
    have he : e < 1 := he
    have : e = 0 := by omega
    subst this
    cases hp
  | i + 1 => by
    by_cases c : i < (nP D g x0 i).length
    · rw [nP_s c]
      exact nMv_fold _ (nP D g x0 i, []) (fun m q => q) (nMv_P i) c rfl
    · rw [show nP D g x0 (i + 1) = nP D g x0 i from nP_stop (by omega) 1]
      exact nMv_P i
/-- a word is put ahead, or a letter -/
def uback (x : ND) (c : Nat) (ws : W3) : Option W3 :=
  if c < 1000 then some (lset ws (c / 100 % 10) []) else
  match (if x.1.1.head? = some (c / 100 % 10 + 2) then x.1.2.head? else x.1.1.head?) with
  | none => none
  | some o => if 2 ≤ o then (if (l3 ws (c / 100 % 10)).length + (l3 ws (o - 2)).length ≤ 60 then some (lset ws (c / 100 % 10) (l3 ws (o - 2) ++ l3 ws (c / 100 % 10))) else none) else if (l3 ws (c / 100 % 10)).length < 60 then some (lset ws (c / 100 % 10) (o :: l3 ws (c / 100 % 10))) else none
theorem okw_set {ws : W3} {v n : Nat} {l : List Nat} (h : okw ws n) (hv : v < 3) (hl : l.length ≤ n) (hy : ∀ y ∈ l, y < 2) : okw (lset ws v l) n := by
  intro u hu
  rw [l3_lset hv hu]
  by_cases c : u = v
  · rw [if_pos c]; exact ⟨hl, hy⟩
  · rw [if_neg c]; exact h u hu
theorem zWd_set {M M' : ZM} {w v : Nat} {ws : W3} {l : List Nat} (h : zWd M w ws) (hv : v < 3) (hl : zRN M' (w + 1 + 2 * v) l) (hf : zfi M M' (w + 1 + 2 * v) 2) : zWd M' w (lset ws v l) := by
  intro u hu
  rw [l3_lset hv hu]
  by_cases c : u = v
  · rw [if_pos c, c]; exact hl
  · rw [if_neg c]; exact zRN_fi (h u hu) hf (by omega)
section BACK
variable {E : ZE} {k : Nat} {M : ZM} {Φ : Option Value → ZS → ZM → Prop} {D : BD} {g : Nat → Nat}
theorem sub2_lo {o : Nat} (h5 : o < 5) : (nI o - 2 < 0 ∨ 3 ≤ nI o - 2) → o < 2 := by
  intro q
  by_cases c : 2 ≤ o
  · rw [sub2_hi c h5] at q
    rcases q with q | q
    · exact absurd q (nI_pos (by omega))
    · have := (nI_leI (a := 3) (by decide) (by omega)).mp q
      omega
  · omega
theorem sub2_is {o v : Nat} (hv : v < 3) (h : nI o - 2 = nI v) : 2 ≤ o := by
  by_cases c : 2 ≤ o
  · exact c
  · exact absurd h (sub2_no (by omega) v hv)
theorem goBack_ok {p c : Nat} {x : ND} {r : Option (Option ND)} {ws : W3} (hp : zNode (zSt k) p) (h1 : zRN M (p + 1) x.1.1) (h2 : zRN M (p + 3) x.1.2) (hx : okN x) (hm : (c, r) ∈ mvs D g x) (hw : zWd M 62 ws) (ho : okw ws 60)
    (hk0 : uback x c ws = none → Φ (some (.int 0)) (zSt k) M) (hk : ∀ M' ws', uback x c ws = some ws' → zWd M' 62 ws' → okw ws' 60 → zfi M M' 63 6 → Φ (some (.int 1)) (zSt k) M') : zW E m_Answer_goBack 2 (zSt k) M 0 [some (.ref 61), some (.ref p), some (.int (nI c)), none, none, none, none] [] Φ := by
  obtain ⟨c1, c2, c3⟩ := mvs_code hx.1 hm
  refine vc_Answer_goBack_0 E k M p _ Φ hp ?_
  have ey : (nI c / 100) - (nI c / 100) / 10 * 10 = nI (c / 100 % 10) := by
    rw [show nI c / 100 = nI (c / 100) from pk_div (d := 100) (by omega) (by decide) (by decide)]
    exact pk_rem (d := 10) (by omega) (by decide) (by decide)
  rw [ey]
  rintro _ rfl
  obtain ⟨v, hv⟩ : ∃ v, c / 100 % 10 = v := ⟨_, rfl⟩
  rw [hv] at c1 c3 ⊢
  have hrow := zWords_row (ts_62 k) c1
  refine Words_of_ok (ts_62 k) c1 ⟨62 + 1 + 2 * v, 60, rfl, rfl, hrow, fun q => ?_, fun q => ?_⟩
  · have q : 1000 ≤ c := (nI_leI (a := 1000) (by decide) (by omega)).mp q
    obtain ⟨u, w, hu, hw', huw⟩ := c3 q
    have hne := hx.1.2.2.2 u w hu hw'
    have hu5 : u < 5 := hx.1.1 u (List.mem_of_mem_head? hu)
    have hw5 : w < 5 := hx.1.2.1 w (List.mem_of_mem_head? hw')
    -- what is put ahead
    have go : ∀ o, o < 5 → o ≠ v + 2 → uback x c ws = (if 2 ≤ o then (if (l3 ws v).length + (l3 ws (o - 2)).length ≤ 60 then some (lset ws v (l3 ws (o - 2) ++ l3 ws v)) else none) else if (l3 ws v).length < 60 then some (lset ws v (o :: l3 ws v)) else none) →
        zW E m_H_isVariable 0 (zSt k) M 0 [some (.int (nI o - 2))] [] (fun q6 T6 M6 => ∃ y6 : Int32, q6 = some (.int y6) ∧ (zSt k) = T6 ∧
            (y6 = 0 → zW E m_Row_pushAhead 1 (zSt k) M6 0 [some (.ref (62 + 1 + 2 * v)), some (.int (nI o))] [] (fun q8 T8 M8 => ∃ y8 : Int32, q8 = some (.int y8) ∧ (zSt k) = T8 ∧ (y8 = 0 ∨ y8 = 1) ∧ Φ (some (.int y8)) (zSt k) M8)) ∧
            (¬ y6 = 0 → zW E m_Words_of 0 (zSt k) M6 0 [some (.ref 62), some (.int (nI o - 2))] [] (fun q9 T9 M9 => ∃ b9 L9 : Nat, q9 = some (.ref b9) ∧ (zSt k) = T9 ∧ zRow (zSt k) b9 L9 ∧
                (zW E m_Row_putAhead 1 (zSt k) M9 0 [some (.ref (62 + 1 + 2 * v)), some (.ref b9), none, none] [] (fun q10 T10 M10 => ∃ y10 : Int32, q10 = some (.int y10) ∧ (zSt k) = T10 ∧ (y10 = 0 ∨ y10 = 1) ∧ Φ (some (.int y10)) (zSt k) M10))))) := by
      intro o ho5 hov hub
      refine H_isVariable_ok (fun z hz e => ⟨1, rfl, rfl, fun q => absurd q (by decide), fun _ => ?_⟩) (fun q => ⟨0, rfl, rfl, fun _ => ?_, fun q => absurd rfl q⟩)
      · have o2 := sub2_is hz e
        rw [sub2_hi o2 ho5]
        rw [if_pos o2] at hub
        have hz' : o - 2 < 3 := by omega
        refine Words_of_ok (ts_62 k) hz' ⟨62 + 1 + 2 * (o - 2), 60, rfl, rfl, zWords_row (ts_62 k) hz', ?_⟩
        refine Row_putAhead_ok hrow (zWords_row (ts_62 k) hz') (by omega) (hw v c1) (hw _ hz') (ho _ hz').1 (ho v c1).1 (fun l => ⟨0, rfl, rfl, Or.inl rfl, hk0 ?_⟩) (fun l M' x' f' => ⟨1, rfl, rfl, Or.inr rfl, hk M' _ ?_ (zWd_set hw c1 x' (zfi_of f' (by simp <;> omega))) (okw_set ho c1 (by simp; omega) ?_) (zfi_of f' (by simp <;> omega))⟩)
        · rw [hub, if_neg (by omega)]
        · rw [hub, if_pos (by omega)]
        · intro y hy
          rcases List.mem_append.mp hy with h | h
          · exact (ho _ hz').2 y h
          · exact (ho v c1).2 y h
      · have o2 := sub2_lo ho5 q
        rw [if_neg (by omega)] at hub
        refine Row_pushAhead_ok hrow (hw v c1) (ho v c1).1 (fun l => ⟨0, rfl, rfl, Or.inl rfl, hk0 ?_⟩) (fun l M' x' f' => ⟨1, rfl, rfl, Or.inr rfl, hk M' _ ?_ (zWd_set hw c1 x' (zfi_of f' (by simp <;> omega))) (okw_set ho c1 (by simp; omega) ?_) (zfi_of f' (by simp <;> omega))⟩)
        · rw [hub, if_neg (by omega)]
        · rw [hub, if_pos l]
        · intro y hy
          rcases List.mem_cons.mp hy with h | h
          · rw [h]; exact o2
          · exact (ho v c1).2 y h
    refine Row_at_ok hp.2.1.2 h1 hx.2.1 ⟨_, rfl, rfl, ?_⟩
    rw [zat_0, hu]
    have e2 : nI v + 2 = nI (v + 2) := nI_addN v 2
    rw [e2]
    refine ⟨fun q2 => go u hu5 (fun e => q2 (by rw [e]; rfl)) ?_, fun q2 => ?_⟩
    · have hne2 : u ≠ v + 2 := fun e => q2 (by rw [e]; rfl)
      unfold uback
      rw [if_neg (by omega), hv, hu, if_neg (fun e => hne2 (Option.some.inj e))]
    · have e3 : u = v + 2 := (nI_eq (by omega) (by omega)).mp q2
      refine Row_at_ok hp.2.2.1.2 h2 hx.2.2 ⟨_, rfl, rfl, ?_⟩
      rw [zat_0, hw']
      refine go w hw5 (by omega) ?_
      unfold uback
      rw [if_neg (by omega), hv, hu, if_pos (by rw [e3]), hw']
  · have q : c < 1000 := by
      by_cases z : 1000 ≤ c
      · exact absurd ((nI_leI (a := 1000) (by decide) (by omega)).mpr z) q
      · omega
    refine Row_makeEmpty_ok hrow (fun M' x' f' => ⟨rfl, rfl, hk M' (lset ws v []) ?_ (zWd_set hw c1 x' (zfi_of f' (by simp <;> omega))) (okw_set ho c1 (by simp) (by simp)) (zfi_of f' (by simp <;> omega))⟩)
    unfold uback
    rw [if_pos q, hv]
end BACK
