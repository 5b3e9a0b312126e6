/-! the pad: firstFault, pourPad -/
def symN (c : Nat) : Option Nat := if c = 97 then some 0 else if c = 98 then some 1 else if 120 ≤ c ∧ c ≤ 122 then some (c - 118) else none
theorem symN_lt {c s : Nat} (h : symN c = some s) : s < 5 := by
  unfold symN at h
  split at h
  · cases h; decide
  · split at h
    · cases h; decide
    · split at h
      · cases h; omega
      · cases h
/-- how the signs are read: where the fault is, or the two rows -/
def pf : List Nat → Bool → List Nat → List Nat → Nat → Sum Nat (List Nat × List Nat)
  | [], b, l, r, i => if b = true then .inr (l, r) else .inl i
  | c :: cs, b, l, r, i => if c = 61 then (if b = true then .inl i else pf cs true l r (i + 1)) else match symN c with
    | none => .inl i
    | some s => if (if b = true then r else l).length < 12 then (if b = true then pf cs b l (r ++ [s]) (i + 1) else pf cs b (l ++ [s]) r (i + 1)) else .inl i
def pfv (q : Sum Nat (List Nat × List Nat)) : Int32 := match q with
  | .inl i => nI i
  | .inr _ => -6
section PAD
variable {E : ZE} {k : Nat} {M : ZM} {Φ : Option Value → ZS → ZM → Prop}
theorem H_symbolOf_ok {c : Nat} (hc : c < 1000) (hk : Φ (some (.int (oN (symN c)))) (zSt k) M) : zW E m_H_symbolOf 0 (zSt k) M 0 [some (.int (nI c))] [] Φ := by
  have e97 : nI c = 97 ↔ c = 97 := nI_eq (b := 97) (by omega) (by decide)
  have e98 : nI c = 98 ↔ c = 98 := nI_eq (b := 98) (by omega) (by decide)
  have e120 : nI c < 120 ↔ c < 120 := nI_ltI (b := 120) (by omega) (by decide)
  have e122 : 122 < nI c ↔ 122 < c := nI_ltI (a := 122) (by decide) (by omega)
  refine vc_H_symbolOf_0 E k M _ Φ ?_
  rw [e97, e98, e120, e122]
  unfold symN at hk
  refine ⟨fun h => ?_, fun h => ⟨fun h2 => ⟨fun h3 => ?_, fun h3 => ⟨fun h4 => ?_, fun h4 => ?_⟩⟩, fun h2 => ?_⟩⟩
  · rw [if_pos h] at hk; subst h; exact hk
  · rw [if_neg h, if_neg h2, if_neg (by omega)] at hk; exact hk
  · rw [if_neg h, if_neg h2, if_neg (by omega)] at hk; exact hk
  · rw [if_neg h, if_neg h2, if_pos (by omega)] at hk
    rw [show nI c - 120 = nI (c - 120) from pk_sub (b := 120) (by omega), show nI (c - 120) + 2 = nI (c - 120 + 2) from nI_addN _ 2, show c - 120 + 2 = c - 118 by omega]
    exact hk
  · rw [if_neg h, if_pos h2] at hk; subst h2; exact hk
theorem drop_cons {xs : List Nat} {j : Nat} (h : j < xs.length) : xs.drop j = xs.getD j 0 :: xs.drop (j + 1) := by
  rw [List.drop_eq_getElem_cons h, List.getD_eq_getElem?_getD, List.getElem?_eq_getElem h]
  rfl
theorem getD_mem {xs : List Nat} {j : Nat} (h : j < xs.length) : xs.getD j 0 ∈ xs := by
  rw [List.getD_eq_getElem?_getD, List.getElem?_eq_getElem h]
  exact List.getElem_mem h
theorem fault_loop {xs : List Nat} (hx : zRN M 1 xs) (hl : xs.length ≤ 40) (hs : ∀ s ∈ xs, s < 1000) : ∀ (n j : Nat) (b : Bool) (l r : List Nat), j + n = xs.length → l.length ≤ 12 → r.length ≤ 12 → (b = false → r = []) → Φ (some (.int (pfv (pf (xs.drop j) b l r j)))) (zSt k) M → zW E m_H_firstFault 1 (zSt k) M 6 [some (.ref 0), some (.int (if b = true then 1 else 0)), some (.int (nI (if b = true then r else l).length)), some (.int (nI j))] [] Φ
  | 0, j, b, l, r, hj, hl1, hr1, hbr, hk => by
    have : j = xs.length := by omega
    subst this
    rw [List.drop_length] at hk
    refine vc_H_firstFault_6 E k M _ _ _ Φ (Row_size_ok (ts_1 k) hx ⟨_, rfl, rfl, fun _ => ⟨fun q => ?_, fun q => ?_⟩, fun q => absurd (nI_le (Nat.le_refl _) (by omega)) q⟩)
    · cases b with
      | true => exact absurd q (by decide)
      | false => exact Row_size_ok (ts_1 k) hx ⟨_, rfl, rfl, hk⟩
    · cases b with
      | true => exact hk
      | false => exact absurd rfl q
  | n + 1, j, b, l, r, hj, hl1, hr1, hbr, hk => by
    have hjl : j < xs.length := by omega
    rw [drop_cons hjl] at hk
    have hv := hs _ (getD_mem hjl)
    obtain ⟨v, ev⟩ : ∃ v, xs.getD j 0 = v := ⟨_, rfl⟩
    rw [ev] at hv hk
    refine vc_H_firstFault_6 E k M _ _ _ Φ (Row_size_ok (ts_1 k) hx ⟨_, rfl, rfl, fun q => absurd q (nI_ge hjl (by omega)), fun _ => ?_⟩)
    refine Row_at_ok (ts_1 k) hx (by omega) ⟨_, rfl, rfl, ?_⟩
    rw [zat_nI hjl (by omega), ev]
    have e61 : nI v = 61 ↔ v = 61 := nI_eq (b := 61) (by omega) (by decide)
    rw [e61]
    unfold pf at hk
    refine ⟨fun q => ?_, fun q => ⟨fun q2 => ?_, fun q2 => ?_⟩⟩
    · rw [if_neg q] at hk
      rintro _ rfl
      refine Row_at_ok (ts_1 k) hx (by omega) ⟨_, rfl, rfl, ?_⟩
      rw [zat_nI hjl (by omega), ev]
      refine H_symbolOf_ok hv ⟨_, rfl, rfl, fun q3 => ?_, fun q3 => ?_⟩
      · have q4 := (oN_6 (fun s h => symN_lt h)).mp q3
        rw [q4] at hk
        exact hk
      · cases hsy : symN v with
        | none => rw [hsy] at q3; exact absurd rfl q3
        | some s =>
          rw [hsy] at hk
          have hk : Φ (some (.int (pfv (if (if b = true then r else l).length < 12 then (if b = true then pf (xs.drop (j + 1)) b l (r ++ [s]) (j + 1) else pf (xs.drop (j + 1)) b (l ++ [s]) r (j + 1)) else .inl j)))) (zSt k) M := hk
          rw [nI_1]
          have lb : (if b = true then r else l).length ≤ 12 := by cases b <;> assumption
          have e12 : nI ((if b = true then r else l).length + 1) ≤ 12 ↔ (if b = true then r else l).length + 1 ≤ 12 := nI_leI (b := 12) (by omega) (by decide)
          rw [e12]
          refine ⟨fun q5 => ?_, fun q5 => ?_⟩
          · rintro _ rfl
            rw [nI_1]
            rw [if_pos (by omega)] at hk
            cases b with
            | true =>
              have := fault_loop hx hl hs n (j + 1) true l (r ++ [s]) (by omega) hl1 (by simp at q5 ⊢; omega) (fun h => by cases h) hk
              simpa using this
            | false =>
              have := fault_loop hx hl hs n (j + 1) false (l ++ [s]) r (by omega) (by simp at q5 ⊢; omega) hr1 hbr hk
              simpa using this
          · rw [if_neg (by omega)] at hk
            exact hk
    · rw [if_pos q] at hk
      cases b with
      | true => exact absurd q2 (by decide)
      | false =>
        rw [if_neg (by decide)] at hk
        rintro _ rfl
        rw [nI_1]
        have e := hbr rfl
        subst e
        exact fault_loop hx hl hs n (j + 1) true l [] (by omega) hl1 hr1 (fun h => by cases h) hk
    · rw [if_pos q] at hk
      cases b with
      | true => rw [if_pos rfl] at hk; exact hk
      | false => exact absurd rfl q2
theorem firstFault_ok {xs : List Nat} (hx : zRN M 1 xs) (hl : xs.length ≤ 40) (hs : ∀ s ∈ xs, s < 1000) (hk : Φ (some (.int (pfv (pf xs false [] [] 0)))) (zSt k) M) : zW E m_H_firstFault 1 (zSt k) M 0 [some (.ref 0), none, none, none] [] Φ :=
  vc_H_firstFault_0 E k M Φ (fault_loop hx hl hs xs.length 0 false [] [] (by omega) (by decide) (by decide) (fun _ => rfl) hk)
theorem pf_rows : ∀ (xs : List Nat) (b : Bool) (l r : List Nat) (i : Nat) (L R : List Nat), pf xs b l r i = .inr (L, R) → l.length ≤ 12 → r.length ≤ 12 → (∀ s ∈ l, s < 5) → (∀ s ∈ r, s < 5) → (L.length ≤ 12 ∧ ∀ s ∈ L, s < 5) ∧ (R.length ≤ 12 ∧ ∀ s ∈ R, s < 5)
  | [], b, l, r, i, L, R, h, h1, h2, h3, h4 => by
    unfold pf at h
    split at h
    · cases h; exact ⟨⟨h1, h3⟩, ⟨h2, h4⟩⟩
    · cases h
  | c :: cs, b, l, r, i, L, R, h, h1, h2, h3, h4 => by
    unfold pf at h
    split at h
    · split at h
      · cases h
      · exact pf_rows cs true l r (i + 1) L R h h1 h2 h3 h4
    · cases hs : symN c with
      | none => rw [hs] at h; cases h
      | some s =>
        rw [hs] at h
        have hs5 := symN_lt hs
        have ap : ∀ {l : List Nat}, (∀ s ∈ l, s < 5) → ∀ y ∈ l ++ [s], y < 5 := by
          intro l hl y hy
          rcases List.mem_append.mp hy with q | q
          · exact hl y q
          · rw [List.mem_singleton.mp q]; exact hs5
        cases b with
        | true =>
          simp only [↓reduceIte] at h
          split at h
          · rename_i hlen
            exact pf_rows cs true l (r ++ [s]) (i + 1) L R h h1 (by simp; omega) h3 (ap h4)
          · cases h
        | false =>
          simp only [Bool.false_eq_true, ↓reduceIte] at h
          split at h
          · rename_i hlen
            exact pf_rows cs false (l ++ [s]) r (i + 1) L R h (by simp; omega) h2 (ap h3) h4
          · cases h
theorem pour_loop {xs L R : List Nat} (hl : xs.length ≤ 40) (hs : ∀ s ∈ xs, s < 1000) {M0 : ZM} (hk : ∀ M', zRN M' 4 L → zRN M' 6 R → zRN M' 1 [] → zfr M0 M' [1, 4, 5, 6, 7] → Φ none (zSt k) M') : ∀ (n j : Nat) (b : Bool) (l r : List Nat) (M : ZM), j + n = xs.length → l.length ≤ 12 → r.length ≤ 12 → pf (xs.drop j) b l r j = .inr (L, R) → zRN M 1 xs → zRN M 4 l → zRN M 6 r → zfr M0 M [1, 4, 5, 6, 7] → zW E m_H_pourPad 1 (zSt k) M 30 [some (.ref 0), some (.ref (if b = true then 6 else 4)), some (.int (nI j))] [] Φ
  | 0, j, b, l, r, M, hj, hl1, hr1, hp, hx, h4, h6, hf => by
    have hrow : zRow (zSt k) (if b = true then 6 else 4) 12 := by cases b; exact ts_4 k; exact ts_6 k
    have : j = xs.length := by omega
    subst this
    rw [List.drop_length] at hp
    unfold pf at hp
    refine vc_H_pourPad_30 E k M _ _ _ Φ hrow (Row_size_ok (ts_1 k) hx ⟨_, rfl, rfl, fun _ => ?_, fun q => absurd (nI_le (Nat.le_refl _) (by omega)) q⟩)
    refine Row_makeEmpty_ok (ts_1 k) (fun M3 x3 f3 => ⟨rfl, rfl, ?_⟩)
    split at hp
    · cases hp
      exact hk M3 (zRN_keep h4 f3 (by decide) (by decide)) (zRN_keep h6 f3 (by decide) (by decide)) x3 (zfr_tr hf (zfr_mono f3 (by simp)))
    · cases hp
  | n + 1, j, b, l, r, M, hj, hl1, hr1, hp, hx, h4, h6, hf => by
    have hrow : zRow (zSt k) (if b = true then 6 else 4) 12 := by cases b; exact ts_4 k; exact ts_6 k
    have hjl : j < xs.length := by omega
    rw [drop_cons hjl] at hp
    have hv := hs _ (getD_mem hjl)
    obtain ⟨v, ev⟩ : ∃ v, xs.getD j 0 = v := ⟨_, rfl⟩
    rw [ev] at hv hp
    refine vc_H_pourPad_30 E k M _ _ _ Φ hrow (Row_size_ok (ts_1 k) hx ⟨_, rfl, rfl, fun q => absurd q (nI_ge hjl (by omega)), fun _ => ?_⟩)
    refine Row_at_ok (ts_1 k) hx (by omega) ⟨_, rfl, rfl, ?_⟩
    rw [zat_nI hjl (by omega), ev]
    have e61 : nI v = 61 ↔ v = 61 := nI_eq (b := 61) (by omega) (by decide)
    rw [e61]
    unfold pf at hp
    refine ⟨fun q => ?_, fun q => ?_⟩
    · rw [if_neg q] at hp
      refine Row_at_ok (ts_1 k) hx (by omega) ⟨_, rfl, rfl, ?_⟩
      rw [zat_nI hjl (by omega), ev]
      refine H_symbolOf_ok hv ⟨_, rfl, rfl, ?_⟩
      cases hsy : symN v with
      | none => rw [hsy] at hp; cases hp
      | some s =>
        rw [hsy] at hp
        cases b with
        | true =>
          simp only [↓reduceIte] at hp
          split at hp
          · rename_i hlen
            refine Row_push_ok (v := s) (ts_6 k) h6 hr1 (fun _ M8 x8 f8 => ⟨1, rfl, rfl, ?_⟩) (fun q => absurd q (by omega))
            rintro _ rfl
            rw [nI_1]
            exact pour_loop hl hs hk n (j + 1) true l (r ++ [s]) M8 (by omega) hl1 (by simp; omega) hp (zRN_keep hx f8 (by decide) (by decide)) (zRN_keep h4 f8 (by decide) (by decide)) x8 (zfr_tr hf (zfr_mono f8 (by simp)))
          · cases hp
        | false =>
          simp only [Bool.false_eq_true, ↓reduceIte] at hp
          split at hp
          · rename_i hlen
            refine Row_push_ok (v := s) (ts_4 k) h4 hl1 (fun _ M8 x8 f8 => ⟨1, rfl, rfl, ?_⟩) (fun q => absurd q (by omega))
            rintro _ rfl
            rw [nI_1]
            exact pour_loop hl hs hk n (j + 1) false (l ++ [s]) r M8 (by omega) (by simp; omega) hr1 hp (zRN_keep hx f8 (by decide) (by decide)) x8 (zRN_keep h6 f8 (by decide) (by decide)) (zfr_tr hf (zfr_mono f8 (by simp)))
          · cases hp
    · rw [if_pos q] at hp
      rintro _ rfl
      rw [nI_1]
      cases b with
      | true => rw [if_pos rfl] at hp; cases hp
      | false =>
        rw [if_neg (by decide)] at hp
        exact pour_loop hl hs hk n (j + 1) true l r M (by omega) hl1 hr1 hp hx h4 h6 hf
theorem pourPad_ok {xs L R : List Nat} (hx : zRN M 1 xs) (hl : xs.length ≤ 40) (hs : ∀ s ∈ xs, s < 1000) (hp : pf xs false [] [] 0 = .inr (L, R)) (hk : ∀ M', zRN M' 4 L → zRN M' 6 R → zRN M' 1 [] → zfr M M' [1, 4, 5, 6, 7] → Φ none (zSt k) M') : zW E m_H_pourPad 1 (zSt k) M 0 [some (.ref 0), none, none] [] Φ := by
  refine vc_H_pourPad_0 E k M Φ (Row_makeEmpty_ok (ts_4 k) (fun M1 x1 f1 => ⟨rfl, rfl, Row_makeEmpty_ok (ts_6 k) (fun M2 x2 f2 => ⟨rfl, rfl, ?_⟩)⟩))
  exact pour_loop (M0 := M) hl hs hk xs.length 0 false [] [] M2 (by omega) (by decide) (by decide) hp (zRN_keep (zRN_keep hx f1 (by decide) (by decide)) f2 (by decide) (by decide)) (zRN_keep x1 f2 (by decide) (by decide)) x2 (zfr_tr (zfr_mono f1 (by simp)) (zfr_mono f2 (by simp)))
end PAD
