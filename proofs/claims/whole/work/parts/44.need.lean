/-! what the methods of Need and Machine do -/
section NEED
variable {E : ZE} {S : ZS} {M : ZM} {Φ : Option Value → ZS → ZM → Prop}
def okg (g : Nat → Nat) : Prop := ∀ k, k < 6 → g k < 3
def zGo (M : ZM) (m : Nat) (g : Nat → Nat) : Prop := ∀ k, k < 6 → M (m + 1) k = nI (g k)
theorem zGo_keep {M M' : ZM} {m : Nat} {g : Nat → Nat} {A : List Nat} (h : zGo M m g) (hf : zfr M M' A) (h1 : m + 1 ∉ A) : zGo M' m g := fun k hk => by rw [hf _ h1]; exact h k hk
theorem mul3 (l s : Nat) : (3 : Int32) * nI l + nI s = nI (3 * l + s) := by
  have e : (3 : Int32) * nI l = nI (3 * l) := pk_mul 3 l
  rw [e, nI_add]
theorem Machine_after_ok {m s l : Nat} {g : Nat → Nat} (hm : zMach S m) (hg : zGo M m g) (hs : s < 3) (hl : l < 2) (h : Φ (some (.int (nI (g (3 * l + s))))) S M) : zW E m_Machine_after 0 S M 0 [some (.ref m), some (.int (nI s)), some (.int (nI l)), none] [] Φ := by
  refine vc_Machine_after_0 E S M m (nI s) (nI l) Φ hm ?_
  rintro _ rfl
  rw [mul3]
  refine ⟨fun c => absurd c (nI_pos (by omega)), fun _ => ⟨fun c => absurd c (nI_ge (b := 6) (by omega) (by decide)), fun _ => ⟨3 * l + s, by omega, rfl, ?_⟩⟩⟩
  rw [hg _ (by omega)]
  exact h
theorem Machine_turn_ok {m s l t : Nat} {g : Nat → Nat} (hm : zMach S m) (hg : zGo M m g) (hs : s < 3) (hl : l < 2) (h : ∀ M', zGo M' m (zup g (3 * l + s) t) → zfr M M' [m + 1] → Φ none S M') : zW E m_Machine_turn 0 S M 0 [some (.ref m), some (.int (nI s)), some (.int (nI l)), some (.int (nI t)), none] [] Φ := by
  refine vc_Machine_turn_0 E S M m (nI s) (nI l) (nI t) Φ hm ?_
  rintro _ rfl
  rw [mul3]
  refine ⟨fun c => absurd c (nI_pos (by omega)), fun _ => ⟨fun c => absurd c (nI_ge (b := 6) (by omega) (by decide)), fun _ => ⟨3 * l + s, by omega, rfl, ?_⟩⟩⟩
  rintro _ rfl
  refine h _ (fun k hk => ?_) (zfr_ms _ _ _ _ (by simp))
  by_cases e : k = 3 * l + s
  · subst e
    rw [zms_s]
    simp [zup]
  · rw [zms_k _ _ e, hg k hk]
    simp [zup, e]
theorem Machine_copy_loop {m o : Nat} {g : Nat → Nat} (hm : zMach S m) (ho : zMach S o) (hne : m ≠ o) (M0 : ZM) (hk : ∀ M', zGo M' m g → zfr M0 M' [m + 1] → Φ none S M') :
    ∀ (n j : Nat) (M : ZM), j + n = 6 → zGo M o g → (∀ i, i < j → M (m + 1) i = nI (g i)) → zfr M0 M [m + 1] → zW E m_Machine_copy 0 S M 2 [some (.ref m), some (.ref o), some (.int (nI j))] [] Φ := by
  intro n
  induction n with
  | zero =>
    intro j M hj hg hi hf
    have : j = 6 := by omega
    subst this
    exact vc_Machine_copy_2 E S M m o (nI 6) Φ hm ho ⟨fun _ => hk M hi hf, fun c => absurd (by decide) c⟩
  | succ n ih =>
    intro j M hj hg hi hf
    have hn : ¬ (6 : Int32) ≤ nI j := nI_ge (b := 6) (by omega) (by decide)
    refine vc_Machine_copy_2 E S M m o (nI j) Φ hm ho ⟨fun c => absurd c hn, fun _ => ⟨fun c => absurd c hn, fun _ => ⟨j, by omega, rfl, j, by omega, rfl, ?_⟩⟩⟩
    rintro _ rfl _ rfl
    rw [nI_1]
    refine ih (j + 1) _ (by omega) (fun k hk => by rw [zms_n _ _ (by omega), hg k hk]) (fun i h => ?_) (zfr_tr hf (zfr_ms _ _ _ _ (by simp)))
    by_cases e : i = j
    · subst e
      rw [zms_s, hg _ (by omega)]
    · rw [zms_k _ _ e, hi i (by omega)]
theorem Machine_copy_ok {m o : Nat} {g : Nat → Nat} (hm : zMach S m) (ho : zMach S o) (hne : m ≠ o) (hg : zGo M o g) (hk : ∀ M', zGo M' m g → zfr M M' [m + 1] → Φ none S M') : zW E m_Machine_copy 0 S M 0 [some (.ref m), some (.ref o), none] [] Φ :=
  vc_Machine_copy_0 E S M m o Φ hm ho (Machine_copy_loop hm ho hne M hk 6 0 M (by omega) hg (fun i h => absurd h (Nat.not_lt_zero _)) (zfr_rfl _ _))
/-- where a word and a letter behind it lead -/
def stp (g : Nat → Nat) (l : Nat) (t : T3) : T3 := (g (3 * l + t.1), g (3 * l + t.2.1), g (3 * l + t.2.2))
theorem ok3_stp {g : Nat → Nat} {l : Nat} {t : T3} (hg : okg g) (ht : ok3 t) (hl : l < 2) : ok3 (stp g l t) := by
  obtain ⟨h1, h2, h3⟩ := ht
  exact ⟨hg _ (by omega), hg _ (by omega), hg _ (by omega)⟩
theorem ok3_t3 {t : T3} (ht : ok3 t) (s : Nat) : t3 t s < 3 := by
  unfold t3
  obtain ⟨h1, h2, h3⟩ := ht
  split
  · exact h1
  · split
    · exact h2
    · exact h3
/-- one state's part of the map -/
theorem mapBehind_in {m l s : Nat} {g : Nat → Nat} {t : T3} {x3 : Int32} (hm : zMach S m) (hg : zGo M m g) (ht : ok3 t) (hl : l < 2) (hs : s < 3)
    (hk : zW E m_Machine_mapBehind 1 S M 5 [some (.ref m), some (.int (nI (mb t))), some (.int (nI l)), some (.int (x3 ||| ((1 : Int32) <<< (((3 * nI s) + nI (g (3 * l + t3 t s))) &&& 31)))), some (.int (nI (s + 1))), none] [] Φ) :
    ∀ (n j : Nat), j + n = 3 → ((j ≤ t3 t s → zW E m_Machine_mapBehind 1 S M 14 [some (.ref m), some (.int (nI (mb t))), some (.int (nI l)), some (.int x3), some (.int (nI s)), some (.int (nI j))] [] Φ) ∧ (t3 t s < j → zW E m_Machine_mapBehind 1 S M 14 [some (.ref m), some (.int (nI (mb t))), some (.int (nI l)), some (.int (x3 ||| ((1 : Int32) <<< (((3 * nI s) + nI (g (3 * l + t3 t s))) &&& 31)))), some (.int (nI s)), some (.int (nI j))] [] Φ)) := by
  have hts := ok3_t3 ht s
  have hbit : ∀ u, u < 3 → ((((nI (mb t) : Int32) >>> (((3 * nI s) + nI u) &&& 31)) &&& 1) = 1 ↔ u = t3 t s) := by
    intro u hu
    obtain ⟨a, b, c⟩ := t
    have := k_bit a ht.1 b ht.2.1 c ht.2.2 s hs u hu
    simpa using this
  intro n
  induction n with
  | zero =>
    intro j hj
    have : j = 3 := by omega
    subst this
    refine ⟨fun c => absurd c (by omega), fun _ => ?_⟩
    refine vc_Machine_mapBehind_14 E S M m _ _ _ _ (nI 3) Φ hm ⟨fun _ => ?_, fun c => absurd (by decide) c⟩
    rintro _ rfl
    rw [nI_1]
    exact hk
  | succ n ih =>
    intro j hj
    have hn : ¬ (3 : Int32) ≤ nI j := nI_ge (b := 3) (by omega) (by decide)
    obtain ⟨ih1, ih2⟩ := ih (j + 1) (by omega)
    refine ⟨fun c => ?_, fun c => ?_⟩
    · refine vc_Machine_mapBehind_14 E S M m _ _ _ _ (nI j) Φ hm ⟨fun c => absurd c hn, fun _ => ⟨fun c2 => ?_, fun c2 => ?_⟩⟩
      · rintro _ rfl
        rw [nI_1]
        exact ih1 (by have : ¬ j = t3 t s := fun q => c2 ((hbit j (by omega)).mpr q); omega)
      · have e := (hbit j (by omega)).mp c2
        refine Machine_after_ok hm hg (by omega) hl ⟨_, rfl, rfl, ?_⟩
        rintro _ rfl _ rfl
        rw [nI_1, e]
        rw [e] at ih2
        exact ih2 (by omega)
    · refine vc_Machine_mapBehind_14 E S M m _ _ _ _ (nI j) Φ hm ⟨fun c => absurd c hn, fun _ => ⟨fun c2 => ?_, fun c2 => ?_⟩⟩
      · rintro _ rfl
        rw [nI_1]
        exact ih2 (by omega)
      · exact absurd ((hbit j (by omega)).mp c2) (by omega)
theorem Machine_mapBehind_ok {m l : Nat} {g : Nat → Nat} {t : T3} (hm : zMach S m) (hg : zGo M m g) (hgo : okg g) (ht : ok3 t) (hl : l < 2) (h : Φ (some (.int (nI (mb (stp g l t))))) S M) : zW E m_Machine_mapBehind 1 S M 0 [some (.ref m), some (.int (nI (mb t))), some (.int (nI l)), none, none, none] [] Φ := by
  refine vc_Machine_mapBehind_0 E S M m _ _ Φ hm ?_
  refine vc_Machine_mapBehind_5 E S M m _ _ _ 0 Φ hm ⟨fun c => absurd c (by decide), fun _ => ?_⟩
  refine (mapBehind_in (s := 0) hm hg ht hl (by decide) ?_ 3 0 rfl).1 (Nat.zero_le _)
  refine vc_Machine_mapBehind_5 E S M m _ _ _ (nI (0 + 1)) Φ hm ⟨fun c => absurd c (by decide), fun _ => ?_⟩
  refine (mapBehind_in (s := 1) hm hg ht hl (by decide) ?_ 3 0 rfl).1 (Nat.zero_le _)
  refine vc_Machine_mapBehind_5 E S M m _ _ _ (nI (1 + 1)) Φ hm ⟨fun c => absurd c (by decide), fun _ => ?_⟩
  refine (mapBehind_in (s := 2) hm hg ht hl (by decide) ?_ 3 0 rfl).1 (Nat.zero_le _)
  refine vc_Machine_mapBehind_5 E S M m _ _ _ (nI (2 + 1)) Φ hm ⟨fun _ => ?_, fun c => absurd (by decide) c⟩
  have h3 := ok3_stp hgo ht hl
  have e := k_or _ h3.1 _ h3.2.1 _ h3.2.2
  have h' : Φ (some (.int ((((0 : Int32) ||| ((1 : Int32) <<< (((3 * nI 0) + nI (stp g l t).1) &&& 31))) ||| ((1 : Int32) <<< (((3 * nI 1) + nI (stp g l t).2.1) &&& 31))) ||| ((1 : Int32) <<< (((3 * nI 2) + nI (stp g l t).2.2) &&& 31))))) S M := by rw [e]; exact h
  exact h'
theorem Need_ofVariable_ok {n : T3} {v : Nat} (hn : okn n) (hv : v < 3) (h : Φ (some (.int (nI (t3 n v)))) S M) : zW E m_Need_ofVariable 0 S M 0 [some (.int (nI (pkn n))), some (.int (nI v))] [] Φ :=
  vc_Need_ofVariable_0 E S M _ _ Φ (by rw [k_ofVar hn hv]; exact h)
theorem Need_ofState_ok {n s : Nat} (hn : n < 512) (hs : s < 3) (h : Φ (some (.int (nI (dg n s)))) S M) : zW E m_Need_ofState 0 S M 0 [some (.int (nI n)), some (.int (nI s))] [] Φ :=
  vc_Need_ofState_0 E S M _ _ Φ (by rw [k_ofState n hn s hs]; exact h)
theorem Need_withVariable_ok {n : T3} {v x : Nat} (hn : okn n) (hv : v < 3) (hx : x < 512) (h : Φ (some (.int (nI (pkn (nset n v x))))) S M) : zW E m_Need_withVariable 0 S M 0 [some (.int (nI (pkn n))), some (.int (nI v)), some (.int (nI x))] [] Φ :=
  vc_Need_withVariable_0 E S M _ _ _ Φ (by rw [k_withVar hn hv hx]; exact h)
/-- a need with another set for a state -/
def nst (n s x : Nat) : Nat := mkN (if s = 0 then x else dg n 0) (if s = 1 then x else dg n 1) (if s = 2 then x else dg n 2)
theorem nst_dg {n s x u : Nat} (hx : x < 8) (hu : u < 3) : nst n s x < 512 ∧ dg (nst n s x) u = if u = s then x else dg n u := by
  unfold nst
  have h0 : (if s = 0 then x else dg n 0) < 8 := by split <;> first | exact hx | exact dg_lt _ _
  have h1 : (if s = 1 then x else dg n 1) < 8 := by split <;> first | exact hx | exact dg_lt _ _
  have h2 : (if s = 2 then x else dg n 2) < 8 := by split <;> first | exact hx | exact dg_lt _ _
  obtain ⟨e, e0, e1, e2⟩ := mkN_dg h0 h1 h2
  refine ⟨e, ?_⟩
  rcases (show u = 0 ∨ u = 1 ∨ u = 2 by omega) with rfl | rfl | rfl
  · rw [e0]; by_cases e : s = 0 <;> simp [e, eq_comm]
  · rw [e1]; by_cases e : s = 1 <;> simp [e, eq_comm]
  · rw [e2]; by_cases e : s = 2 <;> simp [e, eq_comm]
theorem Need_withState_ok {n : T3} {v s x : Nat} (hn : okn n) (hv : v < 3) (hs : s < 3) (hx : x < 8) (h : Φ (some (.int (nI (pkn (nset n v (nst (t3 n v) s x)))))) S M) : zW E m_Need_withState 0 S M 0 [some (.int (nI (pkn n))), some (.int (nI v)), some (.int (nI s)), some (.int (nI x)), none] [] Φ := by
  refine vc_Need_withState_0 E S M _ _ _ _ Φ ?_
  rintro _ rfl
  rw [k_withSt hn hv hs hx]
  exact h
theorem Need_allows_ok {n : Nat} {t : T3} (hn : n < 512) (ht : ok3 t) (h : Φ (some (.int (if allow n t = true then 1 else 0))) S M) : zW E m_Need_allows 0 S M 0 [some (.int (nI n)), some (.int (nI (mb t)))] [] Φ := by
  obtain ⟨a, b, c⟩ := t
  have e := k_allows n hn a ht.1 b ht.2.1 c ht.2.2
  refine vc_Need_allows_0 E S M _ _ Φ ⟨fun q => ?_, fun q => ?_⟩
  · rw [decide_eq_false q] at e
    rw [← e] at h
    exact h
  · rw [decide_eq_true q] at e
    rw [← e] at h
    exact h
theorem Need_narrowed_ok {n s t : Nat} (hn : n < 512) (hs : s < 3) (ht : t < 8) (h : Φ (some (.int (nI (nar n s t)))) S M) : zW E m_Need_narrowed 0 S M 0 [some (.int (nI n)), some (.int (nI s)), some (.int (nI t))] [] Φ :=
  vc_Need_narrowed_0 E S M _ _ _ Φ (by rw [k_narrowed n hn s hs t ht]; exact h)
theorem Need_stateOfTurn_ok {q s : Nat} (hq : q < 27) (hs : s < 3) (h : Φ (some (.int (nI (tq q s)))) S M) : zW E m_Need_stateOfTurn 0 S M 0 [some (.int (nI q)), some (.int (nI s))] [] Φ := by
  obtain ⟨e0, e1, e2⟩ := k_turn q hq
  refine vc_Need_stateOfTurn_0 E S M _ _ Φ ?_
  rw [e0, e1, e2]
  rcases (show s = 0 ∨ s = 1 ∨ s = 2 by omega) with rfl | rfl | rfl
  · exact ⟨fun c => absurd (by decide) c, fun _ => h⟩
  · exact ⟨fun _ => ⟨fun c => absurd (by decide) c, fun _ => h⟩, fun c => absurd c (by decide)⟩
  · exact ⟨fun _ => ⟨fun _ => h, fun c => absurd c (by decide)⟩, fun c => absurd c (by decide)⟩
def blP (g : Nat → Nat) (n l : Nat) : Nat → Nat
  | 0 => 511
  | j + 1 => nar (blP g n l j) (g (3 * l + j)) (dg n j)
theorem blP_lt (g : Nat → Nat) (n l j : Nat) : blP g n l j < 512 := by
  cases j with
  | zero => show 511 < 512; decide
  | succ j => exact nar_lt
theorem Need_behindLetter_loop {m l n : Nat} {g : Nat → Nat} (hm : zMach S m) (hg : zGo M m g) (hgo : okg g) (hl : l < 2) (hn : n < 512) (h : Φ (some (.int (nI (blP g n l 3)))) S M) :
    ∀ (k j : Nat), j + k = 3 → zW E m_Need_behindLetter 1 S M 7 [some (.int (nI n)), some (.int (nI l)), some (.ref m), some (.int (nI (blP g n l j))), some (.int (nI j))] [] Φ := by
  intro k
  induction k with
  | zero =>
    intro j hj
    have : j = 3 := by omega
    subst this
    exact vc_Need_behindLetter_7 E S M _ _ m _ _ Φ hm ⟨fun _ => h, fun c => absurd (by decide) c⟩
  | succ k ih =>
    intro j hj
    refine vc_Need_behindLetter_7 E S M _ _ m _ _ Φ hm ⟨fun c => absurd c (nI_ge (b := 3) (by omega) (by decide)), fun _ => ?_⟩
    refine Machine_after_ok hm hg (by omega) hl ⟨_, rfl, rfl, Need_ofState_ok hn (by omega) ⟨_, rfl, rfl, Need_narrowed_ok (blP_lt _ _ _ _) (hgo _ (by omega)) (dg_lt _ _) ⟨_, rfl, rfl, ?_⟩⟩⟩
    rintro _ rfl
    rw [nI_1]
    exact ih (j + 1) (by omega)
def bl (g : Nat → Nat) (n l : Nat) : Nat := blP g n l 3
theorem Need_behindLetter_ok {m l n : Nat} {g : Nat → Nat} (hm : zMach S m) (hg : zGo M m g) (hgo : okg g) (hl : l < 2) (hn : n < 512) (h : Φ (some (.int (nI (bl g n l)))) S M) : zW E m_Need_behindLetter 1 S M 0 [some (.int (nI n)), some (.int (nI l)), some (.ref m), none, none] [] Φ :=
  vc_Need_behindLetter_0 E S M _ _ m Φ hm (Need_behindLetter_loop hm hg hgo hl hn h 3 0 rfl)
def bTP (n q : Nat) : Nat → Nat
  | 0 => 511
  | j + 1 => nar (bTP n q j) (tq q j) (dg n j)
theorem bTP_lt (n q j : Nat) : bTP n q j < 512 := by
  cases j with
  | zero => show 511 < 512; decide
  | succ j => exact nar_lt
theorem Need_behindTurn_loop {n q : Nat} (hq : q < 27) (hn : n < 512) (h : Φ (some (.int (nI (bTP n q 3)))) S M) :
    ∀ (k j : Nat), j + k = 3 → zW E m_Need_behindTurn 1 S M 6 [some (.int (nI n)), some (.int (nI q)), some (.int (nI (bTP n q j))), some (.int (nI j))] [] Φ := by
  intro k
  induction k with
  | zero =>
    intro j hj
    have : j = 3 := by omega
    subst this
    exact vc_Need_behindTurn_6 E S M _ _ _ _ Φ ⟨fun _ => h, fun c => absurd (by decide) c⟩
  | succ k ih =>
    intro j hj
    refine vc_Need_behindTurn_6 E S M _ _ _ _ Φ ⟨fun c => absurd c (nI_ge (b := 3) (by omega) (by decide)), fun _ => ?_⟩
    refine Need_stateOfTurn_ok hq (by omega) ⟨_, rfl, rfl, Need_ofState_ok hn (by omega) ⟨_, rfl, rfl, Need_narrowed_ok (bTP_lt _ _ _) (tq_lt _ _) (dg_lt _ _) ⟨_, rfl, rfl, ?_⟩⟩⟩
    rintro _ rfl
    rw [nI_1]
    exact ih (j + 1) (by omega)
def bT (n q : Nat) : Nat := bTP n q 3
theorem Need_behindTurn_ok {n q : Nat} (hq : q < 27) (hn : n < 512) (h : Φ (some (.int (nI (bT n q)))) S M) : zW E m_Need_behindTurn 1 S M 0 [some (.int (nI n)), some (.int (nI q)), none, none] [] Φ :=
  vc_Need_behindTurn_0 E S M _ _ Φ (Need_behindTurn_loop hq hn h 3 0 rfl)
def aTP (a n q : Nat) : Nat → Nat
  | 0 => a
  | j + 1 => if dg n j = 7 then aTP a n q j else nar (aTP a n q j) j (2 ^ tq q j)
theorem aTP_lt {a n q : Nat} (ha : a < 512) : ∀ j, aTP a n q j < 512
  | 0 => ha
  | j + 1 => by
    unfold aTP
    split
    · exact aTP_lt ha j
    · exact nar_lt
theorem two_tq (q j : Nat) : 2 ^ tq q j < 8 := by
  have := tq_lt q j
  rcases (show tq q j = 0 ∨ tq q j = 1 ∨ tq q j = 2 by omega) with e | e | e <;> rw [e] <;> decide
theorem Need_aheadOfTurn_loop {a n q : Nat} (hq : q < 27) (hn : n < 512) (ha : a < 512) (h : Φ (some (.int (nI (aTP a n q 3)))) S M) :
    ∀ (k j : Nat), j + k = 3 → zW E m_Need_aheadOfTurn 1 S M 5 [none, some (.int (nI n)), some (.int (nI q)), some (.int (nI (aTP a n q j))), some (.int (nI j))] [] Φ := by
  intro k
  induction k with
  | zero =>
    intro j hj
    have : j = 3 := by omega
    subst this
    exact vc_Need_aheadOfTurn_5 E S M _ _ _ _ Φ ⟨fun _ => h, fun c => absurd (by decide) c⟩
  | succ k ih =>
    intro j hj
    have ih' := ih (j + 1) (by omega)
    unfold aTP at ih'
    refine vc_Need_aheadOfTurn_5 E S M _ _ _ _ Φ ⟨fun c => absurd c (nI_ge (b := 3) (by omega) (by decide)), fun _ => ?_⟩
    refine Need_ofState_ok hn (by omega) ⟨_, rfl, rfl, fun c => ?_, fun c => ?_⟩
    · have c : dg n j = 7 := (nI_eq (b := 7) (by have := dg_lt n j; omega) (by decide)).mp c
      rintro _ rfl
      rw [nI_1]
      rw [if_pos c] at ih'
      exact ih'
    · have c : ¬ dg n j = 7 := fun e => c (by rw [e]; rfl)
      refine Need_stateOfTurn_ok hq (by omega) ⟨_, rfl, rfl, ?_⟩
      rw [k_one _ (tq_lt _ _)]
      refine Need_narrowed_ok (aTP_lt ha _) (by omega) (two_tq _ _) ⟨_, rfl, rfl, ?_⟩
      rintro _ rfl
      rw [nI_1]
      rw [if_neg c] at ih'
      exact ih'
def aT (a n q : Nat) : Nat := aTP a n q 3
theorem Need_aheadOfTurn_ok {a n q : Nat} (hq : q < 27) (hn : n < 512) (ha : a < 512) (h : Φ (some (.int (nI (aT a n q)))) S M) : zW E m_Need_aheadOfTurn 1 S M 0 [some (.int (nI a)), some (.int (nI n)), some (.int (nI q)), none, none] [] Φ :=
  vc_Need_aheadOfTurn_0 E S M _ _ _ Φ (Need_aheadOfTurn_loop hq hn ha h 3 0 rfl)
def iT (n q : Nat) : Bool := (dg n 0 != 7 || tq q 0 == 0) && (dg n 1 != 7 || tq q 1 == 0) && (dg n 2 != 7 || tq q 2 == 0)
theorem iT_spec (n q : Nat) : iT n q = true ↔ ∀ s, s < 3 → dg n s = 7 → tq q s = 0 := by
  unfold iT
  constructor
  · intro h s hs e
    simp at h
    rcases (show s = 0 ∨ s = 1 ∨ s = 2 by omega) with rfl | rfl | rfl
    · exact (h.1.1.resolve_left (fun q => q e))
    · exact (h.1.2.resolve_left (fun q => q e))
    · exact (h.2.resolve_left (fun q => q e))
  · intro h
    have h0 := h 0 (by decide)
    have h1 := h 1 (by decide)
    have h2 := h 2 (by decide)
    simp
    refine ⟨⟨?_, ?_⟩, ?_⟩
    · by_cases e : dg n 0 = 7
      · exact Or.inr (h0 e)
      · exact Or.inl e
    · by_cases e : dg n 1 = 7
      · exact Or.inr (h1 e)
      · exact Or.inl e
    · by_cases e : dg n 2 = 7
      · exact Or.inr (h2 e)
      · exact Or.inl e
theorem Need_isTurn_loop {n q : Nat} (hq : q < 27) (hn : n < 512) (h : Φ (some (.int (if iT n q = true then 1 else 0))) S M) :
    ∀ (k j : Nat), j + k = 3 → (∀ s, s < j → dg n s = 7 → tq q s = 0) → zW E m_Need_isTurn 1 S M 2 [some (.int (nI n)), some (.int (nI q)), some (.int (nI j))] [] Φ := by
  intro k
  induction k with
  | zero =>
    intro j hj hi
    have : j = 3 := by omega
    subst this
    rw [if_pos ((iT_spec n q).mpr hi)] at h
    exact vc_Need_isTurn_2 E S M _ _ _ Φ ⟨fun _ => h, fun c => absurd (by decide) c⟩
  | succ k ih =>
    intro j hj hi
    refine vc_Need_isTurn_2 E S M _ _ _ Φ ⟨fun c => absurd c (nI_ge (b := 3) (by omega) (by decide)), fun _ => ?_⟩
    refine Need_ofState_ok hn (by omega) ⟨_, rfl, rfl, fun c => ?_, fun c => ?_⟩
    · have c : ¬ dg n j = 7 := fun e => c (by rw [e]; rfl)
      rintro _ rfl
      rw [nI_1]
      refine ih (j + 1) (by omega) (fun s hs e => ?_)
      by_cases es : s = j
      · subst es
        exact absurd e c
      · exact hi s (by omega) e
    · have c : dg n j = 7 := (nI_eq (b := 7) (by have := dg_lt n j; omega) (by decide)).mp c
      refine Need_stateOfTurn_ok hq (by omega) ⟨_, rfl, rfl, fun c2 => ?_, fun c2 => ?_⟩
      · have c2 : tq q j = 0 := (nI_eq (b := 0) (by have := tq_lt q j; omega) (by decide)).mp c2
        rintro _ rfl
        rw [nI_1]
        refine ih (j + 1) (by omega) (fun s hs e => ?_)
        by_cases es : s = j
        · subst es
          exact c2
        · exact hi s (by omega) e
      · rw [if_neg (fun z => c2 (by rw [(iT_spec n q).mp z j (by omega) c]; rfl))] at h
        exact h
theorem Need_isTurn_ok {n q : Nat} (hq : q < 27) (hn : n < 512) (h : Φ (some (.int (if iT n q = true then 1 else 0))) S M) : zW E m_Need_isTurn 1 S M 0 [some (.int (nI n)), some (.int (nI q)), none] [] Φ :=
  vc_Need_isTurn_0 E S M _ _ Φ (Need_isTurn_loop hq hn h 3 0 rfl (fun s hs => absurd hs (Nat.not_lt_zero _)))
end NEED
