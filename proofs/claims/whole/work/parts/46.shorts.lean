/-! the maps that words make, by breadth; what the methods of Shorts do -/
/-- the first place from j on, among n, where it holds -/
def fIx (p : Nat → Bool) : Nat → Nat → Option Nat
  | _, 0 => none
  | j, n + 1 => if p j = true then some j else fIx p (j + 1) n
theorem fIx_some {p : Nat → Bool} : ∀ {n j e : Nat}, fIx p j n = some e → j ≤ e ∧ e < j + n ∧ p e = true ∧ ∀ i, j ≤ i → i < e → p i = false
  | 0, j, e, h => by cases h
  | n + 1, j, e, h => by
    unfold fIx at h
    by_cases c : p j = true
    · rw [if_pos c] at h
      cases h
      exact ⟨Nat.le_refl _, by omega, c, fun i h1 h2 => absurd h1 (by omega)⟩
    · rw [if_neg c] at h
      obtain ⟨h1, h2, h3, h4⟩ := fIx_some h
      refine ⟨by omega, by omega, h3, fun i g1 g2 => ?_⟩
      by_cases ei : i = j
      · rw [ei]; simpa using c
      · exact h4 i (by omega) g2
theorem fIx_none {p : Nat → Bool} : ∀ {n j : Nat}, fIx p j n = none ↔ ∀ i, j ≤ i → i < j + n → p i = false
  | 0, j => by simp [fIx]; omega
  | n + 1, j => by
    unfold fIx
    by_cases c : p j = true
    · rw [if_pos c]
      constructor
      · intro h; cases h
      · intro h
        rw [h j (Nat.le_refl _) (by omega)] at c
        cases c
    · rw [if_neg c, fIx_none]
      constructor
      · intro h i h1 h2
        by_cases ei : i = j
        · rw [ei]; simpa using c
        · exact h i (by omega) (by omega)
      · intro h i h1 h2
        exact h i (by omega) (by omega)
theorem fIx_at {p : Nat → Bool} {n e : Nat} (he : e < n) (hp : p e = true) (hf : ∀ i, i < e → p i = false) : fIx p 0 n = some e := by
  cases h : fIx p 0 n with
  | none => rw [(fIx_none.mp h) e (by omega) (by omega)] at hp; cases hp
  | some e' =>
    obtain ⟨-, h2, h3, h4⟩ := fIx_some h
    by_cases c : e < e'
    · rw [h4 e (by omega) c] at hp; cases hp
    · by_cases c2 : e' < e
      · rw [hf e' c2] at h3; cases h3
      · congr 1; omega
theorem fIx_congr {p q : Nat → Bool} : ∀ {n j : Nat}, (∀ i, j ≤ i → i < j + n → p i = q i) → fIx p j n = fIx q j n
  | 0, j, _ => rfl
  | n + 1, j, h => by
    unfold fIx
    rw [h j (Nat.le_refl _) (by omega), fIx_congr (fun i h1 h2 => h i (by omega) (by omega))]
abbrev BD : Type := List (T3 × List Nat)
def dT (D : BD) (e : Nat) : T3 := (D.getD e ((0, 0, 0), [])).1
def dW (D : BD) (e : Nat) : List Nat := (D.getD e ((0, 0, 0), [])).2
theorem dT_l {D : BD} {q : T3 × List Nat} {e : Nat} (h : e < D.length) : dT (D ++ [q]) e = dT D e ∧ dW (D ++ [q]) e = dW D e := by
  simp [dT, dW, List.getD_eq_getElem?_getD, List.getElem?_append_left h]
theorem dT_r {D : BD} {q : T3 × List Nat} : dT (D ++ [q]) D.length = q.1 ∧ dW (D ++ [q]) D.length = q.2 := by
  simp [dT, dW, List.getD_eq_getElem?_getD]
def bhas (D : BD) (t : T3) : Bool := (fIx (fun e => dT D e == t) 0 D.length).isSome
def badd (D : BD) (t : T3) (w : List Nat) : BD := if bhas D t = true then D else D ++ [(t, w)]
def bst (g : Nat → Nat) (D : BD) (e : Nat) : BD := if e < D.length then badd (badd D (stp g 0 (dT D e)) (dW D e ++ [0])) (stp g 1 (dT D e)) (dW D e ++ [1]) else D
def bfP (g : Nat → Nat) : Nat → BD
  | 0 => [((0, 1, 2), [])]
  | e + 1 => bst g (bfP g e) e
def bfs (g : Nat → Nat) : BD := bfP g 27
theorem bhas_iff {D : BD} {t : T3} : bhas D t = true ↔ ∃ e, e < D.length ∧ dT D e = t := by
  unfold bhas
  cases h : fIx (fun e => dT D e == t) 0 D.length with
  | none =>
    simp
    intro e he
    have := fIx_none.mp h e (by omega) (by omega)
    simpa using this
  | some e =>
    obtain ⟨-, h2, h3, -⟩ := fIx_some h
    simp
    exact ⟨e, by omega, by simpa using h3⟩
/-- what holds of the list: maps of states, each once, words of letters that are no longer than their place -/
def okD (D : BD) : Prop := 0 < D.length ∧ dT D 0 = (0, 1, 2) ∧ dW D 0 = [] ∧ (∀ e, e < D.length → ok3 (dT D e) ∧ (dW D e).length ≤ e ∧ ∀ y ∈ dW D e, y < 2) ∧ ∀ i j, i < D.length → j < D.length → dT D i = dT D j → i = j
theorem okD_0 : okD [((0, 1, 2), [])] := by
  refine ⟨by decide, rfl, rfl, fun e he => ?_, fun i j hi hj _ => ?_⟩
  · have : e = 0 := by simp at he; exact he
    subst this
    exact ⟨⟨by decide, by decide, by decide⟩, Nat.le_refl _, fun y hy => by cases hy⟩
  · simp at hi hj
    omega
theorem okD_add {D : BD} {t : T3} {w : List Nat} (h : okD D) (ht : ok3 t) (hw : w.length ≤ D.length) (hy : ∀ y ∈ w, y < 2) : okD (badd D t w) := by
  unfold badd
  by_cases c : bhas D t = true
  · rw [if_pos c]; exact h
  · rw [if_neg c]
    obtain ⟨h0, h1, h2, h3, h4⟩ := h
    refine ⟨by simp, by rw [(dT_l h0).1]; exact h1, by rw [(dT_l h0).2]; exact h2, fun e he => ?_, fun i j hi hj hij => ?_⟩
    · by_cases e1 : e < D.length
      · rw [(dT_l e1).1, (dT_l e1).2]; exact h3 e e1
      · have : e = D.length := by simp at he; omega
        subst this
        rw [dT_r.1, dT_r.2]
        exact ⟨ht, hw, hy⟩
    · have c' : ∀ e, e < D.length → dT D e ≠ t := fun e he q => c (bhas_iff.mpr ⟨e, he, q⟩)
      by_cases e1 : i < D.length <;> by_cases e2 : j < D.length
      · rw [(dT_l e1).1, (dT_l e2).1] at hij; exact h4 i j e1 e2 hij
      · have : j = D.length := by simp at hj; omega
        subst this
        rw [(dT_l e1).1, dT_r.1] at hij
        exact absurd hij (c' i e1)
      · have : i = D.length := by simp at hi; omega
        subst this
        rw [(dT_l e2).1, dT_r.1] at hij
        exact absurd hij.symm (c' j e2)
      · simp at hi hj; omega
theorem badd_len (D : BD) (t : T3) (w : List Nat) : D.length ≤ (badd D t w).length := by
  unfold badd
  split <;> simp
theorem badd_old {D : BD} {t : T3} {w : List Nat} {e : Nat} (h : e < D.length) : dT (badd D t w) e = dT D e ∧ dW (badd D t w) e = dW D e := by
  unfold badd
  split
  · exact ⟨rfl, rfl⟩
  · exact dT_l h
theorem okD_st {g : Nat → Nat} (hg : okg g) {D : BD} (h : okD D) (e : Nat) : okD (bst g D e) := by
  unfold bst
  by_cases c : e < D.length
  · rw [if_pos c]
    obtain ⟨h1, h2, h3⟩ := h.2.2.2.1 e c
    refine okD_add (okD_add h (ok3_stp hg h1 (by decide)) (by simp; omega) ?_) (ok3_stp hg h1 (by decide)) ?_ ?_
    · intro y hy
      rcases List.mem_append.mp hy with hy | hy
      · exact h3 y hy
      · rw [List.mem_singleton.mp hy]; decide
    · have := badd_len D (stp g 0 (dT D e)) (dW D e ++ [0])
      simp
      omega
    · intro y hy
      rcases List.mem_append.mp hy with hy | hy
      · exact h3 y hy
      · rw [List.mem_singleton.mp hy]; decide
  · rw [if_neg c]; exact h
theorem okD_P {g : Nat → Nat} (hg : okg g) : ∀ e, okD (bfP g e)
  | 0 => okD_0
  | e + 1 => okD_st hg (okD_P hg e) e
/-- there are no more than so many numbers below n -/
theorem nodup_filter {n : Nat} : ∀ {l : List Nat}, l.Nodup → l.length ≤ (l.filter (fun x => x != n)).length + 1
  | [], _ => by simp
  | x :: t, h => by
    have ht := (List.nodup_cons.mp h)
    by_cases e : x = n
    · have hf : t.filter (fun x => x != n) = t := by
        rw [List.filter_eq_self]
        intro a ha
        have : a ≠ n := fun q => ht.1 (by rw [e, ← q]; exact ha)
        simpa using this
      have : (x :: t).filter (fun x => x != n) = t := by
        rw [List.filter_cons_of_neg (by simp [e]), hf]
      rw [this]
      simp
    · have : (x :: t).filter (fun x => x != n) = x :: t.filter (fun x => x != n) := by
        rw [List.filter_cons_of_pos (by simpa using e)]
      rw [this, List.length_cons, List.length_cons]
      have := nodup_filter (n := n) ht.2
      omega
theorem pigeon : ∀ (n : Nat) {l : List Nat}, l.Nodup → (∀ x ∈ l, x < n) → l.length ≤ n
  | 0, l, _, h => by
    cases l with
    | nil => simp
    | cons x t => exact absurd (h x List.mem_cons_self) (Nat.not_lt_zero _)
  | n + 1, l, hd, h => by
    have h1 := nodup_filter (n := n) hd
    have h2 := pigeon n (l := l.filter (fun x => x != n)) (hd.filter _) (fun x hx => by
      have hx := List.mem_filter.mp hx
      have := h x hx.1
      have e : x ≠ n := by simpa using hx.2
      omega)
    omega
theorem okD_27 {D : BD} (h : okD D) : D.length ≤ 27 := by
  have hl : ((List.range D.length).map (fun e => 9 * (dT D e).1 + 3 * (dT D e).2.1 + (dT D e).2.2)).Nodup := by
    rw [List.nodup_iff_pairwise_ne, List.pairwise_map]
    refine List.Pairwise.imp_of_mem ?_ (List.pairwise_lt_range)
    intro i j hi hj hij e
    have hi := List.mem_range.mp hi
    have hj := List.mem_range.mp hj
    obtain ⟨⟨a1, a2, a3⟩, -⟩ := h.2.2.2.1 i hi
    obtain ⟨⟨b1, b2, b3⟩, -⟩ := h.2.2.2.1 j hj
    have : dT D i = dT D j := by
      apply Prod.ext
      · omega
      · apply Prod.ext <;> omega
    have := h.2.2.2.2 i j hi hj this
    omega
  have := pigeon 27 hl (fun x hx => by
    obtain ⟨e, he, rfl⟩ := List.mem_map.mp hx
    obtain ⟨⟨a1, a2, a3⟩, -⟩ := h.2.2.2.1 e (List.mem_range.mp he)
    omega)
  simpa using this
/-- behind the last one nothing happens -/
theorem bfP_stay {g : Nat → Nat} {e : Nat} (h : (bfP g e).length ≤ e) : ∀ n, bfP g (e + n) = bfP g e
  | 0 => rfl
  | n + 1 => by
    show bst g (bfP g (e + n)) (e + n) = _
    rw [bfP_stay h n]
    unfold bst
    rw [if_neg (by omega)]
theorem bfP_bfs {g : Nat → Nat} (hg : okg g) {e : Nat} (h : (bfP g e).length ≤ e) (he : e ≤ 27) : bfP g e = bfs g := by
  have := bfP_stay h (27 - e)
  rw [show e + (27 - e) = 27 by omega] at this
  exact this.symm
def sIx (D : BD) (n : Nat) : Option Nat := fIx (fun e => allow n (dT D e)) 0 D.length
def oN (o : Option Nat) : Int32 := match o with
  | none => -6
  | some e => nI e
def fitv (D : BD) (n : Nat) : Int32 := oN (sIx D n)
/-- the maps in memory -/
def zSh (M : ZM) (D : BD) : Prop := M 45 5 = nI D.length ∧ ∀ e, e < D.length → M 46 e = nI (mb (dT D e)) ∧ (0 < e → ∃ e' l, e' < e ∧ l < 2 ∧ M 47 e = nI e' ∧ M 48 e = nI l ∧ dW D e = dW D e' ++ [l])
def zFit (M : ZM) (D : BD) : Prop := ∀ n, n < 512 → M 49 n = -1 ∨ M 49 n = fitv D n
def zSho (M : ZM) (g : Nat → Nat) : Prop := zSh M (bfs g) ∧ zFit M (bfs g)
theorem zSh_keep {M M' : ZM} {D : BD} (h : zSh M D) (h1 : M' 45 = M 45) (h2 : M' 46 = M 46) (h3 : M' 47 = M 47) (h4 : M' 48 = M 48) : zSh M' D := by
  unfold zSh
  rw [h1, h2, h3, h4]
  exact h
theorem mb_lt {t : T3} (h : ok3 t) : mb t < 512 := by
  obtain ⟨a, b, c⟩ := t
  exact (by decide +kernel : ∀ a, a < 3 → ∀ b, b < 3 → ∀ c, c < 3 → mb (a, b, c) < 512) a h.1 b h.2.1 c h.2.2
theorem mb_dg : ∀ a, a < 3 → ∀ b, b < 3 → ∀ c, c < 3 → dg (mb (a, b, c)) 0 = 2 ^ a ∧ dg (mb (a, b, c)) 1 = 2 ^ b ∧ dg (mb (a, b, c)) 2 = 2 ^ c := by decide +kernel
theorem two_inj : ∀ a, a < 3 → ∀ b, b < 3 → 2 ^ a = 2 ^ b → a = b := by decide +kernel
theorem mb_inj {t u : T3} (h : ok3 t) (hu : ok3 u) (e : mb t = mb u) : t = u := by
  obtain ⟨a, b, c⟩ := t
  obtain ⟨a', b', c'⟩ := u
  obtain ⟨e0, e1, e2⟩ := mb_dg a h.1 b h.2.1 c h.2.2
  obtain ⟨f0, f1, f2⟩ := mb_dg a' hu.1 b' hu.2.1 c' hu.2.2
  rw [e] at e0 e1 e2
  rw [two_inj a h.1 a' hu.1 (e0.symm.trans f0), two_inj b h.2.1 b' hu.2.1 (e1.symm.trans f1), two_inj c h.2.2 c' hu.2.2 (e2.symm.trans f2)]
section SHORTS
variable {E : ZE} {k : Nat} {M : ZM} {Φ : Option Value → ZS → ZM → Prop}
/-- one map more, if it isn't there -/
theorem Shorts_meet_loop {D : BD} {t : T3} {x2 x3 : Int32} (hD : okD D) (ht : ok3 t) (hM : zSh M D)
    (h1 : bhas D t = true → Φ none (zSt k) M)
    (h2 : bhas D t = false → ∀ M', M' 45 5 = nI (D.length + 1) → (∀ e, e < D.length → M' 46 e = M 46 e ∧ M' 47 e = M 47 e ∧ M' 48 e = M 48 e) → M' 46 D.length = nI (mb t) → M' 47 D.length = x2 → M' 48 D.length = x3 → M' 45 6 = M 45 6 → zfr M M' [45, 46, 47, 48] → Φ none (zSt k) M') (h27 : bhas D t = false → D.length < 27) :
    ∀ (n j : Nat), j + n = D.length → (∀ i, i < j → dT D i ≠ t) → zW E m_Shorts_meet 0 (zSt k) M 3 [some (.ref 45), some (.int (nI (mb t))), some (.int x2), some (.int x3), some (.int (nI j))] [] Φ := by
  have hl := okD_27 hD
  intro n
  induction n with
  | zero =>
    intro j hj hi
    have hb : bhas D t = false := by
      cases hb : bhas D t with
      | false => rfl
      | true =>
        obtain ⟨e, he, q⟩ := bhas_iff.mp hb
        exact absurd q (hi e (by omega))
    have h27 := h27 hb
    refine vc_Shorts_meet_3 E k M _ _ _ (nI j) Φ ?_
    rw [hM.1]
    refine ⟨fun _ => ⟨fun c => absurd c (nI_pos (by omega)), fun _ => ⟨fun _ => ⟨D.length, h27, rfl, ?_⟩, fun c => absurd ((nI_ltI (b := 27) (by omega) (by decide)).mpr h27) c⟩⟩, fun c => absurd (nI_le (by omega) (by omega)) c⟩
    rintro _ rfl
    refine ⟨D.length, h27, by rw [zms_n _ _ (by omega)]; exact hM.1, ?_⟩
    rintro _ rfl
    refine ⟨D.length, h27, by rw [zms_n _ _ (by omega), zms_n _ _ (by omega)]; exact hM.1, ?_⟩
    rintro _ rfl _ rfl
    refine h2 hb _ ?_ (fun e he => ⟨?_, ?_, ?_⟩) ?_ ?_ ?_ ?_ ?_
    · rw [zms_s, zms_n _ _ (by omega), zms_n _ _ (by omega), zms_n _ _ (by omega), hM.1, nI_1]
    · rw [zms_n _ _ (by omega), zms_n _ _ (by omega), zms_n _ _ (by omega), zms_n _ _ (by omega)]
    · rw [zms_n _ _ (by omega), zms_n _ _ (by omega), zms_n _ _ (by omega), zms_n _ _ (by omega)]
    · rw [zms_n _ _ (by omega), zms_n _ _ (by omega), zms_n _ _ (by omega), zms_n _ _ (by omega)]
    · rw [zms_n _ _ (by omega), zms_n _ _ (by omega), zms_n _ _ (by omega), zms_s]
    · rw [zms_n _ _ (by omega), zms_n _ _ (by omega), zms_s]
    · rw [zms_n _ _ (by omega), zms_s]
    · rw [zms_n _ _ (by omega), zms_n _ _ (by omega), zms_n _ _ (by omega), zms_n _ _ (by omega)]
    · exact zfr_tr (zfr_tr (zfr_tr (zfr_ms _ _ _ _ (by simp)) (zfr_ms _ _ _ _ (by simp))) (zfr_ms _ _ _ _ (by simp))) (zfr_ms _ _ _ _ (by simp))
  | succ n ih =>
    intro j hj hi
    have hjl : j < D.length := by omega
    refine vc_Shorts_meet_3 E k M _ _ _ (nI j) Φ ?_
    rw [hM.1]
    refine ⟨fun c => absurd c (nI_ge (by omega) (by omega)), fun _ => ⟨fun c => absurd c (nI_ge (b := 27) (by omega) (by decide)), fun _ => ⟨j, by omega, rfl, ?_⟩⟩⟩
    rw [(hM.2 j hjl).1]
    have o1 := (hD.2.2.2.1 j hjl).1
    refine ⟨fun c => ?_, fun c => ?_⟩
    · rintro _ rfl
      rw [nI_1]
      refine ih (j + 1) (by omega) (fun i h => ?_)
      by_cases e : i = j
      · rw [e]; exact fun q => c (by rw [q])
      · exact hi i (by omega)
    · have c := (nI_eq (by have := mb_lt o1; omega) (by have := mb_lt ht; omega)).mp c
      exact h1 (bhas_iff.mpr ⟨j, hjl, mb_inj o1 ht c⟩)
theorem Shorts_meet_ok {D : BD} {t : T3} {w : List Nat} {e0 l : Nat} (hD : okD D) (ht : ok3 t) (hM : zSh M D) (he : e0 < D.length) (hl : l < 2) (hw : w = dW D e0 ++ [l]) (hk : ∀ M', zSh M' (badd D t w) → M' 45 6 = M 45 6 → zfr M M' [45, 46, 47, 48] → Φ none (zSt k) M') (hB : okD (badd D t w)) : zW E m_Shorts_meet 0 (zSt k) M 0 [some (.ref 45), some (.int (nI (mb t))), some (.int (nI e0)), some (.int (nI l)), none] [] Φ := by
  refine vc_Shorts_meet_0 E k M _ _ _ Φ (Shorts_meet_loop hD ht hM (fun hb => hk M ?_ rfl (zfr_rfl _ _)) (fun hb M' a1 a2 a3 a4 a5 a6 a7 => hk M' ?_ a6 a7) (fun hb => ?_) D.length 0 (by omega) (fun i h => absurd h (Nat.not_lt_zero _)))
  · rw [badd, if_pos hb]; exact hM
  · rw [badd, if_neg (by rw [hb]; decide)]
    refine ⟨by rw [a1]; simp, fun e he' => ?_⟩
    by_cases e1 : e < D.length
    · obtain ⟨b1, b2, b3⟩ := a2 e e1
      rw [(dT_l e1).1, (dT_l e1).2, b1, b2, b3]
      obtain ⟨c1, c2⟩ := hM.2 e e1
      refine ⟨c1, fun h0 => ?_⟩
      obtain ⟨e', l', d1, d2, d3, d4, d5⟩ := c2 h0
      exact ⟨e', l', d1, d2, d3, d4, by rw [d5, (dT_l (by omega)).2]⟩
    · have : e = D.length := by simp at he'; omega
      subst this
      rw [dT_r.1, dT_r.2]
      exact ⟨a3, fun _ => ⟨e0, l, he, hl, a4, a5, by rw [hw, (dT_l he).2]⟩⟩
  · have := okD_27 hB
    rw [badd, if_neg (by rw [hb]; decide)] at this
    simp at this
    omega
theorem bst_half (g : Nat → Nat) (D : BD) (e : Nat) (h : e < D.length) : bst g D e = badd (badd D (stp g 0 (dT D e)) (dW D e ++ [0])) (stp g 1 (dT (badd D (stp g 0 (dT D e)) (dW D e ++ [0])) e)) (dW (badd D (stp g 0 (dT D e)) (dW D e ++ [0])) e ++ [1]) := by
  unfold bst
  rw [if_pos h, (badd_old h).1, (badd_old h).2]
theorem Shorts_refresh_loop {g : Nat → Nat} (hg : okg g) (M0 : ZM) (hgo : zGo M0 8 g) (hk : ∀ M', zSho M' g → M' 45 6 = 1 → zfr M0 M' [45, 46, 47, 48, 49] → Φ none (zSt k) M') :
    ∀ (n e : Nat) (M : ZM), e + n = 27 → zSh M (bfP g e) → (∀ i, i < 512 → M 49 i = -1) → zfr M0 M [45, 46, 47, 48, 49] → zW E m_Shorts_refresh 2 (zSt k) M 34 [some (.ref 45), some (.int (nI e)), none] [] Φ := by
  intro n
  induction n with
  | zero =>
    intro e M he hM hi hf
    have : e = 27 := by omega
    subst this
    refine vc_Shorts_refresh_34 E k M (nI 27) Φ ⟨fun _ => ?_, fun c => absurd (by decide) c⟩
    rintro _ rfl
    refine hk _ ⟨?_, fun i h => Or.inl ?_⟩ (zms_s _ _ _ _) (zfr_tr hf (zfr_ms _ _ _ _ (by simp)))
    · refine ⟨by rw [zms_n _ _ (by omega)]; exact hM.1, fun e he => ?_⟩
      rw [zms_n _ _ (by omega), zms_n _ _ (by omega), zms_n _ _ (by omega)]
      exact hM.2 e he
    · rw [zms_n _ _ (by omega), hi i h]
  | succ n ih =>
    intro e M he hM hi hf
    have hD := okD_P hg e
    have hl := okD_27 hD
    refine vc_Shorts_refresh_34 E k M (nI e) Φ ?_
    rw [hM.1]
    refine ⟨fun c => absurd c (nI_ge (b := 27) (by omega) (by decide)), fun _ => ⟨fun c => ?_, fun c => ?_⟩⟩
    · have c := (nI_leI (by omega) (by omega)).mp c
      have eD := bfP_bfs hg c (by omega)
      rintro _ rfl
      refine hk _ ⟨?_, fun i h => Or.inl ?_⟩ (zms_s _ _ _ _) (zfr_tr hf (zfr_ms _ _ _ _ (by simp)))
      · rw [← eD]
        refine ⟨by rw [zms_n _ _ (by omega)]; exact hM.1, fun e he => ?_⟩
        rw [zms_n _ _ (by omega), zms_n _ _ (by omega), zms_n _ _ (by omega)]
        exact hM.2 e he
      · rw [zms_n _ _ (by omega), hi i h]
    · have c : e < (bfP g e).length := by
        by_cases q : (bfP g e).length ≤ e
        · exact absurd ((nI_leI (by omega) (by omega)).mpr q) c
        · omega
      have hg1 : zGo M 8 g := zGo_keep hgo hf (by decide)
      obtain ⟨p1, p2, p3⟩ := hD.2.2.2.1 e c
      have mem2 : ∀ l, l < 2 → ∀ y ∈ dW (bfP g e) e ++ [l], y < 2 := by
        intro l hl y hy
        rcases List.mem_append.mp hy with hy | hy
        · exact p3 y hy
        · rw [List.mem_singleton.mp hy]; exact hl
      have hB1 : okD (badd (bfP g e) (stp g 0 (dT (bfP g e) e)) (dW (bfP g e) e ++ [0])) := okD_add hD (ok3_stp hg p1 (by decide)) (by simp; omega) (mem2 0 (by decide))
      refine vc_Shorts_refresh_50 E k M (nI e) 0 Φ ⟨fun c => absurd c (by decide), fun _ => ⟨e, by omega, rfl, ?_⟩⟩
      rw [(hM.2 e c).1]
      refine Machine_mapBehind_ok (l := 0) (ts_8 k) hg1 hg p1 (by decide) ⟨_, rfl, rfl, ?_⟩
      refine Shorts_meet_ok (l := 0) hD (ok3_stp hg p1 (by decide)) hM c (by decide) rfl (fun M1 s1 q1 f1 => ⟨rfl, rfl, ?_⟩) hB1
      rintro _ rfl
      have c1 : e < (badd (bfP g e) (stp g 0 (dT (bfP g e) e)) (dW (bfP g e) e ++ [0])).length := Nat.lt_of_lt_of_le c (badd_len _ _ _)
      have hg2 : zGo M1 8 g := zGo_keep hg1 f1 (by decide)
      obtain ⟨r1, r2, r3⟩ := hB1.2.2.2.1 e c1
      refine vc_Shorts_refresh_50 E k M1 (nI e) (0 + 1) Φ ⟨fun c => absurd c (by decide), fun _ => ⟨e, by omega, rfl, ?_⟩⟩
      rw [(s1.2 e c1).1]
      refine Machine_mapBehind_ok (l := 1) (ts_8 k) hg2 hg r1 (by decide) ⟨_, rfl, rfl, ?_⟩
      have hB2 : okD (bst g (bfP g e) e) := okD_st hg hD e
      rw [bst_half g _ e c] at hB2
      refine Shorts_meet_ok (l := 1) hB1 (ok3_stp hg r1 (by decide)) s1 c1 (by decide) rfl (fun M2 s2 q2 f2 => ⟨rfl, rfl, ?_⟩) hB2
      rintro _ rfl
      refine vc_Shorts_refresh_50 E k M2 (nI e) (0 + 1 + 1) Φ ⟨fun _ => ?_, fun c => absurd (by decide) c⟩
      rintro _ rfl
      rw [nI_1]
      rw [← bst_half g _ e c] at s2
      refine ih (e + 1) M2 (by omega) s2 (fun i h => ?_) (zfr_tr hf (zfr_mono (zfr_tr f1 f2) (by simp <;> omega)))
      rw [f2 49 (by decide), f1 49 (by decide), hi i h]
theorem Shorts_refresh_ok {g : Nat → Nat} (hg : okg g) (hgo : zGo M 8 g) (hb : M 45 6 = 0 ∨ (M 45 6 = 1 ∧ zSho M g)) (hk : ∀ M', zSho M' g → M' 45 6 = 1 → zfr M M' [45, 46, 47, 48, 49] → Φ none (zSt k) M') : zW E m_Shorts_refresh 2 (zSt k) M 0 [some (.ref 45), none, none] [] Φ := by
  refine vc_Shorts_refresh_0 E k M Φ ?_
  rcases hb with hb | ⟨hb, hs⟩
  · refine ⟨fun _ => ?_, fun c => absurd hb c⟩
    refine Arr_fill_ok (ta_49 k) (fun M1 i1 f1 => ⟨rfl, rfl, ?_⟩)
    rintro _ rfl
    have hz : zSh (zms M1 45 5 0) [] := ⟨zms_s _ _ _ _, fun e he => absurd he (Nat.not_lt_zero _)⟩
    refine vc_Shorts_meet_0 E k _ _ _ _ _ ?_
    refine vc_Shorts_meet_3 E k _ _ _ _ _ _ ?_
    rw [zms_s]
    refine ⟨fun _ => ⟨fun c => absurd c (by decide), fun _ => ⟨fun _ => ⟨0, by decide, rfl, ?_⟩, fun c => absurd (by decide) c⟩⟩, fun c => absurd (by decide) c⟩
    rintro _ rfl
    refine ⟨0, by decide, by rw [zms_n _ _ (by omega), zms_s]; rfl, ?_⟩
    rintro _ rfl
    refine ⟨0, by decide, by rw [zms_n _ _ (by omega), zms_n _ _ (by omega), zms_s]; rfl, ?_⟩
    rintro _ rfl _ rfl
    refine ⟨rfl, rfl, ?_⟩
    refine Shorts_refresh_loop hg M hgo hk 27 0 _ rfl ⟨?_, fun e he => ?_⟩ (fun i h => ?_) ?_
    · rw [zms_s, zms_n _ _ (by omega), zms_n _ _ (by omega), zms_n _ _ (by omega), zms_s]
      rfl
    · have : e = 0 := by simp [bfP] at he; exact he
      subst this
      refine ⟨?_, fun h => absurd h (Nat.lt_irrefl _)⟩
      rw [zms_n _ _ (by omega), zms_n _ _ (by omega), zms_n _ _ (by omega), zms_s]
      rfl
    · rw [zms_n _ _ (by omega), zms_n _ _ (by omega), zms_n _ _ (by omega), zms_n _ _ (by omega), zms_n _ _ (by omega), i1 i h]
    · exact zfr_tr (zfr_mono f1 (by simp)) (zfr_tr (zfr_ms _ _ _ _ (by simp)) (zfr_tr (zfr_tr (zfr_tr (zfr_ms _ _ _ _ (by simp)) (zfr_ms _ _ _ _ (by simp))) (zfr_ms _ _ _ _ (by simp))) (zfr_ms _ _ _ _ (by simp))))
  · exact ⟨fun c => absurd c (by rw [hb]; decide), fun _ => hk M hs hb (zfr_rfl _ _)⟩
theorem Shorts_forget_ok (hk : Φ none (zSt k) (zms M 45 6 0)) : zW E m_Shorts_forget 0 (zSt k) M 0 [some (.ref 45)] [] Φ :=
  vc_Shorts_forget_0 E k M Φ (by rintro _ rfl; exact hk)
end SHORTS
