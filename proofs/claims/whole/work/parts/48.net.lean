/-! the net, as it is meant: nodes by breadth -/
abbrev ND : Type := (List Nat × List Nat) × T3
abbrev NR : Type := ND × Nat × Option (Nat × Nat) × Bool
abbrev MR : Type := Nat × Option (Option ND)
def nN (N : List NR) (e : Nat) : NR := N.getD e ((([], []), (0, 0, 0)), 0, none, false)
def rLean (p : List Nat × List Nat) : List Nat × List Nat := (p.1.drop (rFront p.1 p.2), p.2.drop (rFront p.1 p.2))
/-- what is made is none if it is hopeless, cut if it is too long -/
def fin (D : BD) (x : ND) : Option (Option ND) := if hopl D x.2 = true then none else if 24 < x.1.1.length ∨ 24 < x.1.2.length then some none else some (some x)
def nd0 (x : ND) (v : Nat) : ND := (rLean (rWithout (v + 2) x.1.1, rWithout (v + 2) x.1.2), nset x.2 v 511)
def nd1 (g : Nat → Nat) (x : ND) (v o q : Nat) : ND := (rLean (rAhead (v + 2) o x.1.1, rAhead (v + 2) o x.1.2), if o < 2 then nset x.2 v (bl g (t3 x.2 v) o) else nset (nset x.2 v (bT (t3 x.2 v) q)) (o - 2) (aT (t3 x.2 (o - 2)) (t3 x.2 v) q))
def k0 (D : BD) (x : ND) (s : Nat) : List MR := if 2 ≤ s then [(100 * (s - 2), if allow (t3 x.2 (s - 2)) (0, 1, 2) = true then fin D (nd0 x (s - 2)) else none)] else []
def turnsOf (n : Nat) : List Nat := (List.range 27).filter (fun q => iT n q)
def k1 (D : BD) (g : Nat → Nat) (x : ND) (s o : Nat) : List MR := if 2 ≤ s then (if o < 2 then [(1000 + 100 * (s - 2), fin D (nd1 g x (s - 2) o 0))] else (turnsOf (t3 x.2 (s - 2))).map (fun q => (1000 + 100 * (s - 2) + q, fin D (nd1 g x (s - 2) o q)))) else []
def mvs (D : BD) (g : Nat → Nat) (x : ND) : List MR := match x.1.1.head?, x.1.2.head? with
  | none, none => []
  | some u, none => k0 D x u
  | none, some v => k0 D x v
  | some u, some v => k0 D x u ++ k0 D x v ++ k1 D g x u v ++ k1 D g x v u
def nfind (N : List NR) (x : ND) : Option Nat := fIx (fun e => decide ((nN N e).1 = x)) 0 N.length
def ncut (N : List NR) (i : Nat) : List NR := N.set i ((nN N i).1, (nN N i).2.1, (nN N i).2.2.1, true)
/-- one move of node i: the net and the moves that lead to a node -/
def nstep (i : Nat) (s : List NR × List (Nat × Nat)) (m : MR) : List NR × List (Nat × Nat) := match m.2 with
  | none => s
  | some none => (ncut s.1 i, s.2)
  | some (some x) => match nfind s.1 x with
    | some t => (s.1, s.2 ++ [(t, m.1)])
    | none => if s.1.length < 150 then (s.1 ++ [(x, (nN s.1 i).2.1 + 1, some (i, m.1), false)], s.2 ++ [(s.1.length, m.1)]) else (ncut s.1 i, s.2)
def nnode (D : BD) (g : Nat → Nat) (N : List NR) (i : Nat) : List NR × List (Nat × Nat) := (mvs D g (nN N i).1).foldl (nstep i) (N, [])
def nP (D : BD) (g : Nat → Nat) (x0 : ND) : Nat → List NR
  | 0 => [(x0, 0, none, false)]
  | i + 1 => if i < (nP D g x0 i).length then (nnode D g (nP D g x0 i) i).1 else nP D g x0 i
/-- the first node -/
def nd00 (B : AB) : ND := (rLean B.1, B.2.2.1)
def netOf (B : AB) : List NR := nP (bfs B.2.1) B.2.1 (nd00 B) 150
def isEn (D : BD) (x : ND) : Bool := x.1.1.isEmpty && x.1.2.isEmpty && !hopl D x.2
/-! what holds of nodes -/
def okx (x : ND) : Prop := (∀ s ∈ x.1.1, s < 5) ∧ (∀ s ∈ x.1.2, s < 5) ∧ okn x.2 ∧ (∀ u v, x.1.1.head? = some u → x.1.2.head? = some v → u ≠ v)
def okN (x : ND) : Prop := okx x ∧ x.1.1.length ≤ 24 ∧ x.1.2.length ≤ 24
theorem rFront_stop : ∀ (xs ys : List Nat) (u v : Nat), (xs.drop (rFront xs ys)).head? = some u → (ys.drop (rFront xs ys)).head? = some v → u ≠ v
  | [], ys, u, v, h, _ => by simp [rFront] at h
  | x :: xs, [], u, v, _, h => by simp [rFront] at h
  | x :: xs, y :: ys, u, v, h1, h2 => by
    unfold rFront at h1 h2
    by_cases e : x = y
    · rw [if_pos e] at h1 h2
      exact rFront_stop xs ys u v (by simpa using h1) (by simpa using h2)
    · rw [if_neg e] at h1 h2
      simp at h1 h2
      rw [← h1, ← h2]
      exact e
theorem rLean_ok {l r : List Nat} {n : T3} (hl : ∀ s ∈ l, s < 5) (hr : ∀ s ∈ r, s < 5) (hn : okn n) : okx (rLean (l, r), n) :=
  ⟨fun s hs => hl s (List.mem_of_mem_drop hs), fun s hs => hr s (List.mem_of_mem_drop hs), hn, fun u v h1 h2 => rFront_stop l r u v h1 h2⟩
theorem rWithout_lt {it B : Nat} {l : List Nat} (h : ∀ s ∈ l, s < B) : ∀ s ∈ rWithout it l, s < B := fun s hs => h s (List.mem_filter.mp hs).1
theorem rAhead_lt {it ah B : Nat} {l : List Nat} (h : ∀ s ∈ l, s < B) (ha : ah < B) : ∀ s ∈ rAhead it ah l, s < B := by
  intro s hs
  obtain ⟨y, hy, h2⟩ := List.mem_flatMap.mp hs
  by_cases e : y = it
  · rw [if_pos e] at h2
    rcases List.mem_cons.mp h2 with h3 | h3
    · rw [h3]; exact ha
    · rw [List.mem_singleton.mp h3]; exact h y hy
  · rw [if_neg e] at h2
    rw [List.mem_singleton.mp h2]
    exact h y hy
theorem bl_lt (g : Nat → Nat) (n l : Nat) : bl g n l < 512 := blP_lt _ _ _ _
theorem bT_lt (n q : Nat) : bT n q < 512 := bTP_lt _ _ _
theorem aT_lt {a n q : Nat} (h : a < 512) : aT a n q < 512 := aTP_lt h 3
theorem nd0_ok {x : ND} (h : okx x) (v : Nat) : okx (nd0 x v) := rLean_ok (rWithout_lt h.1) (rWithout_lt h.2.1) (okn_nset h.2.2.1 (by decide))
theorem nd1_ok {g : Nat → Nat} {x : ND} (h : okx x) {v o q : Nat} (ho : o < 5) : okx (nd1 g x v o q) := by
  refine rLean_ok (rAhead_lt h.1 ho) (rAhead_lt h.2.1 ho) ?_
  split
  · exact okn_nset h.2.2.1 (bl_lt _ _ _)
  · exact okn_nset (okn_nset h.2.2.1 (bT_lt _ _)) (aT_lt (okn_t3 h.2.2.1 _))
theorem fin_ok {D : BD} {x y : ND} (hx : okx x) (h : fin D x = some (some y)) : y = x ∧ okN y ∧ hopl D y.2 = false := by
  unfold fin at h
  by_cases c : hopl D x.2 = true
  · rw [if_pos c] at h; cases h
  · rw [if_neg c] at h
    by_cases c2 : 24 < x.1.1.length ∨ 24 < x.1.2.length
    · rw [if_pos c2] at h; cases h
    · rw [if_neg c2] at h
      cases h
      exact ⟨rfl, ⟨hx, by omega, by omega⟩, by simpa using c⟩
/-- what a move leads to is a node as it must be -/
theorem mvs_ok {D : BD} {g : Nat → Nat} {x y : ND} {c : Nat} (hx : okx x) (h : (c, some (some y)) ∈ mvs D g x) : okN y ∧ hopl D y.2 = false := by
  have H0 : ∀ s, (c, some (some y)) ∈ k0 D x s → okN y ∧ hopl D y.2 = false := by
    intro s h
    unfold k0 at h
    by_cases e : 2 ≤ s
    · rw [if_pos e, List.mem_singleton] at h
      have h := (Prod.mk.inj h).2
      by_cases a : allow (t3 x.2 (s - 2)) (0, 1, 2) = true
      · rw [if_pos a] at h
        exact (fin_ok (nd0_ok hx _) h.symm).2
      · rw [if_neg a] at h; cases h
    · rw [if_neg e] at h; cases h
  have H1 : ∀ s o, o < 5 → (c, some (some y)) ∈ k1 D g x s o → okN y ∧ hopl D y.2 = false := by
    intro s o ho h
    unfold k1 at h
    by_cases e : 2 ≤ s
    · rw [if_pos e] at h
      by_cases e2 : o < 2
      · rw [if_pos e2, List.mem_singleton] at h
        have h := (Prod.mk.inj h).2
        exact (fin_ok (nd1_ok hx ho) h.symm).2
      · rw [if_neg e2] at h
        obtain ⟨q, -, h⟩ := List.mem_map.mp h
        have h := (Prod.mk.inj h).2
        exact (fin_ok (nd1_ok hx ho) h).2
    · rw [if_neg e] at h; cases h
  unfold mvs at h
  cases hu : x.1.1.head? with
  | none =>
    cases hv : x.1.2.head? with
    | none => rw [hu, hv] at h; cases h
    | some v => rw [hu, hv] at h; exact H0 _ h
  | some u =>
    cases hv : x.1.2.head? with
    | none => rw [hu, hv] at h; exact H0 _ h
    | some v =>
      rw [hu, hv] at h
      have hu5 : u < 5 := hx.1 u (List.mem_of_mem_head? hu)
      have hv5 : v < 5 := hx.2.1 v (List.mem_of_mem_head? hv)
      simp only [List.mem_append] at h
      rcases h with ((h | h) | h) | h
      · exact H0 _ h
      · exact H0 _ h
      · exact H1 _ _ hv5 h
      · exact H1 _ _ hu5 h
/-! lists of nodes -/
theorem nN_l {N : List NR} {q : NR} {e : Nat} (h : e < N.length) : nN (N ++ [q]) e = nN N e := by
  simp [nN, List.getD_eq_getElem?_getD, List.getElem?_append_left h]
theorem nN_r {N : List NR} {q : NR} : nN (N ++ [q]) N.length = q := by
  simp [nN, List.getD_eq_getElem?_getD]
theorem nN_set {N : List NR} {q : NR} {i e : Nat} (hi : i < N.length) : nN (N.set i q) e = if e = i then q else nN N e := by
  by_cases h : e = i
  · subst h
    simp [nN, List.getD_eq_getElem?_getD, hi]
  · simp [nN, List.getD_eq_getElem?_getD, h, Ne.symm h]
theorem ncut_len (N : List NR) (i : Nat) : (ncut N i).length = N.length := by simp [ncut]
theorem ncut_N {N : List NR} {i e : Nat} (hi : i < N.length) : nN (ncut N i) e = if e = i then ((nN N i).1, (nN N i).2.1, (nN N i).2.2.1, true) else nN N e := nN_set hi
theorem ncut_1 {N : List NR} {i : Nat} (hi : i < N.length) (e : Nat) : (nN (ncut N i) e).1 = (nN N e).1 ∧ (nN (ncut N i) e).2.1 = (nN N e).2.1 ∧ (nN (ncut N i) e).2.2.1 = (nN N e).2.2.1 := by
  rw [ncut_N hi]
  by_cases h : e = i
  · rw [if_pos h, h]; exact ⟨rfl, rfl, rfl⟩
  · rw [if_neg h]; exact ⟨rfl, rfl, rfl⟩
theorem nfind_cut {N : List NR} {i : Nat} (hi : i < N.length) (x : ND) : nfind (ncut N i) x = nfind N x := by
  unfold nfind
  rw [ncut_len]
  exact fIx_congr (fun e _ _ => by rw [(ncut_1 hi e).1])
theorem nfind_some {N : List NR} {x : ND} {t : Nat} (h : nfind N x = some t) : t < N.length ∧ (nN N t).1 = x := by
  obtain ⟨-, h2, h3, -⟩ := fIx_some h
  exact ⟨by omega, by simpa using h3⟩
theorem nfind_none {N : List NR} {x : ND} (h : nfind N x = none) {t : Nat} (ht : t < N.length) : (nN N t).1 ≠ x := by
  have := fIx_none.mp h t (by omega) (by omega)
  simpa using this
