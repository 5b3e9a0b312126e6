/-! the reference: a move is made -/
/-- a row with something in place of a symbol -/
def lay (o : Option Nat) (it : Nat) (ys : List Nat) : List Nat := match o with
  | none => rWithout it ys
  | some a => rAhead it a ys
def layp (o : Option Nat) (it y : Nat) : List Nat := if y = it then (match o with
  | none => []
  | some a => [a, y]) else [y]
theorem lay_snoc (o : Option Nat) (it y : Nat) (l : List Nat) : lay o it (l ++ [y]) = lay o it l ++ layp o it y := by
  cases o with
  | none => exact rWithout_snoc it y l
  | some a => exact rAhead_snoc it a y l
theorem lay_len (o : Option Nat) (it : Nat) (ys : List Nat) : (lay o it ys).length ≤ 2 * ys.length := by
  cases o with
  | none =>
    refine Nat.le_trans (List.length_filter_le _ _) ?_
    omega
  | some a => exact rAhead_len it a ys
theorem lay_lt {o : Option Nat} {it B : Nat} {ys : List Nat} (h : ∀ s ∈ ys, s < B) (ho : ∀ a, o = some a → a < B) : ∀ s ∈ lay o it ys, s < B := by
  cases o with
  | none => exact rWithout_lt h
  | some a => exact rAhead_lt h (ho a rfl)
theorem lay_nil (o : Option Nat) (it : Nat) : lay o it [] = [] := by cases o <;> rfl
def mres (M' : ZM) (r : Option (Option ND)) (y : Int32) : Prop := match r with
  | none => y = 0
  | some none => y = 2
  | some (some x) => y = 1 ∧ zMr M' x.1 ∧ zMn M' x.2
section REF6
variable {E : ZE} {k : Nat} {M M' M1 M2 : ZM} {Φ : Option Value → ZS → ZM → Prop} {A A' Q Q' : List Nat} {D : BD} {N : List NR}
theorem layRow_loop {xs : List Nat} {i v r : Nat} {o : Option Nat} (hi : i < 150) (hv : v < 3) (hr : r < 2) (hl : xs.length ≤ 24) (h5 : ∀ s ∈ xs, s < 5) (ho : ∀ a, o = some a → a < 5) {M0 : ZM} (hc : M0 97 (2 * i + r) = nI xs.length) (hx : zSl (M0 96) (48 * i + 24 * r) xs) (hk : ∀ M', zSl (M' 103) (48 * r) (lay o (v + 2) xs) → M' 104 r = nI (lay o (v + 2) xs).length → (∀ u, u ≠ r → M' 104 u = M0 104 u) → (∀ u, u < 48 * r ∨ 48 * r + 48 ≤ u → M' 103 u = M0 103 u) → zfq M0 M' [103, 104] [] → zW E m_Mo_layRows 0 (zSt k) M' 3 [some (.ref 83), some (.int (nI i)), some (.int (nI v)), some (.int (oN o)), some (.int (nI (r + 1))), none, none, none, none] [] Φ) : ∀ (c j : Nat) (M : ZM), j + c = xs.length → zSl (M 103) (48 * r) (lay o (v + 2) (xs.take j)) → (∀ u, u < 48 * r ∨ 48 * r + 48 ≤ u → M 103 u = M0 103 u) → zfq M0 M [103] [] → zW E m_Mo_layRows 0 (zSt k) M 15 [some (.ref 83), some (.int (nI i)), some (.int (nI v)), some (.int (oN o)), some (.int (nI r)), some (.int (nI (lay o (v + 2) (xs.take j)).length)), some (.int (nI j)), none, none] [] Φ
  | 0, j, M, hj, h1, h2, hf => by
    have e1 : (2 : Int32) * nI i + nI r = nI (2 * i + r) := by
      have a : (2 : Int32) * nI i = nI (2 * i) := pk_mul 2 i
      rw [a, nI_add]
    rw [List.take_of_length_le (by omega)] at h1 ⊢
    refine vc_Mo_layRows_15 E k M _ _ _ _ _ _ Φ ⟨2 * i + r, by omega, e1, ?_⟩
    rw [hf.1 97 (by decide) (by decide), hc]
    refine ⟨fun _ => ⟨r, hr, rfl, ?_⟩, fun q => absurd (nI_le (by omega) (by omega)) q⟩
    rintro _ rfl _ rfl
    rw [nI_1]
    refine hk _ ?_ (zms_s _ _ _ _) (fun u hu => ?_) (fun u hu => ?_) (zfq_tr (zfq_mono hf (by simp) (by simp)) (zfq_ms _ _ _ (by simp) (by decide)))
    · rw [zms_ne _ _ _ (by decide)]; exact h1
    · rw [zms_k _ _ hu, hf.1 104 (by decide) (by decide)]
    · rw [zms_ne _ _ _ (by decide)]; exact h2 u hu
  | c + 1, j, M, hj, h1, h2, hf => by
    have hjl : j < xs.length := by omega
    have e1 : (2 : Int32) * nI i + nI r = nI (2 * i + r) := by
      have a : (2 : Int32) * nI i = nI (2 * i) := pk_mul 2 i
      rw [a, nI_add]
    have e2 : (48 : Int32) * nI i + 24 * nI r + nI j = nI (48 * i + 24 * r + j) := by
      have a : (48 : Int32) * nI i = nI (48 * i) := pk_mul 48 i
      have b : (24 : Int32) * nI r = nI (24 * r) := pk_mul 24 r
      rw [a, b, nI_add, nI_add]
    have e3 : ∀ u, (48 : Int32) * nI r + nI u = nI (48 * r + u) := fun u => by
      have a : (48 : Int32) * nI r = nI (48 * r) := pk_mul 48 r
      rw [a, nI_add]
    have hlen := lay_len o (v + 2) (xs.take j)
    have htk : (xs.take j).length = j := by simp; omega
    have y5 := getD_mem_lt h5 hjl
    have ey := hx j hjl
    have ih := layRow_loop hi hv hr hl h5 ho hc hx hk c (j + 1)
    rw [take_succ' hjl, lay_snoc] at ih
    obtain ⟨y, hy⟩ : ∃ y, xs.getD j 0 = y := ⟨_, rfl⟩
    rw [hy] at y5 ey ih
    obtain ⟨L, hL⟩ : ∃ L, lay o (v + 2) (xs.take j) = L := ⟨_, rfl⟩
    rw [hL] at h1 ih hlen ⊢
    have e4 : nI v + 2 = nI (v + 2) := nI_addN _ 2
    have e5 : nI y = nI (v + 2) ↔ y = v + 2 := nI_eq (by omega) (by omega)
    refine vc_Mo_layRows_15 E k M _ _ _ _ _ _ Φ ⟨2 * i + r, by omega, e1, ?_⟩
    rw [hf.1 97 (by decide) (by decide), hc]
    refine ⟨fun q => absurd q (nI_ge hjl (by omega)), fun _ => ⟨48 * i + 24 * r + j, by omega, e2, ?_⟩⟩
    rw [hf.1 96 (by decide) (by decide), ey]
    rintro _ rfl
    rw [e4, e5]
    refine ⟨fun q => ⟨48 * r + L.length, by omega, e3 _, ?_⟩, fun q => ⟨fun q2 => ⟨fun _ => ?_, fun q3 => absurd q2 q3⟩, fun q2 => ⟨48 * r + L.length, by omega, e3 _, ?_⟩⟩⟩
    · rintro _ rfl _ rfl _ rfl
      rw [nI_1, nI_1]
      unfold layp at ih
      rw [if_neg q] at ih
      have := ih (zms M 103 (48 * r + L.length) (nI y)) (by omega) (zSl_snoc h1 (fun u hu => zms_k _ _ (by omega)) (zms_s _ _ _ _)) (fun u hu => by rw [zms_k _ _ (by omega)]; exact h2 u hu) (zfq_tr hf (zfq_ms _ _ _ (by simp) (by decide)))
      rw [List.length_append, List.length_singleton] at this
      exact this
    · cases o with
      | some a => exact absurd q2 (nI_pos (n := a) (by have := ho a rfl; omega))
      | none =>
        rintro _ rfl
        rw [nI_1]
        unfold layp at ih
        rw [if_pos q] at ih
        simp only [List.append_nil] at ih
        exact ih M (by omega) h1 h2 hf
    · cases o with
      | none => exact absurd (show (-6 : Int32) < 0 by decide) q2
      | some a =>
        rintro M1 g1 _ rfl
        rw [nI_1]
        refine ⟨fun q3 => absurd q3 q2, fun _ => ⟨48 * r + (L.length + 1), by omega, by rw [nI_1]; exact e3 _, ?_⟩⟩
        rintro M2 g2 _ rfl _ rfl
        rw [nI_1, nI_1]
        unfold layp at ih
        rw [if_pos q] at ih
        simp only at ih
        have s1 : zSl (M1 103) (48 * r) (L ++ [a]) := by rw [g1]; exact zSl_snoc h1 (fun u hu => zms_k _ _ (by omega)) (zms_s _ _ _ _)
        have s2 : zSl (M2 103) (48 * r) (L ++ [a] ++ [y]) := by
          rw [g2]
          refine zSl_snoc s1 (fun u hu => zms_k _ _ (by simp at hu; omega)) ?_
          rw [List.length_append, List.length_singleton]
          exact zms_s _ _ _ _
        have := ih M2 (by omega) (by rw [List.append_assoc] at s2; exact s2) (fun u hu => by rw [g2, zms_k _ _ (by omega), g1, zms_k _ _ (by omega)]; exact h2 u hu) (by rw [g2, g1]; exact zfq_tr hf (zfq_tr (zfq_ms _ _ _ (by simp) (by decide)) (zfq_ms _ _ _ (by simp) (by decide))))
        rw [List.length_append] at this
        exact this
theorem layNeed_loop {i : Nat} (hi : i < 150) {M0 : ZM} (hk : ∀ M', (∀ u, u < 9 → M' 105 u = M0 98 (9 * i + u)) → zfq M0 M' [105] [] → Φ none (zSt k) M') : ∀ (c j : Nat) (M : ZM), j + c = 9 → (∀ u, u < j → M 105 u = M0 98 (9 * i + u)) → zfq M0 M [105] [] → zW E m_Mo_layRows 0 (zSt k) M 143 [some (.ref 83), some (.int (nI i)), none, none, some (.int (nI j)), none, none, none, none] [] Φ
  | 0, j, M, hj, h1, hf => by
    have : j = 9 := by omega
    subst this
    exact vc_Mo_layRows_143 E k M _ _ Φ ⟨fun _ => hk M h1 hf, fun c => absurd (by decide) c⟩
  | c + 1, j, M, hj, h1, hf => by
    have e1 : (9 : Int32) * nI i + nI j = nI (9 * i + j) := by
      have : (9 : Int32) * nI i = nI (9 * i) := pk_mul 9 i
      rw [this, nI_add]
    refine vc_Mo_layRows_143 E k M _ _ Φ ⟨fun q => absurd q (nI_ge (b := 9) (by omega) (by decide)), fun _ => ⟨_, by omega, e1, j, by omega, rfl, ?_⟩⟩
    rintro _ rfl _ rfl
    rw [nI_1]
    refine layNeed_loop hi hk c (j + 1) _ (by omega) (fun u hu => ?_) (zfq_tr hf (zfq_ms _ _ _ (by simp) (by decide)))
    by_cases e : u = j
    · subst e; rw [zms_s, hf.1 98 (by decide) (by decide)]
    · rw [zms_k _ _ e]; exact h1 u (by omega)
theorem layRows_ok {i v : Nat} {q : NR} {o : Option Nat} (hi : i < 150) (hv : v < 3) (hq : okN q.1) (ho : ∀ a, o = some a → a < 5) (hM : zRNd M i q) (hk : ∀ M', zMr M' (lay o (v + 2) q.1.1.1, lay o (v + 2) q.1.1.2) → zMn M' q.1.2 → zfq M M' [103, 104, 105] [] → Φ none (zSt k) M') : zW E m_Mo_layRows 0 (zSt k) M 0 [some (.ref 83), some (.int (nI i)), some (.int (nI v)), some (.int (oN o)), none, none, none, none, none] [] Φ := by
  obtain ⟨⟨⟨a1, a2⟩, ⟨a3, a4⟩⟩, a5, -⟩ := hM
  obtain ⟨⟨o1, o2, o3, -⟩, o4, o5⟩ := hq
  refine vc_Mo_layRows_0 E k M _ _ _ Φ (vc_Mo_layRows_3 E k M _ _ _ _ Φ ⟨fun c => absurd c (by decide), fun _ => ?_⟩)
  have l0 := layRow_loop (E := E) (k := k) (Φ := Φ) (xs := q.1.1.1) (r := 0) (o := o) (M0 := M) hi hv (by decide) o4 o1 ho a1 a2 (fun M1 c1 c2 c3 c4 f1 => ?_) q.1.1.1.length 0 M (by omega) (by rw [List.take_zero, lay_nil]; exact zSl_nil _ _) (fun u _ => rfl) (zfq_rfl _ _ _)
  · rw [List.take_zero, lay_nil] at l0
    exact l0
  refine vc_Mo_layRows_3 E k M1 _ _ _ _ Φ ⟨fun c => absurd c (by decide), fun _ => ?_⟩
  have l1 := layRow_loop (E := E) (k := k) (Φ := Φ) (xs := q.1.1.2) (r := 1) (o := o) (M0 := M1) hi hv (by decide) o5 o2 ho (by rw [f1.1 97 (by decide) (by decide)]; exact a3) (by rw [f1.1 96 (by decide) (by decide)]; exact a4) (fun M2 d1 d2 d3 d4 f2 => ?_) q.1.1.2.length 0 M1 (by omega) (by rw [List.take_zero, lay_nil]; exact zSl_nil _ _) (fun u _ => rfl) (zfq_rfl _ _ _)
  · rw [List.take_zero, lay_nil] at l1
    exact l1
  refine vc_Mo_layRows_3 E k M2 _ _ _ _ Φ ⟨fun _ => ?_, fun c => absurd (by decide) c⟩
  have len0 := lay_len o (v + 2) q.1.1.1
  refine layNeed_loop (M0 := M2) hi (fun M3 g3 f3 => ?_) 9 0 M2 rfl (fun u hu => absurd hu (Nat.not_lt_zero _)) (zfq_rfl _ _ _)
  refine hk M3 ⟨⟨?_, fun u hu => ?_⟩, ⟨?_, ?_⟩⟩ (fun w s hw hs => ?_) (zfq_tr (zfq_mono f1 (by simp) (by simp)) (zfq_tr (zfq_mono f2 (by simp) (by simp)) (zfq_mono f3 (by simp) (by simp))))
  · rw [f3.1 104 (by decide) (by decide), d3 0 (by decide)]; exact c2
  · have hu : u < (lay o (v + 2) q.1.1.1).length := hu
    rw [f3.1 103 (by decide) (by decide), d4 _ (by omega)]
    exact c1 u hu
  · rw [f3.1 104 (by decide) (by decide)]; exact d2
  · rw [f3.1 103 (by decide) (by decide)]; exact d1
  · rw [g3 _ (by omega), f2.1 98 (by decide) (by decide), f1.1 98 (by decide) (by decide)]
    exact a5 w s hw hs
theorem k_and8 : ∀ a, a < 8 → ∀ b, b < 8 → nI a &&& nI b = nI (a &&& b) := by decide +kernel
theorem and7 : ∀ a, a < 8 → a &&& 7 = a := by decide
theorem blP_dg {g : Nat → Nat} {m l j t : Nat} (ht : t < 3) : dg (blP g m l (j + 1)) t = if t = g (3 * l + j) then dg (blP g m l j) t &&& dg m j else dg (blP g m l j) t := nar_dg ht
theorem letterAhead_in {g : Nat → Nat} {i v l t m : Nat} (hg : okg g) (hi : i < 150) (hv : v < 3) (hl : l < 2) (ht : t < 3) (hG : ∀ u, u < 6 → M 86 u = nI (g u)) (hM : ∀ s, s < 3 → M 98 (9 * i + (3 * v + s)) = nI (dg m s)) (hk : zW E m_Mo_letterAhead 0 (zSt k) (zms M 105 (3 * v + t) (nI (dg (bl g m l) t))) 3 [some (.ref 83), some (.int (nI i)), some (.int (nI v)), some (.int (nI l)), some (.int (nI (t + 1))), none, none] [] Φ) : ∀ (c j : Nat), j + c = 3 → zW E m_Mo_letterAhead 0 (zSt k) M 16 [some (.ref 83), some (.int (nI i)), some (.int (nI v)), some (.int (nI l)), some (.int (nI t)), some (.int (nI (dg (blP g m l j) t))), some (.int (nI j))] [] Φ
  | 0, j, hj => by
    have : j = 3 := by omega
    subst this
    refine vc_Mo_letterAhead_16 E k M _ _ _ _ _ _ Φ ⟨fun _ => ⟨3 * v + t, by omega, by rw [n3, nI_add], ?_⟩, fun c => absurd (by decide) c⟩
    rintro _ rfl _ rfl
    rw [nI_1]
    exact hk
  | c + 1, j, hj => by
    have ih := letterAhead_in hg hi hv hl ht hG hM hk c (j + 1) (by omega)
    rw [blP_dg ht] at ih
    have b1 := dg_lt (blP g m l j) t
    have b2 := dg_lt m j
    have b3 := hg (3 * l + j) (by omega)
    have e : nI (g (3 * l + j)) = nI t ↔ g (3 * l + j) = t := nI_eq (by omega) (by omega)
    refine vc_Mo_letterAhead_16 E k M _ _ _ _ _ _ Φ ⟨fun q => absurd q (nI_ge (b := 3) (by omega) (by decide)), fun _ => ⟨3 * l + j, by omega, by rw [n3, nI_add], ?_⟩⟩
    rw [hG _ (by omega), e]
    refine ⟨fun q => ?_, fun q => ⟨_, by omega, n933 i v j, ?_⟩⟩
    · rintro _ rfl _ rfl
      rw [nI_1, show nI (dg (blP g m l j) t) &&& 7 = nI (dg (blP g m l j) t &&& 7) from k_and8 _ b1 7 (by decide), and7 _ b1]
      rw [if_neg (fun z => q z.symm)] at ih
      exact ih
    · rw [hM j (by omega)]
      rintro _ rfl _ rfl
      rw [nI_1, k_and8 _ b1 _ b2]
      rw [if_pos q.symm] at ih
      exact ih
theorem dg511 {t : Nat} (ht : t < 3) : dg 511 t = 7 := by
  rcases (show t = 0 ∨ t = 1 ∨ t = 2 by omega) with rfl | rfl | rfl <;> rfl
theorem letterAhead_loop {g : Nat → Nat} {i v l : Nat} {n : T3} (hg : okg g) (hi : i < 150) (hv : v < 3) (hl : l < 2) {M0 : ZM} (hG : ∀ u, u < 6 → M0 86 u = nI (g u)) (hM : ∀ s, s < 3 → M0 98 (9 * i + (3 * v + s)) = nI (dg (t3 n v) s)) (hn : zMn M0 n) (hk : ∀ M', zMn M' (nset n v (bl g (t3 n v) l)) → zfq M0 M' [105] [] → Φ none (zSt k) M') : ∀ (c t : Nat) (M : ZM), t + c = 3 → (∀ u s, u < 3 → s < 3 → M 105 (3 * u + s) = nI (if u = v ∧ s < t then dg (bl g (t3 n v) l) s else dg (t3 n u) s)) → zfq M0 M [105] [] → zW E m_Mo_letterAhead 0 (zSt k) M 3 [some (.ref 83), some (.int (nI i)), some (.int (nI v)), some (.int (nI l)), some (.int (nI t)), none, none] [] Φ
  | 0, t, M, hj, h1, hf => by
    have : t = 3 := by omega
    subst this
    refine vc_Mo_letterAhead_3 E k M _ _ _ _ Φ ⟨fun _ => hk M (fun u s hu hs => ?_) hf, fun c => absurd (by decide) c⟩
    rw [h1 u s hu hs, t3_nset hv hu]
    by_cases e : u = v
    · rw [if_pos ⟨e, hs⟩, if_pos e]
    · rw [if_neg (fun z => e z.1), if_neg e]
  | c + 1, t, M, hj, h1, hf => by
    refine vc_Mo_letterAhead_3 E k M _ _ _ _ Φ ⟨fun q => absurd q (nI_ge (b := 3) (by omega) (by decide)), fun _ => ?_⟩
    have := letterAhead_in (E := E) (k := k) (M := M) (Φ := Φ) (g := g) (i := i) (v := v) (l := l) (t := t) (m := t3 n v) hg hi hv hl (by omega) (fun u hu => by rw [hf.1 86 (by decide) (by decide)]; exact hG u hu) (fun s hs => by rw [hf.1 98 (by decide) (by decide)]; exact hM s hs) ?_ 3 0 rfl
    · rw [show dg (blP g (t3 n v) l 0) t = 7 from dg511 (by omega)] at this
      exact this
    · refine letterAhead_loop hg hi hv hl hG hM hn hk c (t + 1) _ (by omega) (fun u s hu hs => ?_) (zfq_tr hf (zfq_ms _ _ _ (by simp) (by decide)))
      by_cases e : 3 * u + s = 3 * v + t
      · have eu : u = v := by omega
        have es : s = t := by omega
        rw [e, zms_s, if_pos ⟨eu, by omega⟩, es]
      · rw [zms_k _ _ e, h1 u s hu hs]
        by_cases z : u = v ∧ s < t
        · rw [if_pos z, if_pos ⟨z.1, by omega⟩]
        · rw [if_neg z, if_neg (by omega)]
theorem letterAhead_ok {g : Nat → Nat} {i v l : Nat} {n : T3} (hg : okg g) (hi : i < 150) (hv : v < 3) (hl : l < 2) (hG : ∀ u, u < 6 → M 86 u = nI (g u)) (hM : ∀ s, s < 3 → M 98 (9 * i + (3 * v + s)) = nI (dg (t3 n v) s)) (hn : zMn M n) (hk : ∀ M', zMn M' (nset n v (bl g (t3 n v) l)) → zfq M M' [105] [] → Φ none (zSt k) M') : zW E m_Mo_letterAhead 0 (zSt k) M 0 [some (.ref 83), some (.int (nI i)), some (.int (nI v)), some (.int (nI l)), none, none, none] [] Φ :=
  vc_Mo_letterAhead_0 E k M _ _ _ Φ (letterAhead_loop hg hi hv hl hG hM hn hk 3 0 M rfl (fun u s hu hs => by rw [if_neg (by omega)]; exact hn u s hu hs) (zfq_rfl _ _ _))
theorem nar7 {n s : Nat} (hn : n < 512) : nar n s 7 = n := by
  refine dg_ext nar_lt hn (fun u hu => ?_)
  rw [nar_dg hu]
  by_cases e : u = s
  · rw [if_pos e, and7 _ (dg_lt _ _)]
  · rw [if_neg e]
theorem t3_vo {n : T3} {v o B A u : Nat} (hv : v < 3) (ho : o < 3) (hu : u < 3) : t3 (nset (nset n v B) o A) u = if u = o then A else if u = v then B else t3 n u := by
  rw [t3_nset ho hu, t3_nset hv hu]
theorem variableAhead_loop {i v o q : Nat} {n : T3} (hi : i < 150) (hv : v < 3) (ho : o < 3) (hvo : v ≠ o) (hq : q < 27) (hnk : okn n) {M0 : ZM} (hM : ∀ s, s < 3 → M0 98 (9 * i + (3 * v + s)) = nI (dg (t3 n v) s)) (hk : ∀ M', zMn M' (nset (nset n v (bT (t3 n v) q)) o (aT (t3 n o) (t3 n v) q)) → zfq M0 M' [105] [] → Φ none (zSt k) M') : ∀ (c j : Nat) (M : ZM), j + c = 3 → zMn M (nset (nset n v (bTP (t3 n v) q j)) o (aTP (t3 n o) (t3 n v) q j)) → zfq M0 M [105] [] → zW E m_Mo_variableAhead 1 (zSt k) M 31 [some (.ref 83), some (.int (nI i)), some (.int (nI v)), some (.int (nI o)), some (.int (nI q)), some (.int (nI j)), none, none] [] Φ
  | 0, j, M, hj, h1, hf => by
    have : j = 3 := by omega
    subst this
    exact vc_Mo_variableAhead_31 E k M _ _ _ _ _ Φ ⟨fun _ => hk M h1 hf, fun c => absurd (by decide) c⟩
  | c + 1, j, M, hj, h1, hf => by
    have hj3 : j < 3 := by omega
    have b := dg_lt (t3 n v) j
    have bq := tq_lt q j
    have ih := variableAhead_loop hi hv ho hvo hq hnk hM hk c (j + 1)
    unfold bTP aTP at ih
    refine vc_Mo_variableAhead_31 E k M _ _ _ _ _ Φ ⟨fun q => absurd q (nI_ge (b := 3) (by omega) (by decide)), fun _ => ⟨_, by omega, n933 i v j, ?_⟩⟩
    rw [hf.1 98 (by decide) (by decide), hM j hj3]
    rintro _ rfl
    refine third_ok hj3 ⟨_, rfl, rfl, n3n0 j hj3, ?_⟩
    rw [k_third q hq j hj3]
    rintro _ rfl
    have e7 : nI (dg (t3 n v) j) = 7 ↔ dg (t3 n v) j = 7 := nI_eq (b := 7) (by omega) (by decide)
    rw [e7]
    refine ⟨fun z => ?_, fun z => ⟨3 * o + j, by omega, by rw [n3, nI_add], 3 * o + j, by omega, by rw [n3, nI_add], ?_⟩⟩
    · rintro _ rfl
      rw [nI_1]
      rw [if_pos z, z, nar7 (bTP_lt _ _ _)] at ih
      exact ih M (by omega) h1 hf
    · rw [if_neg z] at ih
      intro M1 g1
      have b1 := dg_lt (aTP (t3 n o) (t3 n v) q j) j
      have m1 := h1 o j ho hj3
      rw [t3_vo hv ho ho, if_pos rfl] at m1
      rw [m1, k_one _ bq, k_and8 _ b1 _ (two_tq q j)] at g1
      refine ⟨3 * v + tq q j, by omega, by rw [n3, nI_add], 3 * v + tq q j, by omega, by rw [n3, nI_add], ?_⟩
      intro M2 g2
      rintro _ rfl
      rw [nI_1]
      have m2 := h1 v (tq q j) hv bq
      rw [t3_vo hv ho hv, if_neg hvo, if_pos rfl] at m2
      have b2 := dg_lt (bTP (t3 n v) q j) (tq q j)
      rw [g1, zms_k _ _ (by omega), m2, k_and8 _ b2 _ b, ← g1] at g2
      refine ih M2 (by omega) (fun u s hu hs => ?_) (by rw [g2, g1]; exact zfq_tr hf (zfq_tr (zfq_ms _ _ _ (by simp) (by decide)) (zfq_ms _ _ _ (by simp) (by decide))))
      have h0 := h1 u s hu hs
      rw [t3_vo hv ho hu] at h0 ⊢
      rw [g2]
      by_cases eo : u = o
      · rw [if_pos eo] at h0 ⊢
        rw [zms_k _ _ (by omega), g1, nar_dg hs]
        by_cases es : s = j
        · rw [if_pos es, eo, es, zms_s]
        · rw [if_neg es, zms_k _ _ (by omega)]; exact h0
      · rw [if_neg eo] at h0 ⊢
        by_cases ev : u = v
        · rw [if_pos ev] at h0 ⊢
          rw [nar_dg hs]
          by_cases es : s = tq q j
          · rw [if_pos es, ev, es, zms_s]
          · rw [if_neg es, zms_k _ _ (by omega), g1, zms_k _ _ (by omega)]; exact h0
        · rw [if_neg ev] at h0 ⊢
          rw [zms_k _ _ (by omega), g1, zms_k _ _ (by omega)]; exact h0
theorem variableAhead_init {i v o q : Nat} {n : T3} (hv : v < 3) {M0 : ZM} (hn : zMn M0 n) (hk : ∀ M', zMn M' (nset n v 511) → zfq M0 M' [105] [] → zW E m_Mo_variableAhead 1 (zSt k) M' 31 [some (.ref 83), some (.int (nI i)), some (.int (nI v)), some (.int (nI o)), some (.int (nI q)), some (.int (nI 0)), none, none] [] Φ) : ∀ (c j : Nat) (M : ZM), j + c = 3 → (∀ u s, u < 3 → s < 3 → M 105 (3 * u + s) = nI (if u = v ∧ s < j then 7 else dg (t3 n u) s)) → zfq M0 M [105] [] → zW E m_Mo_variableAhead 1 (zSt k) M 3 [some (.ref 83), some (.int (nI i)), some (.int (nI v)), some (.int (nI o)), some (.int (nI q)), some (.int (nI j)), none, none] [] Φ
  | 0, j, M, hj, h1, hf => by
    have : j = 3 := by omega
    subst this
    refine vc_Mo_variableAhead_3 E k M _ _ _ _ _ Φ ⟨fun _ => hk M (fun u s hu hs => ?_) hf, fun c => absurd (by decide) c⟩
    rw [h1 u s hu hs, t3_nset hv hu]
    by_cases e : u = v
    · rw [if_pos ⟨e, hs⟩, if_pos e, dg511 hs]
    · rw [if_neg (fun z => e z.1), if_neg e]
  | c + 1, j, M, hj, h1, hf => by
    refine vc_Mo_variableAhead_3 E k M _ _ _ _ _ Φ ⟨fun q => absurd q (nI_ge (b := 3) (by omega) (by decide)), fun _ => ⟨3 * v + j, by omega, by rw [n3, nI_add], ?_⟩⟩
    rintro _ rfl _ rfl
    rw [nI_1]
    refine variableAhead_init hv hn hk c (j + 1) _ (by omega) (fun u s hu hs => ?_) (zfq_tr hf (zfq_ms _ _ _ (by simp) (by decide)))
    by_cases e : 3 * u + s = 3 * v + j
    · rw [e, zms_s, if_pos (by omega)]; rfl
    · rw [zms_k _ _ e, h1 u s hu hs]
      by_cases z : u = v ∧ s < j
      · rw [if_pos z, if_pos ⟨z.1, by omega⟩]
      · rw [if_neg z, if_neg (by omega)]
theorem variableAhead_ok {i v o q : Nat} {n : T3} (hi : i < 150) (hv : v < 3) (ho : o < 3) (hvo : v ≠ o) (hq : q < 27) (hnk : okn n) (hM : ∀ s, s < 3 → M 98 (9 * i + (3 * v + s)) = nI (dg (t3 n v) s)) (hn : zMn M n) (hk : ∀ M', zMn M' (nset (nset n v (bT (t3 n v) q)) o (aT (t3 n o) (t3 n v) q)) → zfq M M' [105] [] → Φ none (zSt k) M') : zW E m_Mo_variableAhead 1 (zSt k) M 0 [some (.ref 83), some (.int (nI i)), some (.int (nI v)), some (.int (nI o)), some (.int (nI q)), none, none, none] [] Φ := by
  refine vc_Mo_variableAhead_0 E k M _ _ _ _ Φ (variableAhead_init hv hn (fun M1 z1 f1 => ?_) 3 0 M rfl (fun u s hu hs => by rw [if_neg (by omega)]; exact hn u s hu hs) (zfq_rfl _ _ _))
  refine variableAhead_loop hi hv ho hvo hq hnk (M0 := M) hM hk 3 0 M1 rfl (fun u s hu hs => ?_) f1
  have := z1 u s hu hs
  rw [t3_nset hv hu] at this
  rw [t3_vo hv ho hu]
  show M1 105 (3 * u + s) = nI (dg (if u = o then t3 n o else if u = v then 511 else t3 n u) s)
  by_cases e : u = o
  · rw [if_pos e, ← e]
    rw [if_neg (by omega)] at this
    exact this
  · rw [if_neg e]; exact this
theorem isNothing_ok {i v : Nat} {n : Nat} (hi : i < 150) (hv : v < 3) (hn : n < 512) (hM : ∀ s, s < 3 → M 98 (9 * i + (3 * v + s)) = nI (dg n s)) (h : Φ (some (.int (if allow n (0, 1, 2) = true then 1 else 0))) (zSt k) M) : zW E m_Mo_isNothing 1 (zSt k) M 0 [some (.ref 83), some (.int (nI i)), some (.int (nI v)), none] [] Φ := by
  have al := allow_dg (t := (0, 1, 2)) hn ⟨by decide, by decide, by decide⟩
  have e0 : (9 : Int32) * nI i + 3 * nI v = nI (9 * i + 3 * v) := by
    have a : (9 : Int32) * nI i = nI (9 * i) := pk_mul 9 i
    have b : (3 : Int32) * nI v = nI (3 * v) := pk_mul 3 v
    rw [a, b, nI_add]
  have m0 := hM 0 (by decide)
  have m1 := hM 1 (by decide)
  have m2 := hM 2 (by decide)
  rw [Nat.add_zero] at m0
  rw [← Nat.add_assoc] at m1 m2
  refine vc_Mo_isNothing_0 E k M _ _ Φ ?_
  rintro _ rfl
  rw [e0]
  refine ⟨_, by omega, rfl, ?_⟩
  rw [m0]
  refine Mo_has_ok (s := 0) (dg_lt _ _) (by decide) ⟨_, rfl, rfl, fun q => ?_, fun q => ⟨_, by omega, nI_1 _, ?_⟩⟩
  · have e : (dg n 0).testBit 0 = false := by
      cases z : (dg n 0).testBit 0 with
      | false => rfl
      | true => rw [z] at q; exact absurd q (by decide)
    have : allow n (0, 1, 2) = false := by
      rw [al]
      show ((dg n 0).testBit 0 && _ && _) = false
      rw [e]; rfl
    rw [this] at h; exact h
  · have c0 : (dg n 0).testBit 0 = true := by
      cases z : (dg n 0).testBit 0 with
      | true => rfl
      | false => rw [z] at q; exact absurd rfl q
    rw [m1]
    refine Mo_has_ok (s := 1) (dg_lt _ _) (by decide) ⟨_, rfl, rfl, fun q => ?_, fun q => ⟨9 * i + 3 * v + 2, by omega, nI_addN _ 2, ?_⟩⟩
    · have e : (dg n 1).testBit 1 = false := by
        cases z : (dg n 1).testBit 1 with
        | false => rfl
        | true => rw [z] at q; exact absurd q (by decide)
      have : allow n (0, 1, 2) = false := by
        rw [al]
        show (_ && (dg n 1).testBit 1 && _) = false
        rw [e]; simp
      rw [this] at h; exact h
    · have c1 : (dg n 1).testBit 1 = true := by
        cases z : (dg n 1).testBit 1 with
        | true => rfl
        | false => rw [z] at q; exact absurd rfl q
      rw [m2]
      have al2 : allow n (0, 1, 2) = (dg n 2).testBit 2 := by
        rw [al]
        show ((dg n 0).testBit 0 && (dg n 1).testBit 1 && (dg n 2).testBit 2) = _
        rw [c0, c1]; rfl
      rw [al2] at h
      refine Mo_has_ok (s := 2) (dg_lt _ _) (by decide) ⟨_, rfl, rfl, fun q => ?_, fun q => ?_⟩
      · cases z : (dg n 2).testBit 2 with
        | false => rw [z] at h; exact h
        | true => rw [z] at q; exact absurd q (by decide)
      · cases z : (dg n 2).testBit 2 with
        | true => rw [z] at h; exact h
        | false => rw [z] at q; exact absurd rfl q
end REF6
