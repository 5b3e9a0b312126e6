/-! Trial.spelled: rows as binary numbers -/
theorem l_sh : ∀ s, s < 4 → ((((nI s).toInt64 &&& 63) : Int64).toBitVec.smod 64).toNat = s := by decide +kernel
theorem l_shl (n : Nat) (s : Nat) (hs : s < 4) : lN n <<< ((nI s).toInt64 &&& 63) = lN (n * 2 ^ s) := by
  apply Int64.toBitVec_inj.mp
  rw [Int64.toBitVec_shiftLeft]
  show BitVec.ofNat 64 n <<< (((nI s).toInt64 &&& 63) : Int64).toBitVec.smod 64 = BitVec.ofNat 64 (n * 2 ^ s)
  apply BitVec.eq_of_toNat_eq
  rw [BitVec.shiftLeft_eq', l_sh s hs, BitVec.toNat_shiftLeft, BitVec.toNat_ofNat, BitVec.toNat_ofNat, Nat.shiftLeft_eq, Nat.mod_mul_mod]
theorem l_cmp (x y : Int64) : lg_cmp x y = 0 ↔ x = y := by
  unfold lg_cmp
  by_cases c : x > y
  · rw [if_pos c]
    constructor
    · intro h; exact absurd h (by decide)
    · intro h
      subst h
      exact absurd c (by rw [gt_iff_lt, Int64.lt_iff_toInt_lt]; omega)
  · rw [if_neg c]
    by_cases e : x = y
    · rw [if_pos e]; exact ⟨fun _ => e, fun _ => rfl⟩
    · rw [if_neg e]
      exact ⟨fun h => absurd h (by decide), fun h => absurd h e⟩
theorem l_inj {a b : Nat} (ha : a < 2 ^ 64) (hb : b < 2 ^ 64) : lN a = lN b ↔ a = b := by
  constructor
  · intro h
    have h := congrArg (fun x : Int64 => x.toBitVec.toNat) h
    have e : ∀ n, n < 2 ^ 64 → (lN n).toBitVec.toNat = n := by
      intro n hn
      show (BitVec.ofNat 64 n).toNat = n
      rw [BitVec.toNat_ofNat, Nat.mod_eq_of_lt hn]
    simpa [e a ha, e b hb] using h
  · rintro rfl; rfl
/-- letters as binary digits, a 1 ahead of them -/
def bvl (l : List Nat) : Nat := l.foldl (fun a b => 2 * a + b) 1
theorem bvl_snoc (l : List Nat) (a : Nat) : bvl (l ++ [a]) = 2 * bvl l + a := by simp [bvl]
theorem bvl_rng : ∀ (n : Nat) (l : List Nat), l.length = n → (∀ y ∈ l, y < 2) → 2 ^ n ≤ bvl l ∧ bvl l < 2 * 2 ^ n
  | 0, l, hl, _ => by
    have : l = [] := List.length_eq_zero_iff.mp hl
    subst this
    decide
  | n + 1, l, hl, hy => by
    have hne : l ≠ [] := fun e => by rw [e] at hl; cases hl
    have e := List.dropLast_concat_getLast hne
    obtain ⟨a1, a2⟩ := bvl_rng n l.dropLast (by simp [hl]) (fun y q => hy y (List.dropLast_subset _ q))
    have := hy _ (List.getLast_mem hne)
    rw [← e, bvl_snoc, Nat.pow_succ]
    omega
theorem bvl_inj : ∀ (n : Nat) (l m : List Nat), l.length = n → (∀ y ∈ l, y < 2) → (∀ y ∈ m, y < 2) → bvl l = bvl m → l = m
  | 0, l, m, hl, _, hm, h => by
    have : l = [] := List.length_eq_zero_iff.mp hl
    subst this
    have h1 := bvl_rng m.length m rfl hm
    have h2 : bvl [] = 1 := rfl
    cases m with
    | nil => rfl
    | cons a m =>
      have : 1 ≤ 2 ^ m.length := Nat.one_le_two_pow
      rw [List.length_cons, Nat.pow_succ] at h1
      omega
  | n + 1, l, m, hl, hy, hm, h => by
    have hne : l ≠ [] := fun e => by rw [e] at hl; cases hl
    have e := List.dropLast_concat_getLast hne
    by_cases hme : m = []
    · subst hme
      have h1 := bvl_rng l.length l rfl hy
      have h2 : bvl [] = 1 := rfl
      have : 1 ≤ 2 ^ n := Nat.one_le_two_pow
      rw [hl, Nat.pow_succ] at h1
      omega
    · have e2 := List.dropLast_concat_getLast hme
      have b1 := hy _ (List.getLast_mem hne)
      have b2 := hm _ (List.getLast_mem hme)
      rw [← e, ← e2, bvl_snoc, bvl_snoc] at h
      have h1 : bvl l.dropLast = bvl m.dropLast := by omega
      have h2 : l.getLast hne = m.getLast hme := by omega
      have h3 := bvl_inj n l.dropLast m.dropLast (by simp [hl]) (fun y q => hy y (List.dropLast_subset _ q)) (fun y q => hm y (List.dropLast_subset _ q)) h1
      rw [← e, ← e2, h3, h2]
theorem wLw_val (a : Nat) : ∀ w, w < 15 → (wLw w).foldl (fun a b => 2 * a + b) a = a * 2 ^ szw w + (w + 1 - 2 ^ szw w) := by
  intro w hw
  rcases (show w = 0 ∨ w = 1 ∨ w = 2 ∨ w = 3 ∨ w = 4 ∨ w = 5 ∨ w = 6 ∨ w = 7 ∨ w = 8 ∨ w = 9 ∨ w = 10 ∨ w = 11 ∨ w = 12 ∨ w = 13 ∨ w = 14 by omega) with rfl | rfl | rfl | rfl | rfl | rfl | rfl | rfl | rfl | rfl | rfl | rfl | rfl | rfl | rfl <;> simp [wLw, szw] <;> omega
def outf (f : Nat → Nat) (xs : List Nat) : List Nat := xs.flatMap (fun s => wLw (f s))
theorem outf_snoc (f : Nat → Nat) (xs : List Nat) (s : Nat) : outf f (xs ++ [s]) = outf f xs ++ wLw (f s) := by simp [outf]
theorem outf_len {f : Nat → Nat} (hf : ∀ s, f s < 15) : ∀ xs : List Nat, (outf f xs).length ≤ 3 * xs.length
  | [] => by simp [outf]
  | x :: xs => by
    have h := outf_len hf xs
    have h2 := wLw_len (f x) (hf x)
    have h3 := (szw_le (f x) (hf x)).1
    unfold outf at h ⊢
    rw [List.flatMap_cons, List.length_append, List.length_cons]
    omega
theorem outf_lt {f : Nat → Nat} (hf : ∀ s, f s < 15) (xs : List Nat) : ∀ y ∈ outf f xs, y < 2 := by
  intro y hy
  obtain ⟨s, -, h⟩ := List.mem_flatMap.mp hy
  exact wLw_lt _ (hf s) y h
section SPELLED
variable {E : ZE} {k : Nat} {M : ZM} {Φ : Option Value → ZS → ZM → Prop}
def zTs (M : ZM) (f : Nat → Nat) : Prop := ∀ s, s < 5 → zTd M s (szw (f s)) (f s + 1 - 2 ^ szw (f s))
theorem spelled_loop {r L : Nat} {xs : List Nat} {f : Nat → Nat} (hf : ∀ s, f s < 15) (hr : zRow (zSt k) r L) (hl : xs.length ≤ L) (h12 : xs.length ≤ 12) (hs : ∀ s ∈ xs, s < 5) (hx : zRN M r xs) (ht : zTs M f) (hk : Φ (some (.long (lN (bvl (outf f xs))))) (zSt k) M) : ∀ (n j : Nat), j + n = xs.length → zW E m_Trial_spelled 1 (zSt k) M 5 [some (.ref 69), some (.ref r), some (.long (lN (bvl (outf f (xs.take j))))), none, some (.int (nI j)), none] [] Φ
  | 0, j, hj => by
    have : j = xs.length := by omega
    subst this
    rw [List.take_length]
    exact vc_Trial_spelled_5 E k M r L _ _ Φ hr (Row_size_ok hr hx ⟨_, rfl, rfl, fun _ => hk, fun c => absurd (nI_le (Nat.le_refl _) (by omega)) c⟩)
  | n + 1, j, hj => by
    have hjl : j < xs.length := by omega
    have hv : xs.getD j 0 < 5 := by
      apply hs
      rw [List.getD_eq_getElem?_getD, List.getElem?_eq_getElem hjl]
      exact List.getElem_mem hjl
    refine vc_Trial_spelled_5 E k M r L _ _ Φ hr (Row_size_ok hr hx ⟨_, rfl, rfl, fun c => absurd c (nI_ge hjl (by omega)), fun _ => ?_⟩)
    refine Row_at_ok hr hx hl ⟨_, rfl, rfl, ?_⟩
    rw [zat_nI hjl (by omega)]
    obtain ⟨v, ev⟩ : ∃ v, xs.getD j 0 = v := ⟨_, rfl⟩
    rw [ev] at hv ⊢
    refine ⟨fun c => absurd c (nI_pos (by omega)), fun _ => ⟨fun c => absurd ((nI_leI (a := 5) (by decide) (by omega)).mp c) (by omega), fun _ => ⟨v, hv, rfl, v, hv, rfl, ?_⟩⟩⟩
    obtain ⟨t1, t2⟩ := ht v hv
    obtain ⟨s1, s2, s3⟩ := szw_le (f v) (hf v)
    have h8 : 2 ^ szw (f v) ≤ 8 := Nat.pow_le_pow_right (n := 2) (by decide) s1
    rw [t1, t2, l_shl _ _ (by omega), nI_l (by omega), lN_add]
    rintro _ rfl _ rfl
    rw [nI_1]
    have e : bvl (outf f (xs.take j)) * 2 ^ szw (f v) + (f v + 1 - 2 ^ szw (f v)) = bvl (outf f (xs.take (j + 1))) := by
      rw [take_succ' hjl, ev, outf_snoc]
      unfold bvl
      rw [List.foldl_append, wLw_val _ _ (hf v)]
    rw [e]
    exact spelled_loop hf hr hl h12 hs hx ht hk n (j + 1) (by omega)
theorem spelled_ok {r L : Nat} {xs : List Nat} {f : Nat → Nat} (hf : ∀ s, f s < 15) (hr : zRow (zSt k) r L) (hl : xs.length ≤ L) (h12 : xs.length ≤ 12) (hs : ∀ s ∈ xs, s < 5) (hx : zRN M r xs) (ht : zTs M f) (hk : Φ (some (.long (lN (bvl (outf f xs))))) (zSt k) M) : zW E m_Trial_spelled 1 (zSt k) M 0 [some (.ref 69), some (.ref r), none, none, none, none] [] Φ :=
  vc_Trial_spelled_0 E k M r L Φ hr (spelled_loop hf hr hl h12 hs hx ht hk xs.length 0 (by omega))
theorem bvl_eq {f : Nat → Nat} (hf : ∀ s, f s < 15) {xs ys : List Nat} (hx : xs.length ≤ 12) (hy : ys.length ≤ 12) : lN (bvl (outf f xs)) = lN (bvl (outf f ys)) ↔ outf f xs = outf f ys := by
  have b : ∀ zs : List Nat, zs.length ≤ 12 → bvl (outf f zs) < 2 ^ 64 := by
    intro zs hz
    have h1 := (bvl_rng _ _ rfl (outf_lt hf zs)).2
    have h2 := outf_len hf zs
    have h3 : 2 ^ (outf f zs).length ≤ 2 ^ 36 := Nat.pow_le_pow_right (by decide) (by omega)
    omega
  rw [l_inj (b xs hx) (b ys hy)]
  exact ⟨fun h => bvl_inj _ _ _ rfl (outf_lt hf xs) (outf_lt hf ys) h, fun h => by rw [h]⟩
end SPELLED
