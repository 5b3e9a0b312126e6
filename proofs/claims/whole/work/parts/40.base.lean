/-! numbers: an Int32 by the whole number that it stands for -/
def iI (z : Int) : Int32 := Int32.ofInt z
theorem iI_nat (n : Nat) : nI n = iI n := by
  unfold nI iI
  exact (Int32.ofInt_eq_ofNat).symm
theorem iI_add (a b : Int) : iI a + iI b = iI (a + b) := by
  unfold iI
  exact (Int32.ofInt_add a b).symm
theorem iI_mul (a b : Int) : iI a * iI b = iI (a * b) := by
  unfold iI
  exact (Int32.ofInt_mul a b).symm
theorem iI_sub (a b : Int) : iI a - iI b = iI (a - b) := by
  unfold iI
  exact (Int32.ofInt_sub a b).symm
theorem iI_neg (a : Int) : -iI a = iI (-a) := by
  unfold iI
  exact (Int32.ofInt_neg a).symm
theorem iI_toInt {z : Int} (h : -2147483648 ≤ z ∧ z < 2147483648) : (iI z).toInt = z := by
  unfold iI
  rw [Int32.toInt_ofInt]
  simp only [Int32.size]
  rw [Int.bmod_eq_of_le] <;> omega
theorem iI_of (x : Int32) : x = iI x.toInt := by
  unfold iI
  exact (Int32.ofInt_toInt x).symm
theorem iI_rng (x : Int32) : -2147483648 ≤ x.toInt ∧ x.toInt < 2147483648 := by
  have h1 := Int32.le_toInt x
  have h2 := Int32.toInt_lt x
  simp at h1 h2
  omega
theorem iI_lt {a b : Int} (ha : -2147483648 ≤ a ∧ a < 2147483648) (hb : -2147483648 ≤ b ∧ b < 2147483648) : iI a < iI b ↔ a < b := by
  rw [Int32.lt_iff_toInt_lt, iI_toInt ha, iI_toInt hb]
theorem iI_le {a b : Int} (ha : -2147483648 ≤ a ∧ a < 2147483648) (hb : -2147483648 ≤ b ∧ b < 2147483648) : iI a ≤ iI b ↔ a ≤ b := by
  rw [Int32.le_iff_toInt_le, iI_toInt ha, iI_toInt hb]
theorem iI_eq {a b : Int} (ha : -2147483648 ≤ a ∧ a < 2147483648) (hb : -2147483648 ≤ b ∧ b < 2147483648) : iI a = iI b ↔ a = b := by
  rw [← Int32.toInt_inj, iI_toInt ha, iI_toInt hb]
theorem iI_lit (n : Nat) : (OfNat.ofNat n : Int32) = iI (n : Int) := iI_nat n
/-! memory -/
theorem zms_s (M : ZM) (a k : Nat) (v : Int32) : zms M a k v a k = v := by simp [zms]
theorem zms_n (M : ZM) {a k p q : Nat} (v : Int32) (h : ¬ (p = a ∧ q = k)) : zms M a k v p q = M p q := by
  unfold zms
  rw [if_neg h]
theorem zms_k (M : ZM) {a k q : Nat} (v : Int32) (h : q ≠ k) : zms M a k v a q = M a q := zms_n M v (fun e => h e.2)
/-- only these rows may have changed -/
def zfr (M M' : ZM) (A : List Nat) : Prop := ∀ p, p ∉ A → M' p = M p
theorem zfr_rfl (M : ZM) (A : List Nat) : zfr M M A := fun _ _ => rfl
theorem zfr_tr {M M1 M2 : ZM} {A : List Nat} (h1 : zfr M M1 A) (h2 : zfr M1 M2 A) : zfr M M2 A := fun p hp => (h2 p hp).trans (h1 p hp)
theorem zfr_mono {M M1 : ZM} {A B : List Nat} (h1 : zfr M M1 A) (h : ∀ p, p ∈ A → p ∈ B) : zfr M M1 B := fun p hp => h1 p (fun q => hp (h p q))
theorem zfr_ms (M : ZM) (a k : Nat) (v : Int32) {A : List Nat} (h : a ∈ A) : zfr M (zms M a k v) A := fun p hp => zms_ne M k v (fun e => hp (e ▸ h))
/-! a row holds a list of numbers -/
def zRN (M : ZM) (r : Nat) (xs : List Nat) : Prop := M r 1 = nI xs.length ∧ ∀ i, i < xs.length → M (r + 1) i = nI (xs.getD i 0)
theorem zRN_fr {M M' : ZM} {r : Nat} {xs : List Nat} (h : zRN M r xs) (h1 : M' r = M r) (h2 : M' (r + 1) = M (r + 1)) : zRN M' r xs := ⟨by rw [h1]; exact h.1, fun i hi => by rw [h2]; exact h.2 i hi⟩
theorem zRN_keep {M M' : ZM} {r : Nat} {xs : List Nat} {A : List Nat} (h : zRN M r xs) (hf : zfr M M' A) (h1 : r ∉ A) (h2 : r + 1 ∉ A) : zRN M' r xs := zRN_fr h (hf r h1) (hf (r + 1) h2)
theorem getD_app_l {xs ys : List Nat} {i : Nat} (h : i < xs.length) : (xs ++ ys).getD i 0 = xs.getD i 0 := by
  simp [List.getD_eq_getElem?_getD, List.getElem?_append_left h]
theorem getD_app_r {xs ys : List Nat} {i : Nat} : (xs ++ ys).getD (xs.length + i) 0 = ys.getD i 0 := by
  simp [List.getD_eq_getElem?_getD, List.getElem?_append_right]
/-- a number that is none below zero -/
theorem nI_of_rng {x : Int32} (h : 0 ≤ x.toInt) : ∃ j : Nat, j < 2147483648 ∧ x = nI j := by
  refine ⟨x.toInt.toNat, by have := (iI_rng x).2; omega, ?_⟩
  rw [iI_nat, Int.toNat_of_nonneg h]
  exact iI_of x
