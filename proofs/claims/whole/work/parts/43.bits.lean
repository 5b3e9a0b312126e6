/-! bits (the first family of the kit's laws/BITS.to-paste) -/
def bt (x : Int32) (i : Nat) : Bool := x.toBitVec.getLsbD i
theorem b_ext {x y : Int32} (h : ∀ i, i < 32 → bt x i = bt y i) : x = y := Int32.toBitVec_inj.mp (BitVec.eq_of_getLsbD_eq (fun i hi => h i hi))
theorem b_or (x y : Int32) (i : Nat) : bt (x ||| y) i = (bt x i || bt y i) := by unfold bt; rw [Int32.toBitVec_or, BitVec.getLsbD_or]
theorem b_and (x y : Int32) (i : Nat) : bt (x &&& y) i = (bt x i && bt y i) := by unfold bt; rw [Int32.toBitVec_and, BitVec.getLsbD_and]
theorem b_xor (x y : Int32) (i : Nat) : bt (x ^^^ y) i = (bt x i ^^ bt y i) := by unfold bt; rw [Int32.toBitVec_xor, BitVec.getLsbD_xor]
theorem b_big {x : Int32} {i : Nat} (h : 32 ≤ i) : bt x i = false := BitVec.getLsbD_of_ge _ _ h
theorem b_255 (i : Nat) : bt 255 i = decide (i < 8) := by
  rcases Nat.lt_or_ge i 32 with h | h
  · exact (by decide +kernel : ∀ i, i < 32 → bt 255 i = decide (i < 8)) i h
  · rw [b_big h, decide_eq_false (by omega)]
theorem b_65535 (i : Nat) : bt 65535 i = decide (i < 16) := by
  rcases Nat.lt_or_ge i 32 with h | h
  · exact (by decide +kernel : ∀ i, i < 32 → bt 65535 i = decide (i < 16)) i h
  · rw [b_big h, decide_eq_false (by omega)]
theorem b_m1 : ∀ i, i < 32 → bt (-1) i = true := by decide +kernel
theorem b_0 (i : Nat) : bt 0 i = false := BitVec.getLsbD_zero
theorem s_l : ∀ n, n < 32 → ((nI n &&& 31).toBitVec.smod 32).toNat = n := by decide +kernel
theorem s_u : ∀ n, n < 32 → (((nI n).toUInt32 &&& Int32.toUInt32 31).toBitVec % 32).toNat = n := by decide +kernel
theorem b_shl (n : Nat) (hn : n < 32) (x : Int32) {i : Nat} (hi : i < 32) : bt (x <<< (nI n &&& 31)) i = (decide (n ≤ i) && bt x (i - n)) := by
  unfold bt
  rw [Int32.toBitVec_shiftLeft]
  show (x.toBitVec <<< ((nI n &&& 31).toBitVec.smod 32).toNat).getLsbD i = _
  rw [s_l n hn, BitVec.getLsbD_shiftLeft]
  rcases Nat.lt_or_ge i n with h | h
  · simp [h, Nat.not_le.mpr h]
  · simp [hi, h, Nat.not_lt.mpr h]
theorem b_ushr (n : Nat) (hn : n < 32) (x : Int32) (i : Nat) : bt ((x.toUInt32 >>> ((nI n).toUInt32 &&& Int32.toUInt32 31)).toInt32) i = bt x (n + i) := by
  show (x.toUInt32 >>> ((nI n).toUInt32 &&& Int32.toUInt32 31)).toBitVec.getLsbD i = x.toUInt32.toBitVec.getLsbD (n + i)
  rw [UInt32.toBitVec_shiftRight]
  show (x.toUInt32.toBitVec >>> (((nI n).toUInt32 &&& Int32.toUInt32 31).toBitVec % 32).toNat).getLsbD i = _
  rw [s_u n hn, BitVec.getLsbD_ushiftRight]
theorem b_sshr (n : Nat) (hn : n < 32) (x : Int32) {i : Nat} (hi : i < 32) : bt (x >>> (nI n &&& 31)) i = if n + i < 32 then bt x (n + i) else bt x 31 := by
  unfold bt
  rw [Int32.toBitVec_shiftRight]
  show (x.toBitVec.sshiftRight ((nI n &&& 31).toBitVec.smod 32).toNat).getLsbD i = _
  rw [s_l n hn, BitVec.getLsbD_sshiftRight, BitVec.msb_eq_getLsbD_last]
  simp [hi]
theorem nx_and (a b : Nat) : nI a &&& nI b = nI (a &&& b) := by
  apply Int32.toBitVec_inj.1
  show BitVec.ofNat 32 a &&& BitVec.ofNat 32 b = BitVec.ofNat 32 (a &&& b)
  apply BitVec.eq_of_getLsbD_eq
  intro i hi
  simp [hi]
theorem nx_xor (a b : Nat) : nI a ^^^ nI b = nI (a ^^^ b) := by
  apply Int32.toBitVec_inj.1
  show BitVec.ofNat 32 a ^^^ BitVec.ofNat 32 b = BitVec.ofNat 32 (a ^^^ b)
  apply BitVec.eq_of_getLsbD_eq
  intro i hi
  simp [hi]
/-! needs of one variable: nine bits, three digits of eight -/
def dg (n s : Nat) : Nat := n / 8 ^ s % 8
def mkN (a b c : Nat) : Nat := a + 8 * b + 64 * c
def nar (n s t : Nat) : Nat := mkN (if s = 0 then dg n 0 &&& t else dg n 0) (if s = 1 then dg n 1 &&& t else dg n 1) (if s = 2 then dg n 2 &&& t else dg n 2)
def tq (q s : Nat) : Nat := q / 3 ^ s % 3
abbrev T3 : Type := Nat × Nat × Nat
def t3 (t : T3) (s : Nat) : Nat := if s = 0 then t.1 else if s = 1 then t.2.1 else t.2.2
def mb (t : T3) : Nat := 2 ^ t.1 + 2 ^ (3 + t.2.1) + 2 ^ (6 + t.2.2)
def allow (n : Nat) (t : T3) : Bool := n.testBit t.1 && n.testBit (3 + t.2.1) && n.testBit (6 + t.2.2)
def ok3 (t : T3) : Prop := t.1 < 3 ∧ t.2.1 < 3 ∧ t.2.2 < 3
theorem dg_lt (n s : Nat) : dg n s < 8 := Nat.mod_lt _ (by decide)
theorem mkN_dg {a b c : Nat} (ha : a < 8) (hb : b < 8) (hc : c < 8) : mkN a b c < 512 ∧ dg (mkN a b c) 0 = a ∧ dg (mkN a b c) 1 = b ∧ dg (mkN a b c) 2 = c := by
  unfold mkN dg
  omega
theorem dg_mkN {n : Nat} (h : n < 512) : mkN (dg n 0) (dg n 1) (dg n 2) = n := by
  unfold mkN dg
  omega
theorem and_lt8 {a t : Nat} (h : a < 8) : a &&& t < 8 := Nat.lt_of_le_of_lt Nat.and_le_left h
theorem nar_lt {n s t : Nat} : nar n s t < 512 := by
  unfold nar
  refine (mkN_dg ?_ ?_ ?_).1 <;> split <;> first | exact and_lt8 (dg_lt _ _) | exact dg_lt _ _
theorem nar_dg {n s t u : Nat} (hu : u < 3) : dg (nar n s t) u = if u = s then dg n u &&& t else dg n u := by
  unfold nar
  have h0 : (if s = 0 then dg n 0 &&& t else dg n 0) < 8 := by split <;> first | exact and_lt8 (dg_lt _ _) | exact dg_lt _ _
  have h1 : (if s = 1 then dg n 1 &&& t else dg n 1) < 8 := by split <;> first | exact and_lt8 (dg_lt _ _) | exact dg_lt _ _
  have h2 : (if s = 2 then dg n 2 &&& t else dg n 2) < 8 := by split <;> first | exact and_lt8 (dg_lt _ _) | exact dg_lt _ _
  obtain ⟨-, e0, e1, e2⟩ := mkN_dg h0 h1 h2
  rcases (show u = 0 ∨ u = 1 ∨ u = 2 by omega) with rfl | rfl | rfl
  · rw [e0]; by_cases e : s = 0 <;> simp [e, eq_comm]
  · rw [e1]; by_cases e : s = 1 <;> simp [e, eq_comm]
  · rw [e2]; by_cases e : s = 2 <;> simp [e, eq_comm]
theorem dg_ext {n m : Nat} (hn : n < 512) (hm : m < 512) (h : ∀ s, s < 3 → dg n s = dg m s) : n = m := by
  rw [← dg_mkN hn, ← dg_mkN hm, h 0 (by decide), h 1 (by decide), h 2 (by decide)]
set_option maxRecDepth 100000 in
theorem k_ofState : ∀ n, n < 512 → ∀ s, s < 3 → (((nI n : Int32) >>> ((3 * nI s) &&& 31)) &&& 7) = nI (dg n s) := by decide +kernel
set_option maxRecDepth 100000 in
theorem k_narrowed : ∀ n, n < 512 → ∀ s, s < 3 → ∀ t, t < 8 → (nI n &&& ((((7 &&& (nI t ^^^ (-1))) : Int32) <<< ((3 * nI s) &&& 31)) ^^^ (-1))) = nI (nar n s t) := by decide +kernel
set_option maxRecDepth 100000 in
theorem k_allows : ∀ n, n < 512 → ∀ a, a < 3 → ∀ b, b < 3 → ∀ c, c < 3 → (decide ((nI (mb (a, b, c)) &&& (nI n ^^^ (-1))) = 0)) = allow n (a, b, c) := by decide +kernel
set_option maxRecDepth 100000 in
theorem k_turn : ∀ q, q < 27 → (nI q - nI q / 3 * 3) = nI (tq q 0) ∧ ((nI q / 3) - (nI q / 3) / 3 * 3) = nI (tq q 1) ∧ ((nI q / 9) - (nI q / 9) / 3 * 3) = nI (tq q 2) := by decide +kernel
theorem k_one : ∀ t, t < 3 → ((1 : Int32) <<< (nI t &&& 31)) = nI (2 ^ t) := by decide +kernel
set_option maxRecDepth 100000 in
theorem k_bit : ∀ a, a < 3 → ∀ b, b < 3 → ∀ c, c < 3 → ∀ s, s < 3 → ∀ u, u < 3 → (decide ((((nI (mb (a, b, c)) : Int32) >>> (((3 * nI s) + nI u) &&& 31)) &&& 1) = 1)) = decide (u = t3 (a, b, c) s) := by decide +kernel
theorem k_or : ∀ a, a < 3 → ∀ b, b < 3 → ∀ c, c < 3 → ((((0 : Int32) ||| ((1 : Int32) <<< (((3 * nI 0) + nI a) &&& 31))) ||| ((1 : Int32) <<< (((3 * nI 1) + nI b) &&& 31))) ||| ((1 : Int32) <<< (((3 * nI 2) + nI c) &&& 31))) = nI (mb (a, b, c)) := by decide +kernel
theorem tq_lt (q s : Nat) : tq q s < 3 := Nat.mod_lt _ (by decide)
/-! needs of all variables -/
def pkn (n : T3) : Nat := n.1 + 512 * n.2.1 + 262144 * n.2.2
def okn (n : T3) : Prop := n.1 < 512 ∧ n.2.1 < 512 ∧ n.2.2 < 512
def nset (n : T3) (v x : Nat) : T3 := if v = 0 then (x, n.2.1, n.2.2) else if v = 1 then (n.1, x, n.2.2) else (n.1, n.2.1, x)
theorem t3_nset {n : T3} {v x u : Nat} (hv : v < 3) (hu : u < 3) : t3 (nset n v x) u = if u = v then x else t3 n u := by
  rcases (show v = 0 ∨ v = 1 ∨ v = 2 by omega) with rfl | rfl | rfl <;> rcases (show u = 0 ∨ u = 1 ∨ u = 2 by omega) with rfl | rfl | rfl <;> rfl
theorem okn_nset {n : T3} {v x : Nat} (h : okn n) (hx : x < 512) : okn (nset n v x) := by
  unfold nset
  obtain ⟨h1, h2, h3⟩ := h
  split
  · exact ⟨hx, h2, h3⟩
  · split
    · exact ⟨h1, hx, h3⟩
    · exact ⟨h1, h2, hx⟩
theorem okn_t3 {n : T3} (h : okn n) (v : Nat) : t3 n v < 512 := by
  unfold t3
  obtain ⟨h1, h2, h3⟩ := h
  split
  · exact h1
  · split
    · exact h2
    · exact h3
theorem t3_ext {n m : T3} (h : ∀ v, v < 3 → t3 n v = t3 m v) : n = m := by
  obtain ⟨a, b, c⟩ := n
  obtain ⟨a', b', c'⟩ := m
  have h0 : a = a' := h 0 (by decide)
  have h1 : b = b' := h 1 (by decide)
  have h2 : c = c' := h 2 (by decide)
  rw [h0, h1, h2]
theorem pkn_lt {n : T3} (h : okn n) : pkn n < 134217728 := by
  obtain ⟨h1, h2, h3⟩ := h
  unfold pkn
  omega
theorem pkn_inj {n m : T3} (hn : okn n) (hm : okn m) (h : pkn n = pkn m) : n = m := by
  obtain ⟨a, b, c⟩ := n
  obtain ⟨a', b', c'⟩ := m
  obtain ⟨h1, h2, h3⟩ := hn
  obtain ⟨g1, g2, g3⟩ := hm
  simp only [pkn] at *
  have e0 : a = a' := by omega
  have e1 : b = b' := by omega
  have e2 : c = c' := by omega
  rw [e0, e1, e2]
theorem k_ofVar {n : T3} (h : okn n) {v : Nat} (hv : v < 3) : (((nI (pkn n) : Int32) >>> ((9 * nI v) &&& 31)) &&& 511) = nI (t3 n v) := by
  have hp := pkn_lt h
  obtain ⟨h1, h2, h3⟩ := h
  rcases (show v = 0 ∨ v = 1 ∨ v = 2 by omega) with rfl | rfl | rfl
  · rw [pk_shrN (by omega) _ 0 (by decide), pk_andN (by omega) 9 (by decide)]
    congr 1
    show (n.1 + 512 * n.2.1 + 262144 * n.2.2) / 1 % 512 = n.1
    omega
  · rw [pk_shrN (by omega) _ 9 (by decide), pk_andN (by omega) 9 (by decide)]
    congr 1
    show (n.1 + 512 * n.2.1 + 262144 * n.2.2) / 512 % 512 = n.2.1
    omega
  · rw [pk_shrN (by omega) _ 18 (by decide), pk_andN (by omega) 9 (by decide)]
    congr 1
    show (n.1 + 512 * n.2.1 + 262144 * n.2.2) / 262144 % 512 = n.2.2
    omega
theorem bt_nI (n i : Nat) (hi : i < 32) : bt (nI n) i = n.testBit i := by
  show (BitVec.ofNat 32 n).getLsbD i = _
  rw [BitVec.getLsbD_ofNat]
  simp [hi]
/-- some bits are taken out, and others put in -/
theorem k_put {n x k w : Nat} (hk : k + w < 32) (hx : x < 2 ^ w) (hn : n < 2 ^ 31) : ((nI n &&& (((nI (2 ^ w - 1) : Int32) <<< (nI k &&& 31)) ^^^ (-1))) ||| ((nI x : Int32) <<< (nI k &&& 31))) = nI (2 ^ k * (2 ^ w * (n / 2 ^ (k + w)) + x) + n % 2 ^ k) := by
  apply b_ext
  intro i hi
  rw [b_or, b_and, b_xor, b_shl k (by omega) _ hi, b_shl k (by omega) _ hi, b_m1 i hi, bt_nI n i hi, bt_nI _ i hi]
  rw [Nat.testBit_two_pow_mul_add _ (Nat.mod_lt _ (Nat.two_pow_pos k))]
  by_cases h1 : i < k
  · simp [h1, Nat.not_le.mpr h1, Nat.testBit_mod_two_pow]
  · rw [if_neg h1, Nat.testBit_two_pow_mul_add _ hx, bt_nI _ _ (by omega), bt_nI _ _ (by omega), Nat.testBit_two_pow_sub_one]
    by_cases h2 : i - k < w
    · simp [h2, Nat.not_lt.mp h1]
    · have e : (n / 2 ^ (k + w)).testBit (i - k - w) = n.testBit i := by
        rw [Nat.testBit_div_two_pow]
        congr 1
        omega
      have e2 : x.testBit (i - k) = false := Nat.testBit_lt_two_pow (Nat.lt_of_lt_of_le hx (Nat.pow_le_pow_right (by decide) (by omega)))
      simp [h2, e, e2]
theorem k_withVar {n : T3} (h : okn n) {v x : Nat} (hv : v < 3) (hx : x < 512) : ((nI (pkn n) &&& (((511 : Int32) <<< ((9 * nI v) &&& 31)) ^^^ (-1))) ||| ((nI x : Int32) <<< ((9 * nI v) &&& 31))) = nI (pkn (nset n v x)) := by
  have hp := pkn_lt h
  obtain ⟨h1, h2, h3⟩ := h
  have e : (9 : Int32) * nI v = nI (9 * v) := pk_mul 9 v
  have key := k_put (n := pkn n) (x := x) (k := 9 * v) (w := 9) (by omega) hx (by omega)
  rw [e]
  refine key.trans ?_
  congr 1
  rcases (show v = 0 ∨ v = 1 ∨ v = 2 by omega) with rfl | rfl | rfl <;> simp only [pkn, nset] at * <;> simp <;> omega
theorem k_withSt {n : T3} (h : okn n) {v s x : Nat} (hv : v < 3) (hs : s < 3) (hx : x < 8) : ((nI (pkn n) &&& (((7 : Int32) <<< (((9 * nI v) + (3 * nI s)) &&& 31)) ^^^ (-1))) ||| ((nI x : Int32) <<< (((9 * nI v) + (3 * nI s)) &&& 31))) = nI (pkn (nset n v (mkN (if s = 0 then x else dg (t3 n v) 0) (if s = 1 then x else dg (t3 n v) 1) (if s = 2 then x else dg (t3 n v) 2)))) := by
  have hp := pkn_lt h
  obtain ⟨h1, h2, h3⟩ := h
  have e : (9 : Int32) * nI v + 3 * nI s = nI (9 * v + 3 * s) := by
    have e1 : (9 : Int32) * nI v = nI (9 * v) := pk_mul 9 v
    have e2 : (3 : Int32) * nI s = nI (3 * s) := pk_mul 3 s
    rw [e1, e2, nI_add]
  have key := k_put (n := pkn n) (x := x) (k := 9 * v + 3 * s) (w := 3) (by omega) hx (by omega)
  rw [e]
  refine key.trans ?_
  congr 1
  rcases (show v = 0 ∨ v = 1 ∨ v = 2 by omega) with rfl | rfl | rfl <;> rcases (show s = 0 ∨ s = 1 ∨ s = 2 by omega) with rfl | rfl | rfl <;> simp only [pkn, nset, t3, mkN, dg] at * <;> simp <;> omega
