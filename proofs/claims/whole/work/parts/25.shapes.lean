/-! shapes: what hangs together stands side by side -/
def zArr (S : ZS) (a N : Nat) : Prop := zA S a 12 ∧ S.2.2.1 a = N ∧ N < 2 ^ 31
def zArz (S : ZS) (a N : Nat) : Prop := zA S a 13 ∧ S.2.2.1 a = N ∧ N < 2 ^ 31
def zRow (S : ZS) (r L : Nat) : Prop := zA S r 5 ∧ S.2.2.2 r 0 = some (r + 1) ∧ zArr S (r + 1) L
def zMach (S : ZS) (m : Nat) : Prop := zA S m 2 ∧ S.2.2.2 m 0 = some (m + 1) ∧ zArr S (m + 1) 6
def zWords (S : ZS) (w L : Nat) : Prop := zA S w 9 ∧ (S.2.2.2 w 0 = some (w + 1) ∧ zRow S (w + 1) L) ∧ (S.2.2.2 w 1 = some (w + 3) ∧ zRow S (w + 3) L) ∧ (S.2.2.2 w 2 = some (w + 5) ∧ zRow S (w + 5) L)
def zBook (S : ZS) (b : Nat) : Prop := zA S b 1 ∧ (S.2.2.2 b 0 = some (b + 1) ∧ zRow S (b + 1) 12) ∧ (S.2.2.2 b 1 = some (b + 3) ∧ zRow S (b + 3) 12) ∧ (S.2.2.2 b 2 = some (b + 5) ∧ zMach S (b + 5)) ∧ (S.2.2.2 b 3 = some (b + 7) ∧ zWords S (b + 7) 12)
def zNode (S : ZS) (p : Nat) : Prop := zA S p 4 ∧ (S.2.2.2 p 1 = some (p + 1) ∧ zRow S (p + 1) 24) ∧ (S.2.2.2 p 2 = some (p + 3) ∧ zRow S (p + 3) 24) ∧ (S.2.2.2 p 3 = some (p + 5) ∧ zRow S (p + 5) 56) ∧ (S.2.2.2 p 4 = some (p + 7) ∧ zRow S (p + 7) 56)
def zsub : List (Option Value) → List (Option Value) → Prop
  | [], _ => True
  | none :: a, b => zsub a b.tail
  | some v :: a, b => b.head? = some (some v) ∧ zsub a b.tail
theorem zsub_get : ∀ {a b : List (Option Value)} {i : Nat} {v : Value}, zsub a b → a[i]? = some (some v) → b[i]? = some (some v)
  | [], _, i, v, _, h => by simp at h
  | none :: a, b, 0, v, _, h => by cases h
  | none :: a, b, i + 1, v, hs, h => by
    have h1 : b.tail[i]? = some (some v) := zsub_get (a := a) hs h
    cases b with
    | nil => simp at h1
    | cons c b => exact h1
  | some w :: a, b, 0, v, hs, h => by
    cases h
    cases b with
    | nil => cases hs.1
    | cons c b => exact hs.1
  | some w :: a, b, i + 1, v, hs, h => by
    have h1 : b.tail[i]? = some (some v) := zsub_get (a := a) hs.2 h
    cases b with
    | nil => simp at h1
    | cons c b => exact h1
theorem zbool {v : Int32} (h : v = 0 ∨ v = 1) : narrow .boolean (.int v) = .int v ∧ fits .boolean (.int v) = true := by
  rcases h with rfl | rfl <;> exact ⟨rfl, rfl⟩
section ZZ
variable {E : ZE} {mi : ZI} {d : Nat} {S : ZS} {M : ZM} {pc : Nat} {ls : List (Option Value)} {st : List Value} {Φ : Option Value → ZS → ZM → Prop} {x y : Int32} {a : Nat}
theorem z_forget (ls' : List (Option Value)) (hs : zsub ls' ls) (k : zW E mi d S M pc ls' st Φ) : zW E mi d S M pc ls st Φ :=
  zW_step (fun C hL kk => kk _ ⟨hL.1, hL.2.1, fun i v h => hL.2.2 i v (zsub_get hs h)⟩) k
theorem zW_d {d' : Nat} (h : d' ≤ d) (k : zW E mi d' S M pc ls st Φ) : zW E mi d S M pc ls st Φ := by
  obtain ⟨S', M', r, h1, h2, h3, h4⟩ := k
  refine ⟨S', M', r, h1, h2, h3, fun p e R s m args below meth c n0 s0 C => h4 p e R s m args below meth c n0 s0 ?_⟩
  obtain ⟨c1, c2, c3, c4, c5, c6, c7, c8, c9, c10, c11⟩ := C
  exact ⟨c1, c2, c3, c4, c5, c6, c7, c8, by omega, by omega, c11⟩
theorem y_alen {N : Nat} (v : Int32) (hd : decode mi.2.1 pc = .ok (.arraylength, 1)) (ha : zArr S a N) (hv : nI N = v) (k : zW E mi d S M (pc + 1) ls (.int v :: st) Φ) : zW E mi d S M pc ls (.ref a :: st) Φ :=
  z_alen ha.1 (by decide) hd (by rw [ha.2.1]; subst hv; exact k)
theorem y_iaload {N : Nat} (j : Nat) (hd : decode mi.2.1 pc = .ok (.iaload, 1)) (ha : zArr S a N) (hj : j < N) (hx : x = nI j) (k : zW E mi d S M (pc + 1) ls (.int (M a j) :: st) Φ) : zW E mi d S M pc ls (.int x :: .ref a :: st) Φ := by
  subst hx
  have h31 : j < 2 ^ 31 := Nat.lt_trans hj ha.2.2
  refine z_iaload hd ha.1 (by rw [ha.2.1]; exact vp_in_nI hj ha.2.2) ?_
  rw [nI_clamp h31]
  exact k
theorem y_iastore {N : Nat} (j : Nat) (hd : decode mi.2.1 pc = .ok (.iastore, 1)) (ha : zArr S a N) (hj : j < N) (hx : x = nI j) (k : zW E mi d S (zms M a j y) (pc + 1) ls st Φ) : zW E mi d S M pc ls (.int y :: .int x :: .ref a :: st) Φ := by
  subst hx
  have h31 : j < 2 ^ 31 := Nat.lt_trans hj ha.2.2
  refine z_iastore hd ha.1 (by rw [ha.2.1]; exact vp_in_nI hj ha.2.2) ?_
  rw [nI_clamp h31]
  exact k
theorem y_baload {N : Nat} (j : Nat) (hd : decode mi.2.1 pc = .ok (.baload, 1)) (ha : zArz S a N) (hj : j < N) (hx : x = nI j) (k : zW E mi d S M (pc + 1) ls (.int (M a j) :: st) Φ) : zW E mi d S M pc ls (.int x :: .ref a :: st) Φ := by
  subst hx
  have h31 : j < 2 ^ 31 := Nat.lt_trans hj ha.2.2
  refine z_baload hd ha.1 (by rw [ha.2.1]; exact vp_in_nI hj ha.2.2) ?_
  rw [nI_clamp h31]
  exact k
theorem y_bastore {N : Nat} (j : Nat) (hd : decode mi.2.1 pc = .ok (.bastore, 1)) (ha : zArz S a N) (hj : j < N) (hx : x = nI j) (hy : narrow .boolean (.int y) = .int y) (k : zW E mi d S (zms M a j y) (pc + 1) ls st Φ) : zW E mi d S M pc ls (.int y :: .int x :: .ref a :: st) Φ := by
  subst hx
  have h31 : j < 2 ^ 31 := Nat.lt_trans hj ha.2.2
  refine z_bastore hd ha.1 (by rw [ha.2.1]; exact vp_in_nI hj ha.2.2) hy ?_
  rw [nI_clamp h31]
  exact k
theorem z_name (k : ∀ v : Int32, v = x → zW E mi d S M pc ls (.int v :: st) Φ) : zW E mi d S M pc ls (.int x :: st) Φ := k x rfl
theorem z_namel {w : Int64} (k : ∀ v : Int64, v = w → zW E mi d S M pc ls (.long v :: st) Φ) : zW E mi d S M pc ls (.long w :: st) Φ := k w rfl
theorem z_mem (k : ∀ M2 : ZM, M2 = M → zW E mi d S M2 pc ls st Φ) : zW E mi d S M pc ls st Φ := k M rfl
theorem y_aaload {N : Nat} (j : Nat) (o : Option Nat) (hd : decode mi.2.1 pc = .ok (.aaload, 1)) (ha : zA S a 14) (hl : S.2.2.1 a = N) (hj : j < N) (hx : x = nI j) (ho : S.2.2.2 a j = o) (hN : N < 2 ^ 31) (k : zW E mi d S M (pc + 1) ls (va_rf o :: st) Φ) : zW E mi d S M pc ls (.int x :: .ref a :: st) Φ := by
  subst hx
  have h31 : j < 2 ^ 31 := Nat.lt_trans hj hN
  exact z_aaload o hd ha (by rw [hl]; exact vp_in_nI hj hN) (by rw [nI_clamp h31]; exact ho) k
end ZZ
