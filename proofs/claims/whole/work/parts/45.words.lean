/-! what the methods of Words and Book do; Arrays.fill -/
/-- nothing changed but in n rows from lo on -/
def zfi (M M' : ZM) (lo n : Nat) : Prop := ∀ p, p < lo ∨ lo + n ≤ p → M' p = M p
theorem zfi_of {M M' : ZM} {A : List Nat} {lo n : Nat} (h : zfr M M' A) (hA : ∀ p, p ∈ A → lo ≤ p ∧ p < lo + n) : zfi M M' lo n := fun p hp => h p (fun q => by have := hA p q; omega)
theorem zfi_tr {M M1 M2 : ZM} {lo n : Nat} (h1 : zfi M M1 lo n) (h2 : zfi M1 M2 lo n) : zfi M M2 lo n := fun p hp => (h2 p hp).trans (h1 p hp)
theorem zfi_mono {M M1 : ZM} {lo n lo' n' : Nat} (h1 : zfi M M1 lo n) (h : lo' ≤ lo) (h' : lo + n ≤ lo' + n') : zfi M M1 lo' n' := fun p hp => h1 p (by omega)
theorem zRN_fi {M M' : ZM} {r lo n : Nat} {xs : List Nat} (h : zRN M r xs) (hf : zfi M M' lo n) (h1 : r + 1 < lo ∨ lo + n ≤ r) : zRN M' r xs := zRN_fr h (hf r (by omega)) (hf (r + 1) (by omega))
abbrev W3 : Type := List Nat × List Nat × List Nat
def l3 (w : W3) (v : Nat) : List Nat := if v = 0 then w.1 else if v = 1 then w.2.1 else w.2.2
def lset (w : W3) (v : Nat) (x : List Nat) : W3 := if v = 0 then (x, w.2.1, w.2.2) else if v = 1 then (w.1, x, w.2.2) else (w.1, w.2.1, x)
def zWd (M : ZM) (w : Nat) (ws : W3) : Prop := ∀ v, v < 3 → zRN M (w + 1 + 2 * v) (l3 ws v)
theorem l3_lset {w : W3} {v u : Nat} {x : List Nat} (hv : v < 3) (hu : u < 3) : l3 (lset w v x) u = if u = v then x else l3 w u := by
  rcases (show v = 0 ∨ v = 1 ∨ v = 2 by omega) with rfl | rfl | rfl <;> rcases (show u = 0 ∨ u = 1 ∨ u = 2 by omega) with rfl | rfl | rfl <;> rfl
theorem zWd_fi {M M' : ZM} {w lo n : Nat} {ws : W3} (h : zWd M w ws) (hf : zfi M M' lo n) (h1 : w + 6 < lo ∨ lo + n ≤ w) : zWd M' w ws := fun v hv => zRN_fi (h v hv) hf (by omega)
def okw (ws : W3) (B : Nat) : Prop := ∀ v, v < 3 → (l3 ws v).length ≤ B ∧ ∀ y ∈ l3 ws v, y < 2
section WORDS
variable {E : ZE} {S : ZS} {M : ZM} {Φ : Option Value → ZS → ZM → Prop}
theorem zWords_row {w L v : Nat} (h : zWords S w L) (hv : v < 3) : zRow S (w + 1 + 2 * v) L := by
  rcases (show v = 0 ∨ v = 1 ∨ v = 2 by omega) with rfl | rfl | rfl
  · exact h.2.1.2
  · exact h.2.2.1.2
  · exact h.2.2.2.2
theorem Words_of_ok {w L v : Nat} (h : zWords S w L) (hv : v < 3) (hk : Φ (some (.ref (w + 1 + 2 * v))) S M) : zW E m_Words_of 0 S M 0 [some (.ref w), some (.int (nI v))] [] Φ := by
  refine vc_Words_of_0 E S M w L (nI v) Φ h ?_
  rcases (show v = 0 ∨ v = 1 ∨ v = 2 by omega) with rfl | rfl | rfl
  · exact ⟨fun c => absurd (by decide) c, fun _ => hk⟩
  · exact ⟨fun _ => ⟨fun c => absurd (by decide) c, fun _ => hk⟩, fun c => absurd c (by decide)⟩
  · exact ⟨fun _ => ⟨fun _ => hk, fun c => absurd c (by decide)⟩, fun c => absurd c (by decide)⟩
theorem Words_copy_ok {w L o Lo : Nat} {ws : W3} (h : zWords S w L) (ho : zWords S o Lo) (hap : w + 6 < o ∨ o + 6 < w) (hw : zWd M o ws) (hl : ∀ v, v < 3 → (l3 ws v).length ≤ L ∧ (l3 ws v).length ≤ Lo) (hk : ∀ M', zWd M' w ws → zfi M M' (w + 1) 6 → Φ none S M') : zW E m_Words_copy 1 S M 0 [some (.ref w), some (.ref o)] [] Φ := by
  have b0 := hl 0 (by decide)
  have b1 := hl 1 (by decide)
  have b2 := hl 2 (by decide)
  refine vc_Words_copy_0 E S M w L o Lo Φ h ho ?_
  refine Row_copy_ok h.2.1.2 ho.2.1.2 (by omega) (hw 0 (by decide)) b0.2 b0.1 (fun M1 x1 f1 => ⟨rfl, rfl, ?_⟩)
  have f1 : zfi M M1 (w + 1) 6 := zfi_of f1 (by simp <;> omega)
  have hw1 := zWd_fi hw f1 (by omega)
  refine Row_copy_ok h.2.2.1.2 ho.2.2.1.2 (by omega) (hw1 1 (by decide)) b1.2 b1.1 (fun M2 x2 f2 => ⟨rfl, rfl, ?_⟩)
  have x1' := zRN_keep x1 f2 (by simp <;> omega) (by simp <;> omega)
  have f2 : zfi M1 M2 (w + 1) 6 := zfi_of f2 (by simp <;> omega)
  have hw2 := zWd_fi hw1 f2 (by omega)
  refine Row_copy_ok h.2.2.2.2 ho.2.2.2.2 (by omega) (hw2 2 (by decide)) b2.2 b2.1 (fun M3 x3 f3 => ⟨rfl, rfl, ?_⟩)
  have x1'' := zRN_keep x1' f3 (by simp <;> omega) (by simp <;> omega)
  have x2' := zRN_keep x2 f3 (by simp <;> omega) (by simp <;> omega)
  have f3 : zfi M2 M3 (w + 1) 6 := zfi_of f3 (by simp <;> omega)
  refine hk M3 (fun v hv => ?_) (zfi_tr f1 (zfi_tr f2 f3))
  rcases (show v = 0 ∨ v = 1 ∨ v = 2 by omega) with rfl | rfl | rfl
  · exact x1''
  · exact x2'
  · exact x3
theorem Words_together_ok {w L : Nat} {ws : W3} (h : zWords S w L) (hw : zWd M w ws) (hk : Φ (some (.int (nI (ws.1.length + ws.2.1.length + ws.2.2.length)))) S M) : zW E m_Words_together 1 S M 0 [some (.ref w)] [] Φ := by
  refine vc_Words_together_0 E S M w L Φ h ?_
  refine Row_size_ok h.2.1.2 (hw 0 (by decide)) ⟨_, rfl, rfl, Row_size_ok h.2.2.1.2 (hw 1 (by decide)) ⟨_, rfl, rfl, Row_size_ok h.2.2.2.2 (hw 2 (by decide)) ⟨_, rfl, rfl, ?_⟩⟩⟩
  rw [nI_add, nI_add]
  exact hk
theorem nI_max {a b : Nat} (ha : a < 2 ^ 31) (hb : b < 2 ^ 31) : (if nI a < nI b then nI b else nI a) = nI (max a b) := by
  by_cases c : a < b
  · rw [if_pos ((nI_ltI ha hb).mpr c)]
    congr 1
    omega
  · rw [if_neg (fun q => c ((nI_ltI ha hb).mp q))]
    congr 1
    omega
theorem Words_longest_ok {w L : Nat} {ws : W3} (h : zWords S w L) (hw : zWd M w ws) (hl : ∀ v, v < 3 → (l3 ws v).length ≤ L) (hk : Φ (some (.int (nI (max ws.1.length (max ws.2.1.length ws.2.2.length))))) S M) : zW E m_Words_longest 1 S M 0 [some (.ref w)] [] Φ := by
  have hL : L < 2 ^ 31 := h.2.1.2.2.2.2.2
  have b0 : ws.1.length ≤ L := hl 0 (by decide)
  have b1 : ws.2.1.length ≤ L := hl 1 (by decide)
  have b2 : ws.2.2.length ≤ L := hl 2 (by decide)
  refine vc_Words_longest_0 E S M w L Φ h ?_
  refine Row_size_ok h.2.1.2 (hw 0 (by decide)) ⟨_, rfl, rfl, Row_size_ok h.2.2.1.2 (hw 1 (by decide)) ⟨_, rfl, rfl, Row_size_ok h.2.2.2.2 (hw 2 (by decide)) ⟨_, rfl, rfl, ?_⟩⟩⟩
  have e1 : (if nI (l3 ws 1).length < nI (l3 ws 2).length then nI (l3 ws 2).length else nI (l3 ws 1).length) = nI (max ws.2.1.length ws.2.2.length) := nI_max (Nat.lt_of_le_of_lt b1 hL) (Nat.lt_of_le_of_lt b2 hL)
  rw [e1]
  have e2 : (if nI (l3 ws 0).length < nI (max ws.2.1.length ws.2.2.length) then nI (max ws.2.1.length ws.2.2.length) else nI (l3 ws 0).length) = nI (max ws.1.length (max ws.2.1.length ws.2.2.length)) := nI_max (Nat.lt_of_le_of_lt b0 hL) (by omega)
  rw [e2]
  exact hk
/-- a row of symbols, with the words for its variables -/
def out (ws : W3) (xs : List Nat) : List Nat := xs.flatMap (fun s => if s < 2 then [s] else l3 ws (s - 2))
theorem out_snoc (ws : W3) (xs : List Nat) (s : Nat) : out ws (xs ++ [s]) = out ws xs ++ (if s < 2 then [s] else l3 ws (s - 2)) := by
  unfold out
  rw [List.flatMap_append]
  simp
theorem out_len {ws : W3} {B : Nat} (hb : 1 ≤ B) (hw : ∀ v, v < 3 → (l3 ws v).length ≤ B) : ∀ (xs : List Nat), (∀ s ∈ xs, s < 5) → (out ws xs).length ≤ B * xs.length
  | [], _ => by simp [out]
  | s :: xs, h => by
    have ih := out_len hb hw xs (fun y hy => h y (List.mem_cons_of_mem _ hy))
    have hs : s < 5 := h s List.mem_cons_self
    have e : out ws (s :: xs) = (if s < 2 then [s] else l3 ws (s - 2)) ++ out ws xs := by simp [out]
    rw [e, List.length_append, List.length_cons, Nat.mul_add]
    have : (if s < 2 then [s] else l3 ws (s - 2)).length ≤ B := by
      split
      · exact hb
      · exact hw _ (by omega)
    omega
theorem Words_spellOut_loop {w L r Lr o Lo : Nat} {ws : W3} {xs : List Nat} (h : zWords S w L) (hr : zRow S r Lr) (ho : zRow S o Lo) (ha1 : o + 1 < r ∨ r + 1 < o) (ha2 : o + 1 < w ∨ w + 6 < o) (hl : ∀ v, v < 3 → (l3 ws v).length ≤ 12 ∧ (l3 ws v).length ≤ L) (hx : xs.length ≤ Lr ∧ xs.length ≤ 12) (hs : ∀ s ∈ xs, s < 5) (hLo : 144 ≤ Lo) (M0 : ZM) (hk : ∀ M', zRN M' o (out ws xs) → zfr M0 M' [o, o + 1] → Φ none S M') :
    ∀ (n j : Nat) (M : ZM), j + n = xs.length → zRN M r xs → zWd M w ws → zRN M o (out ws (xs.take j)) → zfr M0 M [o, o + 1] → zW E m_Words_spellOut 1 S M 6 [some (.ref w), some (.ref r), some (.ref o), some (.int (nI j)), none] [] Φ := by
  have hL2 : Lo < 2 ^ 31 := ho.2.2.2.2
  intro n
  induction n with
  | zero =>
    intro j M hj h1 h2 h3 hf
    rw [List.take_of_length_le (by omega)] at h3
    refine vc_Words_spellOut_6 E S M w L r Lr o Lo (nI j) Φ h hr ho (Row_size_ok hr h1 ⟨_, rfl, rfl, fun _ => hk M h3 hf, fun c => absurd (nI_le (by omega) (by omega)) c⟩)
  | succ n ih =>
    intro j M hj h1 h2 h3 hf
    have hjl : j < xs.length := by omega
    have hs5 := getD_mem_lt hs hjl
    have hlen : (out ws (xs.take j)).length ≤ 12 * j := by
      refine Nat.le_trans (out_len (B := 12) (by decide) (fun v hv => (hl v hv).1) _ (fun s hs' => hs s (List.mem_of_mem_take hs'))) ?_
      rw [List.length_take]
      omega
    refine vc_Words_spellOut_6 E S M w L r Lr o Lo (nI j) Φ h hr ho (Row_size_ok hr h1 ⟨_, rfl, rfl, fun c => absurd c (nI_ge (by omega) (by omega)), fun _ => Row_at_ok hr h1 hx.1 ⟨_, rfl, rfl, ?_⟩⟩)
    rw [zat_nI hjl (by omega)]
    refine ⟨fun c => ?_, fun c => ?_⟩
    · have c : 2 ≤ xs.getD j 0 := (nI_leI (a := 2) (by decide) (by omega)).mp c
      have e : nI (xs.getD j 0) - 2 = nI (xs.getD j 0 - 2) := pk_sub (b := 2) c
      rw [e]
      have hv : xs.getD j 0 - 2 < 3 := by omega
      refine Words_of_ok h hv ⟨_, L, rfl, rfl, zWords_row h hv, ?_⟩
      have hb := hl _ hv
      refine Row_add_ok ho (zWords_row h hv) (by omega) h3 (h2 _ hv) hb.2 (by omega) (fun M1 x1 f1 => ⟨rfl, rfl, ?_⟩)
      rintro _ rfl
      rw [nI_1]
      have f1' : zfi M M1 o 2 := zfi_of f1 (by simp)
      refine ih (j + 1) _ (by omega) (zRN_fi h1 f1' (by omega)) (zWd_fi h2 f1' (by omega)) ?_ (zfr_tr hf f1)
      rw [take_succ' hjl, out_snoc, if_neg (by omega)]
      exact x1
    · have c : ¬ 2 ≤ xs.getD j 0 := fun q => c ((nI_leI (a := 2) (by decide) (by omega)).mpr q)
      refine Row_push_ok ho h3 (by omega) (fun hlt M1 x1 f1 => ⟨1, rfl, rfl, ?_⟩) (fun he => absurd he (by omega))
      rintro _ rfl
      rw [nI_1]
      have f1' : zfi M M1 o 2 := zfi_of f1 (by simp)
      refine ih (j + 1) _ (by omega) (zRN_fi h1 f1' (by omega)) (zWd_fi h2 f1' (by omega)) ?_ (zfr_tr hf f1)
      rw [take_succ' hjl, out_snoc, if_pos (by omega)]
      exact x1
theorem Words_spellOut_ok {w L r Lr o Lo : Nat} {ws : W3} {xs : List Nat} (h : zWords S w L) (hr : zRow S r Lr) (ho : zRow S o Lo) (ha1 : o + 1 < r ∨ r + 1 < o) (ha2 : o + 1 < w ∨ w + 6 < o) (h1 : zRN M r xs) (h2 : zWd M w ws) (hl : ∀ v, v < 3 → (l3 ws v).length ≤ 12 ∧ (l3 ws v).length ≤ L) (hx : xs.length ≤ Lr ∧ xs.length ≤ 12) (hs : ∀ s ∈ xs, s < 5) (hLo : 144 ≤ Lo) (hk : ∀ M', zRN M' o (out ws xs) → zfr M M' [o, o + 1] → Φ none S M') : zW E m_Words_spellOut 1 S M 0 [some (.ref w), some (.ref r), some (.ref o), none, none] [] Φ := by
  refine vc_Words_spellOut_0 E S M w L r Lr o Lo Φ h hr ho (Row_makeEmpty_ok ho (fun M1 x1 f1 => ⟨rfl, rfl, ?_⟩))
  have f1' : zfi M M1 o 2 := zfi_of f1 (by simp)
  exact Words_spellOut_loop h hr ho ha1 ha2 hl hx hs hLo M hk xs.length 0 M1 (by omega) (zRN_fi h1 f1' (by omega)) (zWd_fi h2 f1' (by omega)) x1 (zfr_mono f1 (by simp))
theorem Arr_fill_loop {a N : Nat} {v : Int32} (ha : zArr S a N) (M0 : ZM) (hk : ∀ M', (∀ i, i < N → M' a i = v) → zfr M0 M' [a] → Φ none S M') :
    ∀ (n j : Nat) (M : ZM), j + n = N → (∀ i, i < j → M a i = v) → zfr M0 M [a] → zW E m_Arr_fill 0 S M 5 [some (.ref a), some (.int v), some (.int (nI j)), some (.int (nI N))] [] Φ := by
  have hN : N < 2 ^ 31 := ha.2.2
  intro n
  induction n with
  | zero =>
    intro j M hj hi hf
    exact vc_Arr_fill_5 E S M a N v (nI j) (nI N) Φ ha ⟨fun _ => hk M (fun i h => hi i (by omega)) hf, fun c => absurd (nI_le (by omega) (by omega)) c⟩
  | succ n ih =>
    intro j M hj hi hf
    refine vc_Arr_fill_5 E S M a N v (nI j) (nI N) Φ ha ⟨fun c => absurd c (nI_ge (by omega) (by omega)), fun _ => ⟨j, by omega, rfl, ?_⟩⟩
    rintro _ rfl _ rfl
    rw [nI_1]
    refine ih (j + 1) _ (by omega) (fun i h => ?_) (zfr_tr hf (zfr_ms _ _ _ _ (by simp)))
    by_cases e : i = j
    · subst e
      rw [zms_s]
    · rw [zms_k _ _ e, hi i (by omega)]
theorem Arr_fill_ok {a N : Nat} {v : Int32} (ha : zArr S a N) (hk : ∀ M', (∀ i, i < N → M' a i = v) → zfr M M' [a] → Φ none S M') : zW E m_Arr_fill 0 S M 0 [some (.ref a), some (.int v), none, none] [] Φ := by
  refine vc_Arr_fill_0 E S M a N v Φ ha ?_
  rintro _ rfl
  exact Arr_fill_loop ha M hk N 0 M (by omega) (fun i h => absurd h (Nat.not_lt_zero _)) (zfr_rfl _ _)
/-! the book -/
abbrev AB : Type := (List Nat × List Nat) × (Nat → Nat) × T3 × W3
def okB (B : AB) : Prop := (B.1.1.length ≤ 12 ∧ ∀ s ∈ B.1.1, s < 5) ∧ (B.1.2.length ≤ 12 ∧ ∀ s ∈ B.1.2, s < 5) ∧ okg B.2.1 ∧ okn B.2.2.1 ∧ okw B.2.2.2 12
def zBk (M : ZM) (b : Nat) (B : AB) : Prop := zRN M (b + 1) B.1.1 ∧ zRN M (b + 3) B.1.2 ∧ zGo M (b + 5) B.2.1 ∧ zWd M (b + 7) B.2.2.2 ∧ M b 4 = nI (pkn B.2.2.1)
theorem zBk_fi {M M' : ZM} {b lo n : Nat} {B : AB} (h : zBk M b B) (hf : zfi M M' lo n) (h1 : b + 13 < lo ∨ lo + n ≤ b) : zBk M' b B := by
  obtain ⟨h2, h3, h4, h5, h6⟩ := h
  exact ⟨zRN_fi h2 hf (by omega), zRN_fi h3 hf (by omega), fun k hk => by rw [hf _ (by omega)]; exact h4 k hk, zWd_fi h5 hf (by omega), by rw [hf _ (by omega)]; exact h6⟩
theorem Book_copy_ok {b o : Nat} {B : AB} (hb : zBook S b) (ho : zBook S o) (hap : b + 13 < o ∨ o + 13 < b) (hB : okB B) (hM : zBk M o B) (hk : ∀ M', zBk M' b B → M' b 5 = M b 5 → zfi M M' b 14 → Φ none S M') : zW E m_Book_copy 2 S M 0 [some (.ref b), some (.ref o)] [] Φ := by
  obtain ⟨q1, q2, q3, q4, q5⟩ := hB
  obtain ⟨a1, ⟨a2, a3⟩, ⟨a4, a5⟩, ⟨a6, a7⟩, ⟨a8, a9⟩⟩ := hb
  obtain ⟨b1, ⟨b2, b3⟩, ⟨b4, b5⟩, ⟨b6, b7⟩, ⟨b8, b9⟩⟩ := ho
  refine vc_Book_copy_0 E S M b o Φ ⟨a1, ⟨a2, a3⟩, ⟨a4, a5⟩, ⟨a6, a7⟩, ⟨a8, a9⟩⟩ ⟨b1, ⟨b2, b3⟩, ⟨b4, b5⟩, ⟨b6, b7⟩, ⟨b8, b9⟩⟩ ?_
  refine Row_copy_ok a3 b3 (by omega) hM.1 q1.1 q1.1 (fun M1 x1 f1 => ⟨rfl, rfl, ?_⟩)
  have f1' : zfi M M1 (b + 1) 2 := zfi_of f1 (by simp <;> omega)
  have g1 := zBk_fi hM f1' (by omega)
  refine Row_copy_ok a5 b5 (by omega) g1.2.1 q2.1 q2.1 (fun M2 x2 f2 => ⟨rfl, rfl, ?_⟩)
  have f2' : zfi M1 M2 (b + 3) 2 := zfi_of f2 (by simp <;> omega)
  have g2 := zBk_fi g1 f2' (by omega)
  refine Machine_copy_ok a7 b7 (by omega) g2.2.2.1 (fun M3 x3 f3 => ⟨rfl, rfl, ?_⟩)
  have f3' : zfi M2 M3 (b + 6) 1 := zfi_of f3 (by simp)
  have g3 := zBk_fi g2 f3' (by omega)
  refine Words_copy_ok a9 b9 (by omega) g3.2.2.2.1 (fun v hv => ⟨(q5 v hv).1, (q5 v hv).1⟩) (fun M4 x4 f4 => ⟨rfl, rfl, ?_⟩)
  have g4 := zBk_fi g3 f4 (by omega)
  rintro _ rfl
  have f5 : zfi M4 (zms M4 b 4 (M4 o 4)) b 1 := zfi_of (zfr_ms _ _ _ _ (A := [b]) (by simp)) (by simp)
  have all : zfi M (zms M4 b 4 (M4 o 4)) b 14 := zfi_tr (zfi_mono f1' (by omega) (by omega)) (zfi_tr (zfi_mono f2' (by omega) (by omega)) (zfi_tr (zfi_mono f3' (by omega) (by omega)) (zfi_tr (zfi_mono f4 (by omega) (by omega)) (zfi_mono f5 (by omega) (by omega)))))
  refine hk _ ⟨zRN_fi (zRN_fi (zRN_fi (zRN_fi x1 f2' (by omega)) f3' (by omega)) f4 (by omega)) f5 (by omega), zRN_fi (zRN_fi (zRN_fi x2 f3' (by omega)) f4 (by omega)) f5 (by omega), fun k hk => ?_, zWd_fi x4 f5 (by omega), ?_⟩ ?_ all
  · rw [f5 _ (by omega), f4 _ (by omega)]
    exact x3 k hk
  · rw [zms_s]
    exact g4.2.2.2.2
  · rw [zms_k _ _ (by decide), f4 _ (by omega), f3' _ (by omega), f2' _ (by omega), f1' _ (by omega)]
/-- where a word leads -/
def wmp (g : Nat → Nat) (w : List Nat) : T3 := w.foldl (fun t l => stp g l t) (0, 1, 2)
theorem wmp_ok {g : Nat → Nat} (hg : okg g) : ∀ (w : List Nat), (∀ y ∈ w, y < 2) → ∀ t, ok3 t → ok3 (w.foldl (fun t l => stp g l t) t)
  | [], _, t, ht => ht
  | l :: w, h, t, ht => wmp_ok hg w (fun y hy => h y (List.mem_cons_of_mem _ hy)) _ (ok3_stp hg ht (h l List.mem_cons_self))
theorem Book_mapOf_loop {b r L : Nat} {B : AB} {xs : List Nat} (hb : zBook S b) (hr : zRow S r L) (hB : okB B) (hM : zBk M b B) (hx : zRN M r xs) (hl : xs.length ≤ L) (hxs : ∀ y ∈ xs, y < 2) (h : Φ (some (.int (nI (mb (wmp B.2.1 xs))))) S M) :
    ∀ (n j : Nat), j + n = xs.length → zW E m_Book_mapOf 2 S M 6 [some (.ref b), some (.ref r), some (.int (nI (mb (wmp B.2.1 (xs.take j))))), some (.int (nI j))] [] Φ := by
  have hL : L < 2 ^ 31 := hr.2.2.2.2
  intro n
  induction n with
  | zero =>
    intro j hj
    rw [List.take_of_length_le (by omega)]
    exact vc_Book_mapOf_6 E S M b r L _ _ Φ hb hr (Row_size_ok hr hx ⟨_, rfl, rfl, fun _ => h, fun c => absurd (nI_le (by omega) (by omega)) c⟩)
  | succ n ih =>
    intro j hj
    have hjl : j < xs.length := by omega
    refine vc_Book_mapOf_6 E S M b r L _ _ Φ hb hr (Row_size_ok hr hx ⟨_, rfl, rfl, fun c => absurd c (nI_ge (by omega) (by omega)), fun _ => Row_at_ok hr hx hl ⟨_, rfl, rfl, ?_⟩⟩)
    rw [zat_nI hjl (by omega)]
    refine Machine_mapBehind_ok hb.2.2.2.1.2 hM.2.2.1 hB.2.2.1 (wmp_ok hB.2.2.1 _ (fun y hy => hxs y (List.mem_of_mem_take hy)) _ ⟨by decide, by decide, by decide⟩) (getD_mem_lt hxs hjl) ⟨_, rfl, rfl, ?_⟩
    rintro _ rfl
    rw [nI_1]
    have := ih (j + 1) (by omega)
    rw [take_succ' hjl, wmp, List.foldl_append] at this
    exact this
theorem Book_mapOf_ok {b r L : Nat} {B : AB} {xs : List Nat} (hb : zBook S b) (hr : zRow S r L) (hB : okB B) (hM : zBk M b B) (hx : zRN M r xs) (hl : xs.length ≤ L) (hxs : ∀ y ∈ xs, y < 2) (h : Φ (some (.int (nI (mb (wmp B.2.1 xs))))) S M) : zW E m_Book_mapOf 2 S M 0 [some (.ref b), some (.ref r), none, none] [] Φ :=
  vc_Book_mapOf_0 E S M b r L Φ hb hr (Book_mapOf_loop hb hr hB hM hx hl hxs h xs.length 0 (by omega))
/-- whether words are as their needs have them -/
def meets (g : Nat → Nat) (n : T3) (ws : W3) : Bool := allow (t3 n 0) (wmp g (l3 ws 0)) && allow (t3 n 1) (wmp g (l3 ws 1)) && allow (t3 n 2) (wmp g (l3 ws 2))
theorem meets_iff {g : Nat → Nat} {n : T3} {ws : W3} : meets g n ws = true ↔ ∀ v, v < 3 → allow (t3 n v) (wmp g (l3 ws v)) = true := by
  unfold meets
  rw [Bool.and_eq_true, Bool.and_eq_true]
  constructor
  · rintro ⟨⟨h0, h1⟩, h2⟩ v hv
    rcases (show v = 0 ∨ v = 1 ∨ v = 2 by omega) with rfl | rfl | rfl
    · exact h0
    · exact h1
    · exact h2
  · exact fun h => ⟨⟨h 0 (by decide), h 1 (by decide)⟩, h 2 (by decide)⟩
theorem Book_wordsMeetNeeds_loop {b : Nat} {B : AB} (hb : zBook S b) (hB : okB B) (hM : zBk M b B) (h : Φ (some (.int (if meets B.2.1 B.2.2.1 B.2.2.2 = true then 1 else 0))) S M) :
    ∀ (n j : Nat), j + n = 3 → (∀ v, v < j → allow (t3 B.2.2.1 v) (wmp B.2.1 (l3 B.2.2.2 v)) = true) → zW E m_Book_wordsMeetNeeds 3 S M 2 [some (.ref b), some (.int (nI j))] [] Φ := by
  intro n
  induction n with
  | zero =>
    intro j hj hi
    have : j = 3 := by omega
    subst this
    rw [if_pos (meets_iff.mpr hi)] at h
    exact vc_Book_wordsMeetNeeds_2 E S M b _ Φ hb ⟨fun _ => h, fun c => absurd (by decide) c⟩
  | succ n ih =>
    intro j hj hi
    have hj3 : j < 3 := by omega
    have hw := hB.2.2.2.2 j hj3
    refine vc_Book_wordsMeetNeeds_2 E S M b _ Φ hb ⟨fun c => absurd c (nI_ge (b := 3) (by omega) (by decide)), fun _ => ?_⟩
    rw [hM.2.2.2.2]
    refine Need_ofVariable_ok hB.2.2.2.1 hj3 ⟨_, rfl, rfl, Words_of_ok hb.2.2.2.2.2 hj3 ⟨_, 12, rfl, rfl, zWords_row hb.2.2.2.2.2 hj3, Book_mapOf_ok hb (zWords_row hb.2.2.2.2.2 hj3) hB hM (hM.2.2.2.1 j hj3) hw.1 hw.2 ⟨_, rfl, rfl, ?_⟩⟩⟩
    refine Need_allows_ok (okn_t3 hB.2.2.2.1 _) (wmp_ok hB.2.2.1 _ hw.2 _ ⟨by decide, by decide, by decide⟩) ⟨_, rfl, rfl, ?_⟩
    by_cases c : allow (t3 B.2.2.1 j) (wmp B.2.1 (l3 B.2.2.2 j)) = true
    · rw [if_pos c]
      refine ⟨fun _ => ?_, fun q => absurd q (by decide)⟩
      rintro _ rfl
      rw [nI_1]
      refine ih (j + 1) (by omega) (fun v hv => ?_)
      by_cases e : v = j
      · rw [e]; exact c
      · exact hi v (by omega)
    · rw [if_neg c]
      refine ⟨fun q => absurd rfl q, fun _ => ?_⟩
      rw [if_neg (fun q => c (meets_iff.mp q j hj3))] at h
      exact h
theorem Book_wordsMeetNeeds_ok {b : Nat} {B : AB} (hb : zBook S b) (hB : okB B) (hM : zBk M b B) (h : Φ (some (.int (if meets B.2.1 B.2.2.1 B.2.2.2 = true then 1 else 0))) S M) : zW E m_Book_wordsMeetNeeds 3 S M 0 [some (.ref b), none] [] Φ :=
  vc_Book_wordsMeetNeeds_0 E S M b Φ hb (Book_wordsMeetNeeds_loop hb hB hM h 3 0 rfl (fun v hv => absurd hv (Nat.not_lt_zero _)))
end WORDS
