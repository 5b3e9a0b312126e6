/-! Trial.seekLast -/
def fz (x y z s : Nat) : Nat := if s = 0 then 1 else if s = 1 then 2 else if s = 2 then x else if s = 3 then y else z
theorem fz_lt {x y z : Nat} (hx : x < 15) (hy : y < 15) (hz : z < 15) (s : Nat) : fz x y z s < 15 := by
  unfold fz
  split
  · decide
  · split
    · decide
    · split
      · exact hx
      · split
        · exact hy
        · exact hz
/-- three words are as they must be -/
def gdz (B : AB) (x y z : Nat) : Bool := aok B.2.1 (t3 B.2.2.1 2) z && decide (outf (fz x y z) B.1.1 = outf (fz x y z) B.1.2)
def gd (B : AB) (x y z : Nat) : Bool := aok B.2.1 (t3 B.2.2.1 0) x && aok B.2.1 (t3 B.2.2.1 1) y && gdz B x y z
theorem szw_iff : ∀ s, s < 4 → ∀ z, z < 15 → (szw z = s ↔ 2 ^ s - 1 ≤ z ∧ z < 2 * 2 ^ s - 1) := by decide +kernel
theorem pow_lt : ∀ s, s < 4 → 1 ≤ 2 ^ s ∧ 2 * 2 ^ s - 1 ≤ 15 := by decide +kernel
section SEEK
variable {E : ZE} {k : Nat} {Φ : Option Value → ZS → ZM → Prop} {B : AB}
/-- what is tried for symbols below j -/
def zTx (M : ZM) (f : Nat → Nat) (j : Nat) : Prop := ∀ s, s < j → zTd M s (szw (f s)) (f s + 1 - 2 ^ szw (f s))
theorem seekLast_loop {x y c : Nat} (hB : okB B) (hx : x < 15) (hy : y < 15) (hc : c < 4) {M0 : ZM} (h0 : (∀ z, z < 15 → szw z = c → gdz B x y z = false) → ∀ M', zTx M' (fz x y 0) 4 → zfr M0 M' [72, 73] → Φ (some (.int 0)) (zSt k) M') (h1 : ∀ z, z < 15 → szw z = c → gdz B x y z = true → (∀ z', z' < z → szw z' = c → gdz B x y z' = false) → ∀ M', zTs M' (fz x y z) → zfr M0 M' [72, 73] → Φ (some (.int 1)) (zSt k) M') :
    ∀ (n z : Nat) (M : ZM), z + n = 2 * 2 ^ c - 1 → 2 ^ c - 1 ≤ z → (∀ z', z' < z → szw z' = c → gdz B x y z' = false) → zBk M 3 B → zAl M B.2.1 B.2.2.1 3 → zTx M (fz x y 0) 4 → zfr M0 M [72, 73] → zW E m_Trial_seekLast 2 (zSt k) M 6 [some (.ref 69), some (.ref 3), some (.int (nI c)), some (.int (nI z))] [] Φ
  | 0, z, M, hz, hz0, hno, hM, ha, ht, hf => by
    obtain ⟨p1, p2⟩ := pow_lt c hc
    refine vc_Trial_seekLast_6 E k M 3 _ _ Φ (ts_3 k) ?_
    rw [(shl1 c hc).2, show nI (2 * 2 ^ c) - 1 = nI (2 * 2 ^ c - 1) from pk_sub (b := 1) (by omega)]
    refine ⟨fun _ => h0 (fun z' h15 hs => hno z' ?_ hs) M ht hf, fun q => absurd (nI_le (by omega) (by omega)) q⟩
    have := (szw_iff c hc z' h15).mp hs
    omega
  | n + 1, z, M, hz, hz0, hno, hM, ha, ht, hf => by
    obtain ⟨p1, p2⟩ := pow_lt c hc
    have hz15 : z < 15 := by omega
    have hsz : szw z = c := (szw_iff c hc z hz15).mpr ⟨hz0, by omega⟩
    refine vc_Trial_seekLast_6 E k M 3 _ _ Φ (ts_3 k) ?_
    rw [(shl1 c hc).2, show nI (2 * 2 ^ c) - 1 = nI (2 * 2 ^ c - 1) from pk_sub (b := 1) (by omega)]
    refine ⟨fun q => absurd q (nI_ge (by omega) (by omega)), fun _ => ?_⟩
    have nxt : gdz B x y z = false → ∀ z', z' < z + 1 → szw z' = c → gdz B x y z' = false := by
      intro hg z' h1 h2
      by_cases e : z' = z
      · rw [e]; exact hg
      · exact hno z' (by omega) h2
    refine choose_ok (v := 2) (by decide) hz15 ha (fun hno2 => ⟨0, rfl, rfl, fun _ => ?_, fun q => absurd rfl q⟩) (fun hok M2 t2 o2 f2 => ⟨1, rfl, rfl, fun q => absurd q (by decide), fun _ => ?_⟩)
    · rintro _ rfl
      rw [nI_1]
      exact seekLast_loop hB hx hy hc h0 h1 n (z + 1) M (by omega) (by omega) (nxt (by unfold gdz; rw [hno2]; rfl)) hM ha ht hf
    · have hM2 : zBk M2 3 B := ⟨zRN_keep hM.1 f2 (by decide) (by decide), zRN_keep hM.2.1 f2 (by decide) (by decide), zGo_keep hM.2.2.1 f2 (by decide), fun v hv => zRN_keep (hM.2.2.2.1 v hv) f2 (by simp; omega) (by simp; omega), by rw [f2 3 (by decide)]; exact hM.2.2.2.2⟩
      have ha2 : zAl M2 B.2.1 B.2.2.1 3 := fun v hv i hi => by rw [f2 71 (by decide)]; exact ha v hv i hi
      have ht2 : zTx M2 (fz x y 0) 4 := fun s hs => by
        obtain ⟨q1, q2⟩ := o2 s (by omega)
        unfold zTd
        rw [q1, q2]
        exact ht s hs
      have hts : zTs M2 (fz x y z) := fun s hs => by
        by_cases e : s = 4
        · subst e; exact t2
        · have e1 : fz x y z s = fz x y 0 s := by
            rcases (show s = 0 ∨ s = 1 ∨ s = 2 ∨ s = 3 by omega) with rfl | rfl | rfl | rfl <;> rfl
          rw [e1]
          exact ht2 s (by omega)
      have hfl := fz_lt hx hy hz15
      refine spelled_ok hfl (ts_4 k) hB.1.1 hB.1.1 hB.1.2 hM2.1 hts ⟨_, rfl, rfl, ?_⟩
      refine spelled_ok hfl (ts_6 k) hB.2.1.1 hB.2.1.1 hB.2.1.2 hM2.2.1 hts ⟨_, rfl, rfl, ?_⟩
      rw [l_cmp, bvl_eq hfl hB.1.1 hB.2.1.1]
      refine ⟨fun q => ?_, fun q => h1 z hz15 hsz ?_ hno M2 hts (zfr_tr hf f2)⟩
      · rintro _ rfl
        rw [nI_1]
        exact seekLast_loop hB hx hy hc h0 h1 n (z + 1) M2 (by omega) (by omega) (nxt (by unfold gdz; rw [hok]; simpa using q)) hM2 ha2 ht2 (zfr_tr hf f2)
      · unfold gdz
        rw [hok]
        simpa using q
theorem seekLast_ok {x y c : Nat} {M : ZM} (hB : okB B) (hx : x < 15) (hy : y < 15) (hc : c < 4) (hM : zBk M 3 B) (ha : zAl M B.2.1 B.2.2.1 3) (ht : zTx M (fz x y 0) 4) (h0 : (∀ z, z < 15 → szw z = c → gdz B x y z = false) → ∀ M', zTx M' (fz x y 0) 4 → zfr M M' [72, 73] → Φ (some (.int 0)) (zSt k) M') (h1 : ∀ z, z < 15 → szw z = c → gdz B x y z = true → (∀ z', z' < z → szw z' = c → gdz B x y z' = false) → ∀ M', zTs M' (fz x y z) → zfr M M' [72, 73] → Φ (some (.int 1)) (zSt k) M') : zW E m_Trial_seekLast 2 (zSt k) M 0 [some (.ref 69), some (.ref 3), some (.int (nI c)), none] [] Φ := by
  obtain ⟨p1, p2⟩ := pow_lt c hc
  refine vc_Trial_seekLast_0 E k M 3 _ Φ (ts_3 k) ?_
  rw [(shl1 c hc).1, show nI (2 ^ c) - 1 = nI (2 ^ c - 1) from pk_sub (b := 1) (by omega)]
  rintro _ rfl
  refine seekLast_loop hB hx hy hc h0 h1 (2 ^ c) (2 ^ c - 1) M (by omega) (Nat.le_refl _) (fun z' q hs => ?_) hM ha ht (zfr_rfl _ _)
  have := (szw_iff c hc z' (by omega)).mp hs
  omega
/-- how long a row becomes -/
theorem outf_cnt {f : Nat → Nat} (hf : ∀ s, f s < 15) (f0 : f 0 = 1) (f1 : f 1 = 2) : ∀ xs : List Nat, (∀ s ∈ xs, s < 5) → ((outf f xs).length : Int) = xs.count 0 + xs.count 1 + szw (f 2) * xs.count 2 + szw (f 3) * xs.count 3 + szw (f 4) * xs.count 4
  | [], _ => by simp [outf]
  | a :: xs, h => by
    have ih := outf_cnt hf f0 f1 xs (fun s q => h s (List.mem_cons_of_mem _ q))
    have ha := h a List.mem_cons_self
    have e : outf f (a :: xs) = wLw (f a) ++ outf f xs := by simp [outf]
    have hw := wLw_len (f a) (hf a)
    rw [e, List.length_append, hw, Int.natCast_add, ih]
    have s0 : szw 1 = 1 := rfl
    have s1 : szw 2 = 1 := rfl
    rcases (show a = 0 ∨ a = 1 ∨ a = 2 ∨ a = 3 ∨ a = 4 by omega) with rfl | rfl | rfl | rfl | rfl <;> simp [List.count_cons, f0, f1, s0, s1, Int.mul_add] <;> omega
end SEEK
