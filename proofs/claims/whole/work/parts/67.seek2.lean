/-! Trial.seekOfSize -/
section SEEK2
variable {E : ZE} {k : Nat} {Φ : Option Value → ZS → ZM → Prop} {B : AB}
theorem gdz_len {x y z : Nat} (hB : okB B) (hx : x < 15) (hy : y < 15) (hz : z < 15) (h : gdz B x y z = true) : (szw x : Int) * tSur B 2 + szw y * tSur B 3 + szw z * tSur B 4 = -(tSur B 0) - tSur B 1 := by
  unfold gdz at h
  simp only [Bool.and_eq_true, decide_eq_true_eq] at h
  have hf := fz_lt hx hy hz
  have a := outf_cnt hf rfl rfl B.1.1 hB.1.2
  have b := outf_cnt hf rfl rfl B.1.2 hB.2.1.2
  rw [h.2] at a
  have e2 : fz x y z 2 = x := rfl
  have e3 : fz x y z 3 = y := rfl
  have e4 : fz x y z 4 = z := rfl
  rw [e2, e3, e4] at a b
  unfold tSur
  rw [Int.mul_sub, Int.mul_sub, Int.mul_sub]
  omega
def szt (x y z : Nat) : Nat := szw x + szw y + szw z
/-- the state of a search: the book, the tally, what is allowed -/
def zSk (B : AB) (M : ZM) : Prop := zBk M 3 B ∧ zAl M B.2.1 B.2.2.1 3 ∧ zTl M (tTim B) (tSur B)
theorem zSk_keep {M M' : ZM} (h : zSk B M) (f : zfr M M' [72, 73]) : zSk B M' := by
  obtain ⟨hM, ha, ht⟩ := h
  refine ⟨⟨zRN_keep hM.1 f (by decide) (by decide), zRN_keep hM.2.1 f (by decide) (by decide), zGo_keep hM.2.2.1 f (by decide), fun v hv => zRN_keep (hM.2.2.2.1 v hv) f (by simp; omega) (by simp; omega), by rw [f 3 (by decide)]; exact hM.2.2.2.2⟩, fun v hv i hi => by rw [f 71 (by decide)]; exact ha v hv i hi, fun s hs => ?_⟩
  rw [f 75 (by decide), f 76 (by decide)]
  exact ht s hs
theorem seek_y {x c : Nat} (hB : okB B) (hx : x < 15) (hc : c < 10) (hax : aok B.2.1 (t3 B.2.2.1 0) x = true) {M0 : ZM} (hnx : (∀ y z, y < 15 → z < 15 → szt x y z = c → gd B x y z = false) → ∀ M', zSk B M' → zTx M' (fz 0 0 0) 2 → zfr M0 M' [72, 73] → zW E m_Trial_seekOfSize 3 (zSt k) M' 3 [some (.ref 69), some (.ref 3), some (.ref 74), some (.int (nI c)), some (.int (nI (x + 1))), none, none] [] Φ) (h1 : ∀ y z, y < 15 → z < 15 → szt x y z = c → gd B x y z = true → (∀ y' z', y' < 15 → z' < 15 → 15 * y' + z' < 15 * y + z → szt x y' z' = c → gd B x y' z' = false) → ∀ M', zTs M' (fz x y z) → zfr M0 M' [72, 73] → Φ (some (.int 1)) (zSt k) M') :
    ∀ (n y : Nat) (M : ZM), y + n = 15 → (∀ y' z, y' < y → z < 15 → szt x y' z = c → gd B x y' z = false) → zSk B M → zTx M (fz x 0 0) 3 → zfr M0 M [72, 73] → zW E m_Trial_seekOfSize 3 (zSt k) M 26 [some (.ref 69), some (.ref 3), some (.ref 74), some (.int (nI c)), some (.int (nI x)), some (.int (nI y)), none] [] Φ
  | 0, y, M, hy, hno, hS, ht, hf => by
    have : y = 15 := by omega
    subst this
    refine vc_Trial_seekOfSize_26 E k M 3 _ _ _ Φ (ts_3 k) ⟨fun _ => ?_, fun q => absurd (by decide) q⟩
    rintro _ rfl
    rw [nI_1]
    refine hnx hno M hS (fun s hs => ?_) hf
    have := ht s (by omega)
    rcases (show s = 0 ∨ s = 1 by omega) with rfl | rfl <;> exact this
  | n + 1, y, M, hy, hno, hS, ht, hf => by
    have hy15 : y < 15 := by omega
    refine vc_Trial_seekOfSize_26 E k M 3 _ _ _ Φ (ts_3 k) ⟨fun q => absurd ((nI_leI (a := 15) (by decide) (by omega)).mp q) (by omega), fun _ => ?_⟩
    have go : ∀ M', (∀ z, z < 15 → szt x y z = c → gd B x y z = false) → zSk B M' → zTx M' (fz x 0 0) 3 → zfr M0 M' [72, 73] → ∀ y9 : Int32, y9 = nI y + 1 → zW E m_Trial_seekOfSize 3 (zSt k) M' 26 [some (.ref 69), some (.ref 3), some (.ref 74), some (.int (nI c)), some (.int (nI x)), some (.int y9), none] [] Φ := by
      rintro M' hz hS' ht' hf' _ rfl
      rw [nI_1]
      refine seek_y hB hx hc hax hnx h1 n (y + 1) M' (by omega) (fun y' z h2 h3 h4 => ?_) hS' ht' hf'
      by_cases e : y' = y
      · rw [e] at h4 ⊢; exact hz z h3 h4
      · exact hno y' z (by omega) h3 h4
    obtain ⟨sx1, -, -⟩ := szw_le x hx
    obtain ⟨sy1, -, -⟩ := szw_le y hy15
    refine choose_ok (v := 1) (by decide) hy15 hS.2.1 (fun hno2 => ⟨0, rfl, rfl, fun q => absurd rfl q, fun _ => go M (fun z hz _ => ?_) hS ht hf⟩) (fun hok M3 t3' o3 f3 => ⟨1, rfl, rfl, fun _ => ?_, fun q => absurd q (by decide)⟩)
    · unfold gd; rw [hno2, hax]; rfl
    · have hS3 := zSk_keep hS f3
      have hf3 := zfr_tr hf f3
      have ht3 : zTx M3 (fz x y 0) 4 := fun s hs => by
        by_cases e : s = 3
        · subst e; exact t3'
        · obtain ⟨q1, q2⟩ := o3 s (by omega)
          have e1 : fz x y 0 s = fz x 0 0 s := by
            rcases (show s = 0 ∨ s = 1 ∨ s = 2 by omega) with rfl | rfl | rfl <;> rfl
          rw [e1]
          unfold zTd
          rw [q1, q2]
          exact ht s (by omega)
      have dn : ∀ M', zTx M' (fz x y 0) 4 → zTx M' (fz x 0 0) 3 := fun M' h s hs => by
        have := h s (by omega)
        rcases (show s = 0 ∨ s = 1 ∨ s = 2 by omega) with rfl | rfl | rfl <;> exact this
      refine sizeOf_ok hx ⟨_, rfl, rfl, sizeOf_ok hy15 ⟨_, rfl, rfl, ?_⟩⟩
      have e7 : nI c - nI (szw x) - nI (szw y) = iI ((c : Int) - szw x - szw y) := by rw [iI_nat, iI_nat, iI_nat, iI_sub, iI_sub]
      rw [e7]
      rintro _ rfl
      have l0 : iI ((c : Int) - szw x - szw y) < 0 ↔ (c : Int) - szw x - szw y < 0 := iI_lt (b := 0) (by omega) (by decide)
      have l3 : 3 < iI ((c : Int) - szw x - szw y) ↔ 3 < (c : Int) - szw x - szw y := iI_lt (a := 3) (by decide) (by omega)
      rw [l0, l3]
      refine ⟨fun q => go M3 (fun z hz hs => ?_) hS3 (dn _ ht3) hf3, fun q => ⟨fun q2 => go M3 (fun z hz hs => ?_) hS3 (dn _ ht3) hf3, fun q2 => ?_⟩⟩
      · unfold szt at hs; omega
      · unfold szt at hs
        have := (szw_le z hz).1
        omega
      · obtain ⟨r, er⟩ : ∃ r : Nat, (c : Int) - szw x - szw y = r := ⟨c - szw x - szw y, by omega⟩
        have hr : r < 4 := by omega
        have hrz : ∀ z, szt x y z = c ↔ szw z = r := fun z => by unfold szt; omega
        rw [er, ← iI_nat]
        refine sizeOf_ok hx ⟨_, rfl, rfl, sizeOf_ok hy15 ⟨_, rfl, rfl, ?_⟩⟩
        refine vc_Tally_wordsGive_0 E k M3 _ _ _ _ ⟨_, rfl, rfl, ?_⟩
        have rg := tSur_rng hB
        refine lacking_ok (w := 0) (by decide) hS3.2.2 ⟨_, rfl, rfl, ?_⟩ (fun s => by have := rg s; omega)
        rw [if_pos rfl, (hS3.2.2 2 (by decide)).2, (hS3.2.2 3 (by decide)).2, (hS3.2.2 4 (by decide)).2, iI_nat, iI_nat, iI_nat, iI_mul, iI_mul, iI_mul, iI_add, iI_add]
        have r0 := rg 0
        have r1 := rg 1
        have r2 := rg 2
        have r3 := rg 3
        have r4 := rg 4
        have hm : ∀ (a : Nat) (b : Int), a ≤ 3 → -12 ≤ b ∧ b ≤ 12 → -36 ≤ (a : Int) * b ∧ (a : Int) * b ≤ 36 := by
          intro a b ha hb
          rcases (show a = 0 ∨ a = 1 ∨ a = 2 ∨ a = 3 by omega) with rfl | rfl | rfl | rfl <;> constructor <;> omega
        have m2 := hm (szw x) _ sx1 r2
        have m3 := hm (szw y) _ sy1 r3
        have m4 := hm r _ (by omega) r4
        rw [iI_eq (by omega) (by omega)]
        refine ⟨fun q3 => go M3 (fun z hz hs => ?_) hS3 (dn _ ht3) hf3, fun q3 => ?_⟩
        · cases hg : gd B x y z with
          | false => rfl
          | true =>
            exfalso
            apply q3
            have hgz : gdz B x y z = true := by
              unfold gd at hg
              simp only [Bool.and_eq_true] at hg
              exact hg.2
            have := gdz_len hB hx hy15 hz hgz
            rw [(hrz z).mp hs] at this
            exact this
        · refine seekLast_ok hB hx hy15 hr hS3.1 hS3.2.1 ht3 (fun hn M' t' f' => ⟨0, rfl, rfl, fun _ => go M' (fun z hz hs => ?_) (zSk_keep hS3 f') (dn _ t') (zfr_tr hf3 f'), fun q => absurd rfl q⟩) (fun z hz hs hg hmin M' t' f' => ⟨1, rfl, rfl, fun q => absurd q (by decide), fun _ => h1 y z hy15 hz ((hrz z).mpr hs) ?_ (fun y' z' a1 a2 a3 a4 => ?_) M' t' (zfr_tr hf3 f')⟩)
          · unfold gd; rw [hn z hz ((hrz z).mp hs)]; simp
          · unfold gd; rw [hax, hok, hg]; rfl
          · by_cases e : y' = y
            · subst e
              unfold gd
              rw [hmin z' (by omega) ((hrz z').mp a4)]
              simp
            · exact hno y' z' (by omega) a2 a4
theorem seek_x {c : Nat} (hB : okB B) (hc : c < 10) {M0 : ZM} (h0 : (∀ x y z, x < 15 → y < 15 → z < 15 → szt x y z = c → gd B x y z = false) → ∀ M', zSk B M' → zTx M' (fz 0 0 0) 2 → zfr M0 M' [72, 73] → Φ (some (.int 0)) (zSt k) M') (h1 : ∀ x y z, x < 15 → y < 15 → z < 15 → szt x y z = c → gd B x y z = true → (∀ x' y' z', x' < 15 → y' < 15 → z' < 15 → 225 * x' + 15 * y' + z' < 225 * x + 15 * y + z → szt x' y' z' = c → gd B x' y' z' = false) → ∀ M', zTs M' (fz x y z) → zfr M0 M' [72, 73] → Φ (some (.int 1)) (zSt k) M') :
    ∀ (n x : Nat) (M : ZM), x + n = 15 → (∀ x' y z, x' < x → y < 15 → z < 15 → szt x' y z = c → gd B x' y z = false) → zSk B M → zTx M (fz 0 0 0) 2 → zfr M0 M [72, 73] → zW E m_Trial_seekOfSize 3 (zSt k) M 3 [some (.ref 69), some (.ref 3), some (.ref 74), some (.int (nI c)), some (.int (nI x)), none, none] [] Φ
  | 0, x, M, hx, hno, hS, ht, hf => by
    have : x = 15 := by omega
    subst this
    exact vc_Trial_seekOfSize_3 E k M 3 _ _ Φ (ts_3 k) ⟨fun _ => h0 hno M hS ht hf, fun q => absurd (by decide) q⟩
  | n + 1, x, M, hx, hno, hS, ht, hf => by
    have hx15 : x < 15 := by omega
    refine vc_Trial_seekOfSize_3 E k M 3 _ _ Φ (ts_3 k) ⟨fun q => absurd ((nI_leI (a := 15) (by decide) (by omega)).mp q) (by omega), fun _ => ?_⟩
    have nx : (∀ y z, y < 15 → z < 15 → szt x y z = c → gd B x y z = false) → ∀ x' y z, x' < x + 1 → y < 15 → z < 15 → szt x' y z = c → gd B x' y z = false := by
      intro h x' y z a1 a2 a3 a4
      by_cases e : x' = x
      · rw [e] at a4 ⊢; exact h y z a2 a3 a4
      · exact hno x' y z (by omega) a2 a3 a4
    refine choose_ok (v := 0) (by decide) hx15 hS.2.1 (fun hno2 => ⟨0, rfl, rfl, fun q => absurd rfl q, fun _ => ?_⟩) (fun hok M2 t2 o2 f2 => ⟨1, rfl, rfl, fun _ => ?_, fun q => absurd q (by decide)⟩)
    · rintro _ rfl
      rw [nI_1]
      refine seek_x hB hc h0 h1 n (x + 1) M (by omega) (nx (fun y z _ _ _ => ?_)) hS ht hf
      unfold gd; rw [hno2]; rfl
    · refine seek_y (M0 := M0) hB hx15 hc hok (fun hn M' hS' ht' hf' => seek_x hB hc h0 h1 n (x + 1) M' (by omega) (nx hn) hS' ht' hf') (fun y z a1 a2 a3 a4 a5 M' t' f' => h1 x y z hx15 a1 a2 a3 a4 (fun x' y' z' b1 b2 b3 b4 b5 => ?_) M' t' f') 15 0 M2 rfl (fun y' z q => absurd q (by omega)) (zSk_keep hS f2) (fun s hs => ?_) (zfr_tr hf f2)
      · by_cases e : x' = x
        · rw [e] at b5 b4 ⊢
          exact a5 y' z' b2 b3 (by omega) b5
        · exact hno x' y' z' (by omega) b2 b3 b5
      · by_cases e : s = 2
        · subst e; exact t2
        · obtain ⟨q1, q2⟩ := o2 s (by omega)
          have e1 : fz x 0 0 s = fz 0 0 0 s := by
            rcases (show s = 0 ∨ s = 1 by omega) with rfl | rfl <;> rfl
          rw [e1]
          unfold zTd
          rw [q1, q2]
          exact ht s (by omega)
end SEEK2
