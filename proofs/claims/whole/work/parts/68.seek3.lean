/-! Trial.seek, Trial.codeOf -/
def isB (B : AB) (x y z : Nat) : Prop := (x < 15 ∧ y < 15 ∧ z < 15) ∧ gd B x y z = true ∧ ∀ x' y' z', x' < 15 → y' < 15 → z' < 15 → gd B x' y' z' = true → szt x y z < szt x' y' z' ∨ (szt x y z = szt x' y' z' ∧ 225 * x + 15 * y + z ≤ 225 * x' + 15 * y' + z')
def noB (B : AB) : Prop := ∀ x y z, x < 15 → y < 15 → z < 15 → gd B x y z = false
/-- the trial as it stands -/
def zTrl (B : AB) (M : ZM) : Prop := (M 69 4 = -6 ∧ noB B) ∨ ∃ x y z, isB B x y z ∧ M 69 4 = nI (szt x y z) ∧ zTs M (fz x y z)
theorem szt_9 {x y z : Nat} (hx : x < 15) (hy : y < 15) (hz : z < 15) : szt x y z ≤ 9 := by
  have := (szw_le x hx).1
  have := (szw_le y hy).1
  have := (szw_le z hz).1
  unfold szt
  omega
section SEEK3
variable {E : ZE} {k : Nat} {Φ : Option Value → ZS → ZM → Prop} {B : AB}
theorem seek_41 (hB : okB B) {M0 : ZM} (hk : ∀ M', zTrl B M' → zTx M' (fz 0 0 0) 2 → zfr M0 M' [69, 72, 73] → Φ none (zSt k) M') : ∀ (n c : Nat) (M : ZM), c + n = 10 → (∀ x y z, x < 15 → y < 15 → z < 15 → szt x y z < c → gd B x y z = false) → zSk B M → zTx M (fz 0 0 0) 2 → zfr M0 M [69, 72, 73] → zW E m_Trial_seek 4 (zSt k) M 41 [some (.ref 69), some (.ref 3), some (.ref 74), some (.int (nI c))] [] Φ
  | 0, c, M, hc, hno, hS, ht, hf => by
    have : c = 10 := by omega
    subst this
    refine vc_Trial_seek_41 E k M 3 _ Φ (ts_3 k) ⟨fun _ => ?_, fun q => absurd (by decide) q⟩
    rintro _ rfl
    have f : zfr M (zms M 69 4 (-6)) [69] := zfr_ms _ _ _ _ (by simp)
    refine hk _ (Or.inl ⟨zms_s _ _ _ _, fun x y z a1 a2 a3 => hno x y z a1 a2 a3 (by have := szt_9 a1 a2 a3; omega)⟩) (fun s hs => ?_) (zfr_tr hf (zfr_mono f (by simp)))
    unfold zTd
    rw [f 72 (by decide), f 73 (by decide)]
    exact ht s hs
  | n + 1, c, M, hc, hno, hS, ht, hf => by
    have hc10 : c < 10 := by omega
    refine vc_Trial_seek_41 E k M 3 _ Φ (ts_3 k) ⟨fun q => absurd ((nI_ltI (a := 9) (by decide) (by omega)).mp q) (by omega), fun _ => ?_⟩
    refine vc_Trial_seekOfSize_0 E k M 3 _ _ (ts_3 k) (seek_x (M0 := M) hB hc10 (fun hn M' hS' ht' hf' => ⟨0, rfl, rfl, fun _ => ?_, fun q => absurd rfl q⟩) (fun x y z a1 a2 a3 a4 a5 a6 M' t' f' => ⟨1, rfl, rfl, fun q => absurd q (by decide), fun _ => ?_⟩) 15 0 M rfl (fun x' y z q => absurd q (by omega)) hS ht (zfr_rfl _ _))
    · rintro _ rfl
      rw [nI_1]
      refine seek_41 hB hk n (c + 1) M' (by omega) (fun x y z a1 a2 a3 a4 => ?_) hS' ht' (zfr_tr hf (zfr_mono hf' (by simp)))
      by_cases e : szt x y z = c
      · exact hn x y z a1 a2 a3 e
      · exact hno x y z a1 a2 a3 (by omega)
    · rintro _ rfl
      have f : zfr M' (zms M' 69 4 (nI c)) [69] := zfr_ms _ _ _ _ (by simp)
      have tz : zTs (zms M' 69 4 (nI c)) (fz x y z) := fun s hs => by
        unfold zTd
        rw [f 72 (by decide), f 73 (by decide)]
        exact t' s hs
      refine hk _ (Or.inr ⟨x, y, z, ⟨⟨a1, a2, a3⟩, a5, fun x' y' z' b1 b2 b3 b4 => ?_⟩, ?_, tz⟩) (fun s hs => ?_) (zfr_tr hf (zfr_tr (zfr_mono f' (by simp)) (zfr_mono f (by simp))))
      · by_cases e1 : szt x' y' z' < c
        · rw [hno x' y' z' b1 b2 b3 e1] at b4; cases b4
        · by_cases e2 : szt x' y' z' = c
          · by_cases e3 : 225 * x' + 15 * y' + z' < 225 * x + 15 * y + z
            · rw [a6 x' y' z' b1 b2 b3 e3 e2] at b4; cases b4
            · exact Or.inr ⟨by omega, by omega⟩
          · exact Or.inl (by omega)
      · rw [zms_s, a4]
      · have := tz s (by omega)
        rcases (show s = 0 ∨ s = 1 by omega) with rfl | rfl <;> exact this
theorem seek_10 (hB : okB B) {M0 : ZM} (hk : ∀ M', zBk M' 3 B → zAl M' B.2.1 B.2.2.1 3 → zfr M0 M' [71] → zW E m_Trial_seek 4 (zSt k) M' 41 [some (.ref 69), some (.ref 3), some (.ref 74), some (.int (nI 0))] [] Φ) : ∀ (n v : Nat) (M : ZM), v + n = 3 → zBk M 3 B → zMp M B.2.1 15 → zAl M B.2.1 B.2.2.1 v → zfr M0 M [71] → zW E m_Trial_seek 4 (zSt k) M 10 [some (.ref 69), some (.ref 3), some (.ref 74), some (.int (nI v))] [] Φ
  | 0, v, M, hv, hM, hm, ha, hf => by
    have : v = 3 := by omega
    subst this
    exact vc_Trial_seek_10 E k M 3 _ Φ (ts_3 k) ⟨fun _ => hk M hM ha hf, fun q => absurd (by decide) q⟩
  | n + 1, v, M, hv, hM, hm, ha, hf => by
    have hv3 : v < 3 := by omega
    refine vc_Trial_seek_10 E k M 3 _ Φ (ts_3 k) ⟨fun q => absurd ((nI_leI (a := 3) (by decide) (by omega)).mp q) (by omega), fun _ => ?_⟩
    have hn : okn B.2.2.1 := hB.2.2.2.1
    rw [hM.2.2.2.2]
    refine Need_ofVariable_ok hn hv3 ⟨_, rfl, rfl, allowedWords_ok hB.2.2.1 (okn_t3 hn v) hm (fun y hy => ⟨_, rfl, rfl, v, hv3, rfl, ?_⟩)⟩
    rintro _ rfl _ rfl
    rw [nI_1]
    have f : zfr M (zms M 71 v y) [71] := zfr_ms _ _ _ _ (by simp)
    refine seek_10 hB hk n (v + 1) _ (by omega) ⟨zRN_keep hM.1 f (by decide) (by decide), zRN_keep hM.2.1 f (by decide) (by decide), zGo_keep hM.2.2.1 f (by decide), fun v hv => zRN_keep (hM.2.2.2.1 v hv) f (by simp; omega) (by simp; omega), by rw [f 3 (by decide)]; exact hM.2.2.2.2⟩ (fun w hw => by rw [f 70 (by decide)]; exact hm w hw) (fun u hu i hi => ?_) (zfr_tr hf f)
    by_cases e : u = v
    · rw [e, zms_s]; exact hy i hi
    · rw [zms_k _ _ e]; exact ha u (by omega) i hi
theorem seek_ok {M : ZM} (hB : okB B) (hM : zBk M 3 B) (hT : zTl M (tTim B) (tSur B)) (ht : zTx M (fz 0 0 0) 2) (hk : ∀ M', zTrl B M' → zTx M' (fz 0 0 0) 2 → zfr M M' [69, 70, 71, 72, 73] → Φ none (zSt k) M') : zW E m_Trial_seek 4 (zSt k) M 0 [some (.ref 69), some (.ref 3), some (.ref 74), none] [] Φ := by
  refine vc_Trial_seek_0 E k M 3 Φ (ts_3 k) (findMaps_ok hB.2.2.1 hM.2.2.1 (fun M1 m1 f1 => ⟨rfl, rfl, ?_⟩))
  have hM1 : zBk M1 3 B := ⟨zRN_keep hM.1 f1 (by decide) (by decide), zRN_keep hM.2.1 f1 (by decide) (by decide), zGo_keep hM.2.2.1 f1 (by decide), fun v hv => zRN_keep (hM.2.2.2.1 v hv) f1 (by simp; omega) (by simp; omega), by rw [f1 3 (by decide)]; exact hM.2.2.2.2⟩
  refine seek_10 (M0 := M1) hB (fun M2 b2 a2 f2 => ?_) 3 0 M1 rfl hM1 m1 (fun v hv => absurd hv (by omega)) (zfr_rfl _ _)
  have f12 : zfr M M2 [70, 71] := zfr_tr (zfr_mono f1 (by simp)) (zfr_mono f2 (by simp))
  refine seek_41 (M0 := M2) hB (fun M' h1 h2 h3 => hk M' h1 h2 (zfr_tr (zfr_mono f12 (by simp)) (zfr_mono h3 (by simp)))) 10 0 M2 rfl (fun x y z _ _ _ q => absurd q (by omega)) ⟨b2, a2, fun s hs => ?_⟩ (fun s hs => ?_) (zfr_rfl _ _)
  · rw [f12 75 (by decide), f12 76 (by decide)]; exact hT s hs
  · unfold zTd
    rw [f12 72 (by decide), f12 73 (by decide)]; exact ht s hs
def rb (d : Nat) : Nat → Nat
  | 0 => 0
  | j + 1 => 2 * rb d j + d / 2 ^ j % 2
def cdw (w : Nat) : Nat := 100 * szw w + rb (w + 1 - 2 ^ szw w) (szw w)
theorem cdw_w : ∀ w, w < 15 → cdw w = 100 * (wLw w).length + (wLw w).foldr (fun b a => b + 2 * a) 0 := by decide +kernel
theorem k_dig : ∀ d, d < 8 → ∀ j, j < 3 → (((nI d : Int32) >>> (nI j &&& 31)) &&& 1) = nI (d / 2 ^ j % 2) := by decide +kernel
theorem codeOf_loop {v w : Nat} {M : ZM} (hv : v < 3) (hw : w < 15) (ht : zTd M (v + 2) (szw w) (w + 1 - 2 ^ szw w)) (hk : Φ (some (.int (nI (cdw w)))) (zSt k) M) : ∀ (n j : Nat), j + n = szw w → zW E m_Trial_codeOf 1 (zSt k) M 24 [some (.ref 69), some (.int (nI v)), some (.int (nI (szw w))), some (.int (nI (rb (w + 1 - 2 ^ szw w) j))), some (.int (nI j))] [] Φ
  | 0, j, hj => by
    have e : j = szw w := by omega
    subst e
    have := (szw_le w hw).1
    refine vc_Trial_codeOf_24 E k M _ _ _ _ Φ ⟨fun _ => ?_, fun q => absurd (nI_le (Nat.le_refl _) (by omega)) q⟩
    rw [show (100 : Int32) * nI (szw w) = nI (100 * szw w) from pk_mul 100 _, nI_addN]
    exact hk
  | n + 1, j, hj => by
    obtain ⟨s1, s2, s3⟩ := szw_le w hw
    have h8 : 2 ^ szw w ≤ 8 := Nat.pow_le_pow_right (n := 2) (by decide) s1
    refine vc_Trial_codeOf_24 E k M _ _ _ _ Φ ⟨fun q => absurd q (nI_ge (by omega) (by omega)), fun _ => ⟨v + 2, by omega, nI_addN v 2, ?_⟩⟩
    rw [ht.2, k_dig _ (by omega) j (by omega), show (2 : Int32) * nI (rb (w + 1 - 2 ^ szw w) j) = nI (2 * rb (w + 1 - 2 ^ szw w) j) from pk_mul 2 _, nI_addN]
    rintro _ rfl _ rfl
    rw [nI_1]
    exact codeOf_loop hv hw ht hk n (j + 1) (by omega)
theorem codeOf_ok {v w : Nat} {M : ZM} (hv : v < 3) (hw : w < 15) (ht : zTd M (v + 2) (szw w) (w + 1 - 2 ^ szw w)) (hk : Φ (some (.int (nI (cdw w)))) (zSt k) M) : zW E m_Trial_codeOf 1 (zSt k) M 0 [some (.ref 69), some (.int (nI v)), none, none, none] [] Φ := by
  refine vc_Trial_codeOf_0 E k M _ Φ (H_isVariable_ok (fun u hu e => ⟨1, rfl, rfl, fun _ => ⟨v + 2, by omega, nI_addN v 2, ?_⟩, fun q => absurd q (by decide)⟩) (fun q => ?_))
  · rintro _ rfl
    rw [ht.1]
    exact codeOf_loop hv hw ht hk (szw w) 0 (by omega)
  · rcases q with q | q
    · exact absurd q (nI_pos (by omega))
    · exact absurd ((nI_leI (a := 3) (by decide) (by omega)).mp q) (by omega)
end SEEK3
