/-! Tally -/
section TALLY
variable {E : ZE} {k : Nat} {M : ZM} {Φ : Option Value → ZS → ZM → Prop} {B : AB}
def zTl (M : ZM) (a : Nat → Nat) (b : Nat → Int) : Prop := ∀ s, s < 5 → M 75 s = nI (a s) ∧ M 76 s = iI (b s)
theorem countRow_loop {r L : Nat} {xs : List Nat} {d : Int} {a : Nat → Nat} {b : Nat → Int} {M0 : ZM} (hr : zRow (zSt k) r L) (hap : r + 1 < 75) (hl : xs.length ≤ L) (hlm : xs.length ≤ 100) (hs : ∀ s ∈ xs, s < 5) (hk : ∀ M', zTl M' (fun s => a s + xs.count s) (fun s => b s + d * xs.count s) → zfr M0 M' [75, 76] → Φ none (zSt k) M') :
    ∀ (n j : Nat) (M : ZM), j + n = xs.length → zRN M r xs → zTl M (fun s => a s + (xs.take j).count s) (fun s => b s + d * ((xs.take j).count s : Nat)) → zfr M0 M [75, 76] → zW E m_Tally_countRow 1 (zSt k) M 2 [some (.ref 74), some (.ref r), some (.int (iI d)), some (.int (nI j)), none] [] Φ
  | 0, j, M, hj, hx, ht, hf => by
    have : j = xs.length := by omega
    subst this
    refine vc_Tally_countRow_2 E k M r L _ _ Φ hr (Row_size_ok hr hx ⟨_, rfl, rfl, fun _ => hk M ?_ hf, fun c => absurd (nI_le (Nat.le_refl _) (by omega)) c⟩)
    rw [List.take_length] at ht
    exact ht
  | n + 1, j, M, hj, hx, ht, hf => by
    have hjl : j < xs.length := by omega
    have hv : xs.getD j 0 < 5 := by
      apply hs
      rw [List.getD_eq_getElem?_getD, List.getElem?_eq_getElem hjl]
      exact List.getElem_mem hjl
    refine vc_Tally_countRow_2 E k M r L _ _ Φ hr (Row_size_ok hr hx ⟨_, rfl, rfl, fun c => absurd c (nI_ge hjl (by omega)), fun _ => ?_⟩)
    refine Row_at_ok hr hx hl ⟨_, rfl, rfl, ?_⟩
    rw [zat_nI hjl (by omega)]
    obtain ⟨v, ev⟩ : ∃ v, xs.getD j 0 = v := ⟨_, rfl⟩
    rw [ev] at hv ⊢
    refine ⟨fun c => absurd c (nI_pos (by omega)), fun _ => ⟨fun c => absurd ((nI_leI (a := 5) (by decide) (by omega)).mp c) (by omega), fun _ => ⟨v, hv, rfl, v, hv, rfl, ?_⟩⟩⟩
    rintro _ rfl
    refine ⟨v, hv, rfl, v, hv, rfl, ?_⟩
    rintro _ rfl _ rfl
    rw [nI_1]
    have fz : zfr M (zms (zms M 75 v (M 75 v + 1)) 76 v ((zms M 75 v (M 75 v + 1)) 76 v + iI d)) [75, 76] := zfr_tr (zfr_ms _ _ _ _ (by simp)) (zfr_ms _ _ _ _ (by simp))
    refine countRow_loop hr hap hl hlm hs hk n (j + 1) _ (by omega) (zRN_keep hx fz (by simp; omega) (by simp; omega)) (fun s hs5 => ?_) (zfr_tr hf fz)
    obtain ⟨t1, t2⟩ := ht s hs5
    have ec : (xs.take (j + 1)).count s = (xs.take j).count s + (if v = s then 1 else 0) := by
      rw [take_succ' hjl, ev, List.count_append]
      simp [List.count_singleton]
    dsimp only at t1 t2 ⊢
    rw [ec]
    by_cases c : s = v
    · subst c
      rw [if_pos rfl]
      constructor
      · rw [zms_n _ _ (by omega), zms_s, t1, nI_1]; rfl
      · rw [zms_s, zms_n _ _ (by omega), t2, iI_add]
        congr 1
        rw [Int.natCast_add, Int.mul_add]
        omega
    · rw [if_neg (Ne.symm c)]
      constructor
      · rw [zms_n _ _ (by omega), zms_n _ _ (by omega)]; exact t1
      · rw [zms_n _ _ (by omega), zms_n _ _ (by omega)]; exact t2
theorem countRow_ok {r L : Nat} {xs : List Nat} {d : Int} {a : Nat → Nat} {b : Nat → Int} (hr : zRow (zSt k) r L) (hap : r + 1 < 75) (hl : xs.length ≤ L) (hlm : xs.length ≤ 100) (hs : ∀ s ∈ xs, s < 5) (hx : zRN M r xs) (ht : zTl M a b) (hk : ∀ M', zTl M' (fun s => a s + xs.count s) (fun s => b s + d * xs.count s) → zfr M M' [75, 76] → Φ none (zSt k) M') : zW E m_Tally_countRow 1 (zSt k) M 0 [some (.ref 74), some (.ref r), some (.int (iI d)), none, none] [] Φ :=
  vc_Tally_countRow_0 E k M r L _ Φ hr (countRow_loop (M0 := M) hr hap hl hlm hs hk xs.length 0 M (by omega) hx (by simpa using ht) (zfr_rfl _ _))
def tTim (B : AB) (s : Nat) : Nat := B.1.1.count s + B.1.2.count s
def tSur (B : AB) (s : Nat) : Int := B.1.1.count s - B.1.2.count s
theorem Tally_count_ok (hB : okB B) (hM : zBk M 3 B) (hk : ∀ M', zTl M' (tTim B) (tSur B) → zfr M M' [75, 76] → Φ none (zSt k) M') : zW E m_Tally_count 2 (zSt k) M 0 [some (.ref 74), some (.ref 3)] [] Φ := by
  refine vc_Tally_count_0 E k M 3 Φ (ts_3 k) ?_
  refine Arr_fill_ok (ta_75 k) (fun M1 x1 f1 => ⟨rfl, rfl, ?_⟩)
  refine Arr_fill_ok (ta_76 k) (fun M2 x2 f2 => ⟨rfl, rfl, ?_⟩)
  have f12 : zfr M M2 [75, 76] := zfr_tr (zfr_mono f1 (by simp)) (zfr_mono f2 (by simp))
  have t0 : zTl M2 (fun _ => 0) (fun _ => 0) := fun s hs => ⟨by rw [f2 75 (by decide), x1 s hs]; rfl, by rw [x2 s hs]; rfl⟩
  refine countRow_ok (d := 1) (a := fun _ => 0) (b := fun _ => 0) (ts_4 k) (by decide) hB.1.1 (by have := hB.1.1; omega) hB.1.2 (zRN_keep hM.1 f12 (by decide) (by decide)) t0 (fun M3 t3' f3 => ⟨rfl, rfl, ?_⟩)
  · have f13 := zfr_tr f12 f3
    rw [show (-1 : Int32) = iI (-1) from by decide]
    refine countRow_ok (d := -1) (ts_6 k) (by decide) hB.2.1.1 (by have := hB.2.1.1; omega) hB.2.1.2 (zRN_keep hM.2.1 f13 (by decide) (by decide)) t3' (fun M4 t4 f4 => ⟨rfl, rfl, hk M4 ?_ (zfr_tr f13 f4)⟩)
    intro s hs
    obtain ⟨q1, q2⟩ := t4 s hs
    refine ⟨?_, ?_⟩
    · rw [q1]; unfold tTim; simp
    · rw [q2]; unfold tSur; congr 1; simp; omega
theorem lacking_ok {w : Nat} (hw : w < 3) (hT : zTl M (tTim B) (tSur B)) (hk : Φ (some (.int (if w = 0 then iI (-(tSur B 0) - tSur B 1) else if w = 1 then (if tSur B 1 = 0 then iI (-(tSur B 0)) else 1000) else (if tSur B 0 = 0 then iI (-(tSur B 1)) else 1000)))) (zSt k) M) (hr : ∀ s, -1000 ≤ tSur B s ∧ tSur B s ≤ 1000) : zW E m_Tally_lacking 0 (zSt k) M 0 [some (.ref 74), some (.int (nI w)), none, none] [] Φ := by
  have e0 := (hT 0 (by decide)).2
  have e1 := (hT 1 (by decide)).2
  have r0 := hr 0
  have r1 := hr 1
  have z0 : iI (tSur B 0) = 0 ↔ tSur B 0 = 0 := iI_eq (b := 0) (by omega) (by decide)
  have z1 : iI (tSur B 1) = 0 ↔ tSur B 1 = 0 := iI_eq (b := 0) (by omega) (by decide)
  refine vc_Tally_lacking_0 E k M _ Φ ?_
  rw [e0, e1]
  rcases (show w = 0 ∨ w = 1 ∨ w = 2 by omega) with rfl | rfl | rfl
  · refine ⟨fun c => absurd (by decide) c, fun _ => ?_⟩
    rw [iI_neg, iI_sub]
    exact hk
  · refine ⟨fun _ => ⟨fun c => absurd (by decide) c, fun _ => ?_⟩, fun c => absurd c (by decide)⟩
    rintro _ rfl
    refine ⟨fun c => absurd (by decide) c, fun _ => ?_⟩
    rintro _ rfl
    rw [z1]
    refine ⟨fun c => ?_, fun c => ?_⟩
    · rw [if_neg (by decide), if_pos rfl, if_neg c] at hk; exact hk
    · rw [if_neg (by decide), if_pos rfl, if_pos c] at hk; rw [iI_neg]; exact hk
  · refine ⟨fun _ => ⟨fun _ => ?_, fun c => absurd c (by decide)⟩, fun c => absurd c (by decide)⟩
    rintro _ rfl
    refine ⟨fun _ => ?_, fun c => absurd c (by decide)⟩
    rintro _ rfl
    rw [z0]
    refine ⟨fun c => ?_, fun c => ?_⟩
    · rw [if_neg (by decide), if_neg (by decide), if_neg c] at hk; exact hk
    · rw [if_neg (by decide), if_neg (by decide), if_pos c] at hk; rw [iI_neg]; exact hk
theorem tSur_rng {B : AB} (hB : okB B) (s : Nat) : -12 ≤ tSur B s ∧ tSur B s ≤ 12 := by
  have h1 := List.count_le_length (a := s) (l := B.1.1)
  have h2 := List.count_le_length (a := s) (l := B.1.2)
  have h3 := hB.1.1
  have h4 := hB.2.1.1
  unfold tSur
  omega
end TALLY
