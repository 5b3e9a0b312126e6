/-! Node.addMove, drafts -/
theorem zNt_upd {k : Nat} {M M' : ZM} {N N' : List NR} {T T' : Nat → List (Nat × Nat)} (h : zNt k M N T) (hl : N'.length = N.length) (h1 : ∀ e, e < N.length → (nN N' e).1 = (nN N e).1) (hd : ∀ e, e < N.length → zNd M' (na e) (nN N' e) (T' e)) (h9 : ∀ e, e < k → M' (na e) 9 = M (na e) 9 ∧ M' (na e) 0 = M (na e) 0) (h50 : M' 50 9 = M 50 9) (h52 : M' 52 = M 52) : zNt k M' N' T' := by
  obtain ⟨a1, a2, a3, a4, a5, a6⟩ := h
  refine ⟨by rw [hl]; exact a1, by rw [h50, hl]; exact a2, fun e he => by rw [(h9 e he).2]; exact a3 e he, fun e he => ?_, fun b hb => ?_, fun i j hi hj hij => ?_⟩
  · rw [hl] at he
    obtain ⟨b1, b2, b3⟩ := a4 e he
    refine ⟨by rw [h1 e he]; exact b1, hd e he, ?_⟩
    rw [(h9 e (by omega)).1, b3, h1 e he]
    rw [prv_congr (fun j hj => h1 j (by omega))]
  · rw [h52, a5 b hb, hl]
    rw [prv_congr (fun j hj => h1 j hj)]
  · rw [hl] at hi hj
    rw [h1 i hi, h1 j hj] at hij
    exact a6 i j hi hj hij
theorem zRN_map_app {M : ZM} {r : Nat} {tl : List (Nat × Nat)} {f : Nat × Nat → Nat} {a : Nat × Nat} (h : zRN M r (tl.map f ++ [f a])) : zRN M r ((tl ++ [a]).map f) := by
  rw [List.map_append]
  exact h
section MOVE
variable {E : ZE} {k : Nat} {M : ZM} {Φ : Option Value → ZS → ZM → Prop} {N : List NR} {T : Nat → List (Nat × Nat)}
theorem zNt_tl {i : Nat} {a : Nat × Nat} {M' : ZM} (hN : zNt k M N T) (hi : i < N.length) (h1 : zRN M' (na i + 5) ((T i).map (fun z => z.1) ++ [a.1])) (h2 : zRN M' (na i + 7) ((T i).map (fun z => z.2) ++ [a.2])) (hf : zfi M M' (na i + 5) 4) : zNt k M' N (zup T i (T i ++ [a])) := by
  have hp : ∀ p, p < 116 → M' p = M p := fun p hp => hf p (Or.inl (by show p < 116 + 9 * i + 5; omega))
  refine zNt_upd hN rfl (fun _ _ => rfl) (fun e he => ?_) (fun e he => ?_) (by rw [hp 50 (by decide)]) (hp 52 (by decide))
  · obtain ⟨b1, b2, b3⟩ := hN.2.2.2.1 e he
    by_cases c : e = i
    · subst c
      obtain ⟨a1, a2, a3, a4, a5, a6, a7, a8, a9⟩ := b2
      have q := hf (na e) (Or.inl (by omega))
      simp only [zup, if_true]
      exact ⟨zRN_fi a1 hf (by omega), zRN_fi a2 hf (by omega), by rw [q]; exact a3, by rw [q]; exact a4, by rw [q]; exact a5, by rw [q]; exact a6, by rw [q]; exact a7, zRN_map_app (f := fun z => z.1) h1, zRN_map_app (f := fun z => z.2) h2⟩
    · simp only [zup, if_neg c]
      exact zNd_fi b2 hf (by show 116 + 9 * e + 8 < 116 + 9 * i + 5 ∨ 116 + 9 * i + 5 + 4 ≤ 116 + 9 * e; omega)
  · have := hf (na e) (by show 116 + 9 * e < 116 + 9 * i + 5 ∨ 116 + 9 * i + 5 + 4 ≤ 116 + 9 * e; omega)
    rw [this]
    exact ⟨rfl, rfl⟩
theorem Node_pushes {i t c : Nat} {Ψ : Option Value → ZS → ZM → Prop} (hN : zNt k M N T) (hi : i < N.length) (hl : (T i).length < 56) (hk : ∀ M', zNt k M' N (zup T i (T i ++ [(t, c)])) → zfb M M' [] → Ψ none (zSt k) M') :
    zW E m_Row_push 0 (zSt k) M 0 [some (.ref (na i + 5)), some (.int (nI t))] [] (fun q2 T2 M2 => ∃ y2 : Int32, q2 = some (.int y2) ∧ (zSt k) = T2 ∧ zW E m_Row_push 0 (zSt k) M2 0 [some (.ref (na i + 7)), some (.int (nI c))] [] (fun q3 T3 M3 => ∃ y3 : Int32, q3 = some (.int y3) ∧ (zSt k) = T3 ∧ Ψ none (zSt k) M3)) := by
  have hik : i < k := by have := hN.1.1; omega
  obtain ⟨b1, b2, b3⟩ := hN.2.2.2.1 i hi
  have hz := tN hik
  refine Row_push_ok hz.2.2.2.1.2 b2.2.2.2.2.2.2.2.1 (by simp; omega) (fun _ M1 x1 f1 => ⟨1, rfl, rfl, ?_⟩) (fun q => absurd q (by simp; omega))
  have f1' : zfi M M1 (na i + 5) 2 := zfi_of f1 (by simp <;> omega)
  refine Row_push_ok hz.2.2.2.2.2 (zRN_fi b2.2.2.2.2.2.2.2.2 f1' (by omega)) (by simp; omega) (fun _ M2 x2 f2 => ⟨1, rfl, rfl, ?_⟩) (fun q => absurd q (by simp; omega))
  have f2' : zfi M1 M2 (na i + 7) 2 := zfi_of f2 (by simp <;> omega)
  have f : zfi M M2 (na i + 5) 4 := zfi_tr (zfi_mono f1' (by omega) (by omega)) (zfi_mono f2' (by omega) (by omega))
  exact hk M2 (zNt_tl hN hi (zRN_fi x1 f2' (by omega)) x2 f) (fun p hp _ => f p (Or.inl (by show p < 116 + 9 * i + 5; omega)))
theorem Node_addMove_old {i t c : Nat} (hN : zNt k M N T) (hi : i < N.length) (ht : t < N.length) (hl : (T i).length < 56) (ho : t = 0 ∨ ∃ p c, (nN N t).2.2.1 = some (p, c) ∧ p < 150) (hk : ∀ M', zNt k M' N (zup T i (T i ++ [(t, c)])) → zfb M M' [] → Φ none (zSt k) M') : zW E m_Node_addMove 1 (zSt k) M 0 [some (.ref (na i)), some (.ref (na t)), some (.int (nI c))] [] Φ := by
  have hb := hN.1
  have e0 := hN.2.2.1 t (by omega)
  obtain ⟨b1, b2, b3⟩ := hN.2.2.2.1 t ht
  refine vc_Node_addMove_0 E (zSt k) M (na i) (na t) _ Φ (tN (by omega)) (tN (by omega)) ?_
  rw [e0, b2.2.2.2.2.1]
  refine ⟨fun _ => Node_pushes hN hi hl hk, fun q => ⟨fun _ => Node_pushes hN hi hl hk, fun q2 => ?_⟩⟩
  rcases ho with rfl | ⟨p, c2, e, hp⟩
  · exact absurd rfl q2
  · rw [e] at q
    exact absurd q (nI_ne6 (show p < 2 ^ 31 by omega))
theorem Node_addMove_new {i t c : Nat} (hN : zNt k M N T) (hi : i < N.length) (ht : t < N.length) (hit : t ≠ i) (h0 : 0 < t) (hl : (T i).length < 56) (hn : (nN N t).2.2.1 = none) (hk : ∀ M', zNt k M' (N.set t ((nN N t).1, (nN N i).2.1 + 1, some (i, c), (nN N t).2.2.2)) (zup T i (T i ++ [(t, c)])) → zfb M M' [] → Φ none (zSt k) M') : zW E m_Node_addMove 1 (zSt k) M 0 [some (.ref (na i)), some (.ref (na t)), some (.int (nI c))] [] Φ := by
  have hb := hN.1
  have e0 := hN.2.2.1 t (by omega)
  have ei := hN.2.2.1 i (by omega)
  obtain ⟨b1, b2, b3⟩ := hN.2.2.2.1 t ht
  obtain ⟨d1, d2, d3⟩ := hN.2.2.2.1 i hi
  refine vc_Node_addMove_0 E (zSt k) M (na i) (na t) _ Φ (tN (by omega)) (tN (by omega)) ?_
  rw [e0, b2.2.2.2.2.1, hn]
  refine ⟨fun q => absurd rfl q, fun _ => ⟨fun q => absurd q (fun q => by have := (nI_eq (b := 0) (by omega) (by decide)).mp q; omega), fun _ => ?_⟩⟩
  rintro _ rfl _ rfl _ rfl
  have h116 : 116 ≤ na t := Nat.le_add_right _ _
  have hne : na i ≠ na t := by show 116 + 9 * i ≠ 116 + 9 * t; omega
  have f : zfr M (zms (zms (zms M (na t) 7 (M (na i) 0)) (na t) 8 (nI c)) (na t) 6 ((zms (zms M (na t) 7 (M (na i) 0)) (na t) 8 (nI c)) (na i) 6 + 1)) [na t] := zfr_tr (zfr_tr (zfr_ms _ _ _ _ (by simp)) (zfr_ms _ _ _ _ (by simp))) (zfr_ms _ _ _ _ (by simp))
  have f' := zfi_of (lo := na t) (n := 1) f (by simp)
  have g0 : zNt k (zms (zms (zms M (na t) 7 (M (na i) 0)) (na t) 8 (nI c)) (na t) 6 ((zms (zms M (na t) 7 (M (na i) 0)) (na t) 8 (nI c)) (na i) 6 + 1)) (N.set t ((nN N t).1, (nN N i).2.1 + 1, some (i, c), (nN N t).2.2.2)) T := by
    refine zNt_upd hN (by simp) (fun e he => ?_) (fun e he => ?_) (fun e he => ?_) (by rw [f 50 (by simp; omega)]) (f 52 (by simp; omega))
    · rw [nN_set ht]
      by_cases q : e = t
      · rw [if_pos q, q]
      · rw [if_neg q]
    · rw [nN_set ht]
      by_cases q : e = t
      · rw [if_pos q, q]
        obtain ⟨a1, a2, a3, a4, a5, a6, a7, a8, a9⟩ := b2
        refine ⟨zRN_fi a1 f' (by omega), zRN_fi a2 f' (by omega), ?_, ?_, ?_, ?_, ?_, zRN_fi a8 f' (by omega), zRN_fi a9 f' (by omega)⟩
        · rw [zms_n _ _ (by omega), zms_n _ _ (by omega), zms_n _ _ (by omega)]; exact a3
        · rw [zms_s, zms_n _ _ (by omega), zms_n _ _ (by omega), d2.2.2.2.1, nI_1]
        · rw [zms_n _ _ (by omega), zms_n _ _ (by omega), zms_s, ei]; rfl
        · rw [zms_n _ _ (by omega), zms_s]; rfl
        · rw [zms_n _ _ (by omega), zms_n _ _ (by omega), zms_n _ _ (by omega)]; exact a7
      · rw [if_neg q]
        exact zNd_fi (hN.2.2.2.1 e he).2.1 f' (by show 116 + 9 * e + 8 < 116 + 9 * t ∨ 116 + 9 * t + 1 ≤ 116 + 9 * e; omega)
    · constructor
      · rw [zms_n _ _ (by omega), zms_n _ _ (by omega), zms_n _ _ (by omega)]
      · rw [zms_n _ _ (by omega), zms_n _ _ (by omega), zms_n _ _ (by omega)]
  have := Node_pushes (E := E) (t := t) (c := c) (Ψ := Φ) g0 (by simpa using hi) hl (fun M' q1 q2 => hk M' q1 (fun p hp hq => by rw [q2 p hp hq]; exact f p (by simp; omega)))
  have e0' : (zms (zms (zms M (na t) 7 (M (na i) 0)) (na t) 8 (nI c)) (na t) 6 ((zms (zms M (na t) 7 (M (na i) 0)) (na t) 8 (nI c)) (na i) 6 + 1)) (na t) 0 = nI t := by
    rw [zms_n _ _ (by omega), zms_n _ _ (by omega), zms_n _ _ (by omega)]; exact e0
  rw [e0']
  exact this
theorem Node_cut_ok {i : Nat} (hN : zNt k M N T) (hi : i < N.length) : zNt k (zms M (na i) 10 1) (ncut N i) T := by
  have h116 : 116 ≤ na i := Nat.le_add_right _ _
  have f : zfr M (zms M (na i) 10 1) [na i] := zfr_ms _ _ _ _ (by simp)
  have f' := zfi_of (lo := na i) (n := 1) f (by simp)
  refine zNt_upd hN (ncut_len _ _) (fun e he => (ncut_1 hi e).1) (fun e he => ?_) (fun e he => ?_) (by rw [f 50 (by simp; omega)]) (f 52 (by simp; omega))
  · rw [ncut_N hi]
    by_cases q : e = i
    · rw [if_pos q, q]
      obtain ⟨a1, a2, a3, a4, a5, a6, a7, a8, a9⟩ := (hN.2.2.2.1 i hi).2.1
      refine ⟨zRN_fi a1 f' (by omega), zRN_fi a2 f' (by omega), ?_, ?_, ?_, ?_, ?_, zRN_fi a8 f' (by omega), zRN_fi a9 f' (by omega)⟩
      · rw [zms_n _ _ (by omega)]; exact a3
      · rw [zms_n _ _ (by omega)]; exact a4
      · rw [zms_n _ _ (by omega)]; exact a5
      · rw [zms_n _ _ (by omega)]; exact a6
      · rw [zms_s]; rfl
    · rw [if_neg q]
      exact zNd_fi (hN.2.2.2.1 e he).2.1 f' (by show 116 + 9 * e + 8 < 116 + 9 * i ∨ 116 + 9 * i + 1 ≤ 116 + 9 * e; omega)
  · exact ⟨zms_n _ _ (by omega), zms_n _ _ (by omega)⟩
end MOVE
