/-! cells that are made: what was there stays -/
/-- the cells of S stand in S' as they were, but for the references of one -/
def zext (S S' : ZS) (a : Nat) : Prop := S.1 ≤ S'.1 ∧ ∀ b, b < S.1 → S'.2.1 b = S.2.1 b ∧ S'.2.2.1 b = S.2.2.1 b ∧ (b ≠ a → S'.2.2.2 b = S.2.2.2 b)
theorem zext_rfl (S : ZS) (a : Nat) : zext S S a := ⟨Nat.le_refl _, fun b _ => ⟨rfl, rfl, fun _ => rfl⟩⟩
theorem zext_tr {S S1 S2 : ZS} {a : Nat} (h1 : zext S S1 a) (h2 : zext S1 S2 a) : zext S S2 a := by
  refine ⟨Nat.le_trans h1.1 h2.1, fun b hb => ?_⟩
  obtain ⟨p1, p2, p3⟩ := h1.2 b hb
  obtain ⟨q1, q2, q3⟩ := h2.2 b (Nat.lt_of_lt_of_le hb h1.1)
  exact ⟨q1.trans p1, q2.trans p2, fun h => (q3 h).trans (p3 h)⟩
/-- what a callee changed of a cell that isn't the caller's old one -/
theorem zext_new {S S1 : ZS} {a c : Nat} (h : zext S S1 c) (hc : S.1 ≤ c) : zext S S1 a := ⟨h.1, fun b hb => ⟨(h.2 b hb).1, (h.2 b hb).2.1, fun _ => (h.2 b hb).2.2 (by omega)⟩⟩
theorem zext_add (S : ZS) (ty len a : Nat) : zext S (zadd S ty len) a := by
  refine ⟨Nat.le_succ _, fun b hb => ?_⟩
  have hne : b ≠ S.1 := by omega
  simp [zadd, zup, hne]
def zput (S : ZS) (a j b : Nat) : ZS := (S.1, S.2.1, S.2.2.1, zup S.2.2.2 a (zup (S.2.2.2 a) j (some b)))
theorem zext_put (S : ZS) (a j b : Nat) : zext S (zput S a j b) a := ⟨Nat.le_refl _, fun c _ => ⟨rfl, rfl, fun h => by simp [zput, zup, h]⟩⟩
theorem zA_ext {S S' : ZS} {a b ci : Nat} (h : zext S S' a) (hA : zA S b ci) : zA S' b ci := ⟨Nat.lt_of_lt_of_le hA.1 h.1, by rw [(h.2 b hA.1).1]; exact hA.2⟩
theorem zArr_ext {S S' : ZS} {a b N : Nat} (h : zext S S' a) (hA : zArr S b N) : zArr S' b N := ⟨zA_ext h hA.1, by rw [(h.2 b hA.1.1).2.1]; exact hA.2.1, hA.2.2⟩
theorem zArz_ext {S S' : ZS} {a b N : Nat} (h : zext S S' a) (hA : zArz S b N) : zArz S' b N := ⟨zA_ext h hA.1, by rw [(h.2 b hA.1.1).2.1]; exact hA.2.1, hA.2.2⟩
theorem zRow_ext {S S' : ZS} {a b N : Nat} (h : zext S S' a) (hne : b ≠ a) (hA : zRow S b N) : zRow S' b N := ⟨zA_ext h hA.1, by rw [(h.2 b hA.1.1).2.2 hne]; exact hA.2.1, zArr_ext h hA.2.2⟩
theorem zMach_ext {S S' : ZS} {a b : Nat} (h : zext S S' a) (hne : b ≠ a) (hA : zMach S b) : zMach S' b := ⟨zA_ext h hA.1, by rw [(h.2 b hA.1.1).2.2 hne]; exact hA.2.1, zArr_ext h hA.2.2⟩
theorem zWords_ext {S S' : ZS} {a b N : Nat} (h : zext S S' a) (hne : a < b ∨ b + 5 < a) (hA : zWords S b N) : zWords S' b N := by
  obtain ⟨h1, ⟨h2, h3⟩, ⟨h4, h5⟩, ⟨h6, h7⟩⟩ := hA
  have e := (h.2 b h1.1).2.2 (by omega)
  exact ⟨zA_ext h h1, ⟨by rw [e]; exact h2, zRow_ext h (by omega) h3⟩, ⟨by rw [e]; exact h4, zRow_ext h (by omega) h5⟩, ⟨by rw [e]; exact h6, zRow_ext h (by omega) h7⟩⟩
theorem zBook_ext {S S' : ZS} {a b : Nat} (h : zext S S' a) (hne : a < b ∨ b + 13 < a) (hA : zBook S b) : zBook S' b := by
  obtain ⟨h1, ⟨h2, h3⟩, ⟨h4, h5⟩, ⟨h6, h7⟩, ⟨h8, h9⟩⟩ := hA
  have e := (h.2 b h1.1).2.2 (by omega)
  exact ⟨zA_ext h h1, ⟨by rw [e]; exact h2, zRow_ext h (by omega) h3⟩, ⟨by rw [e]; exact h4, zRow_ext h (by omega) h5⟩, ⟨by rw [e]; exact h6, zMach_ext h (by omega) h7⟩, ⟨by rw [e]; exact h8, zWords_ext h (by omega) h9⟩⟩
/-- the numbers of old cells stay; what is new is 0 -/
def zmx (S : ZS) (M M' : ZM) (S' : ZS) : Prop := (∀ b, b < S.1 → M' b = M b) ∧ ∀ b, S.1 ≤ b → b < S'.1 → ∀ j, M' b j = 0
theorem zext_via {S S1 S' : ZS} {a c : Nat} (h1 : zext S S1 c) (h2 : zext S1 S' a) (ha : S.1 ≤ a) : zext S S' c := by
  refine ⟨Nat.le_trans h1.1 h2.1, fun b hb => ?_⟩
  obtain ⟨p1, p2, p3⟩ := h1.2 b hb
  obtain ⟨q1, q2, q3⟩ := h2.2 b (Nat.lt_of_lt_of_le hb h1.1)
  exact ⟨q1.trans p1, q2.trans p2, fun h => (q3 (by omega)).trans (p3 h)⟩
theorem zmx_add (S : ZS) (M : ZM) (ty len : Nat) : zmx S M (zM0 S M) (zadd S ty len) := by
  refine ⟨fun b hb => ?_, fun b h1 h2 j => ?_⟩
  · have hne : b ≠ S.1 := by omega
    simp [zM0, zup, hne]
  · have he : b = S.1 := by have : b < S.1 + 1 := h2; omega
    simp [zM0, zup, he]
theorem zmx_via {S S1 S2 : ZS} {M M1 M2 : ZM} (h1 : zmx S M M1 S1) (h2 : zmx S1 M1 M2 S2) (hle : S.1 ≤ S1.1 := by first | exact Nat.le_succ _ | omega) : zmx S M M2 S2 := by
  refine ⟨fun b hb => (h2.1 b (Nat.lt_of_lt_of_le hb hle)).trans (h1.1 b hb), fun b a1 a2 j => ?_⟩
  by_cases c : b < S1.1
  · rw [h2.1 b c]
    exact h1.2 b a1 c j
  · exact h2.2 b (by omega) a2 j
section CTOR
variable {E : ZE} {S : ZS} {M : ZM} {Φ : Option Value → ZS → ZM → Prop}
theorem Row_init_ok {a N : Nat} (ha : zA S a 5) (hN : N ≤ 10000) (hk : ∀ S' M', S'.1 = S.1 + 1 → zext S S' a → S'.2.2.2 a 0 = some S.1 → zArr S' S.1 N → zmx S M M' S' → Φ none S' M') : zW E m_Row_init 1 S M 0 [some (.ref a), some (.int (nI N))] [] Φ := by
  refine z_aload_n d_Row_init_0 rfl ?_
  refine z_objInit o_Row_3 o_1 o_2 d_Row_init_1 (by decide) (Nat.le_of_ble_eq_true rfl) ?_
  refine z_aload_n d_Row_init_4 rfl ?_
  refine z_iload_n d_Row_init_5 rfl ?_
  refine z_iconst 0 d_Row_init_6 (by decide) ?_
  refine z_mmax l_Row_9 mx_1 mx_2 mx_3 d_Row_init_7 (by decide) (Nat.le_of_ble_eq_true rfl) ?_
  have e : (if nI N < 0 then (0 : Int32) else nI N) = nI N := if_neg (nI_pos (by omega))
  rw [e]
  refine z_newI N a_int d_Row_init_10 (nI_pos (by omega)) (nI_clamp (by omega)) (by omega) ?_
  refine z_putr p_Row_15 rfl d_Row_init_12 (zA_ext (zext_add S 12 N a) ha) (fun q => ⟨rfl, rfl⟩) ?_
  refine z_vret rfl d_Row_init_15 ?_
  have hx : zext S (zput (zadd S 12 N) a 0 S.1) a := zext_tr (zext_add S 12 N a) (zext_put _ _ _ _)
  refine hk (zput (zadd S 12 N) a 0 S.1) (zM0 S M) rfl hx (by simp [zput, zup]) ⟨⟨Nat.lt_succ_self _, by simp [zput, zadd, zup]⟩, by simp [zput, zadd, zup], by omega⟩ ⟨fun b hb => ?_, fun b h1 h2 j => ?_⟩
  · have hne : b ≠ S.1 := by omega
    simp [zM0, zup, hne]
  · have he : b = S.1 := by have : b < S.1 + 1 := h2; omega
    simp [zM0, zup, he]
/-- 'new Row(N)' and what is behind it -/
theorem newRow_ok {mi : ZI} {d pc i1 i2 : Nat} {N : Nat} {ls : List (Option Value)} {st : List Value} (hd : 2 ≤ d) (hn : zNL mi.1.cls i1 5) (hl : zML mi.1.cls i2 m_Row_init.1) (d1 : decode mi.2.1 pc = .ok (.new i1, 3)) (d2 : decode mi.2.1 (pc + 3) = .ok (.dup, 1)) {w : Nat} (hpush : ∀ {S : ZS} {M : ZM} {st : List Value}, zW E mi d S M (pc + 4 + w) ls (.int (nI N) :: st) Φ → zW E mi d S M (pc + 4) ls st Φ) (d4 : decode mi.2.1 (pc + 4 + w) = .ok (.invokespecial i2, 3)) (hN : N ≤ 10000) (hrm : (st.map fun v => v.category).sum ≤ 7)
    (hk : ∀ S' M', S'.1 = S.1 + 2 → (∀ a, zext S S' a) → zRow S' S.1 N → zmx S M M' S' → zW E mi d S' M' (pc + 4 + w + 3) ls (.ref S.1 :: st) Φ) : zW E mi d S M pc ls st Φ := by
  refine z_new hn d1 ?_
  refine z_dup d2 rfl ?_
  refine hpush ?_
  have hA : zA (zadd S 5 0) S.1 5 := ⟨Nat.lt_succ_self _, by simp [zadd, zup]⟩
  refine z_callI (as := [.int (nI N)]) (st := .ref S.1 :: st) (d' := 1) i_Row_init rfl rfl v_Row_init hl d4 (by omega) rfl (by simp only [List.map_cons, List.sum_cons]; show 1 + _ ≤ 8; omega) (Nat.le_of_ble_eq_true rfl) (Row_init_ok (Φ := fun r S' M' => r = none ∧ S'.1 = S.1 + 2 ∧ (∀ a, zext S S' a) ∧ zRow S' S.1 N ∧ zmx S M M' S') hA hN (fun S' M' e1 e2 e3 e4 e5 => ⟨rfl, e1, fun c => zext_via (zext_add S 5 0 c) e2 (Nat.le_refl _), ⟨zA_ext e2 hA, e3, e4⟩, zmx_via (zmx_add S M 5 0) e5⟩)) (fun r S1 M1 h => ?_)
  obtain ⟨rfl, h1, h2, h3, h4⟩ := h
  exact hk S1 M1 h1 h2 h3 h4
/-! a new node -/
theorem Node_init_ok {a v : Nat} (ha : zA S a 4) (hk : ∀ S' M', S'.1 = S.1 + 8 → zext S S' a → (S'.2.2.2 a 1 = some S.1 ∧ zRow S' S.1 24) → (S'.2.2.2 a 2 = some (S.1 + 2) ∧ zRow S' (S.1 + 2) 24) → (S'.2.2.2 a 3 = some (S.1 + 4) ∧ zRow S' (S.1 + 4) 56) → (S'.2.2.2 a 4 = some (S.1 + 6) ∧ zRow S' (S.1 + 6) 56) → (∀ b, b < S.1 → b ≠ a → M' b = M b) → (∀ b, S.1 ≤ b → b < S'.1 → ∀ j, M' b j = 0) → M' a = zup (M a) 0 (nI v) → Φ none S' M') : zW E m_Node_init 2 S M 0 [some (.ref a), some (.int (nI v))] [] Φ := by
  have hal := ha.1
  refine z_aload_n d_Node_init_0 rfl ?_
  refine z_objInit o_Node_3 o_1 o_2 d_Node_init_1 (by decide) (Nat.le_of_ble_eq_true rfl) ?_
  refine z_aload_n d_Node_init_4 rfl ?_
  refine newRow_ok (N := 24) (w := 2) (by decide) n_Node_9 l_Node_11 d_Node_init_5 d_Node_init_8 (fun k => z_bipush 24 d_Node_init_9 (by decide) k) d_Node_init_11 (by decide) (Nat.le_of_ble_eq_true rfl) (fun S1 M1 a1 a2 a3 a4 => ?_)
  refine z_putr p_Node_14 rfl d_Node_init_14 (zA_ext (a2 a) ha) (fun q => ⟨rfl, rfl⟩) ?_
  have x1 : zext S (zput S1 a 1 S.1) a := zext_tr (a2 a) (zext_put _ _ _ _)
  have y1 : zRow (zput S1 a 1 S.1) S.1 24 := zRow_ext (zext_put _ _ _ _) (by omega) a3
  have z1 : (zput S1 a 1 S.1).2.2.2 a 1 = some S.1 := by simp [zput, zup]
  have n1 : (zput S1 a 1 S.1).1 = S.1 + 2 := a1
  have m1 : zmx S M M1 (zput S1 a 1 S.1) := a4
  show zW E m_Node_init 2 (zput S1 a 1 S.1) M1 _ _ _ _
  generalize zput S1 a 1 S.1 = S2 at x1 y1 z1 n1 m1 ⊢
  refine z_aload_n d_Node_init_17 rfl ?_
  refine newRow_ok (N := 24) (w := 2) (by decide) n_Node_9 l_Node_11 d_Node_init_18 d_Node_init_21 (fun k => z_bipush 24 d_Node_init_22 (by decide) k) d_Node_init_24 (by decide) (Nat.le_of_ble_eq_true rfl) (fun S3 M2 b1 b2 b3 b4 => ?_)
  rw [n1] at b1 b3
  rw [n1]
  refine z_putr p_Node_20 rfl d_Node_init_27 (zA_ext (b2 a) (zA_ext x1 ha)) (fun q => ⟨rfl, rfl⟩) ?_
  have x2 : zext S2 (zput S3 a 2 (S.1 + 2)) a := zext_tr (b2 a) (zext_put _ _ _ _)
  have y2 : zRow (zput S3 a 2 (S.1 + 2)) (S.1 + 2) 24 := zRow_ext (zext_put _ _ _ _) (by omega) b3
  have z2 : (zput S3 a 2 (S.1 + 2)).2.2.2 a 2 = some (S.1 + 2) ∧ (zput S3 a 2 (S.1 + 2)).2.2.2 a 1 = some S.1 := by
    refine ⟨by simp [zput, zup], ?_⟩
    have := (b2 (a + 1)).2 a (by omega)
    simp [zput, zup]
    rw [this.2.2 (by omega)]
    exact z1
  have n2 : (zput S3 a 2 (S.1 + 2)).1 = S.1 + 4 := b1
  have m2 : zmx S M M2 (zput S3 a 2 (S.1 + 2)) := zmx_via m1 b4
  have x2 := zext_tr x1 x2
  have y1 := zRow_ext (zext_tr (b2 a) (zext_put S3 a 2 (S.1 + 2))) (by omega) y1
  show zW E m_Node_init 2 (zput S3 a 2 (S.1 + 2)) M2 _ _ _ _
  generalize zput S3 a 2 (S.1 + 2) = S4 at x2 y1 y2 z2 n2 m2 ⊢
  refine z_aload_n d_Node_init_30 rfl ?_
  refine newRow_ok (N := 56) (w := 2) (by decide) n_Node_9 l_Node_11 d_Node_init_31 d_Node_init_34 (fun k => z_bipush 56 d_Node_init_35 (by decide) k) d_Node_init_37 (by decide) (Nat.le_of_ble_eq_true rfl) (fun S5 M3 c1 c2 c3 c4 => ?_)
  rw [n2] at c1 c3
  rw [n2]
  refine z_putr p_Node_23 rfl d_Node_init_40 (zA_ext (c2 a) (zA_ext x2 ha)) (fun q => ⟨rfl, rfl⟩) ?_
  have x3 : zext S4 (zput S5 a 3 (S.1 + 4)) a := zext_tr (c2 a) (zext_put _ _ _ _)
  have y3 : zRow (zput S5 a 3 (S.1 + 4)) (S.1 + 4) 56 := zRow_ext (zext_put _ _ _ _) (by omega) c3
  have z3 : (zput S5 a 3 (S.1 + 4)).2.2.2 a 3 = some (S.1 + 4) ∧ (zput S5 a 3 (S.1 + 4)).2.2.2 a 2 = some (S.1 + 2) ∧ (zput S5 a 3 (S.1 + 4)).2.2.2 a 1 = some S.1 := by
    have := ((c2 (a + 1)).2 a (by omega)).2.2 (by omega)
    refine ⟨by simp [zput, zup], ?_, ?_⟩
    · simp [zput, zup]
      rw [this]
      exact z2.1
    · simp [zput, zup]
      rw [this]
      exact z2.2
  have n3 : (zput S5 a 3 (S.1 + 4)).1 = S.1 + 6 := c1
  have m3 : zmx S M M3 (zput S5 a 3 (S.1 + 4)) := zmx_via m2 c4
  have x3' := zext_tr x2 x3
  have y1 := zRow_ext x3 (by omega) y1
  have y2 := zRow_ext x3 (by omega) y2
  show zW E m_Node_init 2 (zput S5 a 3 (S.1 + 4)) M3 _ _ _ _
  generalize zput S5 a 3 (S.1 + 4) = S6 at x3' y1 y2 y3 z3 n3 m3 ⊢
  refine z_aload_n d_Node_init_43 rfl ?_
  refine newRow_ok (N := 56) (w := 2) (by decide) n_Node_9 l_Node_11 d_Node_init_44 d_Node_init_47 (fun k => z_bipush 56 d_Node_init_48 (by decide) k) d_Node_init_50 (by decide) (Nat.le_of_ble_eq_true rfl) (fun S7 M4 e1 e2 e3 e4 => ?_)
  rw [n3] at e1 e3
  rw [n3]
  refine z_putr p_Node_26 rfl d_Node_init_53 (zA_ext (e2 a) (zA_ext x3' ha)) (fun q => ⟨rfl, rfl⟩) ?_
  have x4 : zext S6 (zput S7 a 4 (S.1 + 6)) a := zext_tr (e2 a) (zext_put _ _ _ _)
  have y4 : zRow (zput S7 a 4 (S.1 + 6)) (S.1 + 6) 56 := zRow_ext (zext_put _ _ _ _) (by omega) e3
  have z4 : (zput S7 a 4 (S.1 + 6)).2.2.2 a 4 = some (S.1 + 6) ∧ (zput S7 a 4 (S.1 + 6)).2.2.2 a 3 = some (S.1 + 4) ∧ (zput S7 a 4 (S.1 + 6)).2.2.2 a 2 = some (S.1 + 2) ∧ (zput S7 a 4 (S.1 + 6)).2.2.2 a 1 = some S.1 := by
    have := ((e2 (a + 1)).2 a (by omega)).2.2 (by omega)
    refine ⟨by simp [zput, zup], ?_, ?_, ?_⟩
    · simp [zput, zup]
      rw [this]
      exact z3.1
    · simp [zput, zup]
      rw [this]
      exact z3.2.1
    · simp [zput, zup]
      rw [this]
      exact z3.2.2
  have n4 : (zput S7 a 4 (S.1 + 6)).1 = S.1 + 8 := e1
  have m4 : zmx S M M4 (zput S7 a 4 (S.1 + 6)) := zmx_via m3 e4
  have x4' := zext_tr x3' x4
  have y1 := zRow_ext x4 (by omega) y1
  have y2 := zRow_ext x4 (by omega) y2
  have y3 := zRow_ext x4 (by omega) y3
  show zW E m_Node_init 2 (zput S7 a 4 (S.1 + 6)) M4 _ _ _ _
  generalize zput S7 a 4 (S.1 + 6) = S8 at x4' y1 y2 y3 y4 z4 n4 m4 ⊢
  refine z_aload_n d_Node_init_56 rfl ?_
  refine z_iload_n d_Node_init_57 rfl ?_
  refine z_puti p_Node_29 rfl d_Node_init_58 (zA_ext x4' ha) rfl rfl ?_
  refine z_vret rfl d_Node_init_61 ?_
  refine hk S8 _ n4 x4' ⟨z4.2.2.2, y1⟩ ⟨z4.2.2.1, y2⟩ ⟨z4.2.1, y3⟩ ⟨z4.1, y4⟩ (fun b hb hne => ?_) (fun b h1 h2 j => ?_) ?_
  · rw [zms_ne _ _ _ hne, m4.1 b hb]
  · rw [zms_ne _ _ _ (by omega), m4.2 b h1 h2 j]
  · rw [zms_self, m4.1 a hal]
end CTOR
