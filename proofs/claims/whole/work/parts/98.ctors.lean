/-! the constructors, run on concrete cells -/
abbrev ZTc : Type := Nat × Nat × List (Option Nat)
def zTd0 : ZTc := (0, 0, [])
def zOf (T : List ZTc) : ZS := (T.length, (fun a => (T.getD a zTd0).1), (fun a => (T.getD a zTd0).2.1), (fun a j => (T.getD a zTd0).2.2.getD j none))
theorem zOf_1 (T : List ZTc) : (zOf T).1 = T.length := rfl
theorem none_rep (n : Nat) : ∀ j, (List.replicate n (none : Option Nat)).getD j none = none := fun j => by
  rw [List.getD_eq_getElem?_getD, List.getElem?_replicate]
  split <;> rfl
theorem zOf_add (T : List ZTc) (ty len : Nat) (rs : List (Option Nat)) (h : ∀ j, rs.getD j none = none) : zadd (zOf T) ty len = zOf (T ++ [(ty, len, rs)]) := by
  have g : ∀ a, a < T.length → (T ++ [(ty, len, rs)]).getD a zTd0 = T.getD a zTd0 := fun a ha => by
    simp [List.getD_eq_getElem?_getD, List.getElem?_append_left ha]
  have g1 : (T ++ [(ty, len, rs)]).getD T.length zTd0 = (ty, len, rs) := by
    simp [List.getD_eq_getElem?_getD]
  have g2 : ∀ a, T.length < a → (T ++ [(ty, len, rs)]).getD a zTd0 = zTd0 ∧ T.getD a zTd0 = zTd0 := fun a ha => by
    constructor
    · rw [List.getD_eq_getElem?_getD, List.getElem?_eq_none (by simp; omega)]; rfl
    · rw [List.getD_eq_getElem?_getD, List.getElem?_eq_none (by omega)]; rfl
  unfold zadd zOf
  refine Prod.ext (by simp) (Prod.ext (funext fun a => ?_) (Prod.ext (funext fun a => ?_) (funext fun a => funext fun j => ?_)))
  · show (if a = T.length then ty else (T.getD a zTd0).1) = ((T ++ [(ty, len, rs)]).getD a zTd0).1
    by_cases e : a = T.length
    · rw [if_pos e, e, g1]
    · rw [if_neg e]
      by_cases l : a < T.length
      · rw [g a l]
      · rw [(g2 a (by omega)).1, (g2 a (by omega)).2]
  · show (if a = T.length then len else (T.getD a zTd0).2.1) = ((T ++ [(ty, len, rs)]).getD a zTd0).2.1
    by_cases e : a = T.length
    · rw [if_pos e, e, g1]
    · rw [if_neg e]
      by_cases l : a < T.length
      · rw [g a l]
      · rw [(g2 a (by omega)).1, (g2 a (by omega)).2]
  · show (if a = T.length then (fun _ => none) else (fun j => (T.getD a zTd0).2.2.getD j none)) j = ((T ++ [(ty, len, rs)]).getD a zTd0).2.2.getD j none
    by_cases e : a = T.length
    · rw [if_pos e, e, g1]
      exact (h j).symm
    · rw [if_neg e]
      by_cases l : a < T.length
      · rw [g a l]
      · rw [(g2 a (by omega)).1, (g2 a (by omega)).2]
theorem zOf_put {T : List ZTc} {a k b ty len : Nat} {rs : List (Option Nat)} (ha : a < T.length) (he : T.getD a zTd0 = (ty, len, rs)) (hk : k < rs.length) : zput (zOf T) a k b = zOf (T.set a (ty, len, rs.set k (some b))) := by
  have g : ∀ c, c ≠ a → (T.set a (ty, len, rs.set k (some b))).getD c zTd0 = T.getD c zTd0 := fun c hc => by
    rw [List.getD_eq_getElem?_getD, List.getElem?_set_ne (fun e => hc e.symm), List.getD_eq_getElem?_getD]
  have g1 : (T.set a (ty, len, rs.set k (some b))).getD a zTd0 = (ty, len, rs.set k (some b)) := by
    rw [List.getD_eq_getElem?_getD, List.getElem?_set_self ha]; rfl
  unfold zput zOf
  refine Prod.ext (by simp) (Prod.ext (funext fun c => ?_) (Prod.ext (funext fun c => ?_) (funext fun c => funext fun j => ?_)))
  · show (T.getD c zTd0).1 = ((T.set a (ty, len, rs.set k (some b))).getD c zTd0).1
    by_cases e : c = a
    · rw [e, g1, he]
    · rw [g c e]
  · show (T.getD c zTd0).2.1 = ((T.set a (ty, len, rs.set k (some b))).getD c zTd0).2.1
    by_cases e : c = a
    · rw [e, g1, he]
    · rw [g c e]
  · show (if c = a then (fun j => if j = k then some b else (T.getD a zTd0).2.2.getD j none) else (fun j => (T.getD c zTd0).2.2.getD j none)) j = ((T.set a (ty, len, rs.set k (some b))).getD c zTd0).2.2.getD j none
    by_cases e : c = a
    · rw [if_pos e, e, g1, he]
      show (if j = k then some b else rs.getD j none) = (rs.set k (some b)).getD j none
      by_cases ej : j = k
      · rw [if_pos ej, ej, List.getD_eq_getElem?_getD, List.getElem?_set_self hk]; rfl
      · rw [if_neg ej, List.getD_eq_getElem?_getD, List.getD_eq_getElem?_getD, List.getElem?_set_ne (fun q => ej q.symm)]
    · rw [if_neg e, g c e]
theorem zM0_id {S : ZS} {M : ZM} (h : ∀ j, M S.1 j = 0) : zM0 S M = M := by
  funext p q
  show (if p = S.1 then (fun _ => 0) else M p) q = M p q
  by_cases e : p = S.1
  · rw [if_pos e, e]; exact (h q).symm
  · rw [if_neg e]
section CR
variable {E : ZE} {mi : ZI} {d : Nat} {S S1 : ZS} {M M1 : ZM} {pc : Nat} {ls : List (Option Value)} {st : List Value} {Φ : Option Value → ZS → ZM → Prop} {x y : Int32} {a b i k : Nat}
theorem c_new {index ci : Nat} (n : Nat) (h : zadd S ci 0 = S1) (hM : zM0 S M = M) (hn : S.1 = n) (hl : zNL mi.1.cls index ci) (hd : decode mi.2.1 pc = .ok (.new index, 3)) (kk : zW E mi d S1 M (pc + 3) ls (.ref n :: st) Φ) : zW E mi d S M pc ls st Φ := z_new hl hd (by rw [h, hM, hn]; exact kk)
theorem c_newI (n N : Nat) (h : zadd S 12 N = S1) (hM : zM0 S M = M) (hn : S.1 = n) (hw : Cond.arrayClass .int ∈ ztbl) (hd : decode mi.2.1 pc = .ok (.newarray .int, 2)) (hx : ¬ x < 0) (hN : x.toNatClampNeg = N) (hb : N * 4 ≤ 536870912) (kk : zW E mi d S1 M (pc + 2) ls (.ref n :: st) Φ) : zW E mi d S M pc ls (.int x :: st) Φ := z_newI N hw hd hx hN hb (by rw [h, hM, hn]; exact kk)
theorem c_newZ (n N : Nat) (h : zadd S 13 N = S1) (hM : zM0 S M = M) (hn : S.1 = n) (hw : Cond.arrayClass .boolean ∈ ztbl) (hd : decode mi.2.1 pc = .ok (.newarray .boolean, 2)) (hx : ¬ x < 0) (hN : x.toNatClampNeg = N) (hb : N * 1 ≤ 536870912) (kk : zW E mi d S1 M (pc + 2) ls (.ref n :: st) Φ) : zW E mi d S M pc ls (.int x :: st) Φ := z_newZ N hw hd hx hN hb (by rw [h, hM, hn]; exact kk)
theorem c_newN {index : Nat} (n N : Nat) (h : zadd S 14 N = S1) (hM : zM0 S M = M) (hn : S.1 = n) (hw1 : Cond.classLink mi.1.cls index "HeadSplits$Node" ∈ ztbl) (hw2 : Cond.arrayOver (.object "HeadSplits$Node") ∈ ztbl) (hd : decode mi.2.1 pc = .ok (.anewarray index, 3)) (hx : ¬ x < 0) (hN : x.toNatClampNeg = N) (hb : N * 4 ≤ 536870912) (kk : zW E mi d S1 M (pc + 3) ls (.ref n :: st) Φ) : zW E mi d S M pc ls (.int x :: st) Φ := z_newN N hw1 hw2 hd hx hN hb (by rw [h, hM, hn]; exact kk)
theorem c_putr {index ci : Nat} {ty : FieldType} (h : zput S a k b = S1) (hl : zPL mi index ci k ty) (hr : zrf ci k = true) (hd : decode mi.2.1 pc = .ok (.putfield index, 3)) (ha : zA S a ci) (hn : ∀ q : Nat, narrow ty (.ref q) = .ref q ∧ fits ty (.ref q) = true) (kk : zW E mi d S1 M (pc + 3) ls st Φ) : zW E mi d S M pc ls (.ref b :: .ref a :: st) Φ := by
  refine z_putr hl hr hd ha hn ?_
  show zW E mi d (zput S a k b) M _ _ _ _
  rw [h]
  exact kk
theorem c_puti {index ci : Nat} {ty : FieldType} (h : zms M a k x = M1) (hl : zPL mi index ci k ty) (hr : zrf ci k = false) (hd : decode mi.2.1 pc = .ok (.putfield index, 3)) (ha : zA S a ci) (hn : narrow ty (.int x) = .int x) (hfit : fits ty (.int x) = true) (kk : zW E mi d S M1 (pc + 3) ls st Φ) : zW E mi d S M pc ls (.int x :: .ref a :: st) Φ := z_puti hl hr hd ha hn hfit (by rw [h]; exact kk)
theorem c_iastore {N : Nat} (j : Nat) (h : zms M a j y = M1) (hd : decode mi.2.1 pc = .ok (.iastore, 1)) (ha : zArr S a N) (hj : j < N) (hx : x = nI j) (kk : zW E mi d S M1 (pc + 1) ls st Φ) : zW E mi d S M pc ls (.int y :: .int x :: .ref a :: st) Φ := y_iastore j hd ha hj hx (by rw [h]; exact kk)
end CR
def tc_0 : List ZTc := []
theorem tl_0 : tc_0.length = 0 := rfl
def mc_0 : ZM := fun _ _ => 0
theorem mz_0 : ∀ b, 0 ≤ b → ∀ j, mc_0 b j = 0 := fun _ _ _ => rfl
def tc_1 : List ZTc := tc_0 ++ [(10, 0, [none, none, none, none, none, none, none, none, none, none, none, none])]
theorem tl_1 : tc_1.length = 1 := by rw [tc_1, List.length_append, tl_0]; rfl
theorem cg_1 : zadd (zOf tc_0) 10 0 = zOf tc_1 := zOf_add _ _ _ _ (by exact none_rep 12)
def tc_2 : List ZTc := tc_1 ++ [(5, 0, [none])]
theorem tl_2 : tc_2.length = 2 := by rw [tc_2, List.length_append, tl_1]; rfl
theorem cg_2 : zadd (zOf tc_1) 5 0 = zOf tc_2 := zOf_add _ _ _ _ (by exact none_rep 1)
def tc_3 : List ZTc := tc_2 ++ [(12, 40, [])]
theorem tl_3 : tc_3.length = 3 := by rw [tc_3, List.length_append, tl_2]; rfl
theorem cg_3 : zadd (zOf tc_2) 12 40 = zOf tc_3 := zOf_add _ _ _ _ (by intro j; rfl)
def tc_4 : List ZTc := tc_3.set 1 (5, 0, [some 2])
theorem tl_4 : tc_4.length = 3 := by rw [tc_4, List.length_set, tl_3]
theorem cg_4 : zput (zOf tc_3) 1 0 2 = zOf tc_4 := zOf_put (rs := [none]) (by rw [tl_3]; decide) (by decide +kernel) (by decide)
theorem ct_1 (E : ZE) : zW E m_Row_init 1 (zOf tc_2) mc_0 0 [some (.ref 1), some (.int 40)] [] (fun r S M => r = none ∧ S = zOf tc_4 ∧ M = mc_0) := by
  refine z_aload_n d_Row_init_0 rfl ?_
  refine z_objInit o_Row_3 o_1 o_2 d_Row_init_1 (by decide) (Nat.le_of_ble_eq_true rfl) ?_
  refine z_aload_n d_Row_init_4 rfl ?_
  refine z_iload_n d_Row_init_5 rfl ?_
  refine z_iconst 0 d_Row_init_6 (by decide) ?_
  refine z_mmax l_Row_9 mx_1 mx_2 mx_3 d_Row_init_7 (by decide) (Nat.le_of_ble_eq_true rfl) ?_
  rw [show (if (40 : Int32) < 0 then (0 : Int32) else 40) = 40 by decide]
  refine c_newI 2 40 cg_3 (zM0_id (mz_0 _ (by rw [zOf_1, tl_2]; decide))) (by rw [zOf_1, tl_2]) a_int d_Row_init_10 (by decide) (by decide) (by decide) ?_
  refine c_putr cg_4 p_Row_15 rfl d_Row_init_12 ⟨by rw [zOf_1, tl_3]; decide, by decide +kernel⟩ (fun q => ⟨rfl, rfl⟩) ?_
  exact z_vret rfl d_Row_init_15 ⟨rfl, rfl, rfl⟩
def tc_5 : List ZTc := tc_4.set 0 (10, 0, [some 1, none, none, none, none, none, none, none, none, none, none, none])
theorem tl_5 : tc_5.length = 3 := by rw [tc_5, List.length_set, tl_4]
theorem cg_5 : zput (zOf tc_4) 0 0 1 = zOf tc_5 := zOf_put (rs := [none, none, none, none, none, none, none, none, none, none, none, none]) (by rw [tl_4]; decide) (by decide +kernel) (by decide)
def tc_6 : List ZTc := tc_5 ++ [(1, 0, [none, none, none, none])]
theorem tl_6 : tc_6.length = 4 := by rw [tc_6, List.length_append, tl_5]; rfl
theorem cg_6 : zadd (zOf tc_5) 1 0 = zOf tc_6 := zOf_add _ _ _ _ (by exact none_rep 4)
def tc_7 : List ZTc := tc_6 ++ [(5, 0, [none])]
theorem tl_7 : tc_7.length = 5 := by rw [tc_7, List.length_append, tl_6]; rfl
theorem cg_7 : zadd (zOf tc_6) 5 0 = zOf tc_7 := zOf_add _ _ _ _ (by exact none_rep 1)
def tc_8 : List ZTc := tc_7 ++ [(12, 12, [])]
theorem tl_8 : tc_8.length = 6 := by rw [tc_8, List.length_append, tl_7]; rfl
theorem cg_8 : zadd (zOf tc_7) 12 12 = zOf tc_8 := zOf_add _ _ _ _ (by intro j; rfl)
def tc_9 : List ZTc := tc_8.set 4 (5, 0, [some 5])
theorem tl_9 : tc_9.length = 6 := by rw [tc_9, List.length_set, tl_8]
theorem cg_9 : zput (zOf tc_8) 4 0 5 = zOf tc_9 := zOf_put (rs := [none]) (by rw [tl_8]; decide) (by decide +kernel) (by decide)
theorem ct_2 (E : ZE) : zW E m_Row_init 1 (zOf tc_7) mc_0 0 [some (.ref 4), some (.int 12)] [] (fun r S M => r = none ∧ S = zOf tc_9 ∧ M = mc_0) := by
  refine z_aload_n d_Row_init_0 rfl ?_
  refine z_objInit o_Row_3 o_1 o_2 d_Row_init_1 (by decide) (Nat.le_of_ble_eq_true rfl) ?_
  refine z_aload_n d_Row_init_4 rfl ?_
  refine z_iload_n d_Row_init_5 rfl ?_
  refine z_iconst 0 d_Row_init_6 (by decide) ?_
  refine z_mmax l_Row_9 mx_1 mx_2 mx_3 d_Row_init_7 (by decide) (Nat.le_of_ble_eq_true rfl) ?_
  rw [show (if (12 : Int32) < 0 then (0 : Int32) else 12) = 12 by decide]
  refine c_newI 5 12 cg_8 (zM0_id (mz_0 _ (by rw [zOf_1, tl_7]; decide))) (by rw [zOf_1, tl_7]) a_int d_Row_init_10 (by decide) (by decide) (by decide) ?_
  refine c_putr cg_9 p_Row_15 rfl d_Row_init_12 ⟨by rw [zOf_1, tl_8]; decide, by decide +kernel⟩ (fun q => ⟨rfl, rfl⟩) ?_
  exact z_vret rfl d_Row_init_15 ⟨rfl, rfl, rfl⟩
def tc_10 : List ZTc := tc_9.set 3 (1, 0, [some 4, none, none, none])
theorem tl_10 : tc_10.length = 6 := by rw [tc_10, List.length_set, tl_9]
theorem cg_10 : zput (zOf tc_9) 3 0 4 = zOf tc_10 := zOf_put (rs := [none, none, none, none]) (by rw [tl_9]; decide) (by decide +kernel) (by decide)
def tc_11 : List ZTc := tc_10 ++ [(5, 0, [none])]
theorem tl_11 : tc_11.length = 7 := by rw [tc_11, List.length_append, tl_10]; rfl
theorem cg_11 : zadd (zOf tc_10) 5 0 = zOf tc_11 := zOf_add _ _ _ _ (by exact none_rep 1)
def tc_12 : List ZTc := tc_11 ++ [(12, 12, [])]
theorem tl_12 : tc_12.length = 8 := by rw [tc_12, List.length_append, tl_11]; rfl
theorem cg_12 : zadd (zOf tc_11) 12 12 = zOf tc_12 := zOf_add _ _ _ _ (by intro j; rfl)
def tc_13 : List ZTc := tc_12.set 6 (5, 0, [some 7])
theorem tl_13 : tc_13.length = 8 := by rw [tc_13, List.length_set, tl_12]
theorem cg_13 : zput (zOf tc_12) 6 0 7 = zOf tc_13 := zOf_put (rs := [none]) (by rw [tl_12]; decide) (by decide +kernel) (by decide)
theorem ct_3 (E : ZE) : zW E m_Row_init 1 (zOf tc_11) mc_0 0 [some (.ref 6), some (.int 12)] [] (fun r S M => r = none ∧ S = zOf tc_13 ∧ M = mc_0) := by
  refine z_aload_n d_Row_init_0 rfl ?_
  refine z_objInit o_Row_3 o_1 o_2 d_Row_init_1 (by decide) (Nat.le_of_ble_eq_true rfl) ?_
  refine z_aload_n d_Row_init_4 rfl ?_
  refine z_iload_n d_Row_init_5 rfl ?_
  refine z_iconst 0 d_Row_init_6 (by decide) ?_
  refine z_mmax l_Row_9 mx_1 mx_2 mx_3 d_Row_init_7 (by decide) (Nat.le_of_ble_eq_true rfl) ?_
  rw [show (if (12 : Int32) < 0 then (0 : Int32) else 12) = 12 by decide]
  refine c_newI 7 12 cg_12 (zM0_id (mz_0 _ (by rw [zOf_1, tl_11]; decide))) (by rw [zOf_1, tl_11]) a_int d_Row_init_10 (by decide) (by decide) (by decide) ?_
  refine c_putr cg_13 p_Row_15 rfl d_Row_init_12 ⟨by rw [zOf_1, tl_12]; decide, by decide +kernel⟩ (fun q => ⟨rfl, rfl⟩) ?_
  exact z_vret rfl d_Row_init_15 ⟨rfl, rfl, rfl⟩
def tc_14 : List ZTc := tc_13.set 3 (1, 0, [some 4, some 6, none, none])
theorem tl_14 : tc_14.length = 8 := by rw [tc_14, List.length_set, tl_13]
theorem cg_14 : zput (zOf tc_13) 3 1 6 = zOf tc_14 := zOf_put (rs := [some 4, none, none, none]) (by rw [tl_13]; decide) (by decide +kernel) (by decide)
def tc_15 : List ZTc := tc_14 ++ [(2, 0, [none])]
theorem tl_15 : tc_15.length = 9 := by rw [tc_15, List.length_append, tl_14]; rfl
theorem cg_15 : zadd (zOf tc_14) 2 0 = zOf tc_15 := zOf_add _ _ _ _ (by exact none_rep 1)
def tc_16 : List ZTc := tc_15 ++ [(12, 6, [])]
theorem tl_16 : tc_16.length = 10 := by rw [tc_16, List.length_append, tl_15]; rfl
theorem cg_16 : zadd (zOf tc_15) 12 6 = zOf tc_16 := zOf_add _ _ _ _ (by intro j; rfl)
def tc_17 : List ZTc := tc_16.set 8 (2, 0, [some 9])
theorem tl_17 : tc_17.length = 10 := by rw [tc_17, List.length_set, tl_16]
theorem cg_17 : zput (zOf tc_16) 8 0 9 = zOf tc_17 := zOf_put (rs := [none]) (by rw [tl_16]; decide) (by decide +kernel) (by decide)
def mc_1 : ZM := zms mc_0 9 0 0
theorem mz_1 : ∀ b, 10 ≤ b → ∀ j, mc_1 b j = 0 := fun b hb j => by rw [mc_1, zms_ne _ _ _ (by omega)]; exact mz_0 b (by omega) j
def mc_2 : ZM := zms mc_1 9 1 1
theorem mz_2 : ∀ b, 10 ≤ b → ∀ j, mc_2 b j = 0 := fun b hb j => by rw [mc_2, zms_ne _ _ _ (by omega)]; exact mz_1 b (by omega) j
def mc_3 : ZM := zms mc_2 9 2 2
theorem mz_3 : ∀ b, 10 ≤ b → ∀ j, mc_3 b j = 0 := fun b hb j => by rw [mc_3, zms_ne _ _ _ (by omega)]; exact mz_2 b (by omega) j
def mc_4 : ZM := zms mc_3 9 3 0
theorem mz_4 : ∀ b, 10 ≤ b → ∀ j, mc_4 b j = 0 := fun b hb j => by rw [mc_4, zms_ne _ _ _ (by omega)]; exact mz_3 b (by omega) j
def mc_5 : ZM := zms mc_4 9 4 1
theorem mz_5 : ∀ b, 10 ≤ b → ∀ j, mc_5 b j = 0 := fun b hb j => by rw [mc_5, zms_ne _ _ _ (by omega)]; exact mz_4 b (by omega) j
def mc_6 : ZM := zms mc_5 9 5 2
theorem mz_6 : ∀ b, 10 ≤ b → ∀ j, mc_6 b j = 0 := fun b hb j => by rw [mc_6, zms_ne _ _ _ (by omega)]; exact mz_5 b (by omega) j
theorem ct_4 (E : ZE) : zW E m_Machine_init 1 (zOf tc_15) mc_0 0 [some (.ref 8), none] [] (fun r S M => r = none ∧ S = zOf tc_17 ∧ M = mc_6) := by
  refine z_aload_n d_Machine_init_0 rfl ?_
  refine z_objInit o_Machine_3 o_1 o_2 d_Machine_init_1 (by decide) (Nat.le_of_ble_eq_true rfl) ?_
  refine z_aload_n d_Machine_init_4 rfl ?_
  refine z_bipush 6 d_Machine_init_5 (by decide) ?_
  refine c_newI 9 6 cg_16 (zM0_id (mz_0 _ (by rw [zOf_1, tl_15]; decide))) (by rw [zOf_1, tl_15]) a_int d_Machine_init_7 (by decide) (by decide) (by decide) ?_
  refine c_putr cg_17 p_Machine_9 rfl d_Machine_init_9 ⟨by rw [zOf_1, tl_16]; decide, by decide +kernel⟩ (fun q => ⟨rfl, rfl⟩) ?_
  refine z_iconst 0 d_Machine_init_12 (by decide) ?_
  refine z_istore_n (ls' := [some (.ref 8), some (.int 0)]) d_Machine_init_13 (Nat.le_of_ble_eq_true rfl) rfl rfl ?_
  refine z_iload_n d_Machine_init_14 rfl ?_
  refine z_aload_n d_Machine_init_15 rfl ?_
  refine z_getr (b := 9) f_Machine_9 rfl d_Machine_init_16 ⟨by rw [zOf_1, tl_17]; decide, by decide +kernel⟩ (by decide +kernel) ?_
  refine y_alen (N := 6) 6 d_Machine_init_19 ⟨⟨by rw [zOf_1, tl_17]; decide, by decide +kernel⟩, by decide +kernel, by decide⟩ rfl ?_
  refine z_icmp_ge 38 d_Machine_init_20 rfl ⟨fun q => absurd q (by decide), fun _ => ?_⟩
  refine z_aload_n d_Machine_init_23 rfl ?_
  refine z_getr (b := 9) f_Machine_9 rfl d_Machine_init_24 ⟨by rw [zOf_1, tl_17]; decide, by decide +kernel⟩ (by decide +kernel) ?_
  refine z_iload_n d_Machine_init_27 rfl ?_
  refine z_iload_n d_Machine_init_28 rfl ?_
  refine z_iconst 3 d_Machine_init_29 (by decide) ?_
  refine z_irem d_Machine_init_30 (by decide) ?_
  rw [show (0 : Int32) - 0 / 3 * 3 = 0 by decide]
  refine c_iastore (M1 := mc_1) 0 rfl d_Machine_init_31 (N := 6) ⟨⟨by rw [zOf_1, tl_17]; decide, by decide +kernel⟩, by decide +kernel, by decide⟩ (by decide) (by decide) ?_
  refine z_iinc (ls' := [some (.ref 8), some (.int 1)]) 1 d_Machine_init_32 rfl (by decide) (Nat.le_of_ble_eq_true rfl) rfl rfl ?_
  refine z_goto 14 d_Machine_init_35 rfl ?_
  refine z_iload_n d_Machine_init_14 rfl ?_
  refine z_aload_n d_Machine_init_15 rfl ?_
  refine z_getr (b := 9) f_Machine_9 rfl d_Machine_init_16 ⟨by rw [zOf_1, tl_17]; decide, by decide +kernel⟩ (by decide +kernel) ?_
  refine y_alen (N := 6) 6 d_Machine_init_19 ⟨⟨by rw [zOf_1, tl_17]; decide, by decide +kernel⟩, by decide +kernel, by decide⟩ rfl ?_
  refine z_icmp_ge 38 d_Machine_init_20 rfl ⟨fun q => absurd q (by decide), fun _ => ?_⟩
  refine z_aload_n d_Machine_init_23 rfl ?_
  refine z_getr (b := 9) f_Machine_9 rfl d_Machine_init_24 ⟨by rw [zOf_1, tl_17]; decide, by decide +kernel⟩ (by decide +kernel) ?_
  refine z_iload_n d_Machine_init_27 rfl ?_
  refine z_iload_n d_Machine_init_28 rfl ?_
  refine z_iconst 3 d_Machine_init_29 (by decide) ?_
  refine z_irem d_Machine_init_30 (by decide) ?_
  rw [show (1 : Int32) - 1 / 3 * 3 = 1 by decide]
  refine c_iastore (M1 := mc_2) 1 rfl d_Machine_init_31 (N := 6) ⟨⟨by rw [zOf_1, tl_17]; decide, by decide +kernel⟩, by decide +kernel, by decide⟩ (by decide) (by decide) ?_
  refine z_iinc (ls' := [some (.ref 8), some (.int 2)]) 2 d_Machine_init_32 rfl (by decide) (Nat.le_of_ble_eq_true rfl) rfl rfl ?_
  refine z_goto 14 d_Machine_init_35 rfl ?_
  refine z_iload_n d_Machine_init_14 rfl ?_
  refine z_aload_n d_Machine_init_15 rfl ?_
  refine z_getr (b := 9) f_Machine_9 rfl d_Machine_init_16 ⟨by rw [zOf_1, tl_17]; decide, by decide +kernel⟩ (by decide +kernel) ?_
  refine y_alen (N := 6) 6 d_Machine_init_19 ⟨⟨by rw [zOf_1, tl_17]; decide, by decide +kernel⟩, by decide +kernel, by decide⟩ rfl ?_
  refine z_icmp_ge 38 d_Machine_init_20 rfl ⟨fun q => absurd q (by decide), fun _ => ?_⟩
  refine z_aload_n d_Machine_init_23 rfl ?_
  refine z_getr (b := 9) f_Machine_9 rfl d_Machine_init_24 ⟨by rw [zOf_1, tl_17]; decide, by decide +kernel⟩ (by decide +kernel) ?_
  refine z_iload_n d_Machine_init_27 rfl ?_
  refine z_iload_n d_Machine_init_28 rfl ?_
  refine z_iconst 3 d_Machine_init_29 (by decide) ?_
  refine z_irem d_Machine_init_30 (by decide) ?_
  rw [show (2 : Int32) - 2 / 3 * 3 = 2 by decide]
  refine c_iastore (M1 := mc_3) 2 rfl d_Machine_init_31 (N := 6) ⟨⟨by rw [zOf_1, tl_17]; decide, by decide +kernel⟩, by decide +kernel, by decide⟩ (by decide) (by decide) ?_
  refine z_iinc (ls' := [some (.ref 8), some (.int 3)]) 3 d_Machine_init_32 rfl (by decide) (Nat.le_of_ble_eq_true rfl) rfl rfl ?_
  refine z_goto 14 d_Machine_init_35 rfl ?_
  refine z_iload_n d_Machine_init_14 rfl ?_
  refine z_aload_n d_Machine_init_15 rfl ?_
  refine z_getr (b := 9) f_Machine_9 rfl d_Machine_init_16 ⟨by rw [zOf_1, tl_17]; decide, by decide +kernel⟩ (by decide +kernel) ?_
  refine y_alen (N := 6) 6 d_Machine_init_19 ⟨⟨by rw [zOf_1, tl_17]; decide, by decide +kernel⟩, by decide +kernel, by decide⟩ rfl ?_
  refine z_icmp_ge 38 d_Machine_init_20 rfl ⟨fun q => absurd q (by decide), fun _ => ?_⟩
  refine z_aload_n d_Machine_init_23 rfl ?_
  refine z_getr (b := 9) f_Machine_9 rfl d_Machine_init_24 ⟨by rw [zOf_1, tl_17]; decide, by decide +kernel⟩ (by decide +kernel) ?_
  refine z_iload_n d_Machine_init_27 rfl ?_
  refine z_iload_n d_Machine_init_28 rfl ?_
  refine z_iconst 3 d_Machine_init_29 (by decide) ?_
  refine z_irem d_Machine_init_30 (by decide) ?_
  rw [show (3 : Int32) - 3 / 3 * 3 = 0 by decide]
  refine c_iastore (M1 := mc_4) 3 rfl d_Machine_init_31 (N := 6) ⟨⟨by rw [zOf_1, tl_17]; decide, by decide +kernel⟩, by decide +kernel, by decide⟩ (by decide) (by decide) ?_
  refine z_iinc (ls' := [some (.ref 8), some (.int 4)]) 4 d_Machine_init_32 rfl (by decide) (Nat.le_of_ble_eq_true rfl) rfl rfl ?_
  refine z_goto 14 d_Machine_init_35 rfl ?_
  refine z_iload_n d_Machine_init_14 rfl ?_
  refine z_aload_n d_Machine_init_15 rfl ?_
  refine z_getr (b := 9) f_Machine_9 rfl d_Machine_init_16 ⟨by rw [zOf_1, tl_17]; decide, by decide +kernel⟩ (by decide +kernel) ?_
  refine y_alen (N := 6) 6 d_Machine_init_19 ⟨⟨by rw [zOf_1, tl_17]; decide, by decide +kernel⟩, by decide +kernel, by decide⟩ rfl ?_
  refine z_icmp_ge 38 d_Machine_init_20 rfl ⟨fun q => absurd q (by decide), fun _ => ?_⟩
  refine z_aload_n d_Machine_init_23 rfl ?_
  refine z_getr (b := 9) f_Machine_9 rfl d_Machine_init_24 ⟨by rw [zOf_1, tl_17]; decide, by decide +kernel⟩ (by decide +kernel) ?_
  refine z_iload_n d_Machine_init_27 rfl ?_
  refine z_iload_n d_Machine_init_28 rfl ?_
  refine z_iconst 3 d_Machine_init_29 (by decide) ?_
  refine z_irem d_Machine_init_30 (by decide) ?_
  rw [show (4 : Int32) - 4 / 3 * 3 = 1 by decide]
  refine c_iastore (M1 := mc_5) 4 rfl d_Machine_init_31 (N := 6) ⟨⟨by rw [zOf_1, tl_17]; decide, by decide +kernel⟩, by decide +kernel, by decide⟩ (by decide) (by decide) ?_
  refine z_iinc (ls' := [some (.ref 8), some (.int 5)]) 5 d_Machine_init_32 rfl (by decide) (Nat.le_of_ble_eq_true rfl) rfl rfl ?_
  refine z_goto 14 d_Machine_init_35 rfl ?_
  refine z_iload_n d_Machine_init_14 rfl ?_
  refine z_aload_n d_Machine_init_15 rfl ?_
  refine z_getr (b := 9) f_Machine_9 rfl d_Machine_init_16 ⟨by rw [zOf_1, tl_17]; decide, by decide +kernel⟩ (by decide +kernel) ?_
  refine y_alen (N := 6) 6 d_Machine_init_19 ⟨⟨by rw [zOf_1, tl_17]; decide, by decide +kernel⟩, by decide +kernel, by decide⟩ rfl ?_
  refine z_icmp_ge 38 d_Machine_init_20 rfl ⟨fun q => absurd q (by decide), fun _ => ?_⟩
  refine z_aload_n d_Machine_init_23 rfl ?_
  refine z_getr (b := 9) f_Machine_9 rfl d_Machine_init_24 ⟨by rw [zOf_1, tl_17]; decide, by decide +kernel⟩ (by decide +kernel) ?_
  refine z_iload_n d_Machine_init_27 rfl ?_
  refine z_iload_n d_Machine_init_28 rfl ?_
  refine z_iconst 3 d_Machine_init_29 (by decide) ?_
  refine z_irem d_Machine_init_30 (by decide) ?_
  rw [show (5 : Int32) - 5 / 3 * 3 = 2 by decide]
  refine c_iastore (M1 := mc_6) 5 rfl d_Machine_init_31 (N := 6) ⟨⟨by rw [zOf_1, tl_17]; decide, by decide +kernel⟩, by decide +kernel, by decide⟩ (by decide) (by decide) ?_
  refine z_iinc (ls' := [some (.ref 8), some (.int 6)]) 6 d_Machine_init_32 rfl (by decide) (Nat.le_of_ble_eq_true rfl) rfl rfl ?_
  refine z_goto 14 d_Machine_init_35 rfl ?_
  refine z_iload_n d_Machine_init_14 rfl ?_
  refine z_aload_n d_Machine_init_15 rfl ?_
  refine z_getr (b := 9) f_Machine_9 rfl d_Machine_init_16 ⟨by rw [zOf_1, tl_17]; decide, by decide +kernel⟩ (by decide +kernel) ?_
  refine y_alen (N := 6) 6 d_Machine_init_19 ⟨⟨by rw [zOf_1, tl_17]; decide, by decide +kernel⟩, by decide +kernel, by decide⟩ rfl ?_
  refine z_icmp_ge 38 d_Machine_init_20 rfl ⟨fun _ => ?_, fun q => absurd (by decide) q⟩
  exact z_vret rfl d_Machine_init_38 ⟨rfl, rfl, rfl⟩
def tc_18 : List ZTc := tc_17.set 3 (1, 0, [some 4, some 6, some 8, none])
theorem tl_18 : tc_18.length = 10 := by rw [tc_18, List.length_set, tl_17]
theorem cg_18 : zput (zOf tc_17) 3 2 8 = zOf tc_18 := zOf_put (rs := [some 4, some 6, none, none]) (by rw [tl_17]; decide) (by decide +kernel) (by decide)
def tc_19 : List ZTc := tc_18 ++ [(9, 0, [none, none, none])]
theorem tl_19 : tc_19.length = 11 := by rw [tc_19, List.length_append, tl_18]; rfl
theorem cg_19 : zadd (zOf tc_18) 9 0 = zOf tc_19 := zOf_add _ _ _ _ (by exact none_rep 3)
def tc_20 : List ZTc := tc_19 ++ [(5, 0, [none])]
theorem tl_20 : tc_20.length = 12 := by rw [tc_20, List.length_append, tl_19]; rfl
theorem cg_20 : zadd (zOf tc_19) 5 0 = zOf tc_20 := zOf_add _ _ _ _ (by exact none_rep 1)
def tc_21 : List ZTc := tc_20 ++ [(12, 12, [])]
theorem tl_21 : tc_21.length = 13 := by rw [tc_21, List.length_append, tl_20]; rfl
theorem cg_21 : zadd (zOf tc_20) 12 12 = zOf tc_21 := zOf_add _ _ _ _ (by intro j; rfl)
def tc_22 : List ZTc := tc_21.set 11 (5, 0, [some 12])
theorem tl_22 : tc_22.length = 13 := by rw [tc_22, List.length_set, tl_21]
theorem cg_22 : zput (zOf tc_21) 11 0 12 = zOf tc_22 := zOf_put (rs := [none]) (by rw [tl_21]; decide) (by decide +kernel) (by decide)
theorem ct_5 (E : ZE) : zW E m_Row_init 1 (zOf tc_20) mc_6 0 [some (.ref 11), some (.int 12)] [] (fun r S M => r = none ∧ S = zOf tc_22 ∧ M = mc_6) := by
  refine z_aload_n d_Row_init_0 rfl ?_
  refine z_objInit o_Row_3 o_1 o_2 d_Row_init_1 (by decide) (Nat.le_of_ble_eq_true rfl) ?_
  refine z_aload_n d_Row_init_4 rfl ?_
  refine z_iload_n d_Row_init_5 rfl ?_
  refine z_iconst 0 d_Row_init_6 (by decide) ?_
  refine z_mmax l_Row_9 mx_1 mx_2 mx_3 d_Row_init_7 (by decide) (Nat.le_of_ble_eq_true rfl) ?_
  rw [show (if (12 : Int32) < 0 then (0 : Int32) else 12) = 12 by decide]
  refine c_newI 12 12 cg_21 (zM0_id (mz_6 _ (by rw [zOf_1, tl_20]; decide))) (by rw [zOf_1, tl_20]) a_int d_Row_init_10 (by decide) (by decide) (by decide) ?_
  refine c_putr cg_22 p_Row_15 rfl d_Row_init_12 ⟨by rw [zOf_1, tl_21]; decide, by decide +kernel⟩ (fun q => ⟨rfl, rfl⟩) ?_
  exact z_vret rfl d_Row_init_15 ⟨rfl, rfl, rfl⟩
def tc_23 : List ZTc := tc_22.set 10 (9, 0, [some 11, none, none])
theorem tl_23 : tc_23.length = 13 := by rw [tc_23, List.length_set, tl_22]
theorem cg_23 : zput (zOf tc_22) 10 0 11 = zOf tc_23 := zOf_put (rs := [none, none, none]) (by rw [tl_22]; decide) (by decide +kernel) (by decide)
def tc_24 : List ZTc := tc_23 ++ [(5, 0, [none])]
theorem tl_24 : tc_24.length = 14 := by rw [tc_24, List.length_append, tl_23]; rfl
theorem cg_24 : zadd (zOf tc_23) 5 0 = zOf tc_24 := zOf_add _ _ _ _ (by exact none_rep 1)
def tc_25 : List ZTc := tc_24 ++ [(12, 12, [])]
theorem tl_25 : tc_25.length = 15 := by rw [tc_25, List.length_append, tl_24]; rfl
theorem cg_25 : zadd (zOf tc_24) 12 12 = zOf tc_25 := zOf_add _ _ _ _ (by intro j; rfl)
def tc_26 : List ZTc := tc_25.set 13 (5, 0, [some 14])
theorem tl_26 : tc_26.length = 15 := by rw [tc_26, List.length_set, tl_25]
theorem cg_26 : zput (zOf tc_25) 13 0 14 = zOf tc_26 := zOf_put (rs := [none]) (by rw [tl_25]; decide) (by decide +kernel) (by decide)
theorem ct_6 (E : ZE) : zW E m_Row_init 1 (zOf tc_24) mc_6 0 [some (.ref 13), some (.int 12)] [] (fun r S M => r = none ∧ S = zOf tc_26 ∧ M = mc_6) := by
  refine z_aload_n d_Row_init_0 rfl ?_
  refine z_objInit o_Row_3 o_1 o_2 d_Row_init_1 (by decide) (Nat.le_of_ble_eq_true rfl) ?_
  refine z_aload_n d_Row_init_4 rfl ?_
  refine z_iload_n d_Row_init_5 rfl ?_
  refine z_iconst 0 d_Row_init_6 (by decide) ?_
  refine z_mmax l_Row_9 mx_1 mx_2 mx_3 d_Row_init_7 (by decide) (Nat.le_of_ble_eq_true rfl) ?_
  rw [show (if (12 : Int32) < 0 then (0 : Int32) else 12) = 12 by decide]
  refine c_newI 14 12 cg_25 (zM0_id (mz_6 _ (by rw [zOf_1, tl_24]; decide))) (by rw [zOf_1, tl_24]) a_int d_Row_init_10 (by decide) (by decide) (by decide) ?_
  refine c_putr cg_26 p_Row_15 rfl d_Row_init_12 ⟨by rw [zOf_1, tl_25]; decide, by decide +kernel⟩ (fun q => ⟨rfl, rfl⟩) ?_
  exact z_vret rfl d_Row_init_15 ⟨rfl, rfl, rfl⟩
def tc_27 : List ZTc := tc_26.set 10 (9, 0, [some 11, some 13, none])
theorem tl_27 : tc_27.length = 15 := by rw [tc_27, List.length_set, tl_26]
theorem cg_27 : zput (zOf tc_26) 10 1 13 = zOf tc_27 := zOf_put (rs := [some 11, none, none]) (by rw [tl_26]; decide) (by decide +kernel) (by decide)
def tc_28 : List ZTc := tc_27 ++ [(5, 0, [none])]
theorem tl_28 : tc_28.length = 16 := by rw [tc_28, List.length_append, tl_27]; rfl
theorem cg_28 : zadd (zOf tc_27) 5 0 = zOf tc_28 := zOf_add _ _ _ _ (by exact none_rep 1)
def tc_29 : List ZTc := tc_28 ++ [(12, 12, [])]
theorem tl_29 : tc_29.length = 17 := by rw [tc_29, List.length_append, tl_28]; rfl
theorem cg_29 : zadd (zOf tc_28) 12 12 = zOf tc_29 := zOf_add _ _ _ _ (by intro j; rfl)
def tc_30 : List ZTc := tc_29.set 15 (5, 0, [some 16])
theorem tl_30 : tc_30.length = 17 := by rw [tc_30, List.length_set, tl_29]
theorem cg_30 : zput (zOf tc_29) 15 0 16 = zOf tc_30 := zOf_put (rs := [none]) (by rw [tl_29]; decide) (by decide +kernel) (by decide)
theorem ct_7 (E : ZE) : zW E m_Row_init 1 (zOf tc_28) mc_6 0 [some (.ref 15), some (.int 12)] [] (fun r S M => r = none ∧ S = zOf tc_30 ∧ M = mc_6) := by
  refine z_aload_n d_Row_init_0 rfl ?_
  refine z_objInit o_Row_3 o_1 o_2 d_Row_init_1 (by decide) (Nat.le_of_ble_eq_true rfl) ?_
  refine z_aload_n d_Row_init_4 rfl ?_
  refine z_iload_n d_Row_init_5 rfl ?_
  refine z_iconst 0 d_Row_init_6 (by decide) ?_
  refine z_mmax l_Row_9 mx_1 mx_2 mx_3 d_Row_init_7 (by decide) (Nat.le_of_ble_eq_true rfl) ?_
  rw [show (if (12 : Int32) < 0 then (0 : Int32) else 12) = 12 by decide]
  refine c_newI 16 12 cg_29 (zM0_id (mz_6 _ (by rw [zOf_1, tl_28]; decide))) (by rw [zOf_1, tl_28]) a_int d_Row_init_10 (by decide) (by decide) (by decide) ?_
  refine c_putr cg_30 p_Row_15 rfl d_Row_init_12 ⟨by rw [zOf_1, tl_29]; decide, by decide +kernel⟩ (fun q => ⟨rfl, rfl⟩) ?_
  exact z_vret rfl d_Row_init_15 ⟨rfl, rfl, rfl⟩
def tc_31 : List ZTc := tc_30.set 10 (9, 0, [some 11, some 13, some 15])
theorem tl_31 : tc_31.length = 17 := by rw [tc_31, List.length_set, tl_30]
theorem cg_31 : zput (zOf tc_30) 10 2 15 = zOf tc_31 := zOf_put (rs := [some 11, some 13, none]) (by rw [tl_30]; decide) (by decide +kernel) (by decide)
theorem ct_8 (E : ZE) : zW E m_Words_init 2 (zOf tc_19) mc_6 0 [some (.ref 10), some (.int 12)] [] (fun r S M => r = none ∧ S = zOf tc_31 ∧ M = mc_6) := by
  refine z_aload_n d_Words_init_0 rfl ?_
  refine z_objInit o_Words_3 o_1 o_2 d_Words_init_1 (by decide) (Nat.le_of_ble_eq_true rfl) ?_
  refine z_aload_n d_Words_init_4 rfl ?_
  refine c_new 11 cg_20 (zM0_id (mz_6 _ (by rw [zOf_1, tl_19]; decide))) (by rw [zOf_1, tl_19]) n_Words_9 d_Words_init_5 ?_
  refine z_dup d_Words_init_8 rfl ?_
  refine z_iload_n d_Words_init_9 rfl ?_
  refine z_callI (a := 11) (as := [.int 12]) (st := [.ref 11, .ref 10]) (d' := 1) i_Row_init rfl rfl v_Row_init l_Words_11 d_Words_init_10 (by decide) rfl (Nat.le_of_ble_eq_true rfl) (Nat.le_of_ble_eq_true rfl) (ct_5 E) (fun r S1 M1 h => ?_)
  obtain ⟨rfl, rfl, rfl⟩ := h
  refine c_putr cg_23 p_Words_14 rfl d_Words_init_13 ⟨by rw [zOf_1, tl_22]; decide, by decide +kernel⟩ (fun q => ⟨rfl, rfl⟩) ?_
  refine z_aload_n d_Words_init_16 rfl ?_
  refine c_new 13 cg_24 (zM0_id (mz_6 _ (by rw [zOf_1, tl_23]; decide))) (by rw [zOf_1, tl_23]) n_Words_9 d_Words_init_17 ?_
  refine z_dup d_Words_init_20 rfl ?_
  refine z_iload_n d_Words_init_21 rfl ?_
  refine z_callI (a := 13) (as := [.int 12]) (st := [.ref 13, .ref 10]) (d' := 1) i_Row_init rfl rfl v_Row_init l_Words_11 d_Words_init_22 (by decide) rfl (Nat.le_of_ble_eq_true rfl) (Nat.le_of_ble_eq_true rfl) (ct_6 E) (fun r S1 M1 h => ?_)
  obtain ⟨rfl, rfl, rfl⟩ := h
  refine c_putr cg_27 p_Words_20 rfl d_Words_init_25 ⟨by rw [zOf_1, tl_26]; decide, by decide +kernel⟩ (fun q => ⟨rfl, rfl⟩) ?_
  refine z_aload_n d_Words_init_28 rfl ?_
  refine c_new 15 cg_28 (zM0_id (mz_6 _ (by rw [zOf_1, tl_27]; decide))) (by rw [zOf_1, tl_27]) n_Words_9 d_Words_init_29 ?_
  refine z_dup d_Words_init_32 rfl ?_
  refine z_iload_n d_Words_init_33 rfl ?_
  refine z_callI (a := 15) (as := [.int 12]) (st := [.ref 15, .ref 10]) (d' := 1) i_Row_init rfl rfl v_Row_init l_Words_11 d_Words_init_34 (by decide) rfl (Nat.le_of_ble_eq_true rfl) (Nat.le_of_ble_eq_true rfl) (ct_7 E) (fun r S1 M1 h => ?_)
  obtain ⟨rfl, rfl, rfl⟩ := h
  refine c_putr cg_31 p_Words_23 rfl d_Words_init_37 ⟨by rw [zOf_1, tl_30]; decide, by decide +kernel⟩ (fun q => ⟨rfl, rfl⟩) ?_
  exact z_vret rfl d_Words_init_40 ⟨rfl, rfl, rfl⟩
def tc_32 : List ZTc := tc_31.set 3 (1, 0, [some 4, some 6, some 8, some 10])
theorem tl_32 : tc_32.length = 17 := by rw [tc_32, List.length_set, tl_31]
theorem cg_32 : zput (zOf tc_31) 3 3 10 = zOf tc_32 := zOf_put (rs := [some 4, some 6, some 8, none]) (by rw [tl_31]; decide) (by decide +kernel) (by decide)
def mc_7 : ZM := zms mc_6 3 4 134217727
theorem mz_7 : ∀ b, 10 ≤ b → ∀ j, mc_7 b j = 0 := fun b hb j => by rw [mc_7, zms_ne _ _ _ (by omega)]; exact mz_6 b (by omega) j
theorem ct_9 (E : ZE) : zW E m_Book_init 3 (zOf tc_6) mc_0 0 [some (.ref 3)] [] (fun r S M => r = none ∧ S = zOf tc_32 ∧ M = mc_7) := by
  refine z_aload_n d_Book_init_0 rfl ?_
  refine z_objInit o_Book_3 o_1 o_2 d_Book_init_1 (by decide) (Nat.le_of_ble_eq_true rfl) ?_
  refine z_aload_n d_Book_init_4 rfl ?_
  refine c_new 4 cg_7 (zM0_id (mz_0 _ (by rw [zOf_1, tl_6]; decide))) (by rw [zOf_1, tl_6]) n_Book_9 d_Book_init_5 ?_
  refine z_dup d_Book_init_8 rfl ?_
  refine z_bipush 12 d_Book_init_9 (by decide) ?_
  refine z_callI (a := 4) (as := [.int 12]) (st := [.ref 4, .ref 3]) (d' := 1) i_Row_init rfl rfl v_Row_init l_Book_11 d_Book_init_11 (by decide) rfl (Nat.le_of_ble_eq_true rfl) (Nat.le_of_ble_eq_true rfl) (ct_2 E) (fun r S1 M1 h => ?_)
  obtain ⟨rfl, rfl, rfl⟩ := h
  refine c_putr cg_10 p_Book_14 rfl d_Book_init_14 ⟨by rw [zOf_1, tl_9]; decide, by decide +kernel⟩ (fun q => ⟨rfl, rfl⟩) ?_
  refine z_aload_n d_Book_init_17 rfl ?_
  refine c_new 6 cg_11 (zM0_id (mz_0 _ (by rw [zOf_1, tl_10]; decide))) (by rw [zOf_1, tl_10]) n_Book_9 d_Book_init_18 ?_
  refine z_dup d_Book_init_21 rfl ?_
  refine z_bipush 12 d_Book_init_22 (by decide) ?_
  refine z_callI (a := 6) (as := [.int 12]) (st := [.ref 6, .ref 3]) (d' := 1) i_Row_init rfl rfl v_Row_init l_Book_11 d_Book_init_24 (by decide) rfl (Nat.le_of_ble_eq_true rfl) (Nat.le_of_ble_eq_true rfl) (ct_3 E) (fun r S1 M1 h => ?_)
  obtain ⟨rfl, rfl, rfl⟩ := h
  refine c_putr cg_14 p_Book_20 rfl d_Book_init_27 ⟨by rw [zOf_1, tl_13]; decide, by decide +kernel⟩ (fun q => ⟨rfl, rfl⟩) ?_
  refine z_aload_n d_Book_init_30 rfl ?_
  refine c_new 8 cg_15 (zM0_id (mz_0 _ (by rw [zOf_1, tl_14]; decide))) (by rw [zOf_1, tl_14]) n_Book_23 d_Book_init_31 ?_
  refine z_dup d_Book_init_34 rfl ?_
  refine z_callI (a := 8) (as := []) (st := [.ref 8, .ref 3]) (d' := 1) i_Machine_init rfl rfl v_Machine_init l_Book_25 d_Book_init_35 (by decide) rfl (Nat.le_of_ble_eq_true rfl) (Nat.le_of_ble_eq_true rfl) (ct_4 E) (fun r S1 M1 h => ?_)
  obtain ⟨rfl, rfl, rfl⟩ := h
  refine c_putr cg_18 p_Book_26 rfl d_Book_init_38 ⟨by rw [zOf_1, tl_17]; decide, by decide +kernel⟩ (fun q => ⟨rfl, rfl⟩) ?_
  refine z_aload_n d_Book_init_41 rfl ?_
  refine c_new 10 cg_19 (zM0_id (mz_6 _ (by rw [zOf_1, tl_18]; decide))) (by rw [zOf_1, tl_18]) n_Book_30 d_Book_init_42 ?_
  refine z_dup d_Book_init_45 rfl ?_
  refine z_bipush 12 d_Book_init_46 (by decide) ?_
  refine z_callI (a := 10) (as := [.int 12]) (st := [.ref 10, .ref 3]) (d' := 2) i_Words_init rfl rfl v_Words_init l_Book_32 d_Book_init_48 (by decide) rfl (Nat.le_of_ble_eq_true rfl) (Nat.le_of_ble_eq_true rfl) (ct_8 E) (fun r S1 M1 h => ?_)
  obtain ⟨rfl, rfl, rfl⟩ := h
  refine c_putr cg_32 p_Book_33 rfl d_Book_init_51 ⟨by rw [zOf_1, tl_31]; decide, by decide +kernel⟩ (fun q => ⟨rfl, rfl⟩) ?_
  refine z_aload_n d_Book_init_54 rfl ?_
  refine z_ldc 134217727 d_Book_init_55 k_Book_39 ?_
  refine c_puti (M1 := mc_7) rfl (p_Book_40 rfl) rfl d_Book_init_57 ⟨by rw [zOf_1, tl_32]; decide, by decide +kernel⟩ rfl rfl ?_
  exact z_vret rfl d_Book_init_60 ⟨rfl, rfl, rfl⟩
def tc_33 : List ZTc := tc_32.set 0 (10, 0, [some 1, some 3, none, none, none, none, none, none, none, none, none, none])
theorem tl_33 : tc_33.length = 17 := by rw [tc_33, List.length_set, tl_32]
theorem cg_33 : zput (zOf tc_32) 0 1 3 = zOf tc_33 := zOf_put (rs := [some 1, none, none, none, none, none, none, none, none, none, none, none]) (by rw [tl_32]; decide) (by decide +kernel) (by decide)
def tc_34 : List ZTc := tc_33 ++ [(1, 0, [none, none, none, none])]
theorem tl_34 : tc_34.length = 18 := by rw [tc_34, List.length_append, tl_33]; rfl
theorem cg_34 : zadd (zOf tc_33) 1 0 = zOf tc_34 := zOf_add _ _ _ _ (by exact none_rep 4)
def tc_35 : List ZTc := tc_34 ++ [(5, 0, [none])]
theorem tl_35 : tc_35.length = 19 := by rw [tc_35, List.length_append, tl_34]; rfl
theorem cg_35 : zadd (zOf tc_34) 5 0 = zOf tc_35 := zOf_add _ _ _ _ (by exact none_rep 1)
def tc_36 : List ZTc := tc_35 ++ [(12, 12, [])]
theorem tl_36 : tc_36.length = 20 := by rw [tc_36, List.length_append, tl_35]; rfl
theorem cg_36 : zadd (zOf tc_35) 12 12 = zOf tc_36 := zOf_add _ _ _ _ (by intro j; rfl)
def tc_37 : List ZTc := tc_36.set 18 (5, 0, [some 19])
theorem tl_37 : tc_37.length = 20 := by rw [tc_37, List.length_set, tl_36]
theorem cg_37 : zput (zOf tc_36) 18 0 19 = zOf tc_37 := zOf_put (rs := [none]) (by rw [tl_36]; decide) (by decide +kernel) (by decide)
theorem ct_10 (E : ZE) : zW E m_Row_init 1 (zOf tc_35) mc_7 0 [some (.ref 18), some (.int 12)] [] (fun r S M => r = none ∧ S = zOf tc_37 ∧ M = mc_7) := by
  refine z_aload_n d_Row_init_0 rfl ?_
  refine z_objInit o_Row_3 o_1 o_2 d_Row_init_1 (by decide) (Nat.le_of_ble_eq_true rfl) ?_
  refine z_aload_n d_Row_init_4 rfl ?_
  refine z_iload_n d_Row_init_5 rfl ?_
  refine z_iconst 0 d_Row_init_6 (by decide) ?_
  refine z_mmax l_Row_9 mx_1 mx_2 mx_3 d_Row_init_7 (by decide) (Nat.le_of_ble_eq_true rfl) ?_
  rw [show (if (12 : Int32) < 0 then (0 : Int32) else 12) = 12 by decide]
  refine c_newI 19 12 cg_36 (zM0_id (mz_7 _ (by rw [zOf_1, tl_35]; decide))) (by rw [zOf_1, tl_35]) a_int d_Row_init_10 (by decide) (by decide) (by decide) ?_
  refine c_putr cg_37 p_Row_15 rfl d_Row_init_12 ⟨by rw [zOf_1, tl_36]; decide, by decide +kernel⟩ (fun q => ⟨rfl, rfl⟩) ?_
  exact z_vret rfl d_Row_init_15 ⟨rfl, rfl, rfl⟩
def tc_38 : List ZTc := tc_37.set 17 (1, 0, [some 18, none, none, none])
theorem tl_38 : tc_38.length = 20 := by rw [tc_38, List.length_set, tl_37]
theorem cg_38 : zput (zOf tc_37) 17 0 18 = zOf tc_38 := zOf_put (rs := [none, none, none, none]) (by rw [tl_37]; decide) (by decide +kernel) (by decide)
def tc_39 : List ZTc := tc_38 ++ [(5, 0, [none])]
theorem tl_39 : tc_39.length = 21 := by rw [tc_39, List.length_append, tl_38]; rfl
theorem cg_39 : zadd (zOf tc_38) 5 0 = zOf tc_39 := zOf_add _ _ _ _ (by exact none_rep 1)
def tc_40 : List ZTc := tc_39 ++ [(12, 12, [])]
theorem tl_40 : tc_40.length = 22 := by rw [tc_40, List.length_append, tl_39]; rfl
theorem cg_40 : zadd (zOf tc_39) 12 12 = zOf tc_40 := zOf_add _ _ _ _ (by intro j; rfl)
def tc_41 : List ZTc := tc_40.set 20 (5, 0, [some 21])
theorem tl_41 : tc_41.length = 22 := by rw [tc_41, List.length_set, tl_40]
theorem cg_41 : zput (zOf tc_40) 20 0 21 = zOf tc_41 := zOf_put (rs := [none]) (by rw [tl_40]; decide) (by decide +kernel) (by decide)
theorem ct_11 (E : ZE) : zW E m_Row_init 1 (zOf tc_39) mc_7 0 [some (.ref 20), some (.int 12)] [] (fun r S M => r = none ∧ S = zOf tc_41 ∧ M = mc_7) := by
  refine z_aload_n d_Row_init_0 rfl ?_
  refine z_objInit o_Row_3 o_1 o_2 d_Row_init_1 (by decide) (Nat.le_of_ble_eq_true rfl) ?_
  refine z_aload_n d_Row_init_4 rfl ?_
  refine z_iload_n d_Row_init_5 rfl ?_
  refine z_iconst 0 d_Row_init_6 (by decide) ?_
  refine z_mmax l_Row_9 mx_1 mx_2 mx_3 d_Row_init_7 (by decide) (Nat.le_of_ble_eq_true rfl) ?_
  rw [show (if (12 : Int32) < 0 then (0 : Int32) else 12) = 12 by decide]
  refine c_newI 21 12 cg_40 (zM0_id (mz_7 _ (by rw [zOf_1, tl_39]; decide))) (by rw [zOf_1, tl_39]) a_int d_Row_init_10 (by decide) (by decide) (by decide) ?_
  refine c_putr cg_41 p_Row_15 rfl d_Row_init_12 ⟨by rw [zOf_1, tl_40]; decide, by decide +kernel⟩ (fun q => ⟨rfl, rfl⟩) ?_
  exact z_vret rfl d_Row_init_15 ⟨rfl, rfl, rfl⟩
def tc_42 : List ZTc := tc_41.set 17 (1, 0, [some 18, some 20, none, none])
theorem tl_42 : tc_42.length = 22 := by rw [tc_42, List.length_set, tl_41]
theorem cg_42 : zput (zOf tc_41) 17 1 20 = zOf tc_42 := zOf_put (rs := [some 18, none, none, none]) (by rw [tl_41]; decide) (by decide +kernel) (by decide)
def tc_43 : List ZTc := tc_42 ++ [(2, 0, [none])]
theorem tl_43 : tc_43.length = 23 := by rw [tc_43, List.length_append, tl_42]; rfl
theorem cg_43 : zadd (zOf tc_42) 2 0 = zOf tc_43 := zOf_add _ _ _ _ (by exact none_rep 1)
def tc_44 : List ZTc := tc_43 ++ [(12, 6, [])]
theorem tl_44 : tc_44.length = 24 := by rw [tc_44, List.length_append, tl_43]; rfl
theorem cg_44 : zadd (zOf tc_43) 12 6 = zOf tc_44 := zOf_add _ _ _ _ (by intro j; rfl)
def tc_45 : List ZTc := tc_44.set 22 (2, 0, [some 23])
theorem tl_45 : tc_45.length = 24 := by rw [tc_45, List.length_set, tl_44]
theorem cg_45 : zput (zOf tc_44) 22 0 23 = zOf tc_45 := zOf_put (rs := [none]) (by rw [tl_44]; decide) (by decide +kernel) (by decide)
def mc_8 : ZM := zms mc_7 23 0 0
theorem mz_8 : ∀ b, 24 ≤ b → ∀ j, mc_8 b j = 0 := fun b hb j => by rw [mc_8, zms_ne _ _ _ (by omega)]; exact mz_7 b (by omega) j
def mc_9 : ZM := zms mc_8 23 1 1
theorem mz_9 : ∀ b, 24 ≤ b → ∀ j, mc_9 b j = 0 := fun b hb j => by rw [mc_9, zms_ne _ _ _ (by omega)]; exact mz_8 b (by omega) j
def mc_10 : ZM := zms mc_9 23 2 2
theorem mz_10 : ∀ b, 24 ≤ b → ∀ j, mc_10 b j = 0 := fun b hb j => by rw [mc_10, zms_ne _ _ _ (by omega)]; exact mz_9 b (by omega) j
def mc_11 : ZM := zms mc_10 23 3 0
theorem mz_11 : ∀ b, 24 ≤ b → ∀ j, mc_11 b j = 0 := fun b hb j => by rw [mc_11, zms_ne _ _ _ (by omega)]; exact mz_10 b (by omega) j
def mc_12 : ZM := zms mc_11 23 4 1
theorem mz_12 : ∀ b, 24 ≤ b → ∀ j, mc_12 b j = 0 := fun b hb j => by rw [mc_12, zms_ne _ _ _ (by omega)]; exact mz_11 b (by omega) j
def mc_13 : ZM := zms mc_12 23 5 2
theorem mz_13 : ∀ b, 24 ≤ b → ∀ j, mc_13 b j = 0 := fun b hb j => by rw [mc_13, zms_ne _ _ _ (by omega)]; exact mz_12 b (by omega) j
theorem ct_12 (E : ZE) : zW E m_Machine_init 1 (zOf tc_43) mc_7 0 [some (.ref 22), none] [] (fun r S M => r = none ∧ S = zOf tc_45 ∧ M = mc_13) := by
  refine z_aload_n d_Machine_init_0 rfl ?_
  refine z_objInit o_Machine_3 o_1 o_2 d_Machine_init_1 (by decide) (Nat.le_of_ble_eq_true rfl) ?_
  refine z_aload_n d_Machine_init_4 rfl ?_
  refine z_bipush 6 d_Machine_init_5 (by decide) ?_
  refine c_newI 23 6 cg_44 (zM0_id (mz_7 _ (by rw [zOf_1, tl_43]; decide))) (by rw [zOf_1, tl_43]) a_int d_Machine_init_7 (by decide) (by decide) (by decide) ?_
  refine c_putr cg_45 p_Machine_9 rfl d_Machine_init_9 ⟨by rw [zOf_1, tl_44]; decide, by decide +kernel⟩ (fun q => ⟨rfl, rfl⟩) ?_
  refine z_iconst 0 d_Machine_init_12 (by decide) ?_
  refine z_istore_n (ls' := [some (.ref 22), some (.int 0)]) d_Machine_init_13 (Nat.le_of_ble_eq_true rfl) rfl rfl ?_
  refine z_iload_n d_Machine_init_14 rfl ?_
  refine z_aload_n d_Machine_init_15 rfl ?_
  refine z_getr (b := 23) f_Machine_9 rfl d_Machine_init_16 ⟨by rw [zOf_1, tl_45]; decide, by decide +kernel⟩ (by decide +kernel) ?_
  refine y_alen (N := 6) 6 d_Machine_init_19 ⟨⟨by rw [zOf_1, tl_45]; decide, by decide +kernel⟩, by decide +kernel, by decide⟩ rfl ?_
  refine z_icmp_ge 38 d_Machine_init_20 rfl ⟨fun q => absurd q (by decide), fun _ => ?_⟩
  refine z_aload_n d_Machine_init_23 rfl ?_
  refine z_getr (b := 23) f_Machine_9 rfl d_Machine_init_24 ⟨by rw [zOf_1, tl_45]; decide, by decide +kernel⟩ (by decide +kernel) ?_
  refine z_iload_n d_Machine_init_27 rfl ?_
  refine z_iload_n d_Machine_init_28 rfl ?_
  refine z_iconst 3 d_Machine_init_29 (by decide) ?_
  refine z_irem d_Machine_init_30 (by decide) ?_
  rw [show (0 : Int32) - 0 / 3 * 3 = 0 by decide]
  refine c_iastore (M1 := mc_8) 0 rfl d_Machine_init_31 (N := 6) ⟨⟨by rw [zOf_1, tl_45]; decide, by decide +kernel⟩, by decide +kernel, by decide⟩ (by decide) (by decide) ?_
  refine z_iinc (ls' := [some (.ref 22), some (.int 1)]) 1 d_Machine_init_32 rfl (by decide) (Nat.le_of_ble_eq_true rfl) rfl rfl ?_
  refine z_goto 14 d_Machine_init_35 rfl ?_
  refine z_iload_n d_Machine_init_14 rfl ?_
  refine z_aload_n d_Machine_init_15 rfl ?_
  refine z_getr (b := 23) f_Machine_9 rfl d_Machine_init_16 ⟨by rw [zOf_1, tl_45]; decide, by decide +kernel⟩ (by decide +kernel) ?_
  refine y_alen (N := 6) 6 d_Machine_init_19 ⟨⟨by rw [zOf_1, tl_45]; decide, by decide +kernel⟩, by decide +kernel, by decide⟩ rfl ?_
  refine z_icmp_ge 38 d_Machine_init_20 rfl ⟨fun q => absurd q (by decide), fun _ => ?_⟩
  refine z_aload_n d_Machine_init_23 rfl ?_
  refine z_getr (b := 23) f_Machine_9 rfl d_Machine_init_24 ⟨by rw [zOf_1, tl_45]; decide, by decide +kernel⟩ (by decide +kernel) ?_
  refine z_iload_n d_Machine_init_27 rfl ?_
  refine z_iload_n d_Machine_init_28 rfl ?_
  refine z_iconst 3 d_Machine_init_29 (by decide) ?_
  refine z_irem d_Machine_init_30 (by decide) ?_
  rw [show (1 : Int32) - 1 / 3 * 3 = 1 by decide]
  refine c_iastore (M1 := mc_9) 1 rfl d_Machine_init_31 (N := 6) ⟨⟨by rw [zOf_1, tl_45]; decide, by decide +kernel⟩, by decide +kernel, by decide⟩ (by decide) (by decide) ?_
  refine z_iinc (ls' := [some (.ref 22), some (.int 2)]) 2 d_Machine_init_32 rfl (by decide) (Nat.le_of_ble_eq_true rfl) rfl rfl ?_
  refine z_goto 14 d_Machine_init_35 rfl ?_
  refine z_iload_n d_Machine_init_14 rfl ?_
  refine z_aload_n d_Machine_init_15 rfl ?_
  refine z_getr (b := 23) f_Machine_9 rfl d_Machine_init_16 ⟨by rw [zOf_1, tl_45]; decide, by decide +kernel⟩ (by decide +kernel) ?_
  refine y_alen (N := 6) 6 d_Machine_init_19 ⟨⟨by rw [zOf_1, tl_45]; decide, by decide +kernel⟩, by decide +kernel, by decide⟩ rfl ?_
  refine z_icmp_ge 38 d_Machine_init_20 rfl ⟨fun q => absurd q (by decide), fun _ => ?_⟩
  refine z_aload_n d_Machine_init_23 rfl ?_
  refine z_getr (b := 23) f_Machine_9 rfl d_Machine_init_24 ⟨by rw [zOf_1, tl_45]; decide, by decide +kernel⟩ (by decide +kernel) ?_
  refine z_iload_n d_Machine_init_27 rfl ?_
  refine z_iload_n d_Machine_init_28 rfl ?_
  refine z_iconst 3 d_Machine_init_29 (by decide) ?_
  refine z_irem d_Machine_init_30 (by decide) ?_
  rw [show (2 : Int32) - 2 / 3 * 3 = 2 by decide]
  refine c_iastore (M1 := mc_10) 2 rfl d_Machine_init_31 (N := 6) ⟨⟨by rw [zOf_1, tl_45]; decide, by decide +kernel⟩, by decide +kernel, by decide⟩ (by decide) (by decide) ?_
  refine z_iinc (ls' := [some (.ref 22), some (.int 3)]) 3 d_Machine_init_32 rfl (by decide) (Nat.le_of_ble_eq_true rfl) rfl rfl ?_
  refine z_goto 14 d_Machine_init_35 rfl ?_
  refine z_iload_n d_Machine_init_14 rfl ?_
  refine z_aload_n d_Machine_init_15 rfl ?_
  refine z_getr (b := 23) f_Machine_9 rfl d_Machine_init_16 ⟨by rw [zOf_1, tl_45]; decide, by decide +kernel⟩ (by decide +kernel) ?_
  refine y_alen (N := 6) 6 d_Machine_init_19 ⟨⟨by rw [zOf_1, tl_45]; decide, by decide +kernel⟩, by decide +kernel, by decide⟩ rfl ?_
  refine z_icmp_ge 38 d_Machine_init_20 rfl ⟨fun q => absurd q (by decide), fun _ => ?_⟩
  refine z_aload_n d_Machine_init_23 rfl ?_
  refine z_getr (b := 23) f_Machine_9 rfl d_Machine_init_24 ⟨by rw [zOf_1, tl_45]; decide, by decide +kernel⟩ (by decide +kernel) ?_
  refine z_iload_n d_Machine_init_27 rfl ?_
  refine z_iload_n d_Machine_init_28 rfl ?_
  refine z_iconst 3 d_Machine_init_29 (by decide) ?_
  refine z_irem d_Machine_init_30 (by decide) ?_
  rw [show (3 : Int32) - 3 / 3 * 3 = 0 by decide]
  refine c_iastore (M1 := mc_11) 3 rfl d_Machine_init_31 (N := 6) ⟨⟨by rw [zOf_1, tl_45]; decide, by decide +kernel⟩, by decide +kernel, by decide⟩ (by decide) (by decide) ?_
  refine z_iinc (ls' := [some (.ref 22), some (.int 4)]) 4 d_Machine_init_32 rfl (by decide) (Nat.le_of_ble_eq_true rfl) rfl rfl ?_
  refine z_goto 14 d_Machine_init_35 rfl ?_
  refine z_iload_n d_Machine_init_14 rfl ?_
  refine z_aload_n d_Machine_init_15 rfl ?_
  refine z_getr (b := 23) f_Machine_9 rfl d_Machine_init_16 ⟨by rw [zOf_1, tl_45]; decide, by decide +kernel⟩ (by decide +kernel) ?_
  refine y_alen (N := 6) 6 d_Machine_init_19 ⟨⟨by rw [zOf_1, tl_45]; decide, by decide +kernel⟩, by decide +kernel, by decide⟩ rfl ?_
  refine z_icmp_ge 38 d_Machine_init_20 rfl ⟨fun q => absurd q (by decide), fun _ => ?_⟩
  refine z_aload_n d_Machine_init_23 rfl ?_
  refine z_getr (b := 23) f_Machine_9 rfl d_Machine_init_24 ⟨by rw [zOf_1, tl_45]; decide, by decide +kernel⟩ (by decide +kernel) ?_
  refine z_iload_n d_Machine_init_27 rfl ?_
  refine z_iload_n d_Machine_init_28 rfl ?_
  refine z_iconst 3 d_Machine_init_29 (by decide) ?_
  refine z_irem d_Machine_init_30 (by decide) ?_
  rw [show (4 : Int32) - 4 / 3 * 3 = 1 by decide]
  refine c_iastore (M1 := mc_12) 4 rfl d_Machine_init_31 (N := 6) ⟨⟨by rw [zOf_1, tl_45]; decide, by decide +kernel⟩, by decide +kernel, by decide⟩ (by decide) (by decide) ?_
  refine z_iinc (ls' := [some (.ref 22), some (.int 5)]) 5 d_Machine_init_32 rfl (by decide) (Nat.le_of_ble_eq_true rfl) rfl rfl ?_
  refine z_goto 14 d_Machine_init_35 rfl ?_
  refine z_iload_n d_Machine_init_14 rfl ?_
  refine z_aload_n d_Machine_init_15 rfl ?_
  refine z_getr (b := 23) f_Machine_9 rfl d_Machine_init_16 ⟨by rw [zOf_1, tl_45]; decide, by decide +kernel⟩ (by decide +kernel) ?_
  refine y_alen (N := 6) 6 d_Machine_init_19 ⟨⟨by rw [zOf_1, tl_45]; decide, by decide +kernel⟩, by decide +kernel, by decide⟩ rfl ?_
  refine z_icmp_ge 38 d_Machine_init_20 rfl ⟨fun q => absurd q (by decide), fun _ => ?_⟩
  refine z_aload_n d_Machine_init_23 rfl ?_
  refine z_getr (b := 23) f_Machine_9 rfl d_Machine_init_24 ⟨by rw [zOf_1, tl_45]; decide, by decide +kernel⟩ (by decide +kernel) ?_
  refine z_iload_n d_Machine_init_27 rfl ?_
  refine z_iload_n d_Machine_init_28 rfl ?_
  refine z_iconst 3 d_Machine_init_29 (by decide) ?_
  refine z_irem d_Machine_init_30 (by decide) ?_
  rw [show (5 : Int32) - 5 / 3 * 3 = 2 by decide]
  refine c_iastore (M1 := mc_13) 5 rfl d_Machine_init_31 (N := 6) ⟨⟨by rw [zOf_1, tl_45]; decide, by decide +kernel⟩, by decide +kernel, by decide⟩ (by decide) (by decide) ?_
  refine z_iinc (ls' := [some (.ref 22), some (.int 6)]) 6 d_Machine_init_32 rfl (by decide) (Nat.le_of_ble_eq_true rfl) rfl rfl ?_
  refine z_goto 14 d_Machine_init_35 rfl ?_
  refine z_iload_n d_Machine_init_14 rfl ?_
  refine z_aload_n d_Machine_init_15 rfl ?_
  refine z_getr (b := 23) f_Machine_9 rfl d_Machine_init_16 ⟨by rw [zOf_1, tl_45]; decide, by decide +kernel⟩ (by decide +kernel) ?_
  refine y_alen (N := 6) 6 d_Machine_init_19 ⟨⟨by rw [zOf_1, tl_45]; decide, by decide +kernel⟩, by decide +kernel, by decide⟩ rfl ?_
  refine z_icmp_ge 38 d_Machine_init_20 rfl ⟨fun _ => ?_, fun q => absurd (by decide) q⟩
  exact z_vret rfl d_Machine_init_38 ⟨rfl, rfl, rfl⟩
def tc_46 : List ZTc := tc_45.set 17 (1, 0, [some 18, some 20, some 22, none])
theorem tl_46 : tc_46.length = 24 := by rw [tc_46, List.length_set, tl_45]
theorem cg_46 : zput (zOf tc_45) 17 2 22 = zOf tc_46 := zOf_put (rs := [some 18, some 20, none, none]) (by rw [tl_45]; decide) (by decide +kernel) (by decide)
def tc_47 : List ZTc := tc_46 ++ [(9, 0, [none, none, none])]
theorem tl_47 : tc_47.length = 25 := by rw [tc_47, List.length_append, tl_46]; rfl
theorem cg_47 : zadd (zOf tc_46) 9 0 = zOf tc_47 := zOf_add _ _ _ _ (by exact none_rep 3)
def tc_48 : List ZTc := tc_47 ++ [(5, 0, [none])]
theorem tl_48 : tc_48.length = 26 := by rw [tc_48, List.length_append, tl_47]; rfl
theorem cg_48 : zadd (zOf tc_47) 5 0 = zOf tc_48 := zOf_add _ _ _ _ (by exact none_rep 1)
def tc_49 : List ZTc := tc_48 ++ [(12, 12, [])]
theorem tl_49 : tc_49.length = 27 := by rw [tc_49, List.length_append, tl_48]; rfl
theorem cg_49 : zadd (zOf tc_48) 12 12 = zOf tc_49 := zOf_add _ _ _ _ (by intro j; rfl)
def tc_50 : List ZTc := tc_49.set 25 (5, 0, [some 26])
theorem tl_50 : tc_50.length = 27 := by rw [tc_50, List.length_set, tl_49]
theorem cg_50 : zput (zOf tc_49) 25 0 26 = zOf tc_50 := zOf_put (rs := [none]) (by rw [tl_49]; decide) (by decide +kernel) (by decide)
theorem ct_13 (E : ZE) : zW E m_Row_init 1 (zOf tc_48) mc_13 0 [some (.ref 25), some (.int 12)] [] (fun r S M => r = none ∧ S = zOf tc_50 ∧ M = mc_13) := by
  refine z_aload_n d_Row_init_0 rfl ?_
  refine z_objInit o_Row_3 o_1 o_2 d_Row_init_1 (by decide) (Nat.le_of_ble_eq_true rfl) ?_
  refine z_aload_n d_Row_init_4 rfl ?_
  refine z_iload_n d_Row_init_5 rfl ?_
  refine z_iconst 0 d_Row_init_6 (by decide) ?_
  refine z_mmax l_Row_9 mx_1 mx_2 mx_3 d_Row_init_7 (by decide) (Nat.le_of_ble_eq_true rfl) ?_
  rw [show (if (12 : Int32) < 0 then (0 : Int32) else 12) = 12 by decide]
  refine c_newI 26 12 cg_49 (zM0_id (mz_13 _ (by rw [zOf_1, tl_48]; decide))) (by rw [zOf_1, tl_48]) a_int d_Row_init_10 (by decide) (by decide) (by decide) ?_
  refine c_putr cg_50 p_Row_15 rfl d_Row_init_12 ⟨by rw [zOf_1, tl_49]; decide, by decide +kernel⟩ (fun q => ⟨rfl, rfl⟩) ?_
  exact z_vret rfl d_Row_init_15 ⟨rfl, rfl, rfl⟩
def tc_51 : List ZTc := tc_50.set 24 (9, 0, [some 25, none, none])
theorem tl_51 : tc_51.length = 27 := by rw [tc_51, List.length_set, tl_50]
theorem cg_51 : zput (zOf tc_50) 24 0 25 = zOf tc_51 := zOf_put (rs := [none, none, none]) (by rw [tl_50]; decide) (by decide +kernel) (by decide)
def tc_52 : List ZTc := tc_51 ++ [(5, 0, [none])]
theorem tl_52 : tc_52.length = 28 := by rw [tc_52, List.length_append, tl_51]; rfl
theorem cg_52 : zadd (zOf tc_51) 5 0 = zOf tc_52 := zOf_add _ _ _ _ (by exact none_rep 1)
def tc_53 : List ZTc := tc_52 ++ [(12, 12, [])]
theorem tl_53 : tc_53.length = 29 := by rw [tc_53, List.length_append, tl_52]; rfl
theorem cg_53 : zadd (zOf tc_52) 12 12 = zOf tc_53 := zOf_add _ _ _ _ (by intro j; rfl)
def tc_54 : List ZTc := tc_53.set 27 (5, 0, [some 28])
theorem tl_54 : tc_54.length = 29 := by rw [tc_54, List.length_set, tl_53]
theorem cg_54 : zput (zOf tc_53) 27 0 28 = zOf tc_54 := zOf_put (rs := [none]) (by rw [tl_53]; decide) (by decide +kernel) (by decide)
theorem ct_14 (E : ZE) : zW E m_Row_init 1 (zOf tc_52) mc_13 0 [some (.ref 27), some (.int 12)] [] (fun r S M => r = none ∧ S = zOf tc_54 ∧ M = mc_13) := by
  refine z_aload_n d_Row_init_0 rfl ?_
  refine z_objInit o_Row_3 o_1 o_2 d_Row_init_1 (by decide) (Nat.le_of_ble_eq_true rfl) ?_
  refine z_aload_n d_Row_init_4 rfl ?_
  refine z_iload_n d_Row_init_5 rfl ?_
  refine z_iconst 0 d_Row_init_6 (by decide) ?_
  refine z_mmax l_Row_9 mx_1 mx_2 mx_3 d_Row_init_7 (by decide) (Nat.le_of_ble_eq_true rfl) ?_
  rw [show (if (12 : Int32) < 0 then (0 : Int32) else 12) = 12 by decide]
  refine c_newI 28 12 cg_53 (zM0_id (mz_13 _ (by rw [zOf_1, tl_52]; decide))) (by rw [zOf_1, tl_52]) a_int d_Row_init_10 (by decide) (by decide) (by decide) ?_
  refine c_putr cg_54 p_Row_15 rfl d_Row_init_12 ⟨by rw [zOf_1, tl_53]; decide, by decide +kernel⟩ (fun q => ⟨rfl, rfl⟩) ?_
  exact z_vret rfl d_Row_init_15 ⟨rfl, rfl, rfl⟩
def tc_55 : List ZTc := tc_54.set 24 (9, 0, [some 25, some 27, none])
theorem tl_55 : tc_55.length = 29 := by rw [tc_55, List.length_set, tl_54]
theorem cg_55 : zput (zOf tc_54) 24 1 27 = zOf tc_55 := zOf_put (rs := [some 25, none, none]) (by rw [tl_54]; decide) (by decide +kernel) (by decide)
def tc_56 : List ZTc := tc_55 ++ [(5, 0, [none])]
theorem tl_56 : tc_56.length = 30 := by rw [tc_56, List.length_append, tl_55]; rfl
theorem cg_56 : zadd (zOf tc_55) 5 0 = zOf tc_56 := zOf_add _ _ _ _ (by exact none_rep 1)
def tc_57 : List ZTc := tc_56 ++ [(12, 12, [])]
theorem tl_57 : tc_57.length = 31 := by rw [tc_57, List.length_append, tl_56]; rfl
theorem cg_57 : zadd (zOf tc_56) 12 12 = zOf tc_57 := zOf_add _ _ _ _ (by intro j; rfl)
def tc_58 : List ZTc := tc_57.set 29 (5, 0, [some 30])
theorem tl_58 : tc_58.length = 31 := by rw [tc_58, List.length_set, tl_57]
theorem cg_58 : zput (zOf tc_57) 29 0 30 = zOf tc_58 := zOf_put (rs := [none]) (by rw [tl_57]; decide) (by decide +kernel) (by decide)
theorem ct_15 (E : ZE) : zW E m_Row_init 1 (zOf tc_56) mc_13 0 [some (.ref 29), some (.int 12)] [] (fun r S M => r = none ∧ S = zOf tc_58 ∧ M = mc_13) := by
  refine z_aload_n d_Row_init_0 rfl ?_
  refine z_objInit o_Row_3 o_1 o_2 d_Row_init_1 (by decide) (Nat.le_of_ble_eq_true rfl) ?_
  refine z_aload_n d_Row_init_4 rfl ?_
  refine z_iload_n d_Row_init_5 rfl ?_
  refine z_iconst 0 d_Row_init_6 (by decide) ?_
  refine z_mmax l_Row_9 mx_1 mx_2 mx_3 d_Row_init_7 (by decide) (Nat.le_of_ble_eq_true rfl) ?_
  rw [show (if (12 : Int32) < 0 then (0 : Int32) else 12) = 12 by decide]
  refine c_newI 30 12 cg_57 (zM0_id (mz_13 _ (by rw [zOf_1, tl_56]; decide))) (by rw [zOf_1, tl_56]) a_int d_Row_init_10 (by decide) (by decide) (by decide) ?_
  refine c_putr cg_58 p_Row_15 rfl d_Row_init_12 ⟨by rw [zOf_1, tl_57]; decide, by decide +kernel⟩ (fun q => ⟨rfl, rfl⟩) ?_
  exact z_vret rfl d_Row_init_15 ⟨rfl, rfl, rfl⟩
def tc_59 : List ZTc := tc_58.set 24 (9, 0, [some 25, some 27, some 29])
theorem tl_59 : tc_59.length = 31 := by rw [tc_59, List.length_set, tl_58]
theorem cg_59 : zput (zOf tc_58) 24 2 29 = zOf tc_59 := zOf_put (rs := [some 25, some 27, none]) (by rw [tl_58]; decide) (by decide +kernel) (by decide)
theorem ct_16 (E : ZE) : zW E m_Words_init 2 (zOf tc_47) mc_13 0 [some (.ref 24), some (.int 12)] [] (fun r S M => r = none ∧ S = zOf tc_59 ∧ M = mc_13) := by
  refine z_aload_n d_Words_init_0 rfl ?_
  refine z_objInit o_Words_3 o_1 o_2 d_Words_init_1 (by decide) (Nat.le_of_ble_eq_true rfl) ?_
  refine z_aload_n d_Words_init_4 rfl ?_
  refine c_new 25 cg_48 (zM0_id (mz_13 _ (by rw [zOf_1, tl_47]; decide))) (by rw [zOf_1, tl_47]) n_Words_9 d_Words_init_5 ?_
  refine z_dup d_Words_init_8 rfl ?_
  refine z_iload_n d_Words_init_9 rfl ?_
  refine z_callI (a := 25) (as := [.int 12]) (st := [.ref 25, .ref 24]) (d' := 1) i_Row_init rfl rfl v_Row_init l_Words_11 d_Words_init_10 (by decide) rfl (Nat.le_of_ble_eq_true rfl) (Nat.le_of_ble_eq_true rfl) (ct_13 E) (fun r S1 M1 h => ?_)
  obtain ⟨rfl, rfl, rfl⟩ := h
  refine c_putr cg_51 p_Words_14 rfl d_Words_init_13 ⟨by rw [zOf_1, tl_50]; decide, by decide +kernel⟩ (fun q => ⟨rfl, rfl⟩) ?_
  refine z_aload_n d_Words_init_16 rfl ?_
  refine c_new 27 cg_52 (zM0_id (mz_13 _ (by rw [zOf_1, tl_51]; decide))) (by rw [zOf_1, tl_51]) n_Words_9 d_Words_init_17 ?_
  refine z_dup d_Words_init_20 rfl ?_
  refine z_iload_n d_Words_init_21 rfl ?_
  refine z_callI (a := 27) (as := [.int 12]) (st := [.ref 27, .ref 24]) (d' := 1) i_Row_init rfl rfl v_Row_init l_Words_11 d_Words_init_22 (by decide) rfl (Nat.le_of_ble_eq_true rfl) (Nat.le_of_ble_eq_true rfl) (ct_14 E) (fun r S1 M1 h => ?_)
  obtain ⟨rfl, rfl, rfl⟩ := h
  refine c_putr cg_55 p_Words_20 rfl d_Words_init_25 ⟨by rw [zOf_1, tl_54]; decide, by decide +kernel⟩ (fun q => ⟨rfl, rfl⟩) ?_
  refine z_aload_n d_Words_init_28 rfl ?_
  refine c_new 29 cg_56 (zM0_id (mz_13 _ (by rw [zOf_1, tl_55]; decide))) (by rw [zOf_1, tl_55]) n_Words_9 d_Words_init_29 ?_
  refine z_dup d_Words_init_32 rfl ?_
  refine z_iload_n d_Words_init_33 rfl ?_
  refine z_callI (a := 29) (as := [.int 12]) (st := [.ref 29, .ref 24]) (d' := 1) i_Row_init rfl rfl v_Row_init l_Words_11 d_Words_init_34 (by decide) rfl (Nat.le_of_ble_eq_true rfl) (Nat.le_of_ble_eq_true rfl) (ct_15 E) (fun r S1 M1 h => ?_)
  obtain ⟨rfl, rfl, rfl⟩ := h
  refine c_putr cg_59 p_Words_23 rfl d_Words_init_37 ⟨by rw [zOf_1, tl_58]; decide, by decide +kernel⟩ (fun q => ⟨rfl, rfl⟩) ?_
  exact z_vret rfl d_Words_init_40 ⟨rfl, rfl, rfl⟩
def tc_60 : List ZTc := tc_59.set 17 (1, 0, [some 18, some 20, some 22, some 24])
theorem tl_60 : tc_60.length = 31 := by rw [tc_60, List.length_set, tl_59]
theorem cg_60 : zput (zOf tc_59) 17 3 24 = zOf tc_60 := zOf_put (rs := [some 18, some 20, some 22, none]) (by rw [tl_59]; decide) (by decide +kernel) (by decide)
def mc_14 : ZM := zms mc_13 17 4 134217727
theorem mz_14 : ∀ b, 24 ≤ b → ∀ j, mc_14 b j = 0 := fun b hb j => by rw [mc_14, zms_ne _ _ _ (by omega)]; exact mz_13 b (by omega) j
theorem ct_17 (E : ZE) : zW E m_Book_init 3 (zOf tc_34) mc_7 0 [some (.ref 17)] [] (fun r S M => r = none ∧ S = zOf tc_60 ∧ M = mc_14) := by
  refine z_aload_n d_Book_init_0 rfl ?_
  refine z_objInit o_Book_3 o_1 o_2 d_Book_init_1 (by decide) (Nat.le_of_ble_eq_true rfl) ?_
  refine z_aload_n d_Book_init_4 rfl ?_
  refine c_new 18 cg_35 (zM0_id (mz_7 _ (by rw [zOf_1, tl_34]; decide))) (by rw [zOf_1, tl_34]) n_Book_9 d_Book_init_5 ?_
  refine z_dup d_Book_init_8 rfl ?_
  refine z_bipush 12 d_Book_init_9 (by decide) ?_
  refine z_callI (a := 18) (as := [.int 12]) (st := [.ref 18, .ref 17]) (d' := 1) i_Row_init rfl rfl v_Row_init l_Book_11 d_Book_init_11 (by decide) rfl (Nat.le_of_ble_eq_true rfl) (Nat.le_of_ble_eq_true rfl) (ct_10 E) (fun r S1 M1 h => ?_)
  obtain ⟨rfl, rfl, rfl⟩ := h
  refine c_putr cg_38 p_Book_14 rfl d_Book_init_14 ⟨by rw [zOf_1, tl_37]; decide, by decide +kernel⟩ (fun q => ⟨rfl, rfl⟩) ?_
  refine z_aload_n d_Book_init_17 rfl ?_
  refine c_new 20 cg_39 (zM0_id (mz_7 _ (by rw [zOf_1, tl_38]; decide))) (by rw [zOf_1, tl_38]) n_Book_9 d_Book_init_18 ?_
  refine z_dup d_Book_init_21 rfl ?_
  refine z_bipush 12 d_Book_init_22 (by decide) ?_
  refine z_callI (a := 20) (as := [.int 12]) (st := [.ref 20, .ref 17]) (d' := 1) i_Row_init rfl rfl v_Row_init l_Book_11 d_Book_init_24 (by decide) rfl (Nat.le_of_ble_eq_true rfl) (Nat.le_of_ble_eq_true rfl) (ct_11 E) (fun r S1 M1 h => ?_)
  obtain ⟨rfl, rfl, rfl⟩ := h
  refine c_putr cg_42 p_Book_20 rfl d_Book_init_27 ⟨by rw [zOf_1, tl_41]; decide, by decide +kernel⟩ (fun q => ⟨rfl, rfl⟩) ?_
  refine z_aload_n d_Book_init_30 rfl ?_
  refine c_new 22 cg_43 (zM0_id (mz_7 _ (by rw [zOf_1, tl_42]; decide))) (by rw [zOf_1, tl_42]) n_Book_23 d_Book_init_31 ?_
  refine z_dup d_Book_init_34 rfl ?_
  refine z_callI (a := 22) (as := []) (st := [.ref 22, .ref 17]) (d' := 1) i_Machine_init rfl rfl v_Machine_init l_Book_25 d_Book_init_35 (by decide) rfl (Nat.le_of_ble_eq_true rfl) (Nat.le_of_ble_eq_true rfl) (ct_12 E) (fun r S1 M1 h => ?_)
  obtain ⟨rfl, rfl, rfl⟩ := h
  refine c_putr cg_46 p_Book_26 rfl d_Book_init_38 ⟨by rw [zOf_1, tl_45]; decide, by decide +kernel⟩ (fun q => ⟨rfl, rfl⟩) ?_
  refine z_aload_n d_Book_init_41 rfl ?_
  refine c_new 24 cg_47 (zM0_id (mz_13 _ (by rw [zOf_1, tl_46]; decide))) (by rw [zOf_1, tl_46]) n_Book_30 d_Book_init_42 ?_
  refine z_dup d_Book_init_45 rfl ?_
  refine z_bipush 12 d_Book_init_46 (by decide) ?_
  refine z_callI (a := 24) (as := [.int 12]) (st := [.ref 24, .ref 17]) (d' := 2) i_Words_init rfl rfl v_Words_init l_Book_32 d_Book_init_48 (by decide) rfl (Nat.le_of_ble_eq_true rfl) (Nat.le_of_ble_eq_true rfl) (ct_16 E) (fun r S1 M1 h => ?_)
  obtain ⟨rfl, rfl, rfl⟩ := h
  refine c_putr cg_60 p_Book_33 rfl d_Book_init_51 ⟨by rw [zOf_1, tl_59]; decide, by decide +kernel⟩ (fun q => ⟨rfl, rfl⟩) ?_
  refine z_aload_n d_Book_init_54 rfl ?_
  refine z_ldc 134217727 d_Book_init_55 k_Book_39 ?_
  refine c_puti (M1 := mc_14) rfl (p_Book_40 rfl) rfl d_Book_init_57 ⟨by rw [zOf_1, tl_60]; decide, by decide +kernel⟩ rfl rfl ?_
  exact z_vret rfl d_Book_init_60 ⟨rfl, rfl, rfl⟩
def tc_61 : List ZTc := tc_60.set 0 (10, 0, [some 1, some 3, some 17, none, none, none, none, none, none, none, none, none])
theorem tl_61 : tc_61.length = 31 := by rw [tc_61, List.length_set, tl_60]
theorem cg_61 : zput (zOf tc_60) 0 2 17 = zOf tc_61 := zOf_put (rs := [some 1, some 3, none, none, none, none, none, none, none, none, none, none]) (by rw [tl_60]; decide) (by decide +kernel) (by decide)
def tc_62 : List ZTc := tc_61 ++ [(1, 0, [none, none, none, none])]
theorem tl_62 : tc_62.length = 32 := by rw [tc_62, List.length_append, tl_61]; rfl
theorem cg_62 : zadd (zOf tc_61) 1 0 = zOf tc_62 := zOf_add _ _ _ _ (by exact none_rep 4)
def tc_63 : List ZTc := tc_62 ++ [(5, 0, [none])]
theorem tl_63 : tc_63.length = 33 := by rw [tc_63, List.length_append, tl_62]; rfl
theorem cg_63 : zadd (zOf tc_62) 5 0 = zOf tc_63 := zOf_add _ _ _ _ (by exact none_rep 1)
def tc_64 : List ZTc := tc_63 ++ [(12, 12, [])]
theorem tl_64 : tc_64.length = 34 := by rw [tc_64, List.length_append, tl_63]; rfl
theorem cg_64 : zadd (zOf tc_63) 12 12 = zOf tc_64 := zOf_add _ _ _ _ (by intro j; rfl)
def tc_65 : List ZTc := tc_64.set 32 (5, 0, [some 33])
theorem tl_65 : tc_65.length = 34 := by rw [tc_65, List.length_set, tl_64]
theorem cg_65 : zput (zOf tc_64) 32 0 33 = zOf tc_65 := zOf_put (rs := [none]) (by rw [tl_64]; decide) (by decide +kernel) (by decide)
theorem ct_18 (E : ZE) : zW E m_Row_init 1 (zOf tc_63) mc_14 0 [some (.ref 32), some (.int 12)] [] (fun r S M => r = none ∧ S = zOf tc_65 ∧ M = mc_14) := by
  refine z_aload_n d_Row_init_0 rfl ?_
  refine z_objInit o_Row_3 o_1 o_2 d_Row_init_1 (by decide) (Nat.le_of_ble_eq_true rfl) ?_
  refine z_aload_n d_Row_init_4 rfl ?_
  refine z_iload_n d_Row_init_5 rfl ?_
  refine z_iconst 0 d_Row_init_6 (by decide) ?_
  refine z_mmax l_Row_9 mx_1 mx_2 mx_3 d_Row_init_7 (by decide) (Nat.le_of_ble_eq_true rfl) ?_
  rw [show (if (12 : Int32) < 0 then (0 : Int32) else 12) = 12 by decide]
  refine c_newI 33 12 cg_64 (zM0_id (mz_14 _ (by rw [zOf_1, tl_63]; decide))) (by rw [zOf_1, tl_63]) a_int d_Row_init_10 (by decide) (by decide) (by decide) ?_
  refine c_putr cg_65 p_Row_15 rfl d_Row_init_12 ⟨by rw [zOf_1, tl_64]; decide, by decide +kernel⟩ (fun q => ⟨rfl, rfl⟩) ?_
  exact z_vret rfl d_Row_init_15 ⟨rfl, rfl, rfl⟩
def tc_66 : List ZTc := tc_65.set 31 (1, 0, [some 32, none, none, none])
theorem tl_66 : tc_66.length = 34 := by rw [tc_66, List.length_set, tl_65]
theorem cg_66 : zput (zOf tc_65) 31 0 32 = zOf tc_66 := zOf_put (rs := [none, none, none, none]) (by rw [tl_65]; decide) (by decide +kernel) (by decide)
def tc_67 : List ZTc := tc_66 ++ [(5, 0, [none])]
theorem tl_67 : tc_67.length = 35 := by rw [tc_67, List.length_append, tl_66]; rfl
theorem cg_67 : zadd (zOf tc_66) 5 0 = zOf tc_67 := zOf_add _ _ _ _ (by exact none_rep 1)
def tc_68 : List ZTc := tc_67 ++ [(12, 12, [])]
theorem tl_68 : tc_68.length = 36 := by rw [tc_68, List.length_append, tl_67]; rfl
theorem cg_68 : zadd (zOf tc_67) 12 12 = zOf tc_68 := zOf_add _ _ _ _ (by intro j; rfl)
def tc_69 : List ZTc := tc_68.set 34 (5, 0, [some 35])
theorem tl_69 : tc_69.length = 36 := by rw [tc_69, List.length_set, tl_68]
theorem cg_69 : zput (zOf tc_68) 34 0 35 = zOf tc_69 := zOf_put (rs := [none]) (by rw [tl_68]; decide) (by decide +kernel) (by decide)
theorem ct_19 (E : ZE) : zW E m_Row_init 1 (zOf tc_67) mc_14 0 [some (.ref 34), some (.int 12)] [] (fun r S M => r = none ∧ S = zOf tc_69 ∧ M = mc_14) := by
  refine z_aload_n d_Row_init_0 rfl ?_
  refine z_objInit o_Row_3 o_1 o_2 d_Row_init_1 (by decide) (Nat.le_of_ble_eq_true rfl) ?_
  refine z_aload_n d_Row_init_4 rfl ?_
  refine z_iload_n d_Row_init_5 rfl ?_
  refine z_iconst 0 d_Row_init_6 (by decide) ?_
  refine z_mmax l_Row_9 mx_1 mx_2 mx_3 d_Row_init_7 (by decide) (Nat.le_of_ble_eq_true rfl) ?_
  rw [show (if (12 : Int32) < 0 then (0 : Int32) else 12) = 12 by decide]
  refine c_newI 35 12 cg_68 (zM0_id (mz_14 _ (by rw [zOf_1, tl_67]; decide))) (by rw [zOf_1, tl_67]) a_int d_Row_init_10 (by decide) (by decide) (by decide) ?_
  refine c_putr cg_69 p_Row_15 rfl d_Row_init_12 ⟨by rw [zOf_1, tl_68]; decide, by decide +kernel⟩ (fun q => ⟨rfl, rfl⟩) ?_
  exact z_vret rfl d_Row_init_15 ⟨rfl, rfl, rfl⟩
def tc_70 : List ZTc := tc_69.set 31 (1, 0, [some 32, some 34, none, none])
theorem tl_70 : tc_70.length = 36 := by rw [tc_70, List.length_set, tl_69]
theorem cg_70 : zput (zOf tc_69) 31 1 34 = zOf tc_70 := zOf_put (rs := [some 32, none, none, none]) (by rw [tl_69]; decide) (by decide +kernel) (by decide)
def tc_71 : List ZTc := tc_70 ++ [(2, 0, [none])]
theorem tl_71 : tc_71.length = 37 := by rw [tc_71, List.length_append, tl_70]; rfl
theorem cg_71 : zadd (zOf tc_70) 2 0 = zOf tc_71 := zOf_add _ _ _ _ (by exact none_rep 1)
def tc_72 : List ZTc := tc_71 ++ [(12, 6, [])]
theorem tl_72 : tc_72.length = 38 := by rw [tc_72, List.length_append, tl_71]; rfl
theorem cg_72 : zadd (zOf tc_71) 12 6 = zOf tc_72 := zOf_add _ _ _ _ (by intro j; rfl)
def tc_73 : List ZTc := tc_72.set 36 (2, 0, [some 37])
theorem tl_73 : tc_73.length = 38 := by rw [tc_73, List.length_set, tl_72]
theorem cg_73 : zput (zOf tc_72) 36 0 37 = zOf tc_73 := zOf_put (rs := [none]) (by rw [tl_72]; decide) (by decide +kernel) (by decide)
def mc_15 : ZM := zms mc_14 37 0 0
theorem mz_15 : ∀ b, 38 ≤ b → ∀ j, mc_15 b j = 0 := fun b hb j => by rw [mc_15, zms_ne _ _ _ (by omega)]; exact mz_14 b (by omega) j
def mc_16 : ZM := zms mc_15 37 1 1
theorem mz_16 : ∀ b, 38 ≤ b → ∀ j, mc_16 b j = 0 := fun b hb j => by rw [mc_16, zms_ne _ _ _ (by omega)]; exact mz_15 b (by omega) j
def mc_17 : ZM := zms mc_16 37 2 2
theorem mz_17 : ∀ b, 38 ≤ b → ∀ j, mc_17 b j = 0 := fun b hb j => by rw [mc_17, zms_ne _ _ _ (by omega)]; exact mz_16 b (by omega) j
def mc_18 : ZM := zms mc_17 37 3 0
theorem mz_18 : ∀ b, 38 ≤ b → ∀ j, mc_18 b j = 0 := fun b hb j => by rw [mc_18, zms_ne _ _ _ (by omega)]; exact mz_17 b (by omega) j
def mc_19 : ZM := zms mc_18 37 4 1
theorem mz_19 : ∀ b, 38 ≤ b → ∀ j, mc_19 b j = 0 := fun b hb j => by rw [mc_19, zms_ne _ _ _ (by omega)]; exact mz_18 b (by omega) j
def mc_20 : ZM := zms mc_19 37 5 2
theorem mz_20 : ∀ b, 38 ≤ b → ∀ j, mc_20 b j = 0 := fun b hb j => by rw [mc_20, zms_ne _ _ _ (by omega)]; exact mz_19 b (by omega) j
theorem ct_20 (E : ZE) : zW E m_Machine_init 1 (zOf tc_71) mc_14 0 [some (.ref 36), none] [] (fun r S M => r = none ∧ S = zOf tc_73 ∧ M = mc_20) := by
  refine z_aload_n d_Machine_init_0 rfl ?_
  refine z_objInit o_Machine_3 o_1 o_2 d_Machine_init_1 (by decide) (Nat.le_of_ble_eq_true rfl) ?_
  refine z_aload_n d_Machine_init_4 rfl ?_
  refine z_bipush 6 d_Machine_init_5 (by decide) ?_
  refine c_newI 37 6 cg_72 (zM0_id (mz_14 _ (by rw [zOf_1, tl_71]; decide))) (by rw [zOf_1, tl_71]) a_int d_Machine_init_7 (by decide) (by decide) (by decide) ?_
  refine c_putr cg_73 p_Machine_9 rfl d_Machine_init_9 ⟨by rw [zOf_1, tl_72]; decide, by decide +kernel⟩ (fun q => ⟨rfl, rfl⟩) ?_
  refine z_iconst 0 d_Machine_init_12 (by decide) ?_
  refine z_istore_n (ls' := [some (.ref 36), some (.int 0)]) d_Machine_init_13 (Nat.le_of_ble_eq_true rfl) rfl rfl ?_
  refine z_iload_n d_Machine_init_14 rfl ?_
  refine z_aload_n d_Machine_init_15 rfl ?_
  refine z_getr (b := 37) f_Machine_9 rfl d_Machine_init_16 ⟨by rw [zOf_1, tl_73]; decide, by decide +kernel⟩ (by decide +kernel) ?_
  refine y_alen (N := 6) 6 d_Machine_init_19 ⟨⟨by rw [zOf_1, tl_73]; decide, by decide +kernel⟩, by decide +kernel, by decide⟩ rfl ?_
  refine z_icmp_ge 38 d_Machine_init_20 rfl ⟨fun q => absurd q (by decide), fun _ => ?_⟩
  refine z_aload_n d_Machine_init_23 rfl ?_
  refine z_getr (b := 37) f_Machine_9 rfl d_Machine_init_24 ⟨by rw [zOf_1, tl_73]; decide, by decide +kernel⟩ (by decide +kernel) ?_
  refine z_iload_n d_Machine_init_27 rfl ?_
  refine z_iload_n d_Machine_init_28 rfl ?_
  refine z_iconst 3 d_Machine_init_29 (by decide) ?_
  refine z_irem d_Machine_init_30 (by decide) ?_
  rw [show (0 : Int32) - 0 / 3 * 3 = 0 by decide]
  refine c_iastore (M1 := mc_15) 0 rfl d_Machine_init_31 (N := 6) ⟨⟨by rw [zOf_1, tl_73]; decide, by decide +kernel⟩, by decide +kernel, by decide⟩ (by decide) (by decide) ?_
  refine z_iinc (ls' := [some (.ref 36), some (.int 1)]) 1 d_Machine_init_32 rfl (by decide) (Nat.le_of_ble_eq_true rfl) rfl rfl ?_
  refine z_goto 14 d_Machine_init_35 rfl ?_
  refine z_iload_n d_Machine_init_14 rfl ?_
  refine z_aload_n d_Machine_init_15 rfl ?_
  refine z_getr (b := 37) f_Machine_9 rfl d_Machine_init_16 ⟨by rw [zOf_1, tl_73]; decide, by decide +kernel⟩ (by decide +kernel) ?_
  refine y_alen (N := 6) 6 d_Machine_init_19 ⟨⟨by rw [zOf_1, tl_73]; decide, by decide +kernel⟩, by decide +kernel, by decide⟩ rfl ?_
  refine z_icmp_ge 38 d_Machine_init_20 rfl ⟨fun q => absurd q (by decide), fun _ => ?_⟩
  refine z_aload_n d_Machine_init_23 rfl ?_
  refine z_getr (b := 37) f_Machine_9 rfl d_Machine_init_24 ⟨by rw [zOf_1, tl_73]; decide, by decide +kernel⟩ (by decide +kernel) ?_
  refine z_iload_n d_Machine_init_27 rfl ?_
  refine z_iload_n d_Machine_init_28 rfl ?_
  refine z_iconst 3 d_Machine_init_29 (by decide) ?_
  refine z_irem d_Machine_init_30 (by decide) ?_
  rw [show (1 : Int32) - 1 / 3 * 3 = 1 by decide]
  refine c_iastore (M1 := mc_16) 1 rfl d_Machine_init_31 (N := 6) ⟨⟨by rw [zOf_1, tl_73]; decide, by decide +kernel⟩, by decide +kernel, by decide⟩ (by decide) (by decide) ?_
  refine z_iinc (ls' := [some (.ref 36), some (.int 2)]) 2 d_Machine_init_32 rfl (by decide) (Nat.le_of_ble_eq_true rfl) rfl rfl ?_
  refine z_goto 14 d_Machine_init_35 rfl ?_
  refine z_iload_n d_Machine_init_14 rfl ?_
  refine z_aload_n d_Machine_init_15 rfl ?_
  refine z_getr (b := 37) f_Machine_9 rfl d_Machine_init_16 ⟨by rw [zOf_1, tl_73]; decide, by decide +kernel⟩ (by decide +kernel) ?_
  refine y_alen (N := 6) 6 d_Machine_init_19 ⟨⟨by rw [zOf_1, tl_73]; decide, by decide +kernel⟩, by decide +kernel, by decide⟩ rfl ?_
  refine z_icmp_ge 38 d_Machine_init_20 rfl ⟨fun q => absurd q (by decide), fun _ => ?_⟩
  refine z_aload_n d_Machine_init_23 rfl ?_
  refine z_getr (b := 37) f_Machine_9 rfl d_Machine_init_24 ⟨by rw [zOf_1, tl_73]; decide, by decide +kernel⟩ (by decide +kernel) ?_
  refine z_iload_n d_Machine_init_27 rfl ?_
  refine z_iload_n d_Machine_init_28 rfl ?_
  refine z_iconst 3 d_Machine_init_29 (by decide) ?_
  refine z_irem d_Machine_init_30 (by decide) ?_
  rw [show (2 : Int32) - 2 / 3 * 3 = 2 by decide]
  refine c_iastore (M1 := mc_17) 2 rfl d_Machine_init_31 (N := 6) ⟨⟨by rw [zOf_1, tl_73]; decide, by decide +kernel⟩, by decide +kernel, by decide⟩ (by decide) (by decide) ?_
  refine z_iinc (ls' := [some (.ref 36), some (.int 3)]) 3 d_Machine_init_32 rfl (by decide) (Nat.le_of_ble_eq_true rfl) rfl rfl ?_
  refine z_goto 14 d_Machine_init_35 rfl ?_
  refine z_iload_n d_Machine_init_14 rfl ?_
  refine z_aload_n d_Machine_init_15 rfl ?_
  refine z_getr (b := 37) f_Machine_9 rfl d_Machine_init_16 ⟨by rw [zOf_1, tl_73]; decide, by decide +kernel⟩ (by decide +kernel) ?_
  refine y_alen (N := 6) 6 d_Machine_init_19 ⟨⟨by rw [zOf_1, tl_73]; decide, by decide +kernel⟩, by decide +kernel, by decide⟩ rfl ?_
  refine z_icmp_ge 38 d_Machine_init_20 rfl ⟨fun q => absurd q (by decide), fun _ => ?_⟩
  refine z_aload_n d_Machine_init_23 rfl ?_
  refine z_getr (b := 37) f_Machine_9 rfl d_Machine_init_24 ⟨by rw [zOf_1, tl_73]; decide, by decide +kernel⟩ (by decide +kernel) ?_
  refine z_iload_n d_Machine_init_27 rfl ?_
  refine z_iload_n d_Machine_init_28 rfl ?_
  refine z_iconst 3 d_Machine_init_29 (by decide) ?_
  refine z_irem d_Machine_init_30 (by decide) ?_
  rw [show (3 : Int32) - 3 / 3 * 3 = 0 by decide]
  refine c_iastore (M1 := mc_18) 3 rfl d_Machine_init_31 (N := 6) ⟨⟨by rw [zOf_1, tl_73]; decide, by decide +kernel⟩, by decide +kernel, by decide⟩ (by decide) (by decide) ?_
  refine z_iinc (ls' := [some (.ref 36), some (.int 4)]) 4 d_Machine_init_32 rfl (by decide) (Nat.le_of_ble_eq_true rfl) rfl rfl ?_
  refine z_goto 14 d_Machine_init_35 rfl ?_
  refine z_iload_n d_Machine_init_14 rfl ?_
  refine z_aload_n d_Machine_init_15 rfl ?_
  refine z_getr (b := 37) f_Machine_9 rfl d_Machine_init_16 ⟨by rw [zOf_1, tl_73]; decide, by decide +kernel⟩ (by decide +kernel) ?_
  refine y_alen (N := 6) 6 d_Machine_init_19 ⟨⟨by rw [zOf_1, tl_73]; decide, by decide +kernel⟩, by decide +kernel, by decide⟩ rfl ?_
  refine z_icmp_ge 38 d_Machine_init_20 rfl ⟨fun q => absurd q (by decide), fun _ => ?_⟩
  refine z_aload_n d_Machine_init_23 rfl ?_
  refine z_getr (b := 37) f_Machine_9 rfl d_Machine_init_24 ⟨by rw [zOf_1, tl_73]; decide, by decide +kernel⟩ (by decide +kernel) ?_
  refine z_iload_n d_Machine_init_27 rfl ?_
  refine z_iload_n d_Machine_init_28 rfl ?_
  refine z_iconst 3 d_Machine_init_29 (by decide) ?_
  refine z_irem d_Machine_init_30 (by decide) ?_
  rw [show (4 : Int32) - 4 / 3 * 3 = 1 by decide]
  refine c_iastore (M1 := mc_19) 4 rfl d_Machine_init_31 (N := 6) ⟨⟨by rw [zOf_1, tl_73]; decide, by decide +kernel⟩, by decide +kernel, by decide⟩ (by decide) (by decide) ?_
  refine z_iinc (ls' := [some (.ref 36), some (.int 5)]) 5 d_Machine_init_32 rfl (by decide) (Nat.le_of_ble_eq_true rfl) rfl rfl ?_
  refine z_goto 14 d_Machine_init_35 rfl ?_
  refine z_iload_n d_Machine_init_14 rfl ?_
  refine z_aload_n d_Machine_init_15 rfl ?_
  refine z_getr (b := 37) f_Machine_9 rfl d_Machine_init_16 ⟨by rw [zOf_1, tl_73]; decide, by decide +kernel⟩ (by decide +kernel) ?_
  refine y_alen (N := 6) 6 d_Machine_init_19 ⟨⟨by rw [zOf_1, tl_73]; decide, by decide +kernel⟩, by decide +kernel, by decide⟩ rfl ?_
  refine z_icmp_ge 38 d_Machine_init_20 rfl ⟨fun q => absurd q (by decide), fun _ => ?_⟩
  refine z_aload_n d_Machine_init_23 rfl ?_
  refine z_getr (b := 37) f_Machine_9 rfl d_Machine_init_24 ⟨by rw [zOf_1, tl_73]; decide, by decide +kernel⟩ (by decide +kernel) ?_
  refine z_iload_n d_Machine_init_27 rfl ?_
  refine z_iload_n d_Machine_init_28 rfl ?_
  refine z_iconst 3 d_Machine_init_29 (by decide) ?_
  refine z_irem d_Machine_init_30 (by decide) ?_
  rw [show (5 : Int32) - 5 / 3 * 3 = 2 by decide]
  refine c_iastore (M1 := mc_20) 5 rfl d_Machine_init_31 (N := 6) ⟨⟨by rw [zOf_1, tl_73]; decide, by decide +kernel⟩, by decide +kernel, by decide⟩ (by decide) (by decide) ?_
  refine z_iinc (ls' := [some (.ref 36), some (.int 6)]) 6 d_Machine_init_32 rfl (by decide) (Nat.le_of_ble_eq_true rfl) rfl rfl ?_
  refine z_goto 14 d_Machine_init_35 rfl ?_
  refine z_iload_n d_Machine_init_14 rfl ?_
  refine z_aload_n d_Machine_init_15 rfl ?_
  refine z_getr (b := 37) f_Machine_9 rfl d_Machine_init_16 ⟨by rw [zOf_1, tl_73]; decide, by decide +kernel⟩ (by decide +kernel) ?_
  refine y_alen (N := 6) 6 d_Machine_init_19 ⟨⟨by rw [zOf_1, tl_73]; decide, by decide +kernel⟩, by decide +kernel, by decide⟩ rfl ?_
  refine z_icmp_ge 38 d_Machine_init_20 rfl ⟨fun _ => ?_, fun q => absurd (by decide) q⟩
  exact z_vret rfl d_Machine_init_38 ⟨rfl, rfl, rfl⟩
def tc_74 : List ZTc := tc_73.set 31 (1, 0, [some 32, some 34, some 36, none])
theorem tl_74 : tc_74.length = 38 := by rw [tc_74, List.length_set, tl_73]
theorem cg_74 : zput (zOf tc_73) 31 2 36 = zOf tc_74 := zOf_put (rs := [some 32, some 34, none, none]) (by rw [tl_73]; decide) (by decide +kernel) (by decide)
def tc_75 : List ZTc := tc_74 ++ [(9, 0, [none, none, none])]
theorem tl_75 : tc_75.length = 39 := by rw [tc_75, List.length_append, tl_74]; rfl
theorem cg_75 : zadd (zOf tc_74) 9 0 = zOf tc_75 := zOf_add _ _ _ _ (by exact none_rep 3)
def tc_76 : List ZTc := tc_75 ++ [(5, 0, [none])]
theorem tl_76 : tc_76.length = 40 := by rw [tc_76, List.length_append, tl_75]; rfl
theorem cg_76 : zadd (zOf tc_75) 5 0 = zOf tc_76 := zOf_add _ _ _ _ (by exact none_rep 1)
def tc_77 : List ZTc := tc_76 ++ [(12, 12, [])]
theorem tl_77 : tc_77.length = 41 := by rw [tc_77, List.length_append, tl_76]; rfl
theorem cg_77 : zadd (zOf tc_76) 12 12 = zOf tc_77 := zOf_add _ _ _ _ (by intro j; rfl)
def tc_78 : List ZTc := tc_77.set 39 (5, 0, [some 40])
theorem tl_78 : tc_78.length = 41 := by rw [tc_78, List.length_set, tl_77]
theorem cg_78 : zput (zOf tc_77) 39 0 40 = zOf tc_78 := zOf_put (rs := [none]) (by rw [tl_77]; decide) (by decide +kernel) (by decide)
theorem ct_21 (E : ZE) : zW E m_Row_init 1 (zOf tc_76) mc_20 0 [some (.ref 39), some (.int 12)] [] (fun r S M => r = none ∧ S = zOf tc_78 ∧ M = mc_20) := by
  refine z_aload_n d_Row_init_0 rfl ?_
  refine z_objInit o_Row_3 o_1 o_2 d_Row_init_1 (by decide) (Nat.le_of_ble_eq_true rfl) ?_
  refine z_aload_n d_Row_init_4 rfl ?_
  refine z_iload_n d_Row_init_5 rfl ?_
  refine z_iconst 0 d_Row_init_6 (by decide) ?_
  refine z_mmax l_Row_9 mx_1 mx_2 mx_3 d_Row_init_7 (by decide) (Nat.le_of_ble_eq_true rfl) ?_
  rw [show (if (12 : Int32) < 0 then (0 : Int32) else 12) = 12 by decide]
  refine c_newI 40 12 cg_77 (zM0_id (mz_20 _ (by rw [zOf_1, tl_76]; decide))) (by rw [zOf_1, tl_76]) a_int d_Row_init_10 (by decide) (by decide) (by decide) ?_
  refine c_putr cg_78 p_Row_15 rfl d_Row_init_12 ⟨by rw [zOf_1, tl_77]; decide, by decide +kernel⟩ (fun q => ⟨rfl, rfl⟩) ?_
  exact z_vret rfl d_Row_init_15 ⟨rfl, rfl, rfl⟩
def tc_79 : List ZTc := tc_78.set 38 (9, 0, [some 39, none, none])
theorem tl_79 : tc_79.length = 41 := by rw [tc_79, List.length_set, tl_78]
theorem cg_79 : zput (zOf tc_78) 38 0 39 = zOf tc_79 := zOf_put (rs := [none, none, none]) (by rw [tl_78]; decide) (by decide +kernel) (by decide)
def tc_80 : List ZTc := tc_79 ++ [(5, 0, [none])]
theorem tl_80 : tc_80.length = 42 := by rw [tc_80, List.length_append, tl_79]; rfl
theorem cg_80 : zadd (zOf tc_79) 5 0 = zOf tc_80 := zOf_add _ _ _ _ (by exact none_rep 1)
def tc_81 : List ZTc := tc_80 ++ [(12, 12, [])]
theorem tl_81 : tc_81.length = 43 := by rw [tc_81, List.length_append, tl_80]; rfl
theorem cg_81 : zadd (zOf tc_80) 12 12 = zOf tc_81 := zOf_add _ _ _ _ (by intro j; rfl)
def tc_82 : List ZTc := tc_81.set 41 (5, 0, [some 42])
theorem tl_82 : tc_82.length = 43 := by rw [tc_82, List.length_set, tl_81]
theorem cg_82 : zput (zOf tc_81) 41 0 42 = zOf tc_82 := zOf_put (rs := [none]) (by rw [tl_81]; decide) (by decide +kernel) (by decide)
theorem ct_22 (E : ZE) : zW E m_Row_init 1 (zOf tc_80) mc_20 0 [some (.ref 41), some (.int 12)] [] (fun r S M => r = none ∧ S = zOf tc_82 ∧ M = mc_20) := by
  refine z_aload_n d_Row_init_0 rfl ?_
  refine z_objInit o_Row_3 o_1 o_2 d_Row_init_1 (by decide) (Nat.le_of_ble_eq_true rfl) ?_
  refine z_aload_n d_Row_init_4 rfl ?_
  refine z_iload_n d_Row_init_5 rfl ?_
  refine z_iconst 0 d_Row_init_6 (by decide) ?_
  refine z_mmax l_Row_9 mx_1 mx_2 mx_3 d_Row_init_7 (by decide) (Nat.le_of_ble_eq_true rfl) ?_
  rw [show (if (12 : Int32) < 0 then (0 : Int32) else 12) = 12 by decide]
  refine c_newI 42 12 cg_81 (zM0_id (mz_20 _ (by rw [zOf_1, tl_80]; decide))) (by rw [zOf_1, tl_80]) a_int d_Row_init_10 (by decide) (by decide) (by decide) ?_
  refine c_putr cg_82 p_Row_15 rfl d_Row_init_12 ⟨by rw [zOf_1, tl_81]; decide, by decide +kernel⟩ (fun q => ⟨rfl, rfl⟩) ?_
  exact z_vret rfl d_Row_init_15 ⟨rfl, rfl, rfl⟩
def tc_83 : List ZTc := tc_82.set 38 (9, 0, [some 39, some 41, none])
theorem tl_83 : tc_83.length = 43 := by rw [tc_83, List.length_set, tl_82]
theorem cg_83 : zput (zOf tc_82) 38 1 41 = zOf tc_83 := zOf_put (rs := [some 39, none, none]) (by rw [tl_82]; decide) (by decide +kernel) (by decide)
def tc_84 : List ZTc := tc_83 ++ [(5, 0, [none])]
theorem tl_84 : tc_84.length = 44 := by rw [tc_84, List.length_append, tl_83]; rfl
theorem cg_84 : zadd (zOf tc_83) 5 0 = zOf tc_84 := zOf_add _ _ _ _ (by exact none_rep 1)
def tc_85 : List ZTc := tc_84 ++ [(12, 12, [])]
theorem tl_85 : tc_85.length = 45 := by rw [tc_85, List.length_append, tl_84]; rfl
theorem cg_85 : zadd (zOf tc_84) 12 12 = zOf tc_85 := zOf_add _ _ _ _ (by intro j; rfl)
def tc_86 : List ZTc := tc_85.set 43 (5, 0, [some 44])
theorem tl_86 : tc_86.length = 45 := by rw [tc_86, List.length_set, tl_85]
theorem cg_86 : zput (zOf tc_85) 43 0 44 = zOf tc_86 := zOf_put (rs := [none]) (by rw [tl_85]; decide) (by decide +kernel) (by decide)
theorem ct_23 (E : ZE) : zW E m_Row_init 1 (zOf tc_84) mc_20 0 [some (.ref 43), some (.int 12)] [] (fun r S M => r = none ∧ S = zOf tc_86 ∧ M = mc_20) := by
  refine z_aload_n d_Row_init_0 rfl ?_
  refine z_objInit o_Row_3 o_1 o_2 d_Row_init_1 (by decide) (Nat.le_of_ble_eq_true rfl) ?_
  refine z_aload_n d_Row_init_4 rfl ?_
  refine z_iload_n d_Row_init_5 rfl ?_
  refine z_iconst 0 d_Row_init_6 (by decide) ?_
  refine z_mmax l_Row_9 mx_1 mx_2 mx_3 d_Row_init_7 (by decide) (Nat.le_of_ble_eq_true rfl) ?_
  rw [show (if (12 : Int32) < 0 then (0 : Int32) else 12) = 12 by decide]
  refine c_newI 44 12 cg_85 (zM0_id (mz_20 _ (by rw [zOf_1, tl_84]; decide))) (by rw [zOf_1, tl_84]) a_int d_Row_init_10 (by decide) (by decide) (by decide) ?_
  refine c_putr cg_86 p_Row_15 rfl d_Row_init_12 ⟨by rw [zOf_1, tl_85]; decide, by decide +kernel⟩ (fun q => ⟨rfl, rfl⟩) ?_
  exact z_vret rfl d_Row_init_15 ⟨rfl, rfl, rfl⟩
def tc_87 : List ZTc := tc_86.set 38 (9, 0, [some 39, some 41, some 43])
theorem tl_87 : tc_87.length = 45 := by rw [tc_87, List.length_set, tl_86]
theorem cg_87 : zput (zOf tc_86) 38 2 43 = zOf tc_87 := zOf_put (rs := [some 39, some 41, none]) (by rw [tl_86]; decide) (by decide +kernel) (by decide)
theorem ct_24 (E : ZE) : zW E m_Words_init 2 (zOf tc_75) mc_20 0 [some (.ref 38), some (.int 12)] [] (fun r S M => r = none ∧ S = zOf tc_87 ∧ M = mc_20) := by
  refine z_aload_n d_Words_init_0 rfl ?_
  refine z_objInit o_Words_3 o_1 o_2 d_Words_init_1 (by decide) (Nat.le_of_ble_eq_true rfl) ?_
  refine z_aload_n d_Words_init_4 rfl ?_
  refine c_new 39 cg_76 (zM0_id (mz_20 _ (by rw [zOf_1, tl_75]; decide))) (by rw [zOf_1, tl_75]) n_Words_9 d_Words_init_5 ?_
  refine z_dup d_Words_init_8 rfl ?_
  refine z_iload_n d_Words_init_9 rfl ?_
  refine z_callI (a := 39) (as := [.int 12]) (st := [.ref 39, .ref 38]) (d' := 1) i_Row_init rfl rfl v_Row_init l_Words_11 d_Words_init_10 (by decide) rfl (Nat.le_of_ble_eq_true rfl) (Nat.le_of_ble_eq_true rfl) (ct_21 E) (fun r S1 M1 h => ?_)
  obtain ⟨rfl, rfl, rfl⟩ := h
  refine c_putr cg_79 p_Words_14 rfl d_Words_init_13 ⟨by rw [zOf_1, tl_78]; decide, by decide +kernel⟩ (fun q => ⟨rfl, rfl⟩) ?_
  refine z_aload_n d_Words_init_16 rfl ?_
  refine c_new 41 cg_80 (zM0_id (mz_20 _ (by rw [zOf_1, tl_79]; decide))) (by rw [zOf_1, tl_79]) n_Words_9 d_Words_init_17 ?_
  refine z_dup d_Words_init_20 rfl ?_
  refine z_iload_n d_Words_init_21 rfl ?_
  refine z_callI (a := 41) (as := [.int 12]) (st := [.ref 41, .ref 38]) (d' := 1) i_Row_init rfl rfl v_Row_init l_Words_11 d_Words_init_22 (by decide) rfl (Nat.le_of_ble_eq_true rfl) (Nat.le_of_ble_eq_true rfl) (ct_22 E) (fun r S1 M1 h => ?_)
  obtain ⟨rfl, rfl, rfl⟩ := h
  refine c_putr cg_83 p_Words_20 rfl d_Words_init_25 ⟨by rw [zOf_1, tl_82]; decide, by decide +kernel⟩ (fun q => ⟨rfl, rfl⟩) ?_
  refine z_aload_n d_Words_init_28 rfl ?_
  refine c_new 43 cg_84 (zM0_id (mz_20 _ (by rw [zOf_1, tl_83]; decide))) (by rw [zOf_1, tl_83]) n_Words_9 d_Words_init_29 ?_
  refine z_dup d_Words_init_32 rfl ?_
  refine z_iload_n d_Words_init_33 rfl ?_
  refine z_callI (a := 43) (as := [.int 12]) (st := [.ref 43, .ref 38]) (d' := 1) i_Row_init rfl rfl v_Row_init l_Words_11 d_Words_init_34 (by decide) rfl (Nat.le_of_ble_eq_true rfl) (Nat.le_of_ble_eq_true rfl) (ct_23 E) (fun r S1 M1 h => ?_)
  obtain ⟨rfl, rfl, rfl⟩ := h
  refine c_putr cg_87 p_Words_23 rfl d_Words_init_37 ⟨by rw [zOf_1, tl_86]; decide, by decide +kernel⟩ (fun q => ⟨rfl, rfl⟩) ?_
  exact z_vret rfl d_Words_init_40 ⟨rfl, rfl, rfl⟩
def tc_88 : List ZTc := tc_87.set 31 (1, 0, [some 32, some 34, some 36, some 38])
theorem tl_88 : tc_88.length = 45 := by rw [tc_88, List.length_set, tl_87]
theorem cg_88 : zput (zOf tc_87) 31 3 38 = zOf tc_88 := zOf_put (rs := [some 32, some 34, some 36, none]) (by rw [tl_87]; decide) (by decide +kernel) (by decide)
def mc_21 : ZM := zms mc_20 31 4 134217727
theorem mz_21 : ∀ b, 38 ≤ b → ∀ j, mc_21 b j = 0 := fun b hb j => by rw [mc_21, zms_ne _ _ _ (by omega)]; exact mz_20 b (by omega) j
theorem ct_25 (E : ZE) : zW E m_Book_init 3 (zOf tc_62) mc_14 0 [some (.ref 31)] [] (fun r S M => r = none ∧ S = zOf tc_88 ∧ M = mc_21) := by
  refine z_aload_n d_Book_init_0 rfl ?_
  refine z_objInit o_Book_3 o_1 o_2 d_Book_init_1 (by decide) (Nat.le_of_ble_eq_true rfl) ?_
  refine z_aload_n d_Book_init_4 rfl ?_
  refine c_new 32 cg_63 (zM0_id (mz_14 _ (by rw [zOf_1, tl_62]; decide))) (by rw [zOf_1, tl_62]) n_Book_9 d_Book_init_5 ?_
  refine z_dup d_Book_init_8 rfl ?_
  refine z_bipush 12 d_Book_init_9 (by decide) ?_
  refine z_callI (a := 32) (as := [.int 12]) (st := [.ref 32, .ref 31]) (d' := 1) i_Row_init rfl rfl v_Row_init l_Book_11 d_Book_init_11 (by decide) rfl (Nat.le_of_ble_eq_true rfl) (Nat.le_of_ble_eq_true rfl) (ct_18 E) (fun r S1 M1 h => ?_)
  obtain ⟨rfl, rfl, rfl⟩ := h
  refine c_putr cg_66 p_Book_14 rfl d_Book_init_14 ⟨by rw [zOf_1, tl_65]; decide, by decide +kernel⟩ (fun q => ⟨rfl, rfl⟩) ?_
  refine z_aload_n d_Book_init_17 rfl ?_
  refine c_new 34 cg_67 (zM0_id (mz_14 _ (by rw [zOf_1, tl_66]; decide))) (by rw [zOf_1, tl_66]) n_Book_9 d_Book_init_18 ?_
  refine z_dup d_Book_init_21 rfl ?_
  refine z_bipush 12 d_Book_init_22 (by decide) ?_
  refine z_callI (a := 34) (as := [.int 12]) (st := [.ref 34, .ref 31]) (d' := 1) i_Row_init rfl rfl v_Row_init l_Book_11 d_Book_init_24 (by decide) rfl (Nat.le_of_ble_eq_true rfl) (Nat.le_of_ble_eq_true rfl) (ct_19 E) (fun r S1 M1 h => ?_)
  obtain ⟨rfl, rfl, rfl⟩ := h
  refine c_putr cg_70 p_Book_20 rfl d_Book_init_27 ⟨by rw [zOf_1, tl_69]; decide, by decide +kernel⟩ (fun q => ⟨rfl, rfl⟩) ?_
  refine z_aload_n d_Book_init_30 rfl ?_
  refine c_new 36 cg_71 (zM0_id (mz_14 _ (by rw [zOf_1, tl_70]; decide))) (by rw [zOf_1, tl_70]) n_Book_23 d_Book_init_31 ?_
  refine z_dup d_Book_init_34 rfl ?_
  refine z_callI (a := 36) (as := []) (st := [.ref 36, .ref 31]) (d' := 1) i_Machine_init rfl rfl v_Machine_init l_Book_25 d_Book_init_35 (by decide) rfl (Nat.le_of_ble_eq_true rfl) (Nat.le_of_ble_eq_true rfl) (ct_20 E) (fun r S1 M1 h => ?_)
  obtain ⟨rfl, rfl, rfl⟩ := h
  refine c_putr cg_74 p_Book_26 rfl d_Book_init_38 ⟨by rw [zOf_1, tl_73]; decide, by decide +kernel⟩ (fun q => ⟨rfl, rfl⟩) ?_
  refine z_aload_n d_Book_init_41 rfl ?_
  refine c_new 38 cg_75 (zM0_id (mz_20 _ (by rw [zOf_1, tl_74]; decide))) (by rw [zOf_1, tl_74]) n_Book_30 d_Book_init_42 ?_
  refine z_dup d_Book_init_45 rfl ?_
  refine z_bipush 12 d_Book_init_46 (by decide) ?_
  refine z_callI (a := 38) (as := [.int 12]) (st := [.ref 38, .ref 31]) (d' := 2) i_Words_init rfl rfl v_Words_init l_Book_32 d_Book_init_48 (by decide) rfl (Nat.le_of_ble_eq_true rfl) (Nat.le_of_ble_eq_true rfl) (ct_24 E) (fun r S1 M1 h => ?_)
  obtain ⟨rfl, rfl, rfl⟩ := h
  refine c_putr cg_88 p_Book_33 rfl d_Book_init_51 ⟨by rw [zOf_1, tl_87]; decide, by decide +kernel⟩ (fun q => ⟨rfl, rfl⟩) ?_
  refine z_aload_n d_Book_init_54 rfl ?_
  refine z_ldc 134217727 d_Book_init_55 k_Book_39 ?_
  refine c_puti (M1 := mc_21) rfl (p_Book_40 rfl) rfl d_Book_init_57 ⟨by rw [zOf_1, tl_88]; decide, by decide +kernel⟩ rfl rfl ?_
  exact z_vret rfl d_Book_init_60 ⟨rfl, rfl, rfl⟩
def tc_89 : List ZTc := tc_88.set 0 (10, 0, [some 1, some 3, some 17, some 31, none, none, none, none, none, none, none, none])
theorem tl_89 : tc_89.length = 45 := by rw [tc_89, List.length_set, tl_88]
theorem cg_89 : zput (zOf tc_88) 0 3 31 = zOf tc_89 := zOf_put (rs := [some 1, some 3, some 17, none, none, none, none, none, none, none, none, none]) (by rw [tl_88]; decide) (by decide +kernel) (by decide)
def tc_90 : List ZTc := tc_89 ++ [(6, 0, [none, none, none, none, none])]
theorem tl_90 : tc_90.length = 46 := by rw [tc_90, List.length_append, tl_89]; rfl
theorem cg_90 : zadd (zOf tc_89) 6 0 = zOf tc_90 := zOf_add _ _ _ _ (by exact none_rep 5)
def tc_91 : List ZTc := tc_90 ++ [(12, 27, [])]
theorem tl_91 : tc_91.length = 47 := by rw [tc_91, List.length_append, tl_90]; rfl
theorem cg_91 : zadd (zOf tc_90) 12 27 = zOf tc_91 := zOf_add _ _ _ _ (by intro j; rfl)
def tc_92 : List ZTc := tc_91.set 45 (6, 0, [none, some 46, none, none, none])
theorem tl_92 : tc_92.length = 47 := by rw [tc_92, List.length_set, tl_91]
theorem cg_92 : zput (zOf tc_91) 45 1 46 = zOf tc_92 := zOf_put (rs := [none, none, none, none, none]) (by rw [tl_91]; decide) (by decide +kernel) (by decide)
def tc_93 : List ZTc := tc_92 ++ [(12, 27, [])]
theorem tl_93 : tc_93.length = 48 := by rw [tc_93, List.length_append, tl_92]; rfl
theorem cg_93 : zadd (zOf tc_92) 12 27 = zOf tc_93 := zOf_add _ _ _ _ (by intro j; rfl)
def tc_94 : List ZTc := tc_93.set 45 (6, 0, [none, some 46, some 47, none, none])
theorem tl_94 : tc_94.length = 48 := by rw [tc_94, List.length_set, tl_93]
theorem cg_94 : zput (zOf tc_93) 45 2 47 = zOf tc_94 := zOf_put (rs := [none, some 46, none, none, none]) (by rw [tl_93]; decide) (by decide +kernel) (by decide)
def tc_95 : List ZTc := tc_94 ++ [(12, 27, [])]
theorem tl_95 : tc_95.length = 49 := by rw [tc_95, List.length_append, tl_94]; rfl
theorem cg_95 : zadd (zOf tc_94) 12 27 = zOf tc_95 := zOf_add _ _ _ _ (by intro j; rfl)
def tc_96 : List ZTc := tc_95.set 45 (6, 0, [none, some 46, some 47, some 48, none])
theorem tl_96 : tc_96.length = 49 := by rw [tc_96, List.length_set, tl_95]
theorem cg_96 : zput (zOf tc_95) 45 3 48 = zOf tc_96 := zOf_put (rs := [none, some 46, some 47, none, none]) (by rw [tl_95]; decide) (by decide +kernel) (by decide)
def tc_97 : List ZTc := tc_96 ++ [(12, 512, [])]
theorem tl_97 : tc_97.length = 50 := by rw [tc_97, List.length_append, tl_96]; rfl
theorem cg_97 : zadd (zOf tc_96) 12 512 = zOf tc_97 := zOf_add _ _ _ _ (by intro j; rfl)
def tc_98 : List ZTc := tc_97.set 45 (6, 0, [none, some 46, some 47, some 48, some 49])
theorem tl_98 : tc_98.length = 50 := by rw [tc_98, List.length_set, tl_97]
theorem cg_98 : zput (zOf tc_97) 45 4 49 = zOf tc_98 := zOf_put (rs := [none, some 46, some 47, some 48, none]) (by rw [tl_97]; decide) (by decide +kernel) (by decide)
def tc_99 : List ZTc := tc_98.set 45 (6, 0, [some 8, some 46, some 47, some 48, some 49])
theorem tl_99 : tc_99.length = 50 := by rw [tc_99, List.length_set, tl_98]
theorem cg_99 : zput (zOf tc_98) 45 0 8 = zOf tc_99 := zOf_put (rs := [none, some 46, some 47, some 48, some 49]) (by rw [tl_98]; decide) (by decide +kernel) (by decide)
theorem ct_26 (E : ZE) : zW E m_Shorts_init 1 (zOf tc_90) mc_21 0 [some (.ref 45), some (.ref 8)] [] (fun r S M => r = none ∧ S = zOf tc_99 ∧ M = mc_21) := by
  refine z_aload_n d_Shorts_init_0 rfl ?_
  refine z_objInit o_Shorts_3 o_1 o_2 d_Shorts_init_1 (by decide) (Nat.le_of_ble_eq_true rfl) ?_
  refine z_aload_n d_Shorts_init_4 rfl ?_
  refine z_bipush 27 d_Shorts_init_5 (by decide) ?_
  refine c_newI 46 27 cg_91 (zM0_id (mz_21 _ (by rw [zOf_1, tl_90]; decide))) (by rw [zOf_1, tl_90]) a_int d_Shorts_init_7 (by decide) (by decide) (by decide) ?_
  refine c_putr cg_92 p_Shorts_11 rfl d_Shorts_init_9 ⟨by rw [zOf_1, tl_91]; decide, by decide +kernel⟩ (fun q => ⟨rfl, rfl⟩) ?_
  refine z_aload_n d_Shorts_init_12 rfl ?_
  refine z_bipush 27 d_Shorts_init_13 (by decide) ?_
  refine c_newI 47 27 cg_93 (zM0_id (mz_21 _ (by rw [zOf_1, tl_92]; decide))) (by rw [zOf_1, tl_92]) a_int d_Shorts_init_15 (by decide) (by decide) (by decide) ?_
  refine c_putr cg_94 p_Shorts_15 rfl d_Shorts_init_17 ⟨by rw [zOf_1, tl_93]; decide, by decide +kernel⟩ (fun q => ⟨rfl, rfl⟩) ?_
  refine z_aload_n d_Shorts_init_20 rfl ?_
  refine z_bipush 27 d_Shorts_init_21 (by decide) ?_
  refine c_newI 48 27 cg_95 (zM0_id (mz_21 _ (by rw [zOf_1, tl_94]; decide))) (by rw [zOf_1, tl_94]) a_int d_Shorts_init_23 (by decide) (by decide) (by decide) ?_
  refine c_putr cg_96 p_Shorts_18 rfl d_Shorts_init_25 ⟨by rw [zOf_1, tl_95]; decide, by decide +kernel⟩ (fun q => ⟨rfl, rfl⟩) ?_
  refine z_aload_n d_Shorts_init_28 rfl ?_
  refine z_sipush 512 d_Shorts_init_29 (by decide) ?_
  refine c_newI 49 512 cg_97 (zM0_id (mz_21 _ (by rw [zOf_1, tl_96]; decide))) (by rw [zOf_1, tl_96]) a_int d_Shorts_init_32 (by decide) (by decide) (by decide) ?_
  refine c_putr cg_98 p_Shorts_23 rfl d_Shorts_init_34 ⟨by rw [zOf_1, tl_97]; decide, by decide +kernel⟩ (fun q => ⟨rfl, rfl⟩) ?_
  refine z_aload_n d_Shorts_init_37 rfl ?_
  refine z_aload_n d_Shorts_init_38 rfl ?_
  refine c_putr cg_99 p_Shorts_26 rfl d_Shorts_init_39 ⟨by rw [zOf_1, tl_98]; decide, by decide +kernel⟩ (fun q => ⟨rfl, rfl⟩) ?_
  exact z_vret rfl d_Shorts_init_42 ⟨rfl, rfl, rfl⟩
def tc_100 : List ZTc := tc_99.set 0 (10, 0, [some 1, some 3, some 17, some 31, some 45, none, none, none, none, none, none, none])
theorem tl_100 : tc_100.length = 50 := by rw [tc_100, List.length_set, tl_99]
theorem cg_100 : zput (zOf tc_99) 0 4 45 = zOf tc_100 := zOf_put (rs := [some 1, some 3, some 17, some 31, none, none, none, none, none, none, none, none]) (by rw [tl_99]; decide) (by decide +kernel) (by decide)
def tc_101 : List ZTc := tc_100 ++ [(3, 0, [none, none, none, none, none, none, none, none])]
theorem tl_101 : tc_101.length = 51 := by rw [tc_101, List.length_append, tl_100]; rfl
theorem cg_101 : zadd (zOf tc_100) 3 0 = zOf tc_101 := zOf_add _ _ _ _ (by exact none_rep 8)
def tc_102 : List ZTc := tc_101 ++ [(14, 150, [])]
theorem tl_102 : tc_102.length = 52 := by rw [tc_102, List.length_append, tl_101]; rfl
theorem cg_102 : zadd (zOf tc_101) 14 150 = zOf tc_102 := zOf_add _ _ _ _ (by intro j; rfl)
def tc_103 : List ZTc := tc_102.set 50 (3, 0, [none, none, some 51, none, none, none, none, none])
theorem tl_103 : tc_103.length = 52 := by rw [tc_103, List.length_set, tl_102]
theorem cg_103 : zput (zOf tc_102) 50 2 51 = zOf tc_103 := zOf_put (rs := [none, none, none, none, none, none, none, none]) (by rw [tl_102]; decide) (by decide +kernel) (by decide)
def tc_104 : List ZTc := tc_103 ++ [(12, 256, [])]
theorem tl_104 : tc_104.length = 53 := by rw [tc_104, List.length_append, tl_103]; rfl
theorem cg_104 : zadd (zOf tc_103) 12 256 = zOf tc_104 := zOf_add _ _ _ _ (by intro j; rfl)
def tc_105 : List ZTc := tc_104.set 50 (3, 0, [none, none, some 51, some 52, none, none, none, none])
theorem tl_105 : tc_105.length = 53 := by rw [tc_105, List.length_set, tl_104]
theorem cg_105 : zput (zOf tc_104) 50 3 52 = zOf tc_105 := zOf_put (rs := [none, none, some 51, none, none, none, none, none]) (by rw [tl_104]; decide) (by decide +kernel) (by decide)
def tc_106 : List ZTc := tc_105 ++ [(5, 0, [none])]
theorem tl_106 : tc_106.length = 54 := by rw [tc_106, List.length_append, tl_105]; rfl
theorem cg_106 : zadd (zOf tc_105) 5 0 = zOf tc_106 := zOf_add _ _ _ _ (by exact none_rep 1)
def tc_107 : List ZTc := tc_106 ++ [(12, 48, [])]
theorem tl_107 : tc_107.length = 55 := by rw [tc_107, List.length_append, tl_106]; rfl
theorem cg_107 : zadd (zOf tc_106) 12 48 = zOf tc_107 := zOf_add _ _ _ _ (by intro j; rfl)
def tc_108 : List ZTc := tc_107.set 53 (5, 0, [some 54])
theorem tl_108 : tc_108.length = 55 := by rw [tc_108, List.length_set, tl_107]
theorem cg_108 : zput (zOf tc_107) 53 0 54 = zOf tc_108 := zOf_put (rs := [none]) (by rw [tl_107]; decide) (by decide +kernel) (by decide)
theorem ct_27 (E : ZE) : zW E m_Row_init 1 (zOf tc_106) mc_21 0 [some (.ref 53), some (.int 48)] [] (fun r S M => r = none ∧ S = zOf tc_108 ∧ M = mc_21) := by
  refine z_aload_n d_Row_init_0 rfl ?_
  refine z_objInit o_Row_3 o_1 o_2 d_Row_init_1 (by decide) (Nat.le_of_ble_eq_true rfl) ?_
  refine z_aload_n d_Row_init_4 rfl ?_
  refine z_iload_n d_Row_init_5 rfl ?_
  refine z_iconst 0 d_Row_init_6 (by decide) ?_
  refine z_mmax l_Row_9 mx_1 mx_2 mx_3 d_Row_init_7 (by decide) (Nat.le_of_ble_eq_true rfl) ?_
  rw [show (if (48 : Int32) < 0 then (0 : Int32) else 48) = 48 by decide]
  refine c_newI 54 48 cg_107 (zM0_id (mz_21 _ (by rw [zOf_1, tl_106]; decide))) (by rw [zOf_1, tl_106]) a_int d_Row_init_10 (by decide) (by decide) (by decide) ?_
  refine c_putr cg_108 p_Row_15 rfl d_Row_init_12 ⟨by rw [zOf_1, tl_107]; decide, by decide +kernel⟩ (fun q => ⟨rfl, rfl⟩) ?_
  exact z_vret rfl d_Row_init_15 ⟨rfl, rfl, rfl⟩
def tc_109 : List ZTc := tc_108.set 50 (3, 0, [none, none, some 51, some 52, some 53, none, none, none])
theorem tl_109 : tc_109.length = 55 := by rw [tc_109, List.length_set, tl_108]
theorem cg_109 : zput (zOf tc_108) 50 4 53 = zOf tc_109 := zOf_put (rs := [none, none, some 51, some 52, none, none, none, none]) (by rw [tl_108]; decide) (by decide +kernel) (by decide)
def tc_110 : List ZTc := tc_109 ++ [(5, 0, [none])]
theorem tl_110 : tc_110.length = 56 := by rw [tc_110, List.length_append, tl_109]; rfl
theorem cg_110 : zadd (zOf tc_109) 5 0 = zOf tc_110 := zOf_add _ _ _ _ (by exact none_rep 1)
def tc_111 : List ZTc := tc_110 ++ [(12, 48, [])]
theorem tl_111 : tc_111.length = 57 := by rw [tc_111, List.length_append, tl_110]; rfl
theorem cg_111 : zadd (zOf tc_110) 12 48 = zOf tc_111 := zOf_add _ _ _ _ (by intro j; rfl)
def tc_112 : List ZTc := tc_111.set 55 (5, 0, [some 56])
theorem tl_112 : tc_112.length = 57 := by rw [tc_112, List.length_set, tl_111]
theorem cg_112 : zput (zOf tc_111) 55 0 56 = zOf tc_112 := zOf_put (rs := [none]) (by rw [tl_111]; decide) (by decide +kernel) (by decide)
theorem ct_28 (E : ZE) : zW E m_Row_init 1 (zOf tc_110) mc_21 0 [some (.ref 55), some (.int 48)] [] (fun r S M => r = none ∧ S = zOf tc_112 ∧ M = mc_21) := by
  refine z_aload_n d_Row_init_0 rfl ?_
  refine z_objInit o_Row_3 o_1 o_2 d_Row_init_1 (by decide) (Nat.le_of_ble_eq_true rfl) ?_
  refine z_aload_n d_Row_init_4 rfl ?_
  refine z_iload_n d_Row_init_5 rfl ?_
  refine z_iconst 0 d_Row_init_6 (by decide) ?_
  refine z_mmax l_Row_9 mx_1 mx_2 mx_3 d_Row_init_7 (by decide) (Nat.le_of_ble_eq_true rfl) ?_
  rw [show (if (48 : Int32) < 0 then (0 : Int32) else 48) = 48 by decide]
  refine c_newI 56 48 cg_111 (zM0_id (mz_21 _ (by rw [zOf_1, tl_110]; decide))) (by rw [zOf_1, tl_110]) a_int d_Row_init_10 (by decide) (by decide) (by decide) ?_
  refine c_putr cg_112 p_Row_15 rfl d_Row_init_12 ⟨by rw [zOf_1, tl_111]; decide, by decide +kernel⟩ (fun q => ⟨rfl, rfl⟩) ?_
  exact z_vret rfl d_Row_init_15 ⟨rfl, rfl, rfl⟩
def tc_113 : List ZTc := tc_112.set 50 (3, 0, [none, none, some 51, some 52, some 53, some 55, none, none])
theorem tl_113 : tc_113.length = 57 := by rw [tc_113, List.length_set, tl_112]
theorem cg_113 : zput (zOf tc_112) 50 5 55 = zOf tc_113 := zOf_put (rs := [none, none, some 51, some 52, some 53, none, none, none]) (by rw [tl_112]; decide) (by decide +kernel) (by decide)
def tc_114 : List ZTc := tc_113 ++ [(5, 0, [none])]
theorem tl_114 : tc_114.length = 58 := by rw [tc_114, List.length_append, tl_113]; rfl
theorem cg_114 : zadd (zOf tc_113) 5 0 = zOf tc_114 := zOf_add _ _ _ _ (by exact none_rep 1)
def tc_115 : List ZTc := tc_114 ++ [(12, 27, [])]
theorem tl_115 : tc_115.length = 59 := by rw [tc_115, List.length_append, tl_114]; rfl
theorem cg_115 : zadd (zOf tc_114) 12 27 = zOf tc_115 := zOf_add _ _ _ _ (by intro j; rfl)
def tc_116 : List ZTc := tc_115.set 57 (5, 0, [some 58])
theorem tl_116 : tc_116.length = 59 := by rw [tc_116, List.length_set, tl_115]
theorem cg_116 : zput (zOf tc_115) 57 0 58 = zOf tc_116 := zOf_put (rs := [none]) (by rw [tl_115]; decide) (by decide +kernel) (by decide)
theorem ct_29 (E : ZE) : zW E m_Row_init 1 (zOf tc_114) mc_21 0 [some (.ref 57), some (.int 27)] [] (fun r S M => r = none ∧ S = zOf tc_116 ∧ M = mc_21) := by
  refine z_aload_n d_Row_init_0 rfl ?_
  refine z_objInit o_Row_3 o_1 o_2 d_Row_init_1 (by decide) (Nat.le_of_ble_eq_true rfl) ?_
  refine z_aload_n d_Row_init_4 rfl ?_
  refine z_iload_n d_Row_init_5 rfl ?_
  refine z_iconst 0 d_Row_init_6 (by decide) ?_
  refine z_mmax l_Row_9 mx_1 mx_2 mx_3 d_Row_init_7 (by decide) (Nat.le_of_ble_eq_true rfl) ?_
  rw [show (if (27 : Int32) < 0 then (0 : Int32) else 27) = 27 by decide]
  refine c_newI 58 27 cg_115 (zM0_id (mz_21 _ (by rw [zOf_1, tl_114]; decide))) (by rw [zOf_1, tl_114]) a_int d_Row_init_10 (by decide) (by decide) (by decide) ?_
  refine c_putr cg_116 p_Row_15 rfl d_Row_init_12 ⟨by rw [zOf_1, tl_115]; decide, by decide +kernel⟩ (fun q => ⟨rfl, rfl⟩) ?_
  exact z_vret rfl d_Row_init_15 ⟨rfl, rfl, rfl⟩
def tc_117 : List ZTc := tc_116.set 50 (3, 0, [none, none, some 51, some 52, some 53, some 55, some 57, none])
theorem tl_117 : tc_117.length = 59 := by rw [tc_117, List.length_set, tl_116]
theorem cg_117 : zput (zOf tc_116) 50 6 57 = zOf tc_117 := zOf_put (rs := [none, none, some 51, some 52, some 53, some 55, none, none]) (by rw [tl_116]; decide) (by decide +kernel) (by decide)
def tc_118 : List ZTc := tc_117 ++ [(5, 0, [none])]
theorem tl_118 : tc_118.length = 60 := by rw [tc_118, List.length_append, tl_117]; rfl
theorem cg_118 : zadd (zOf tc_117) 5 0 = zOf tc_118 := zOf_add _ _ _ _ (by exact none_rep 1)
def tc_119 : List ZTc := tc_118 ++ [(12, 27, [])]
theorem tl_119 : tc_119.length = 61 := by rw [tc_119, List.length_append, tl_118]; rfl
theorem cg_119 : zadd (zOf tc_118) 12 27 = zOf tc_119 := zOf_add _ _ _ _ (by intro j; rfl)
def tc_120 : List ZTc := tc_119.set 59 (5, 0, [some 60])
theorem tl_120 : tc_120.length = 61 := by rw [tc_120, List.length_set, tl_119]
theorem cg_120 : zput (zOf tc_119) 59 0 60 = zOf tc_120 := zOf_put (rs := [none]) (by rw [tl_119]; decide) (by decide +kernel) (by decide)
theorem ct_30 (E : ZE) : zW E m_Row_init 1 (zOf tc_118) mc_21 0 [some (.ref 59), some (.int 27)] [] (fun r S M => r = none ∧ S = zOf tc_120 ∧ M = mc_21) := by
  refine z_aload_n d_Row_init_0 rfl ?_
  refine z_objInit o_Row_3 o_1 o_2 d_Row_init_1 (by decide) (Nat.le_of_ble_eq_true rfl) ?_
  refine z_aload_n d_Row_init_4 rfl ?_
  refine z_iload_n d_Row_init_5 rfl ?_
  refine z_iconst 0 d_Row_init_6 (by decide) ?_
  refine z_mmax l_Row_9 mx_1 mx_2 mx_3 d_Row_init_7 (by decide) (Nat.le_of_ble_eq_true rfl) ?_
  rw [show (if (27 : Int32) < 0 then (0 : Int32) else 27) = 27 by decide]
  refine c_newI 60 27 cg_119 (zM0_id (mz_21 _ (by rw [zOf_1, tl_118]; decide))) (by rw [zOf_1, tl_118]) a_int d_Row_init_10 (by decide) (by decide) (by decide) ?_
  refine c_putr cg_120 p_Row_15 rfl d_Row_init_12 ⟨by rw [zOf_1, tl_119]; decide, by decide +kernel⟩ (fun q => ⟨rfl, rfl⟩) ?_
  exact z_vret rfl d_Row_init_15 ⟨rfl, rfl, rfl⟩
def tc_121 : List ZTc := tc_120.set 50 (3, 0, [none, none, some 51, some 52, some 53, some 55, some 57, some 59])
theorem tl_121 : tc_121.length = 61 := by rw [tc_121, List.length_set, tl_120]
theorem cg_121 : zput (zOf tc_120) 50 7 59 = zOf tc_121 := zOf_put (rs := [none, none, some 51, some 52, some 53, some 55, some 57, none]) (by rw [tl_120]; decide) (by decide +kernel) (by decide)
def tc_122 : List ZTc := tc_121.set 50 (3, 0, [some 3, none, some 51, some 52, some 53, some 55, some 57, some 59])
theorem tl_122 : tc_122.length = 61 := by rw [tc_122, List.length_set, tl_121]
theorem cg_122 : zput (zOf tc_121) 50 0 3 = zOf tc_122 := zOf_put (rs := [none, none, some 51, some 52, some 53, some 55, some 57, some 59]) (by rw [tl_121]; decide) (by decide +kernel) (by decide)
def tc_123 : List ZTc := tc_122.set 50 (3, 0, [some 3, some 45, some 51, some 52, some 53, some 55, some 57, some 59])
theorem tl_123 : tc_123.length = 61 := by rw [tc_123, List.length_set, tl_122]
theorem cg_123 : zput (zOf tc_122) 50 1 45 = zOf tc_123 := zOf_put (rs := [some 3, none, some 51, some 52, some 53, some 55, some 57, some 59]) (by rw [tl_122]; decide) (by decide +kernel) (by decide)
theorem ct_31 (E : ZE) : zW E m_Net_init 2 (zOf tc_101) mc_21 0 [some (.ref 50), some (.ref 3), some (.ref 45)] [] (fun r S M => r = none ∧ S = zOf tc_123 ∧ M = mc_21) := by
  refine z_aload_n d_Net_init_0 rfl ?_
  refine z_objInit o_Net_3 o_1 o_2 d_Net_init_1 (by decide) (Nat.le_of_ble_eq_true rfl) ?_
  refine z_aload_n d_Net_init_4 rfl ?_
  refine z_sipush 150 d_Net_init_5 (by decide) ?_
  refine c_newN 51 150 cg_102 (zM0_id (mz_21 _ (by rw [zOf_1, tl_101]; decide))) (by rw [zOf_1, tl_101]) (zq 213 (by decide +kernel) rfl) a_node d_Net_init_8 (by decide) (by decide) (by decide) ?_
  refine c_putr cg_103 p_Net_11 rfl d_Net_init_11 ⟨by rw [zOf_1, tl_102]; decide, by decide +kernel⟩ (fun q => ⟨rfl, rfl⟩) ?_
  refine z_aload_n d_Net_init_14 rfl ?_
  refine z_sipush 256 d_Net_init_15 (by decide) ?_
  refine c_newI 52 256 cg_104 (zM0_id (mz_21 _ (by rw [zOf_1, tl_103]; decide))) (by rw [zOf_1, tl_103]) a_int d_Net_init_18 (by decide) (by decide) (by decide) ?_
  refine c_putr cg_105 p_Net_17 rfl d_Net_init_20 ⟨by rw [zOf_1, tl_104]; decide, by decide +kernel⟩ (fun q => ⟨rfl, rfl⟩) ?_
  refine z_aload_n d_Net_init_23 rfl ?_
  refine c_new 53 cg_106 (zM0_id (mz_21 _ (by rw [zOf_1, tl_105]; decide))) (by rw [zOf_1, tl_105]) n_Net_21 d_Net_init_24 ?_
  refine z_dup d_Net_init_27 rfl ?_
  refine z_bipush 48 d_Net_init_28 (by decide) ?_
  refine z_callI (a := 53) (as := [.int 48]) (st := [.ref 53, .ref 50]) (d' := 1) i_Row_init rfl rfl v_Row_init l_Net_23 d_Net_init_30 (by decide) rfl (Nat.le_of_ble_eq_true rfl) (Nat.le_of_ble_eq_true rfl) (ct_27 E) (fun r S1 M1 h => ?_)
  obtain ⟨rfl, rfl, rfl⟩ := h
  refine c_putr cg_109 p_Net_26 rfl d_Net_init_33 ⟨by rw [zOf_1, tl_108]; decide, by decide +kernel⟩ (fun q => ⟨rfl, rfl⟩) ?_
  refine z_aload_n d_Net_init_36 rfl ?_
  refine c_new 55 cg_110 (zM0_id (mz_21 _ (by rw [zOf_1, tl_109]; decide))) (by rw [zOf_1, tl_109]) n_Net_21 d_Net_init_37 ?_
  refine z_dup d_Net_init_40 rfl ?_
  refine z_bipush 48 d_Net_init_41 (by decide) ?_
  refine z_callI (a := 55) (as := [.int 48]) (st := [.ref 55, .ref 50]) (d' := 1) i_Row_init rfl rfl v_Row_init l_Net_23 d_Net_init_43 (by decide) rfl (Nat.le_of_ble_eq_true rfl) (Nat.le_of_ble_eq_true rfl) (ct_28 E) (fun r S1 M1 h => ?_)
  obtain ⟨rfl, rfl, rfl⟩ := h
  refine c_putr cg_113 p_Net_30 rfl d_Net_init_46 ⟨by rw [zOf_1, tl_112]; decide, by decide +kernel⟩ (fun q => ⟨rfl, rfl⟩) ?_
  refine z_aload_n d_Net_init_49 rfl ?_
  refine c_new 57 cg_114 (zM0_id (mz_21 _ (by rw [zOf_1, tl_113]; decide))) (by rw [zOf_1, tl_113]) n_Net_21 d_Net_init_50 ?_
  refine z_dup d_Net_init_53 rfl ?_
  refine z_bipush 27 d_Net_init_54 (by decide) ?_
  refine z_callI (a := 57) (as := [.int 27]) (st := [.ref 57, .ref 50]) (d' := 1) i_Row_init rfl rfl v_Row_init l_Net_23 d_Net_init_56 (by decide) rfl (Nat.le_of_ble_eq_true rfl) (Nat.le_of_ble_eq_true rfl) (ct_29 E) (fun r S1 M1 h => ?_)
  obtain ⟨rfl, rfl, rfl⟩ := h
  refine c_putr cg_117 p_Net_33 rfl d_Net_init_59 ⟨by rw [zOf_1, tl_116]; decide, by decide +kernel⟩ (fun q => ⟨rfl, rfl⟩) ?_
  refine z_aload_n d_Net_init_62 rfl ?_
  refine c_new 59 cg_118 (zM0_id (mz_21 _ (by rw [zOf_1, tl_117]; decide))) (by rw [zOf_1, tl_117]) n_Net_21 d_Net_init_63 ?_
  refine z_dup d_Net_init_66 rfl ?_
  refine z_bipush 27 d_Net_init_67 (by decide) ?_
  refine z_callI (a := 59) (as := [.int 27]) (st := [.ref 59, .ref 50]) (d' := 1) i_Row_init rfl rfl v_Row_init l_Net_23 d_Net_init_69 (by decide) rfl (Nat.le_of_ble_eq_true rfl) (Nat.le_of_ble_eq_true rfl) (ct_30 E) (fun r S1 M1 h => ?_)
  obtain ⟨rfl, rfl, rfl⟩ := h
  refine c_putr cg_121 p_Net_36 rfl d_Net_init_72 ⟨by rw [zOf_1, tl_120]; decide, by decide +kernel⟩ (fun q => ⟨rfl, rfl⟩) ?_
  refine z_aload_n d_Net_init_75 rfl ?_
  refine z_aload_n d_Net_init_76 rfl ?_
  refine c_putr cg_122 p_Net_39 rfl d_Net_init_77 ⟨by rw [zOf_1, tl_121]; decide, by decide +kernel⟩ (fun q => ⟨rfl, rfl⟩) ?_
  refine z_aload_n d_Net_init_80 rfl ?_
  refine z_aload_n d_Net_init_81 rfl ?_
  refine c_putr cg_123 p_Net_43 rfl d_Net_init_82 ⟨by rw [zOf_1, tl_122]; decide, by decide +kernel⟩ (fun q => ⟨rfl, rfl⟩) ?_
  exact z_vret rfl d_Net_init_85 ⟨rfl, rfl, rfl⟩
def tc_124 : List ZTc := tc_123.set 0 (10, 0, [some 1, some 3, some 17, some 31, some 45, some 50, none, none, none, none, none, none])
theorem tl_124 : tc_124.length = 61 := by rw [tc_124, List.length_set, tl_123]
theorem cg_124 : zput (zOf tc_123) 0 5 50 = zOf tc_124 := zOf_put (rs := [some 1, some 3, some 17, some 31, some 45, none, none, none, none, none, none, none]) (by rw [tl_123]; decide) (by decide +kernel) (by decide)
def tc_125 : List ZTc := tc_124 ++ [(0, 0, [none, none, none])]
theorem tl_125 : tc_125.length = 62 := by rw [tc_125, List.length_append, tl_124]; rfl
theorem cg_125 : zadd (zOf tc_124) 0 0 = zOf tc_125 := zOf_add _ _ _ _ (by exact none_rep 3)
def tc_126 : List ZTc := tc_125 ++ [(9, 0, [none, none, none])]
theorem tl_126 : tc_126.length = 63 := by rw [tc_126, List.length_append, tl_125]; rfl
theorem cg_126 : zadd (zOf tc_125) 9 0 = zOf tc_126 := zOf_add _ _ _ _ (by exact none_rep 3)
def tc_127 : List ZTc := tc_126 ++ [(5, 0, [none])]
theorem tl_127 : tc_127.length = 64 := by rw [tc_127, List.length_append, tl_126]; rfl
theorem cg_127 : zadd (zOf tc_126) 5 0 = zOf tc_127 := zOf_add _ _ _ _ (by exact none_rep 1)
def tc_128 : List ZTc := tc_127 ++ [(12, 60, [])]
theorem tl_128 : tc_128.length = 65 := by rw [tc_128, List.length_append, tl_127]; rfl
theorem cg_128 : zadd (zOf tc_127) 12 60 = zOf tc_128 := zOf_add _ _ _ _ (by intro j; rfl)
def tc_129 : List ZTc := tc_128.set 63 (5, 0, [some 64])
theorem tl_129 : tc_129.length = 65 := by rw [tc_129, List.length_set, tl_128]
theorem cg_129 : zput (zOf tc_128) 63 0 64 = zOf tc_129 := zOf_put (rs := [none]) (by rw [tl_128]; decide) (by decide +kernel) (by decide)
theorem ct_32 (E : ZE) : zW E m_Row_init 1 (zOf tc_127) mc_21 0 [some (.ref 63), some (.int 60)] [] (fun r S M => r = none ∧ S = zOf tc_129 ∧ M = mc_21) := by
  refine z_aload_n d_Row_init_0 rfl ?_
  refine z_objInit o_Row_3 o_1 o_2 d_Row_init_1 (by decide) (Nat.le_of_ble_eq_true rfl) ?_
  refine z_aload_n d_Row_init_4 rfl ?_
  refine z_iload_n d_Row_init_5 rfl ?_
  refine z_iconst 0 d_Row_init_6 (by decide) ?_
  refine z_mmax l_Row_9 mx_1 mx_2 mx_3 d_Row_init_7 (by decide) (Nat.le_of_ble_eq_true rfl) ?_
  rw [show (if (60 : Int32) < 0 then (0 : Int32) else 60) = 60 by decide]
  refine c_newI 64 60 cg_128 (zM0_id (mz_21 _ (by rw [zOf_1, tl_127]; decide))) (by rw [zOf_1, tl_127]) a_int d_Row_init_10 (by decide) (by decide) (by decide) ?_
  refine c_putr cg_129 p_Row_15 rfl d_Row_init_12 ⟨by rw [zOf_1, tl_128]; decide, by decide +kernel⟩ (fun q => ⟨rfl, rfl⟩) ?_
  exact z_vret rfl d_Row_init_15 ⟨rfl, rfl, rfl⟩
def tc_130 : List ZTc := tc_129.set 62 (9, 0, [some 63, none, none])
theorem tl_130 : tc_130.length = 65 := by rw [tc_130, List.length_set, tl_129]
theorem cg_130 : zput (zOf tc_129) 62 0 63 = zOf tc_130 := zOf_put (rs := [none, none, none]) (by rw [tl_129]; decide) (by decide +kernel) (by decide)
def tc_131 : List ZTc := tc_130 ++ [(5, 0, [none])]
theorem tl_131 : tc_131.length = 66 := by rw [tc_131, List.length_append, tl_130]; rfl
theorem cg_131 : zadd (zOf tc_130) 5 0 = zOf tc_131 := zOf_add _ _ _ _ (by exact none_rep 1)
def tc_132 : List ZTc := tc_131 ++ [(12, 60, [])]
theorem tl_132 : tc_132.length = 67 := by rw [tc_132, List.length_append, tl_131]; rfl
theorem cg_132 : zadd (zOf tc_131) 12 60 = zOf tc_132 := zOf_add _ _ _ _ (by intro j; rfl)
def tc_133 : List ZTc := tc_132.set 65 (5, 0, [some 66])
theorem tl_133 : tc_133.length = 67 := by rw [tc_133, List.length_set, tl_132]
theorem cg_133 : zput (zOf tc_132) 65 0 66 = zOf tc_133 := zOf_put (rs := [none]) (by rw [tl_132]; decide) (by decide +kernel) (by decide)
theorem ct_33 (E : ZE) : zW E m_Row_init 1 (zOf tc_131) mc_21 0 [some (.ref 65), some (.int 60)] [] (fun r S M => r = none ∧ S = zOf tc_133 ∧ M = mc_21) := by
  refine z_aload_n d_Row_init_0 rfl ?_
  refine z_objInit o_Row_3 o_1 o_2 d_Row_init_1 (by decide) (Nat.le_of_ble_eq_true rfl) ?_
  refine z_aload_n d_Row_init_4 rfl ?_
  refine z_iload_n d_Row_init_5 rfl ?_
  refine z_iconst 0 d_Row_init_6 (by decide) ?_
  refine z_mmax l_Row_9 mx_1 mx_2 mx_3 d_Row_init_7 (by decide) (Nat.le_of_ble_eq_true rfl) ?_
  rw [show (if (60 : Int32) < 0 then (0 : Int32) else 60) = 60 by decide]
  refine c_newI 66 60 cg_132 (zM0_id (mz_21 _ (by rw [zOf_1, tl_131]; decide))) (by rw [zOf_1, tl_131]) a_int d_Row_init_10 (by decide) (by decide) (by decide) ?_
  refine c_putr cg_133 p_Row_15 rfl d_Row_init_12 ⟨by rw [zOf_1, tl_132]; decide, by decide +kernel⟩ (fun q => ⟨rfl, rfl⟩) ?_
  exact z_vret rfl d_Row_init_15 ⟨rfl, rfl, rfl⟩
def tc_134 : List ZTc := tc_133.set 62 (9, 0, [some 63, some 65, none])
theorem tl_134 : tc_134.length = 67 := by rw [tc_134, List.length_set, tl_133]
theorem cg_134 : zput (zOf tc_133) 62 1 65 = zOf tc_134 := zOf_put (rs := [some 63, none, none]) (by rw [tl_133]; decide) (by decide +kernel) (by decide)
def tc_135 : List ZTc := tc_134 ++ [(5, 0, [none])]
theorem tl_135 : tc_135.length = 68 := by rw [tc_135, List.length_append, tl_134]; rfl
theorem cg_135 : zadd (zOf tc_134) 5 0 = zOf tc_135 := zOf_add _ _ _ _ (by exact none_rep 1)
def tc_136 : List ZTc := tc_135 ++ [(12, 60, [])]
theorem tl_136 : tc_136.length = 69 := by rw [tc_136, List.length_append, tl_135]; rfl
theorem cg_136 : zadd (zOf tc_135) 12 60 = zOf tc_136 := zOf_add _ _ _ _ (by intro j; rfl)
def tc_137 : List ZTc := tc_136.set 67 (5, 0, [some 68])
theorem tl_137 : tc_137.length = 69 := by rw [tc_137, List.length_set, tl_136]
theorem cg_137 : zput (zOf tc_136) 67 0 68 = zOf tc_137 := zOf_put (rs := [none]) (by rw [tl_136]; decide) (by decide +kernel) (by decide)
theorem ct_34 (E : ZE) : zW E m_Row_init 1 (zOf tc_135) mc_21 0 [some (.ref 67), some (.int 60)] [] (fun r S M => r = none ∧ S = zOf tc_137 ∧ M = mc_21) := by
  refine z_aload_n d_Row_init_0 rfl ?_
  refine z_objInit o_Row_3 o_1 o_2 d_Row_init_1 (by decide) (Nat.le_of_ble_eq_true rfl) ?_
  refine z_aload_n d_Row_init_4 rfl ?_
  refine z_iload_n d_Row_init_5 rfl ?_
  refine z_iconst 0 d_Row_init_6 (by decide) ?_
  refine z_mmax l_Row_9 mx_1 mx_2 mx_3 d_Row_init_7 (by decide) (Nat.le_of_ble_eq_true rfl) ?_
  rw [show (if (60 : Int32) < 0 then (0 : Int32) else 60) = 60 by decide]
  refine c_newI 68 60 cg_136 (zM0_id (mz_21 _ (by rw [zOf_1, tl_135]; decide))) (by rw [zOf_1, tl_135]) a_int d_Row_init_10 (by decide) (by decide) (by decide) ?_
  refine c_putr cg_137 p_Row_15 rfl d_Row_init_12 ⟨by rw [zOf_1, tl_136]; decide, by decide +kernel⟩ (fun q => ⟨rfl, rfl⟩) ?_
  exact z_vret rfl d_Row_init_15 ⟨rfl, rfl, rfl⟩
def tc_138 : List ZTc := tc_137.set 62 (9, 0, [some 63, some 65, some 67])
theorem tl_138 : tc_138.length = 69 := by rw [tc_138, List.length_set, tl_137]
theorem cg_138 : zput (zOf tc_137) 62 2 67 = zOf tc_138 := zOf_put (rs := [some 63, some 65, none]) (by rw [tl_137]; decide) (by decide +kernel) (by decide)
theorem ct_35 (E : ZE) : zW E m_Words_init 2 (zOf tc_126) mc_21 0 [some (.ref 62), some (.int 60)] [] (fun r S M => r = none ∧ S = zOf tc_138 ∧ M = mc_21) := by
  refine z_aload_n d_Words_init_0 rfl ?_
  refine z_objInit o_Words_3 o_1 o_2 d_Words_init_1 (by decide) (Nat.le_of_ble_eq_true rfl) ?_
  refine z_aload_n d_Words_init_4 rfl ?_
  refine c_new 63 cg_127 (zM0_id (mz_21 _ (by rw [zOf_1, tl_126]; decide))) (by rw [zOf_1, tl_126]) n_Words_9 d_Words_init_5 ?_
  refine z_dup d_Words_init_8 rfl ?_
  refine z_iload_n d_Words_init_9 rfl ?_
  refine z_callI (a := 63) (as := [.int 60]) (st := [.ref 63, .ref 62]) (d' := 1) i_Row_init rfl rfl v_Row_init l_Words_11 d_Words_init_10 (by decide) rfl (Nat.le_of_ble_eq_true rfl) (Nat.le_of_ble_eq_true rfl) (ct_32 E) (fun r S1 M1 h => ?_)
  obtain ⟨rfl, rfl, rfl⟩ := h
  refine c_putr cg_130 p_Words_14 rfl d_Words_init_13 ⟨by rw [zOf_1, tl_129]; decide, by decide +kernel⟩ (fun q => ⟨rfl, rfl⟩) ?_
  refine z_aload_n d_Words_init_16 rfl ?_
  refine c_new 65 cg_131 (zM0_id (mz_21 _ (by rw [zOf_1, tl_130]; decide))) (by rw [zOf_1, tl_130]) n_Words_9 d_Words_init_17 ?_
  refine z_dup d_Words_init_20 rfl ?_
  refine z_iload_n d_Words_init_21 rfl ?_
  refine z_callI (a := 65) (as := [.int 60]) (st := [.ref 65, .ref 62]) (d' := 1) i_Row_init rfl rfl v_Row_init l_Words_11 d_Words_init_22 (by decide) rfl (Nat.le_of_ble_eq_true rfl) (Nat.le_of_ble_eq_true rfl) (ct_33 E) (fun r S1 M1 h => ?_)
  obtain ⟨rfl, rfl, rfl⟩ := h
  refine c_putr cg_134 p_Words_20 rfl d_Words_init_25 ⟨by rw [zOf_1, tl_133]; decide, by decide +kernel⟩ (fun q => ⟨rfl, rfl⟩) ?_
  refine z_aload_n d_Words_init_28 rfl ?_
  refine c_new 67 cg_135 (zM0_id (mz_21 _ (by rw [zOf_1, tl_134]; decide))) (by rw [zOf_1, tl_134]) n_Words_9 d_Words_init_29 ?_
  refine z_dup d_Words_init_32 rfl ?_
  refine z_iload_n d_Words_init_33 rfl ?_
  refine z_callI (a := 67) (as := [.int 60]) (st := [.ref 67, .ref 62]) (d' := 1) i_Row_init rfl rfl v_Row_init l_Words_11 d_Words_init_34 (by decide) rfl (Nat.le_of_ble_eq_true rfl) (Nat.le_of_ble_eq_true rfl) (ct_34 E) (fun r S1 M1 h => ?_)
  obtain ⟨rfl, rfl, rfl⟩ := h
  refine c_putr cg_138 p_Words_23 rfl d_Words_init_37 ⟨by rw [zOf_1, tl_137]; decide, by decide +kernel⟩ (fun q => ⟨rfl, rfl⟩) ?_
  exact z_vret rfl d_Words_init_40 ⟨rfl, rfl, rfl⟩
def tc_139 : List ZTc := tc_138.set 61 (0, 0, [none, none, some 62])
theorem tl_139 : tc_139.length = 69 := by rw [tc_139, List.length_set, tl_138]
theorem cg_139 : zput (zOf tc_138) 61 2 62 = zOf tc_139 := zOf_put (rs := [none, none, none]) (by rw [tl_138]; decide) (by decide +kernel) (by decide)
def tc_140 : List ZTc := tc_139.set 61 (0, 0, [some 50, none, some 62])
theorem tl_140 : tc_140.length = 69 := by rw [tc_140, List.length_set, tl_139]
theorem cg_140 : zput (zOf tc_139) 61 0 50 = zOf tc_140 := zOf_put (rs := [none, none, some 62]) (by rw [tl_139]; decide) (by decide +kernel) (by decide)
def tc_141 : List ZTc := tc_140.set 61 (0, 0, [some 50, some 45, some 62])
theorem tl_141 : tc_141.length = 69 := by rw [tc_141, List.length_set, tl_140]
theorem cg_141 : zput (zOf tc_140) 61 1 45 = zOf tc_141 := zOf_put (rs := [some 50, none, some 62]) (by rw [tl_140]; decide) (by decide +kernel) (by decide)
theorem ct_36 (E : ZE) : zW E m_Answer_init 3 (zOf tc_125) mc_21 0 [some (.ref 61), some (.ref 50), some (.ref 45)] [] (fun r S M => r = none ∧ S = zOf tc_141 ∧ M = mc_21) := by
  refine z_aload_n d_Answer_init_0 rfl ?_
  refine z_objInit o_Answer_3 o_1 o_2 d_Answer_init_1 (by decide) (Nat.le_of_ble_eq_true rfl) ?_
  refine z_aload_n d_Answer_init_4 rfl ?_
  refine c_new 62 cg_126 (zM0_id (mz_21 _ (by rw [zOf_1, tl_125]; decide))) (by rw [zOf_1, tl_125]) n_Answer_9 d_Answer_init_5 ?_
  refine z_dup d_Answer_init_8 rfl ?_
  refine z_bipush 60 d_Answer_init_9 (by decide) ?_
  refine z_callI (a := 62) (as := [.int 60]) (st := [.ref 62, .ref 61]) (d' := 2) i_Words_init rfl rfl v_Words_init l_Answer_11 d_Answer_init_11 (by decide) rfl (Nat.le_of_ble_eq_true rfl) (Nat.le_of_ble_eq_true rfl) (ct_35 E) (fun r S1 M1 h => ?_)
  obtain ⟨rfl, rfl, rfl⟩ := h
  refine c_putr cg_139 p_Answer_14 rfl d_Answer_init_14 ⟨by rw [zOf_1, tl_138]; decide, by decide +kernel⟩ (fun q => ⟨rfl, rfl⟩) ?_
  refine z_aload_n d_Answer_init_17 rfl ?_
  refine z_aload_n d_Answer_init_18 rfl ?_
  refine c_putr cg_140 p_Answer_20 rfl d_Answer_init_19 ⟨by rw [zOf_1, tl_139]; decide, by decide +kernel⟩ (fun q => ⟨rfl, rfl⟩) ?_
  refine z_aload_n d_Answer_init_22 rfl ?_
  refine z_aload_n d_Answer_init_23 rfl ?_
  refine c_putr cg_141 p_Answer_24 rfl d_Answer_init_24 ⟨by rw [zOf_1, tl_140]; decide, by decide +kernel⟩ (fun q => ⟨rfl, rfl⟩) ?_
  exact z_vret rfl d_Answer_init_27 ⟨rfl, rfl, rfl⟩
def tc_142 : List ZTc := tc_141.set 0 (10, 0, [some 1, some 3, some 17, some 31, some 45, some 50, some 61, none, none, none, none, none])
theorem tl_142 : tc_142.length = 69 := by rw [tc_142, List.length_set, tl_141]
theorem cg_142 : zput (zOf tc_141) 0 6 61 = zOf tc_142 := zOf_put (rs := [some 1, some 3, some 17, some 31, some 45, some 50, none, none, none, none, none, none]) (by rw [tl_141]; decide) (by decide +kernel) (by decide)
def tc_143 : List ZTc := tc_142 ++ [(8, 0, [none, none, none, none])]
theorem tl_143 : tc_143.length = 70 := by rw [tc_143, List.length_append, tl_142]; rfl
theorem cg_143 : zadd (zOf tc_142) 8 0 = zOf tc_143 := zOf_add _ _ _ _ (by exact none_rep 4)
def tc_144 : List ZTc := tc_143 ++ [(12, 15, [])]
theorem tl_144 : tc_144.length = 71 := by rw [tc_144, List.length_append, tl_143]; rfl
theorem cg_144 : zadd (zOf tc_143) 12 15 = zOf tc_144 := zOf_add _ _ _ _ (by intro j; rfl)
def tc_145 : List ZTc := tc_144.set 69 (8, 0, [some 70, none, none, none])
theorem tl_145 : tc_145.length = 71 := by rw [tc_145, List.length_set, tl_144]
theorem cg_145 : zput (zOf tc_144) 69 0 70 = zOf tc_145 := zOf_put (rs := [none, none, none, none]) (by rw [tl_144]; decide) (by decide +kernel) (by decide)
def tc_146 : List ZTc := tc_145 ++ [(12, 3, [])]
theorem tl_146 : tc_146.length = 72 := by rw [tc_146, List.length_append, tl_145]; rfl
theorem cg_146 : zadd (zOf tc_145) 12 3 = zOf tc_146 := zOf_add _ _ _ _ (by intro j; rfl)
def tc_147 : List ZTc := tc_146.set 69 (8, 0, [some 70, some 71, none, none])
theorem tl_147 : tc_147.length = 72 := by rw [tc_147, List.length_set, tl_146]
theorem cg_147 : zput (zOf tc_146) 69 1 71 = zOf tc_147 := zOf_put (rs := [some 70, none, none, none]) (by rw [tl_146]; decide) (by decide +kernel) (by decide)
def tc_148 : List ZTc := tc_147 ++ [(12, 5, [])]
theorem tl_148 : tc_148.length = 73 := by rw [tc_148, List.length_append, tl_147]; rfl
theorem cg_148 : zadd (zOf tc_147) 12 5 = zOf tc_148 := zOf_add _ _ _ _ (by intro j; rfl)
def tc_149 : List ZTc := tc_148.set 69 (8, 0, [some 70, some 71, some 72, none])
theorem tl_149 : tc_149.length = 73 := by rw [tc_149, List.length_set, tl_148]
theorem cg_149 : zput (zOf tc_148) 69 2 72 = zOf tc_149 := zOf_put (rs := [some 70, some 71, none, none]) (by rw [tl_148]; decide) (by decide +kernel) (by decide)
def tc_150 : List ZTc := tc_149 ++ [(12, 5, [])]
theorem tl_150 : tc_150.length = 74 := by rw [tc_150, List.length_append, tl_149]; rfl
theorem cg_150 : zadd (zOf tc_149) 12 5 = zOf tc_150 := zOf_add _ _ _ _ (by intro j; rfl)
def tc_151 : List ZTc := tc_150.set 69 (8, 0, [some 70, some 71, some 72, some 73])
theorem tl_151 : tc_151.length = 74 := by rw [tc_151, List.length_set, tl_150]
theorem cg_151 : zput (zOf tc_150) 69 3 73 = zOf tc_151 := zOf_put (rs := [some 70, some 71, some 72, none]) (by rw [tl_150]; decide) (by decide +kernel) (by decide)
def mc_22 : ZM := zms mc_21 72 0 1
theorem mz_22 : ∀ b, 73 ≤ b → ∀ j, mc_22 b j = 0 := fun b hb j => by rw [mc_22, zms_ne _ _ _ (by omega)]; exact mz_21 b (by omega) j
def mc_23 : ZM := zms mc_22 73 0 0
theorem mz_23 : ∀ b, 74 ≤ b → ∀ j, mc_23 b j = 0 := fun b hb j => by rw [mc_23, zms_ne _ _ _ (by omega)]; exact mz_22 b (by omega) j
def mc_24 : ZM := zms mc_23 72 1 1
theorem mz_24 : ∀ b, 74 ≤ b → ∀ j, mc_24 b j = 0 := fun b hb j => by rw [mc_24, zms_ne _ _ _ (by omega)]; exact mz_23 b (by omega) j
def mc_25 : ZM := zms mc_24 73 1 1
theorem mz_25 : ∀ b, 74 ≤ b → ∀ j, mc_25 b j = 0 := fun b hb j => by rw [mc_25, zms_ne _ _ _ (by omega)]; exact mz_24 b (by omega) j
theorem ct_37 (E : ZE) : zW E m_Trial_init 1 (zOf tc_143) mc_21 0 [some (.ref 69), none] [] (fun r S M => r = none ∧ S = zOf tc_151 ∧ M = mc_25) := by
  refine z_aload_n d_Trial_init_0 rfl ?_
  refine z_objInit o_Trial_3 o_1 o_2 d_Trial_init_1 (by decide) (Nat.le_of_ble_eq_true rfl) ?_
  refine z_aload_n d_Trial_init_4 rfl ?_
  refine z_bipush 15 d_Trial_init_5 (by decide) ?_
  refine c_newI 70 15 cg_144 (zM0_id (mz_21 _ (by rw [zOf_1, tl_143]; decide))) (by rw [zOf_1, tl_143]) a_int d_Trial_init_7 (by decide) (by decide) (by decide) ?_
  refine c_putr cg_145 p_Trial_11 rfl d_Trial_init_9 ⟨by rw [zOf_1, tl_144]; decide, by decide +kernel⟩ (fun q => ⟨rfl, rfl⟩) ?_
  refine z_aload_n d_Trial_init_12 rfl ?_
  refine z_iconst 3 d_Trial_init_13 (by decide) ?_
  refine c_newI 71 3 cg_146 (zM0_id (mz_21 _ (by rw [zOf_1, tl_145]; decide))) (by rw [zOf_1, tl_145]) a_int d_Trial_init_14 (by decide) (by decide) (by decide) ?_
  refine c_putr cg_147 p_Trial_15 rfl d_Trial_init_16 ⟨by rw [zOf_1, tl_146]; decide, by decide +kernel⟩ (fun q => ⟨rfl, rfl⟩) ?_
  refine z_aload_n d_Trial_init_19 rfl ?_
  refine z_iconst 5 d_Trial_init_20 (by decide) ?_
  refine c_newI 72 5 cg_148 (zM0_id (mz_21 _ (by rw [zOf_1, tl_147]; decide))) (by rw [zOf_1, tl_147]) a_int d_Trial_init_21 (by decide) (by decide) (by decide) ?_
  refine c_putr cg_149 p_Trial_18 rfl d_Trial_init_23 ⟨by rw [zOf_1, tl_148]; decide, by decide +kernel⟩ (fun q => ⟨rfl, rfl⟩) ?_
  refine z_aload_n d_Trial_init_26 rfl ?_
  refine z_iconst 5 d_Trial_init_27 (by decide) ?_
  refine c_newI 73 5 cg_150 (zM0_id (mz_21 _ (by rw [zOf_1, tl_149]; decide))) (by rw [zOf_1, tl_149]) a_int d_Trial_init_28 (by decide) (by decide) (by decide) ?_
  refine c_putr cg_151 p_Trial_21 rfl d_Trial_init_30 ⟨by rw [zOf_1, tl_150]; decide, by decide +kernel⟩ (fun q => ⟨rfl, rfl⟩) ?_
  refine z_iconst 0 d_Trial_init_33 (by decide) ?_
  refine z_istore_n (ls' := [some (.ref 69), some (.int 0)]) d_Trial_init_34 (Nat.le_of_ble_eq_true rfl) rfl rfl ?_
  refine z_iload_n d_Trial_init_35 rfl ?_
  refine z_iconst 2 d_Trial_init_36 (by decide) ?_
  refine z_icmp_ge 60 d_Trial_init_37 rfl ⟨fun q => absurd q (by decide), fun _ => ?_⟩
  refine z_aload_n d_Trial_init_40 rfl ?_
  refine z_getr (b := 72) f_Trial_18 rfl d_Trial_init_41 ⟨by rw [zOf_1, tl_151]; decide, by decide +kernel⟩ (by decide +kernel) ?_
  refine z_iload_n d_Trial_init_44 rfl ?_
  refine z_iconst 1 d_Trial_init_45 (by decide) ?_
  refine c_iastore (M1 := mc_22) 0 rfl d_Trial_init_46 (N := 5) ⟨⟨by rw [zOf_1, tl_151]; decide, by decide +kernel⟩, by decide +kernel, by decide⟩ (by decide) (by decide) ?_
  refine z_aload_n d_Trial_init_47 rfl ?_
  refine z_getr (b := 73) f_Trial_21 rfl d_Trial_init_48 ⟨by rw [zOf_1, tl_151]; decide, by decide +kernel⟩ (by decide +kernel) ?_
  refine z_iload_n d_Trial_init_51 rfl ?_
  refine z_iload_n d_Trial_init_52 rfl ?_
  refine c_iastore (M1 := mc_23) 0 rfl d_Trial_init_53 (N := 5) ⟨⟨by rw [zOf_1, tl_151]; decide, by decide +kernel⟩, by decide +kernel, by decide⟩ (by decide) (by decide) ?_
  refine z_iinc (ls' := [some (.ref 69), some (.int 1)]) 1 d_Trial_init_54 rfl (by decide) (Nat.le_of_ble_eq_true rfl) rfl rfl ?_
  refine z_goto 35 d_Trial_init_57 rfl ?_
  refine z_iload_n d_Trial_init_35 rfl ?_
  refine z_iconst 2 d_Trial_init_36 (by decide) ?_
  refine z_icmp_ge 60 d_Trial_init_37 rfl ⟨fun q => absurd q (by decide), fun _ => ?_⟩
  refine z_aload_n d_Trial_init_40 rfl ?_
  refine z_getr (b := 72) f_Trial_18 rfl d_Trial_init_41 ⟨by rw [zOf_1, tl_151]; decide, by decide +kernel⟩ (by decide +kernel) ?_
  refine z_iload_n d_Trial_init_44 rfl ?_
  refine z_iconst 1 d_Trial_init_45 (by decide) ?_
  refine c_iastore (M1 := mc_24) 1 rfl d_Trial_init_46 (N := 5) ⟨⟨by rw [zOf_1, tl_151]; decide, by decide +kernel⟩, by decide +kernel, by decide⟩ (by decide) (by decide) ?_
  refine z_aload_n d_Trial_init_47 rfl ?_
  refine z_getr (b := 73) f_Trial_21 rfl d_Trial_init_48 ⟨by rw [zOf_1, tl_151]; decide, by decide +kernel⟩ (by decide +kernel) ?_
  refine z_iload_n d_Trial_init_51 rfl ?_
  refine z_iload_n d_Trial_init_52 rfl ?_
  refine c_iastore (M1 := mc_25) 1 rfl d_Trial_init_53 (N := 5) ⟨⟨by rw [zOf_1, tl_151]; decide, by decide +kernel⟩, by decide +kernel, by decide⟩ (by decide) (by decide) ?_
  refine z_iinc (ls' := [some (.ref 69), some (.int 2)]) 2 d_Trial_init_54 rfl (by decide) (Nat.le_of_ble_eq_true rfl) rfl rfl ?_
  refine z_goto 35 d_Trial_init_57 rfl ?_
  refine z_iload_n d_Trial_init_35 rfl ?_
  refine z_iconst 2 d_Trial_init_36 (by decide) ?_
  refine z_icmp_ge 60 d_Trial_init_37 rfl ⟨fun _ => ?_, fun q => absurd (by decide) q⟩
  exact z_vret rfl d_Trial_init_60 ⟨rfl, rfl, rfl⟩
def tc_152 : List ZTc := tc_151.set 0 (10, 0, [some 1, some 3, some 17, some 31, some 45, some 50, some 61, some 69, none, none, none, none])
theorem tl_152 : tc_152.length = 74 := by rw [tc_152, List.length_set, tl_151]
theorem cg_152 : zput (zOf tc_151) 0 7 69 = zOf tc_152 := zOf_put (rs := [some 1, some 3, some 17, some 31, some 45, some 50, some 61, none, none, none, none, none]) (by rw [tl_151]; decide) (by decide +kernel) (by decide)
def tc_153 : List ZTc := tc_152 ++ [(7, 0, [none, none])]
theorem tl_153 : tc_153.length = 75 := by rw [tc_153, List.length_append, tl_152]; rfl
theorem cg_153 : zadd (zOf tc_152) 7 0 = zOf tc_153 := zOf_add _ _ _ _ (by exact none_rep 2)
def tc_154 : List ZTc := tc_153 ++ [(12, 5, [])]
theorem tl_154 : tc_154.length = 76 := by rw [tc_154, List.length_append, tl_153]; rfl
theorem cg_154 : zadd (zOf tc_153) 12 5 = zOf tc_154 := zOf_add _ _ _ _ (by intro j; rfl)
def tc_155 : List ZTc := tc_154.set 74 (7, 0, [some 75, none])
theorem tl_155 : tc_155.length = 76 := by rw [tc_155, List.length_set, tl_154]
theorem cg_155 : zput (zOf tc_154) 74 0 75 = zOf tc_155 := zOf_put (rs := [none, none]) (by rw [tl_154]; decide) (by decide +kernel) (by decide)
def tc_156 : List ZTc := tc_155 ++ [(12, 5, [])]
theorem tl_156 : tc_156.length = 77 := by rw [tc_156, List.length_append, tl_155]; rfl
theorem cg_156 : zadd (zOf tc_155) 12 5 = zOf tc_156 := zOf_add _ _ _ _ (by intro j; rfl)
def tc_157 : List ZTc := tc_156.set 74 (7, 0, [some 75, some 76])
theorem tl_157 : tc_157.length = 77 := by rw [tc_157, List.length_set, tl_156]
theorem cg_157 : zput (zOf tc_156) 74 1 76 = zOf tc_157 := zOf_put (rs := [some 75, none]) (by rw [tl_156]; decide) (by decide +kernel) (by decide)
theorem ct_38 (E : ZE) : zW E m_Tally_init 1 (zOf tc_153) mc_25 0 [some (.ref 74)] [] (fun r S M => r = none ∧ S = zOf tc_157 ∧ M = mc_25) := by
  refine z_aload_n d_Tally_init_0 rfl ?_
  refine z_objInit o_Tally_3 o_1 o_2 d_Tally_init_1 (by decide) (Nat.le_of_ble_eq_true rfl) ?_
  refine z_aload_n d_Tally_init_4 rfl ?_
  refine z_iconst 5 d_Tally_init_5 (by decide) ?_
  refine c_newI 75 5 cg_154 (zM0_id (mz_25 _ (by rw [zOf_1, tl_153]; decide))) (by rw [zOf_1, tl_153]) a_int d_Tally_init_6 (by decide) (by decide) (by decide) ?_
  refine c_putr cg_155 p_Tally_9 rfl d_Tally_init_8 ⟨by rw [zOf_1, tl_154]; decide, by decide +kernel⟩ (fun q => ⟨rfl, rfl⟩) ?_
  refine z_aload_n d_Tally_init_11 rfl ?_
  refine z_iconst 5 d_Tally_init_12 (by decide) ?_
  refine c_newI 76 5 cg_156 (zM0_id (mz_25 _ (by rw [zOf_1, tl_155]; decide))) (by rw [zOf_1, tl_155]) a_int d_Tally_init_13 (by decide) (by decide) (by decide) ?_
  refine c_putr cg_157 p_Tally_15 rfl d_Tally_init_15 ⟨by rw [zOf_1, tl_156]; decide, by decide +kernel⟩ (fun q => ⟨rfl, rfl⟩) ?_
  exact z_vret rfl d_Tally_init_18 ⟨rfl, rfl, rfl⟩
def tc_158 : List ZTc := tc_157.set 0 (10, 0, [some 1, some 3, some 17, some 31, some 45, some 50, some 61, some 69, some 74, none, none, none])
theorem tl_158 : tc_158.length = 77 := by rw [tc_158, List.length_set, tl_157]
theorem cg_158 : zput (zOf tc_157) 0 8 74 = zOf tc_158 := zOf_put (rs := [some 1, some 3, some 17, some 31, some 45, some 50, some 61, some 69, none, none, none, none]) (by rw [tl_157]; decide) (by decide +kernel) (by decide)
def tc_159 : List ZTc := tc_158 ++ [(5, 0, [none])]
theorem tl_159 : tc_159.length = 78 := by rw [tc_159, List.length_append, tl_158]; rfl
theorem cg_159 : zadd (zOf tc_158) 5 0 = zOf tc_159 := zOf_add _ _ _ _ (by exact none_rep 1)
def tc_160 : List ZTc := tc_159 ++ [(12, 144, [])]
theorem tl_160 : tc_160.length = 79 := by rw [tc_160, List.length_append, tl_159]; rfl
theorem cg_160 : zadd (zOf tc_159) 12 144 = zOf tc_160 := zOf_add _ _ _ _ (by intro j; rfl)
def tc_161 : List ZTc := tc_160.set 77 (5, 0, [some 78])
theorem tl_161 : tc_161.length = 79 := by rw [tc_161, List.length_set, tl_160]
theorem cg_161 : zput (zOf tc_160) 77 0 78 = zOf tc_161 := zOf_put (rs := [none]) (by rw [tl_160]; decide) (by decide +kernel) (by decide)
theorem ct_39 (E : ZE) : zW E m_Row_init 1 (zOf tc_159) mc_25 0 [some (.ref 77), some (.int 144)] [] (fun r S M => r = none ∧ S = zOf tc_161 ∧ M = mc_25) := by
  refine z_aload_n d_Row_init_0 rfl ?_
  refine z_objInit o_Row_3 o_1 o_2 d_Row_init_1 (by decide) (Nat.le_of_ble_eq_true rfl) ?_
  refine z_aload_n d_Row_init_4 rfl ?_
  refine z_iload_n d_Row_init_5 rfl ?_
  refine z_iconst 0 d_Row_init_6 (by decide) ?_
  refine z_mmax l_Row_9 mx_1 mx_2 mx_3 d_Row_init_7 (by decide) (Nat.le_of_ble_eq_true rfl) ?_
  rw [show (if (144 : Int32) < 0 then (0 : Int32) else 144) = 144 by decide]
  refine c_newI 78 144 cg_160 (zM0_id (mz_25 _ (by rw [zOf_1, tl_159]; decide))) (by rw [zOf_1, tl_159]) a_int d_Row_init_10 (by decide) (by decide) (by decide) ?_
  refine c_putr cg_161 p_Row_15 rfl d_Row_init_12 ⟨by rw [zOf_1, tl_160]; decide, by decide +kernel⟩ (fun q => ⟨rfl, rfl⟩) ?_
  exact z_vret rfl d_Row_init_15 ⟨rfl, rfl, rfl⟩
def tc_162 : List ZTc := tc_161.set 0 (10, 0, [some 1, some 3, some 17, some 31, some 45, some 50, some 61, some 69, some 74, some 77, none, none])
theorem tl_162 : tc_162.length = 79 := by rw [tc_162, List.length_set, tl_161]
theorem cg_162 : zput (zOf tc_161) 0 9 77 = zOf tc_162 := zOf_put (rs := [some 1, some 3, some 17, some 31, some 45, some 50, some 61, some 69, some 74, none, none, none]) (by rw [tl_161]; decide) (by decide +kernel) (by decide)
def tc_163 : List ZTc := tc_162 ++ [(5, 0, [none])]
theorem tl_163 : tc_163.length = 80 := by rw [tc_163, List.length_append, tl_162]; rfl
theorem cg_163 : zadd (zOf tc_162) 5 0 = zOf tc_163 := zOf_add _ _ _ _ (by exact none_rep 1)
def tc_164 : List ZTc := tc_163 ++ [(12, 144, [])]
theorem tl_164 : tc_164.length = 81 := by rw [tc_164, List.length_append, tl_163]; rfl
theorem cg_164 : zadd (zOf tc_163) 12 144 = zOf tc_164 := zOf_add _ _ _ _ (by intro j; rfl)
def tc_165 : List ZTc := tc_164.set 79 (5, 0, [some 80])
theorem tl_165 : tc_165.length = 81 := by rw [tc_165, List.length_set, tl_164]
theorem cg_165 : zput (zOf tc_164) 79 0 80 = zOf tc_165 := zOf_put (rs := [none]) (by rw [tl_164]; decide) (by decide +kernel) (by decide)
theorem ct_40 (E : ZE) : zW E m_Row_init 1 (zOf tc_163) mc_25 0 [some (.ref 79), some (.int 144)] [] (fun r S M => r = none ∧ S = zOf tc_165 ∧ M = mc_25) := by
  refine z_aload_n d_Row_init_0 rfl ?_
  refine z_objInit o_Row_3 o_1 o_2 d_Row_init_1 (by decide) (Nat.le_of_ble_eq_true rfl) ?_
  refine z_aload_n d_Row_init_4 rfl ?_
  refine z_iload_n d_Row_init_5 rfl ?_
  refine z_iconst 0 d_Row_init_6 (by decide) ?_
  refine z_mmax l_Row_9 mx_1 mx_2 mx_3 d_Row_init_7 (by decide) (Nat.le_of_ble_eq_true rfl) ?_
  rw [show (if (144 : Int32) < 0 then (0 : Int32) else 144) = 144 by decide]
  refine c_newI 80 144 cg_164 (zM0_id (mz_25 _ (by rw [zOf_1, tl_163]; decide))) (by rw [zOf_1, tl_163]) a_int d_Row_init_10 (by decide) (by decide) (by decide) ?_
  refine c_putr cg_165 p_Row_15 rfl d_Row_init_12 ⟨by rw [zOf_1, tl_164]; decide, by decide +kernel⟩ (fun q => ⟨rfl, rfl⟩) ?_
  exact z_vret rfl d_Row_init_15 ⟨rfl, rfl, rfl⟩
def tc_166 : List ZTc := tc_165.set 0 (10, 0, [some 1, some 3, some 17, some 31, some 45, some 50, some 61, some 69, some 74, some 77, some 79, none])
theorem tl_166 : tc_166.length = 81 := by rw [tc_166, List.length_set, tl_165]
theorem cg_166 : zput (zOf tc_165) 0 10 79 = zOf tc_166 := zOf_put (rs := [some 1, some 3, some 17, some 31, some 45, some 50, some 61, some 69, some 74, some 77, none, none]) (by rw [tl_165]; decide) (by decide +kernel) (by decide)
def tc_167 : List ZTc := tc_166 ++ [(5, 0, [none])]
theorem tl_167 : tc_167.length = 82 := by rw [tc_167, List.length_append, tl_166]; rfl
theorem cg_167 : zadd (zOf tc_166) 5 0 = zOf tc_167 := zOf_add _ _ _ _ (by exact none_rep 1)
def tc_168 : List ZTc := tc_167 ++ [(12, 60, [])]
theorem tl_168 : tc_168.length = 83 := by rw [tc_168, List.length_append, tl_167]; rfl
theorem cg_168 : zadd (zOf tc_167) 12 60 = zOf tc_168 := zOf_add _ _ _ _ (by intro j; rfl)
def tc_169 : List ZTc := tc_168.set 81 (5, 0, [some 82])
theorem tl_169 : tc_169.length = 83 := by rw [tc_169, List.length_set, tl_168]
theorem cg_169 : zput (zOf tc_168) 81 0 82 = zOf tc_169 := zOf_put (rs := [none]) (by rw [tl_168]; decide) (by decide +kernel) (by decide)
theorem ct_41 (E : ZE) : zW E m_Row_init 1 (zOf tc_167) mc_25 0 [some (.ref 81), some (.int 60)] [] (fun r S M => r = none ∧ S = zOf tc_169 ∧ M = mc_25) := by
  refine z_aload_n d_Row_init_0 rfl ?_
  refine z_objInit o_Row_3 o_1 o_2 d_Row_init_1 (by decide) (Nat.le_of_ble_eq_true rfl) ?_
  refine z_aload_n d_Row_init_4 rfl ?_
  refine z_iload_n d_Row_init_5 rfl ?_
  refine z_iconst 0 d_Row_init_6 (by decide) ?_
  refine z_mmax l_Row_9 mx_1 mx_2 mx_3 d_Row_init_7 (by decide) (Nat.le_of_ble_eq_true rfl) ?_
  rw [show (if (60 : Int32) < 0 then (0 : Int32) else 60) = 60 by decide]
  refine c_newI 82 60 cg_168 (zM0_id (mz_25 _ (by rw [zOf_1, tl_167]; decide))) (by rw [zOf_1, tl_167]) a_int d_Row_init_10 (by decide) (by decide) (by decide) ?_
  refine c_putr cg_169 p_Row_15 rfl d_Row_init_12 ⟨by rw [zOf_1, tl_168]; decide, by decide +kernel⟩ (fun q => ⟨rfl, rfl⟩) ?_
  exact z_vret rfl d_Row_init_15 ⟨rfl, rfl, rfl⟩
def tc_170 : List ZTc := tc_169.set 0 (10, 0, [some 1, some 3, some 17, some 31, some 45, some 50, some 61, some 69, some 74, some 77, some 79, some 81])
theorem tl_170 : tc_170.length = 83 := by rw [tc_170, List.length_set, tl_169]
theorem cg_170 : zput (zOf tc_169) 0 11 81 = zOf tc_170 := zOf_put (rs := [some 1, some 3, some 17, some 31, some 45, some 50, some 61, some 69, some 74, some 77, some 79, none]) (by rw [tl_169]; decide) (by decide +kernel) (by decide)
theorem ct_42 (E : ZE) : zW E m_H_init 4 (zOf tc_1) mc_0 0 [some (.ref 0)] [] (fun r S M => r = none ∧ S = zOf tc_170 ∧ M = mc_25) := by
  refine z_aload_n d_H_init_0 rfl ?_
  refine z_objInit o_H_3 o_1 o_2 d_H_init_1 (by decide) (Nat.le_of_ble_eq_true rfl) ?_
  refine z_aload_n d_H_init_4 rfl ?_
  refine c_new 1 cg_2 (zM0_id (mz_0 _ (by rw [zOf_1, tl_1]; decide))) (by rw [zOf_1, tl_1]) n_H_9 d_H_init_5 ?_
  refine z_dup d_H_init_8 rfl ?_
  refine z_bipush 40 d_H_init_9 (by decide) ?_
  refine z_callI (a := 1) (as := [.int 40]) (st := [.ref 1, .ref 0]) (d' := 1) i_Row_init rfl rfl v_Row_init l_H_11 d_H_init_11 (by decide) rfl (Nat.le_of_ble_eq_true rfl) (Nat.le_of_ble_eq_true rfl) (ct_1 E) (fun r S1 M1 h => ?_)
  obtain ⟨rfl, rfl, rfl⟩ := h
  refine c_putr cg_5 p_H_14 rfl d_H_init_14 ⟨by rw [zOf_1, tl_4]; decide, by decide +kernel⟩ (fun q => ⟨rfl, rfl⟩) ?_
  refine z_aload_n d_H_init_17 rfl ?_
  refine c_new 3 cg_6 (zM0_id (mz_0 _ (by rw [zOf_1, tl_5]; decide))) (by rw [zOf_1, tl_5]) n_H_18 d_H_init_18 ?_
  refine z_dup d_H_init_21 rfl ?_
  refine z_callI (a := 3) (as := []) (st := [.ref 3, .ref 0]) (d' := 3) i_Book_init rfl rfl v_Book_init l_H_20 d_H_init_22 (by decide) rfl (Nat.le_of_ble_eq_true rfl) (Nat.le_of_ble_eq_true rfl) (ct_9 E) (fun r S1 M1 h => ?_)
  obtain ⟨rfl, rfl, rfl⟩ := h
  refine c_putr cg_33 p_H_21 rfl d_H_init_25 ⟨by rw [zOf_1, tl_32]; decide, by decide +kernel⟩ (fun q => ⟨rfl, rfl⟩) ?_
  refine z_aload_n d_H_init_28 rfl ?_
  refine c_new 17 cg_34 (zM0_id (mz_7 _ (by rw [zOf_1, tl_33]; decide))) (by rw [zOf_1, tl_33]) n_H_18 d_H_init_29 ?_
  refine z_dup d_H_init_32 rfl ?_
  refine z_callI (a := 17) (as := []) (st := [.ref 17, .ref 0]) (d' := 3) i_Book_init rfl rfl v_Book_init l_H_20 d_H_init_33 (by decide) rfl (Nat.le_of_ble_eq_true rfl) (Nat.le_of_ble_eq_true rfl) (ct_17 E) (fun r S1 M1 h => ?_)
  obtain ⟨rfl, rfl, rfl⟩ := h
  refine c_putr cg_61 p_H_25 rfl d_H_init_36 ⟨by rw [zOf_1, tl_60]; decide, by decide +kernel⟩ (fun q => ⟨rfl, rfl⟩) ?_
  refine z_aload_n d_H_init_39 rfl ?_
  refine c_new 31 cg_62 (zM0_id (mz_14 _ (by rw [zOf_1, tl_61]; decide))) (by rw [zOf_1, tl_61]) n_H_18 d_H_init_40 ?_
  refine z_dup d_H_init_43 rfl ?_
  refine z_callI (a := 31) (as := []) (st := [.ref 31, .ref 0]) (d' := 3) i_Book_init rfl rfl v_Book_init l_H_20 d_H_init_44 (by decide) rfl (Nat.le_of_ble_eq_true rfl) (Nat.le_of_ble_eq_true rfl) (ct_25 E) (fun r S1 M1 h => ?_)
  obtain ⟨rfl, rfl, rfl⟩ := h
  refine c_putr cg_89 p_H_28 rfl d_H_init_47 ⟨by rw [zOf_1, tl_88]; decide, by decide +kernel⟩ (fun q => ⟨rfl, rfl⟩) ?_
  refine z_aload_n d_H_init_50 rfl ?_
  refine c_new 45 cg_90 (zM0_id (mz_21 _ (by rw [zOf_1, tl_89]; decide))) (by rw [zOf_1, tl_89]) n_H_31 d_H_init_51 ?_
  refine z_dup d_H_init_54 rfl ?_
  refine z_aload_n d_H_init_55 rfl ?_
  refine z_getr (b := 3) f_H_21 rfl d_H_init_56 ⟨by rw [zOf_1, tl_90]; decide, by decide +kernel⟩ (by decide +kernel) ?_
  refine z_getr (b := 8) f_H_33 rfl d_H_init_59 ⟨by rw [zOf_1, tl_90]; decide, by decide +kernel⟩ (by decide +kernel) ?_
  refine z_callI (a := 45) (as := [.ref 8]) (st := [.ref 45, .ref 0]) (d' := 1) i_Shorts_init rfl rfl v_Shorts_init l_H_37 d_H_init_62 (by decide) rfl (Nat.le_of_ble_eq_true rfl) (Nat.le_of_ble_eq_true rfl) (ct_26 E) (fun r S1 M1 h => ?_)
  obtain ⟨rfl, rfl, rfl⟩ := h
  refine c_putr cg_100 p_H_40 rfl d_H_init_65 ⟨by rw [zOf_1, tl_99]; decide, by decide +kernel⟩ (fun q => ⟨rfl, rfl⟩) ?_
  refine z_aload_n d_H_init_68 rfl ?_
  refine c_new 50 cg_101 (zM0_id (mz_21 _ (by rw [zOf_1, tl_100]; decide))) (by rw [zOf_1, tl_100]) n_H_44 d_H_init_69 ?_
  refine z_dup d_H_init_72 rfl ?_
  refine z_aload_n d_H_init_73 rfl ?_
  refine z_getr (b := 3) f_H_21 rfl d_H_init_74 ⟨by rw [zOf_1, tl_101]; decide, by decide +kernel⟩ (by decide +kernel) ?_
  refine z_aload_n d_H_init_77 rfl ?_
  refine z_getr (b := 45) f_H_40 rfl d_H_init_78 ⟨by rw [zOf_1, tl_101]; decide, by decide +kernel⟩ (by decide +kernel) ?_
  refine z_callI (a := 50) (as := [.ref 3, .ref 45]) (st := [.ref 50, .ref 0]) (d' := 2) i_Net_init rfl rfl v_Net_init l_H_46 d_H_init_81 (by decide) rfl (Nat.le_of_ble_eq_true rfl) (Nat.le_of_ble_eq_true rfl) (ct_31 E) (fun r S1 M1 h => ?_)
  obtain ⟨rfl, rfl, rfl⟩ := h
  refine c_putr cg_124 p_H_49 rfl d_H_init_84 ⟨by rw [zOf_1, tl_123]; decide, by decide +kernel⟩ (fun q => ⟨rfl, rfl⟩) ?_
  refine z_aload_n d_H_init_87 rfl ?_
  refine c_new 61 cg_125 (zM0_id (mz_21 _ (by rw [zOf_1, tl_124]; decide))) (by rw [zOf_1, tl_124]) n_H_53 d_H_init_88 ?_
  refine z_dup d_H_init_91 rfl ?_
  refine z_aload_n d_H_init_92 rfl ?_
  refine z_getr (b := 50) f_H_49 rfl d_H_init_93 ⟨by rw [zOf_1, tl_125]; decide, by decide +kernel⟩ (by decide +kernel) ?_
  refine z_aload_n d_H_init_96 rfl ?_
  refine z_getr (b := 45) f_H_40 rfl d_H_init_97 ⟨by rw [zOf_1, tl_125]; decide, by decide +kernel⟩ (by decide +kernel) ?_
  refine z_callI (a := 61) (as := [.ref 50, .ref 45]) (st := [.ref 61, .ref 0]) (d' := 3) i_Answer_init rfl rfl v_Answer_init l_H_55 d_H_init_100 (by decide) rfl (Nat.le_of_ble_eq_true rfl) (Nat.le_of_ble_eq_true rfl) (ct_36 E) (fun r S1 M1 h => ?_)
  obtain ⟨rfl, rfl, rfl⟩ := h
  refine c_putr cg_142 p_H_58 rfl d_H_init_103 ⟨by rw [zOf_1, tl_141]; decide, by decide +kernel⟩ (fun q => ⟨rfl, rfl⟩) ?_
  refine z_aload_n d_H_init_106 rfl ?_
  refine c_new 69 cg_143 (zM0_id (mz_21 _ (by rw [zOf_1, tl_142]; decide))) (by rw [zOf_1, tl_142]) n_H_62 d_H_init_107 ?_
  refine z_dup d_H_init_110 rfl ?_
  refine z_callI (a := 69) (as := []) (st := [.ref 69, .ref 0]) (d' := 1) i_Trial_init rfl rfl v_Trial_init l_H_64 d_H_init_111 (by decide) rfl (Nat.le_of_ble_eq_true rfl) (Nat.le_of_ble_eq_true rfl) (ct_37 E) (fun r S1 M1 h => ?_)
  obtain ⟨rfl, rfl, rfl⟩ := h
  refine c_putr cg_152 p_H_65 rfl d_H_init_114 ⟨by rw [zOf_1, tl_151]; decide, by decide +kernel⟩ (fun q => ⟨rfl, rfl⟩) ?_
  refine z_aload_n d_H_init_117 rfl ?_
  refine c_new 74 cg_153 (zM0_id (mz_25 _ (by rw [zOf_1, tl_152]; decide))) (by rw [zOf_1, tl_152]) n_H_69 d_H_init_118 ?_
  refine z_dup d_H_init_121 rfl ?_
  refine z_callI (a := 74) (as := []) (st := [.ref 74, .ref 0]) (d' := 1) i_Tally_init rfl rfl v_Tally_init l_H_71 d_H_init_122 (by decide) rfl (Nat.le_of_ble_eq_true rfl) (Nat.le_of_ble_eq_true rfl) (ct_38 E) (fun r S1 M1 h => ?_)
  obtain ⟨rfl, rfl, rfl⟩ := h
  refine c_putr cg_158 p_H_72 rfl d_H_init_125 ⟨by rw [zOf_1, tl_157]; decide, by decide +kernel⟩ (fun q => ⟨rfl, rfl⟩) ?_
  refine z_aload_n d_H_init_128 rfl ?_
  refine c_new 77 cg_159 (zM0_id (mz_25 _ (by rw [zOf_1, tl_158]; decide))) (by rw [zOf_1, tl_158]) n_H_9 d_H_init_129 ?_
  refine z_dup d_H_init_132 rfl ?_
  refine z_sipush 144 d_H_init_133 (by decide) ?_
  refine z_callI (a := 77) (as := [.int 144]) (st := [.ref 77, .ref 0]) (d' := 1) i_Row_init rfl rfl v_Row_init l_H_11 d_H_init_136 (by decide) rfl (Nat.le_of_ble_eq_true rfl) (Nat.le_of_ble_eq_true rfl) (ct_39 E) (fun r S1 M1 h => ?_)
  obtain ⟨rfl, rfl, rfl⟩ := h
  refine c_putr cg_162 p_H_76 rfl d_H_init_139 ⟨by rw [zOf_1, tl_161]; decide, by decide +kernel⟩ (fun q => ⟨rfl, rfl⟩) ?_
  refine z_aload_n d_H_init_142 rfl ?_
  refine c_new 79 cg_163 (zM0_id (mz_25 _ (by rw [zOf_1, tl_162]; decide))) (by rw [zOf_1, tl_162]) n_H_9 d_H_init_143 ?_
  refine z_dup d_H_init_146 rfl ?_
  refine z_sipush 144 d_H_init_147 (by decide) ?_
  refine z_callI (a := 79) (as := [.int 144]) (st := [.ref 79, .ref 0]) (d' := 1) i_Row_init rfl rfl v_Row_init l_H_11 d_H_init_150 (by decide) rfl (Nat.le_of_ble_eq_true rfl) (Nat.le_of_ble_eq_true rfl) (ct_40 E) (fun r S1 M1 h => ?_)
  obtain ⟨rfl, rfl, rfl⟩ := h
  refine c_putr cg_166 p_H_79 rfl d_H_init_153 ⟨by rw [zOf_1, tl_165]; decide, by decide +kernel⟩ (fun q => ⟨rfl, rfl⟩) ?_
  refine z_aload_n d_H_init_156 rfl ?_
  refine c_new 81 cg_167 (zM0_id (mz_25 _ (by rw [zOf_1, tl_166]; decide))) (by rw [zOf_1, tl_166]) n_H_9 d_H_init_157 ?_
  refine z_dup d_H_init_160 rfl ?_
  refine z_bipush 60 d_H_init_161 (by decide) ?_
  refine z_callI (a := 81) (as := [.int 60]) (st := [.ref 81, .ref 0]) (d' := 1) i_Row_init rfl rfl v_Row_init l_H_11 d_H_init_163 (by decide) rfl (Nat.le_of_ble_eq_true rfl) (Nat.le_of_ble_eq_true rfl) (ct_41 E) (fun r S1 M1 h => ?_)
  obtain ⟨rfl, rfl, rfl⟩ := h
  refine c_putr cg_170 p_H_82 rfl d_H_init_166 ⟨by rw [zOf_1, tl_169]; decide, by decide +kernel⟩ (fun q => ⟨rfl, rfl⟩) ?_
  exact z_vret rfl d_H_init_169 ⟨rfl, rfl, rfl⟩
def tc_171 : List ZTc := tc_170 ++ [(11, 0, [none, none, none, none, none, none, none, none, none, none, none, none, none, none, none, none, none, none, none, none, none, none, none, none, none, none, none, none, none, none, none, none, none, none, none, none, none, none, none, none, none])]
theorem tl_171 : tc_171.length = 84 := by rw [tc_171, List.length_append, tl_170]; rfl
theorem cg_171 : zadd (zOf tc_170) 11 0 = zOf tc_171 := zOf_add _ _ _ _ (by exact none_rep 41)
def tc_172 : List ZTc := tc_171 ++ [(12, 24, [])]
theorem tl_172 : tc_172.length = 85 := by rw [tc_172, List.length_append, tl_171]; rfl
theorem cg_172 : zadd (zOf tc_171) 12 24 = zOf tc_172 := zOf_add _ _ _ _ (by intro j; rfl)
def tc_173 : List ZTc := tc_172.set 83 (11, 0, [some 84, none, none, none, none, none, none, none, none, none, none, none, none, none, none, none, none, none, none, none, none, none, none, none, none, none, none, none, none, none, none, none, none, none, none, none, none, none, none, none, none])
theorem tl_173 : tc_173.length = 85 := by rw [tc_173, List.length_set, tl_172]
theorem cg_173 : zput (zOf tc_172) 83 0 84 = zOf tc_173 := zOf_put (rs := [none, none, none, none, none, none, none, none, none, none, none, none, none, none, none, none, none, none, none, none, none, none, none, none, none, none, none, none, none, none, none, none, none, none, none, none, none, none, none, none, none]) (by rw [tl_172]; decide) (by decide +kernel) (by decide)
def tc_174 : List ZTc := tc_173 ++ [(12, 2, [])]
theorem tl_174 : tc_174.length = 86 := by rw [tc_174, List.length_append, tl_173]; rfl
theorem cg_174 : zadd (zOf tc_173) 12 2 = zOf tc_174 := zOf_add _ _ _ _ (by intro j; rfl)
def tc_175 : List ZTc := tc_174.set 83 (11, 0, [some 84, some 85, none, none, none, none, none, none, none, none, none, none, none, none, none, none, none, none, none, none, none, none, none, none, none, none, none, none, none, none, none, none, none, none, none, none, none, none, none, none, none])
theorem tl_175 : tc_175.length = 86 := by rw [tc_175, List.length_set, tl_174]
theorem cg_175 : zput (zOf tc_174) 83 1 85 = zOf tc_175 := zOf_put (rs := [some 84, none, none, none, none, none, none, none, none, none, none, none, none, none, none, none, none, none, none, none, none, none, none, none, none, none, none, none, none, none, none, none, none, none, none, none, none, none, none, none, none]) (by rw [tl_174]; decide) (by decide +kernel) (by decide)
def tc_176 : List ZTc := tc_175 ++ [(12, 6, [])]
theorem tl_176 : tc_176.length = 87 := by rw [tc_176, List.length_append, tl_175]; rfl
theorem cg_176 : zadd (zOf tc_175) 12 6 = zOf tc_176 := zOf_add _ _ _ _ (by intro j; rfl)
def tc_177 : List ZTc := tc_176.set 83 (11, 0, [some 84, some 85, some 86, none, none, none, none, none, none, none, none, none, none, none, none, none, none, none, none, none, none, none, none, none, none, none, none, none, none, none, none, none, none, none, none, none, none, none, none, none, none])
theorem tl_177 : tc_177.length = 87 := by rw [tc_177, List.length_set, tl_176]
theorem cg_177 : zput (zOf tc_176) 83 2 86 = zOf tc_177 := zOf_put (rs := [some 84, some 85, none, none, none, none, none, none, none, none, none, none, none, none, none, none, none, none, none, none, none, none, none, none, none, none, none, none, none, none, none, none, none, none, none, none, none, none, none, none, none]) (by rw [tl_176]; decide) (by decide +kernel) (by decide)
def tc_178 : List ZTc := tc_177 ++ [(12, 9, [])]
theorem tl_178 : tc_178.length = 88 := by rw [tc_178, List.length_append, tl_177]; rfl
theorem cg_178 : zadd (zOf tc_177) 12 9 = zOf tc_178 := zOf_add _ _ _ _ (by intro j; rfl)
def tc_179 : List ZTc := tc_178.set 83 (11, 0, [some 84, some 85, some 86, some 87, none, none, none, none, none, none, none, none, none, none, none, none, none, none, none, none, none, none, none, none, none, none, none, none, none, none, none, none, none, none, none, none, none, none, none, none, none])
theorem tl_179 : tc_179.length = 88 := by rw [tc_179, List.length_set, tl_178]
theorem cg_179 : zput (zOf tc_178) 83 3 87 = zOf tc_179 := zOf_put (rs := [some 84, some 85, some 86, none, none, none, none, none, none, none, none, none, none, none, none, none, none, none, none, none, none, none, none, none, none, none, none, none, none, none, none, none, none, none, none, none, none, none, none, none, none]) (by rw [tl_178]; decide) (by decide +kernel) (by decide)
def tc_180 : List ZTc := tc_179 ++ [(12, 36, [])]
theorem tl_180 : tc_180.length = 89 := by rw [tc_180, List.length_append, tl_179]; rfl
theorem cg_180 : zadd (zOf tc_179) 12 36 = zOf tc_180 := zOf_add _ _ _ _ (by intro j; rfl)
def tc_181 : List ZTc := tc_180.set 83 (11, 0, [some 84, some 85, some 86, some 87, some 88, none, none, none, none, none, none, none, none, none, none, none, none, none, none, none, none, none, none, none, none, none, none, none, none, none, none, none, none, none, none, none, none, none, none, none, none])
theorem tl_181 : tc_181.length = 89 := by rw [tc_181, List.length_set, tl_180]
theorem cg_181 : zput (zOf tc_180) 83 4 88 = zOf tc_181 := zOf_put (rs := [some 84, some 85, some 86, some 87, none, none, none, none, none, none, none, none, none, none, none, none, none, none, none, none, none, none, none, none, none, none, none, none, none, none, none, none, none, none, none, none, none, none, none, none, none]) (by rw [tl_180]; decide) (by decide +kernel) (by decide)
def tc_182 : List ZTc := tc_181 ++ [(12, 3, [])]
theorem tl_182 : tc_182.length = 90 := by rw [tc_182, List.length_append, tl_181]; rfl
theorem cg_182 : zadd (zOf tc_181) 12 3 = zOf tc_182 := zOf_add _ _ _ _ (by intro j; rfl)
def tc_183 : List ZTc := tc_182.set 83 (11, 0, [some 84, some 85, some 86, some 87, some 88, some 89, none, none, none, none, none, none, none, none, none, none, none, none, none, none, none, none, none, none, none, none, none, none, none, none, none, none, none, none, none, none, none, none, none, none, none])
theorem tl_183 : tc_183.length = 90 := by rw [tc_183, List.length_set, tl_182]
theorem cg_183 : zput (zOf tc_182) 83 5 89 = zOf tc_183 := zOf_put (rs := [some 84, some 85, some 86, some 87, some 88, none, none, none, none, none, none, none, none, none, none, none, none, none, none, none, none, none, none, none, none, none, none, none, none, none, none, none, none, none, none, none, none, none, none, none, none]) (by rw [tl_182]; decide) (by decide +kernel) (by decide)
def tc_184 : List ZTc := tc_183 ++ [(12, 40, [])]
theorem tl_184 : tc_184.length = 91 := by rw [tc_184, List.length_append, tl_183]; rfl
theorem cg_184 : zadd (zOf tc_183) 12 40 = zOf tc_184 := zOf_add _ _ _ _ (by intro j; rfl)
def tc_185 : List ZTc := tc_184.set 83 (11, 0, [some 84, some 85, some 86, some 87, some 88, some 89, some 90, none, none, none, none, none, none, none, none, none, none, none, none, none, none, none, none, none, none, none, none, none, none, none, none, none, none, none, none, none, none, none, none, none, none])
theorem tl_185 : tc_185.length = 91 := by rw [tc_185, List.length_set, tl_184]
theorem cg_185 : zput (zOf tc_184) 83 6 90 = zOf tc_185 := zOf_put (rs := [some 84, some 85, some 86, some 87, some 88, some 89, none, none, none, none, none, none, none, none, none, none, none, none, none, none, none, none, none, none, none, none, none, none, none, none, none, none, none, none, none, none, none, none, none, none, none]) (by rw [tl_184]; decide) (by decide +kernel) (by decide)
def tc_186 : List ZTc := tc_185 ++ [(12, 24, [])]
theorem tl_186 : tc_186.length = 92 := by rw [tc_186, List.length_append, tl_185]; rfl
theorem cg_186 : zadd (zOf tc_185) 12 24 = zOf tc_186 := zOf_add _ _ _ _ (by intro j; rfl)
def tc_187 : List ZTc := tc_186.set 83 (11, 0, [some 84, some 85, some 86, some 87, some 88, some 89, some 90, none, some 91, none, none, none, none, none, none, none, none, none, none, none, none, none, none, none, none, none, none, none, none, none, none, none, none, none, none, none, none, none, none, none, none])
theorem tl_187 : tc_187.length = 92 := by rw [tc_187, List.length_set, tl_186]
theorem cg_187 : zput (zOf tc_186) 83 8 91 = zOf tc_187 := zOf_put (rs := [some 84, some 85, some 86, some 87, some 88, some 89, some 90, none, none, none, none, none, none, none, none, none, none, none, none, none, none, none, none, none, none, none, none, none, none, none, none, none, none, none, none, none, none, none, none, none, none]) (by rw [tl_186]; decide) (by decide +kernel) (by decide)
def tc_188 : List ZTc := tc_187 ++ [(12, 2, [])]
theorem tl_188 : tc_188.length = 93 := by rw [tc_188, List.length_append, tl_187]; rfl
theorem cg_188 : zadd (zOf tc_187) 12 2 = zOf tc_188 := zOf_add _ _ _ _ (by intro j; rfl)
def tc_189 : List ZTc := tc_188.set 83 (11, 0, [some 84, some 85, some 86, some 87, some 88, some 89, some 90, none, some 91, some 92, none, none, none, none, none, none, none, none, none, none, none, none, none, none, none, none, none, none, none, none, none, none, none, none, none, none, none, none, none, none, none])
theorem tl_189 : tc_189.length = 93 := by rw [tc_189, List.length_set, tl_188]
theorem cg_189 : zput (zOf tc_188) 83 9 92 = zOf tc_189 := zOf_put (rs := [some 84, some 85, some 86, some 87, some 88, some 89, some 90, none, some 91, none, none, none, none, none, none, none, none, none, none, none, none, none, none, none, none, none, none, none, none, none, none, none, none, none, none, none, none, none, none, none, none]) (by rw [tl_188]; decide) (by decide +kernel) (by decide)
def tc_190 : List ZTc := tc_189 ++ [(12, 81, [])]
theorem tl_190 : tc_190.length = 94 := by rw [tc_190, List.length_append, tl_189]; rfl
theorem cg_190 : zadd (zOf tc_189) 12 81 = zOf tc_190 := zOf_add _ _ _ _ (by intro j; rfl)
def tc_191 : List ZTc := tc_190.set 83 (11, 0, [some 84, some 85, some 86, some 87, some 88, some 89, some 90, none, some 91, some 92, some 93, none, none, none, none, none, none, none, none, none, none, none, none, none, none, none, none, none, none, none, none, none, none, none, none, none, none, none, none, none, none])
theorem tl_191 : tc_191.length = 94 := by rw [tc_191, List.length_set, tl_190]
theorem cg_191 : zput (zOf tc_190) 83 10 93 = zOf tc_191 := zOf_put (rs := [some 84, some 85, some 86, some 87, some 88, some 89, some 90, none, some 91, some 92, none, none, none, none, none, none, none, none, none, none, none, none, none, none, none, none, none, none, none, none, none, none, none, none, none, none, none, none, none, none, none]) (by rw [tl_190]; decide) (by decide +kernel) (by decide)
def tc_192 : List ZTc := tc_191 ++ [(12, 27, [])]
theorem tl_192 : tc_192.length = 95 := by rw [tc_192, List.length_append, tl_191]; rfl
theorem cg_192 : zadd (zOf tc_191) 12 27 = zOf tc_192 := zOf_add _ _ _ _ (by intro j; rfl)
def tc_193 : List ZTc := tc_192.set 83 (11, 0, [some 84, some 85, some 86, some 87, some 88, some 89, some 90, none, some 91, some 92, some 93, some 94, none, none, none, none, none, none, none, none, none, none, none, none, none, none, none, none, none, none, none, none, none, none, none, none, none, none, none, none, none])
theorem tl_193 : tc_193.length = 95 := by rw [tc_193, List.length_set, tl_192]
theorem cg_193 : zput (zOf tc_192) 83 11 94 = zOf tc_193 := zOf_put (rs := [some 84, some 85, some 86, some 87, some 88, some 89, some 90, none, some 91, some 92, some 93, none, none, none, none, none, none, none, none, none, none, none, none, none, none, none, none, none, none, none, none, none, none, none, none, none, none, none, none, none, none]) (by rw [tl_192]; decide) (by decide +kernel) (by decide)
def tc_194 : List ZTc := tc_193 ++ [(12, 27, [])]
theorem tl_194 : tc_194.length = 96 := by rw [tc_194, List.length_append, tl_193]; rfl
theorem cg_194 : zadd (zOf tc_193) 12 27 = zOf tc_194 := zOf_add _ _ _ _ (by intro j; rfl)
def tc_195 : List ZTc := tc_194.set 83 (11, 0, [some 84, some 85, some 86, some 87, some 88, some 89, some 90, none, some 91, some 92, some 93, some 94, some 95, none, none, none, none, none, none, none, none, none, none, none, none, none, none, none, none, none, none, none, none, none, none, none, none, none, none, none, none])
theorem tl_195 : tc_195.length = 96 := by rw [tc_195, List.length_set, tl_194]
theorem cg_195 : zput (zOf tc_194) 83 12 95 = zOf tc_195 := zOf_put (rs := [some 84, some 85, some 86, some 87, some 88, some 89, some 90, none, some 91, some 92, some 93, some 94, none, none, none, none, none, none, none, none, none, none, none, none, none, none, none, none, none, none, none, none, none, none, none, none, none, none, none, none, none]) (by rw [tl_194]; decide) (by decide +kernel) (by decide)
def tc_196 : List ZTc := tc_195 ++ [(12, 7200, [])]
theorem tl_196 : tc_196.length = 97 := by rw [tc_196, List.length_append, tl_195]; rfl
theorem cg_196 : zadd (zOf tc_195) 12 7200 = zOf tc_196 := zOf_add _ _ _ _ (by intro j; rfl)
def tc_197 : List ZTc := tc_196.set 83 (11, 0, [some 84, some 85, some 86, some 87, some 88, some 89, some 90, none, some 91, some 92, some 93, some 94, some 95, none, some 96, none, none, none, none, none, none, none, none, none, none, none, none, none, none, none, none, none, none, none, none, none, none, none, none, none, none])
theorem tl_197 : tc_197.length = 97 := by rw [tc_197, List.length_set, tl_196]
theorem cg_197 : zput (zOf tc_196) 83 14 96 = zOf tc_197 := zOf_put (rs := [some 84, some 85, some 86, some 87, some 88, some 89, some 90, none, some 91, some 92, some 93, some 94, some 95, none, none, none, none, none, none, none, none, none, none, none, none, none, none, none, none, none, none, none, none, none, none, none, none, none, none, none, none]) (by rw [tl_196]; decide) (by decide +kernel) (by decide)
def tc_198 : List ZTc := tc_197 ++ [(12, 300, [])]
theorem tl_198 : tc_198.length = 98 := by rw [tc_198, List.length_append, tl_197]; rfl
theorem cg_198 : zadd (zOf tc_197) 12 300 = zOf tc_198 := zOf_add _ _ _ _ (by intro j; rfl)
def tc_199 : List ZTc := tc_198.set 83 (11, 0, [some 84, some 85, some 86, some 87, some 88, some 89, some 90, none, some 91, some 92, some 93, some 94, some 95, none, some 96, some 97, none, none, none, none, none, none, none, none, none, none, none, none, none, none, none, none, none, none, none, none, none, none, none, none, none])
theorem tl_199 : tc_199.length = 98 := by rw [tc_199, List.length_set, tl_198]
theorem cg_199 : zput (zOf tc_198) 83 15 97 = zOf tc_199 := zOf_put (rs := [some 84, some 85, some 86, some 87, some 88, some 89, some 90, none, some 91, some 92, some 93, some 94, some 95, none, some 96, none, none, none, none, none, none, none, none, none, none, none, none, none, none, none, none, none, none, none, none, none, none, none, none, none, none]) (by rw [tl_198]; decide) (by decide +kernel) (by decide)
def tc_200 : List ZTc := tc_199 ++ [(12, 1350, [])]
theorem tl_200 : tc_200.length = 99 := by rw [tc_200, List.length_append, tl_199]; rfl
theorem cg_200 : zadd (zOf tc_199) 12 1350 = zOf tc_200 := zOf_add _ _ _ _ (by intro j; rfl)
def tc_201 : List ZTc := tc_200.set 83 (11, 0, [some 84, some 85, some 86, some 87, some 88, some 89, some 90, none, some 91, some 92, some 93, some 94, some 95, none, some 96, some 97, some 98, none, none, none, none, none, none, none, none, none, none, none, none, none, none, none, none, none, none, none, none, none, none, none, none])
theorem tl_201 : tc_201.length = 99 := by rw [tc_201, List.length_set, tl_200]
theorem cg_201 : zput (zOf tc_200) 83 16 98 = zOf tc_201 := zOf_put (rs := [some 84, some 85, some 86, some 87, some 88, some 89, some 90, none, some 91, some 92, some 93, some 94, some 95, none, some 96, some 97, none, none, none, none, none, none, none, none, none, none, none, none, none, none, none, none, none, none, none, none, none, none, none, none, none]) (by rw [tl_200]; decide) (by decide +kernel) (by decide)
def tc_202 : List ZTc := tc_201 ++ [(12, 150, [])]
theorem tl_202 : tc_202.length = 100 := by rw [tc_202, List.length_append, tl_201]; rfl
theorem cg_202 : zadd (zOf tc_201) 12 150 = zOf tc_202 := zOf_add _ _ _ _ (by intro j; rfl)
def tc_203 : List ZTc := tc_202.set 83 (11, 0, [some 84, some 85, some 86, some 87, some 88, some 89, some 90, none, some 91, some 92, some 93, some 94, some 95, none, some 96, some 97, some 98, some 99, none, none, none, none, none, none, none, none, none, none, none, none, none, none, none, none, none, none, none, none, none, none, none])
theorem tl_203 : tc_203.length = 100 := by rw [tc_203, List.length_set, tl_202]
theorem cg_203 : zput (zOf tc_202) 83 17 99 = zOf tc_203 := zOf_put (rs := [some 84, some 85, some 86, some 87, some 88, some 89, some 90, none, some 91, some 92, some 93, some 94, some 95, none, some 96, some 97, some 98, none, none, none, none, none, none, none, none, none, none, none, none, none, none, none, none, none, none, none, none, none, none, none, none]) (by rw [tl_202]; decide) (by decide +kernel) (by decide)
def tc_204 : List ZTc := tc_203 ++ [(12, 150, [])]
theorem tl_204 : tc_204.length = 101 := by rw [tc_204, List.length_append, tl_203]; rfl
theorem cg_204 : zadd (zOf tc_203) 12 150 = zOf tc_204 := zOf_add _ _ _ _ (by intro j; rfl)
def tc_205 : List ZTc := tc_204.set 83 (11, 0, [some 84, some 85, some 86, some 87, some 88, some 89, some 90, none, some 91, some 92, some 93, some 94, some 95, none, some 96, some 97, some 98, some 99, some 100, none, none, none, none, none, none, none, none, none, none, none, none, none, none, none, none, none, none, none, none, none, none])
theorem tl_205 : tc_205.length = 101 := by rw [tc_205, List.length_set, tl_204]
theorem cg_205 : zput (zOf tc_204) 83 18 100 = zOf tc_205 := zOf_put (rs := [some 84, some 85, some 86, some 87, some 88, some 89, some 90, none, some 91, some 92, some 93, some 94, some 95, none, some 96, some 97, some 98, some 99, none, none, none, none, none, none, none, none, none, none, none, none, none, none, none, none, none, none, none, none, none, none, none]) (by rw [tl_204]; decide) (by decide +kernel) (by decide)
def tc_206 : List ZTc := tc_205 ++ [(12, 150, [])]
theorem tl_206 : tc_206.length = 102 := by rw [tc_206, List.length_append, tl_205]; rfl
theorem cg_206 : zadd (zOf tc_205) 12 150 = zOf tc_206 := zOf_add _ _ _ _ (by intro j; rfl)
def tc_207 : List ZTc := tc_206.set 83 (11, 0, [some 84, some 85, some 86, some 87, some 88, some 89, some 90, none, some 91, some 92, some 93, some 94, some 95, none, some 96, some 97, some 98, some 99, some 100, some 101, none, none, none, none, none, none, none, none, none, none, none, none, none, none, none, none, none, none, none, none, none])
theorem tl_207 : tc_207.length = 102 := by rw [tc_207, List.length_set, tl_206]
theorem cg_207 : zput (zOf tc_206) 83 19 101 = zOf tc_207 := zOf_put (rs := [some 84, some 85, some 86, some 87, some 88, some 89, some 90, none, some 91, some 92, some 93, some 94, some 95, none, some 96, some 97, some 98, some 99, some 100, none, none, none, none, none, none, none, none, none, none, none, none, none, none, none, none, none, none, none, none, none, none]) (by rw [tl_206]; decide) (by decide +kernel) (by decide)
def tc_208 : List ZTc := tc_207 ++ [(13, 150, [])]
theorem tl_208 : tc_208.length = 103 := by rw [tc_208, List.length_append, tl_207]; rfl
theorem cg_208 : zadd (zOf tc_207) 13 150 = zOf tc_208 := zOf_add _ _ _ _ (by intro j; rfl)
def tc_209 : List ZTc := tc_208.set 83 (11, 0, [some 84, some 85, some 86, some 87, some 88, some 89, some 90, none, some 91, some 92, some 93, some 94, some 95, none, some 96, some 97, some 98, some 99, some 100, some 101, some 102, none, none, none, none, none, none, none, none, none, none, none, none, none, none, none, none, none, none, none, none])
theorem tl_209 : tc_209.length = 103 := by rw [tc_209, List.length_set, tl_208]
theorem cg_209 : zput (zOf tc_208) 83 20 102 = zOf tc_209 := zOf_put (rs := [some 84, some 85, some 86, some 87, some 88, some 89, some 90, none, some 91, some 92, some 93, some 94, some 95, none, some 96, some 97, some 98, some 99, some 100, some 101, none, none, none, none, none, none, none, none, none, none, none, none, none, none, none, none, none, none, none, none, none]) (by rw [tl_208]; decide) (by decide +kernel) (by decide)
def tc_210 : List ZTc := tc_209 ++ [(12, 96, [])]
theorem tl_210 : tc_210.length = 104 := by rw [tc_210, List.length_append, tl_209]; rfl
theorem cg_210 : zadd (zOf tc_209) 12 96 = zOf tc_210 := zOf_add _ _ _ _ (by intro j; rfl)
def tc_211 : List ZTc := tc_210.set 83 (11, 0, [some 84, some 85, some 86, some 87, some 88, some 89, some 90, none, some 91, some 92, some 93, some 94, some 95, none, some 96, some 97, some 98, some 99, some 100, some 101, some 102, none, none, some 103, none, none, none, none, none, none, none, none, none, none, none, none, none, none, none, none, none])
theorem tl_211 : tc_211.length = 104 := by rw [tc_211, List.length_set, tl_210]
theorem cg_211 : zput (zOf tc_210) 83 23 103 = zOf tc_211 := zOf_put (rs := [some 84, some 85, some 86, some 87, some 88, some 89, some 90, none, some 91, some 92, some 93, some 94, some 95, none, some 96, some 97, some 98, some 99, some 100, some 101, some 102, none, none, none, none, none, none, none, none, none, none, none, none, none, none, none, none, none, none, none, none]) (by rw [tl_210]; decide) (by decide +kernel) (by decide)
def tc_212 : List ZTc := tc_211 ++ [(12, 2, [])]
theorem tl_212 : tc_212.length = 105 := by rw [tc_212, List.length_append, tl_211]; rfl
theorem cg_212 : zadd (zOf tc_211) 12 2 = zOf tc_212 := zOf_add _ _ _ _ (by intro j; rfl)
def tc_213 : List ZTc := tc_212.set 83 (11, 0, [some 84, some 85, some 86, some 87, some 88, some 89, some 90, none, some 91, some 92, some 93, some 94, some 95, none, some 96, some 97, some 98, some 99, some 100, some 101, some 102, none, none, some 103, some 104, none, none, none, none, none, none, none, none, none, none, none, none, none, none, none, none])
theorem tl_213 : tc_213.length = 105 := by rw [tc_213, List.length_set, tl_212]
theorem cg_213 : zput (zOf tc_212) 83 24 104 = zOf tc_213 := zOf_put (rs := [some 84, some 85, some 86, some 87, some 88, some 89, some 90, none, some 91, some 92, some 93, some 94, some 95, none, some 96, some 97, some 98, some 99, some 100, some 101, some 102, none, none, some 103, none, none, none, none, none, none, none, none, none, none, none, none, none, none, none, none, none]) (by rw [tl_212]; decide) (by decide +kernel) (by decide)
def tc_214 : List ZTc := tc_213 ++ [(12, 9, [])]
theorem tl_214 : tc_214.length = 106 := by rw [tc_214, List.length_append, tl_213]; rfl
theorem cg_214 : zadd (zOf tc_213) 12 9 = zOf tc_214 := zOf_add _ _ _ _ (by intro j; rfl)
def tc_215 : List ZTc := tc_214.set 83 (11, 0, [some 84, some 85, some 86, some 87, some 88, some 89, some 90, none, some 91, some 92, some 93, some 94, some 95, none, some 96, some 97, some 98, some 99, some 100, some 101, some 102, none, none, some 103, some 104, some 105, none, none, none, none, none, none, none, none, none, none, none, none, none, none, none])
theorem tl_215 : tc_215.length = 106 := by rw [tc_215, List.length_set, tl_214]
theorem cg_215 : zput (zOf tc_214) 83 25 105 = zOf tc_215 := zOf_put (rs := [some 84, some 85, some 86, some 87, some 88, some 89, some 90, none, some 91, some 92, some 93, some 94, some 95, none, some 96, some 97, some 98, some 99, some 100, some 101, some 102, none, none, some 103, some 104, none, none, none, none, none, none, none, none, none, none, none, none, none, none, none, none]) (by rw [tl_214]; decide) (by decide +kernel) (by decide)
def tc_216 : List ZTc := tc_215 ++ [(12, 60, [])]
theorem tl_216 : tc_216.length = 107 := by rw [tc_216, List.length_append, tl_215]; rfl
theorem cg_216 : zadd (zOf tc_215) 12 60 = zOf tc_216 := zOf_add _ _ _ _ (by intro j; rfl)
def tc_217 : List ZTc := tc_216.set 83 (11, 0, [some 84, some 85, some 86, some 87, some 88, some 89, some 90, none, some 91, some 92, some 93, some 94, some 95, none, some 96, some 97, some 98, some 99, some 100, some 101, some 102, none, none, some 103, some 104, some 105, some 106, none, none, none, none, none, none, none, none, none, none, none, none, none, none])
theorem tl_217 : tc_217.length = 107 := by rw [tc_217, List.length_set, tl_216]
theorem cg_217 : zput (zOf tc_216) 83 26 106 = zOf tc_217 := zOf_put (rs := [some 84, some 85, some 86, some 87, some 88, some 89, some 90, none, some 91, some 92, some 93, some 94, some 95, none, some 96, some 97, some 98, some 99, some 100, some 101, some 102, none, none, some 103, some 104, some 105, none, none, none, none, none, none, none, none, none, none, none, none, none, none, none]) (by rw [tl_216]; decide) (by decide +kernel) (by decide)
def tc_218 : List ZTc := tc_217 ++ [(12, 183, [])]
theorem tl_218 : tc_218.length = 108 := by rw [tc_218, List.length_append, tl_217]; rfl
theorem cg_218 : zadd (zOf tc_217) 12 183 = zOf tc_218 := zOf_add _ _ _ _ (by intro j; rfl)
def tc_219 : List ZTc := tc_218.set 83 (11, 0, [some 84, some 85, some 86, some 87, some 88, some 89, some 90, none, some 91, some 92, some 93, some 94, some 95, none, some 96, some 97, some 98, some 99, some 100, some 101, some 102, none, none, some 103, some 104, some 105, some 106, none, none, none, none, some 107, none, none, none, none, none, none, none, none, none])
theorem tl_219 : tc_219.length = 108 := by rw [tc_219, List.length_set, tl_218]
theorem cg_219 : zput (zOf tc_218) 83 31 107 = zOf tc_219 := zOf_put (rs := [some 84, some 85, some 86, some 87, some 88, some 89, some 90, none, some 91, some 92, some 93, some 94, some 95, none, some 96, some 97, some 98, some 99, some 100, some 101, some 102, none, none, some 103, some 104, some 105, some 106, none, none, none, none, none, none, none, none, none, none, none, none, none, none]) (by rw [tl_218]; decide) (by decide +kernel) (by decide)
def tc_220 : List ZTc := tc_219 ++ [(12, 3, [])]
theorem tl_220 : tc_220.length = 109 := by rw [tc_220, List.length_append, tl_219]; rfl
theorem cg_220 : zadd (zOf tc_219) 12 3 = zOf tc_220 := zOf_add _ _ _ _ (by intro j; rfl)
def tc_221 : List ZTc := tc_220.set 83 (11, 0, [some 84, some 85, some 86, some 87, some 88, some 89, some 90, none, some 91, some 92, some 93, some 94, some 95, none, some 96, some 97, some 98, some 99, some 100, some 101, some 102, none, none, some 103, some 104, some 105, some 106, none, none, none, none, some 107, some 108, none, none, none, none, none, none, none, none])
theorem tl_221 : tc_221.length = 109 := by rw [tc_221, List.length_set, tl_220]
theorem cg_221 : zput (zOf tc_220) 83 32 108 = zOf tc_221 := zOf_put (rs := [some 84, some 85, some 86, some 87, some 88, some 89, some 90, none, some 91, some 92, some 93, some 94, some 95, none, some 96, some 97, some 98, some 99, some 100, some 101, some 102, none, none, some 103, some 104, some 105, some 106, none, none, none, none, some 107, none, none, none, none, none, none, none, none, none]) (by rw [tl_220]; decide) (by decide +kernel) (by decide)
def tc_222 : List ZTc := tc_221 ++ [(12, 36, [])]
theorem tl_222 : tc_222.length = 110 := by rw [tc_222, List.length_append, tl_221]; rfl
theorem cg_222 : zadd (zOf tc_221) 12 36 = zOf tc_222 := zOf_add _ _ _ _ (by intro j; rfl)
def tc_223 : List ZTc := tc_222.set 83 (11, 0, [some 84, some 85, some 86, some 87, some 88, some 89, some 90, none, some 91, some 92, some 93, some 94, some 95, none, some 96, some 97, some 98, some 99, some 100, some 101, some 102, none, none, some 103, some 104, some 105, some 106, none, none, none, none, some 107, some 108, none, some 109, none, none, none, none, none, none])
theorem tl_223 : tc_223.length = 110 := by rw [tc_223, List.length_set, tl_222]
theorem cg_223 : zput (zOf tc_222) 83 34 109 = zOf tc_223 := zOf_put (rs := [some 84, some 85, some 86, some 87, some 88, some 89, some 90, none, some 91, some 92, some 93, some 94, some 95, none, some 96, some 97, some 98, some 99, some 100, some 101, some 102, none, none, some 103, some 104, some 105, some 106, none, none, none, none, some 107, some 108, none, none, none, none, none, none, none, none]) (by rw [tl_222]; decide) (by decide +kernel) (by decide)
def tc_224 : List ZTc := tc_223 ++ [(12, 3, [])]
theorem tl_224 : tc_224.length = 111 := by rw [tc_224, List.length_append, tl_223]; rfl
theorem cg_224 : zadd (zOf tc_223) 12 3 = zOf tc_224 := zOf_add _ _ _ _ (by intro j; rfl)
def tc_225 : List ZTc := tc_224.set 83 (11, 0, [some 84, some 85, some 86, some 87, some 88, some 89, some 90, none, some 91, some 92, some 93, some 94, some 95, none, some 96, some 97, some 98, some 99, some 100, some 101, some 102, none, none, some 103, some 104, some 105, some 106, none, none, none, none, some 107, some 108, none, some 109, some 110, none, none, none, none, none])
theorem tl_225 : tc_225.length = 111 := by rw [tc_225, List.length_set, tl_224]
theorem cg_225 : zput (zOf tc_224) 83 35 110 = zOf tc_225 := zOf_put (rs := [some 84, some 85, some 86, some 87, some 88, some 89, some 90, none, some 91, some 92, some 93, some 94, some 95, none, some 96, some 97, some 98, some 99, some 100, some 101, some 102, none, none, some 103, some 104, some 105, some 106, none, none, none, none, some 107, some 108, none, some 109, none, none, none, none, none, none]) (by rw [tl_224]; decide) (by decide +kernel) (by decide)
def tc_226 : List ZTc := tc_225 ++ [(12, 288, [])]
theorem tl_226 : tc_226.length = 112 := by rw [tc_226, List.length_append, tl_225]; rfl
theorem cg_226 : zadd (zOf tc_225) 12 288 = zOf tc_226 := zOf_add _ _ _ _ (by intro j; rfl)
def tc_227 : List ZTc := tc_226.set 83 (11, 0, [some 84, some 85, some 86, some 87, some 88, some 89, some 90, none, some 91, some 92, some 93, some 94, some 95, none, some 96, some 97, some 98, some 99, some 100, some 101, some 102, none, none, some 103, some 104, some 105, some 106, none, none, none, none, some 107, some 108, none, some 109, some 110, some 111, none, none, none, none])
theorem tl_227 : tc_227.length = 112 := by rw [tc_227, List.length_set, tl_226]
theorem cg_227 : zput (zOf tc_226) 83 36 111 = zOf tc_227 := zOf_put (rs := [some 84, some 85, some 86, some 87, some 88, some 89, some 90, none, some 91, some 92, some 93, some 94, some 95, none, some 96, some 97, some 98, some 99, some 100, some 101, some 102, none, none, some 103, some 104, some 105, some 106, none, none, none, none, some 107, some 108, none, some 109, some 110, none, none, none, none, none]) (by rw [tl_226]; decide) (by decide +kernel) (by decide)
def tc_228 : List ZTc := tc_227 ++ [(12, 2, [])]
theorem tl_228 : tc_228.length = 113 := by rw [tc_228, List.length_append, tl_227]; rfl
theorem cg_228 : zadd (zOf tc_227) 12 2 = zOf tc_228 := zOf_add _ _ _ _ (by intro j; rfl)
def tc_229 : List ZTc := tc_228.set 83 (11, 0, [some 84, some 85, some 86, some 87, some 88, some 89, some 90, none, some 91, some 92, some 93, some 94, some 95, none, some 96, some 97, some 98, some 99, some 100, some 101, some 102, none, none, some 103, some 104, some 105, some 106, none, none, none, none, some 107, some 108, none, some 109, some 110, some 111, some 112, none, none, none])
theorem tl_229 : tc_229.length = 113 := by rw [tc_229, List.length_set, tl_228]
theorem cg_229 : zput (zOf tc_228) 83 37 112 = zOf tc_229 := zOf_put (rs := [some 84, some 85, some 86, some 87, some 88, some 89, some 90, none, some 91, some 92, some 93, some 94, some 95, none, some 96, some 97, some 98, some 99, some 100, some 101, some 102, none, none, some 103, some 104, some 105, some 106, none, none, none, none, some 107, some 108, none, some 109, some 110, some 111, none, none, none, none]) (by rw [tl_228]; decide) (by decide +kernel) (by decide)
def tc_230 : List ZTc := tc_229 ++ [(12, 3, [])]
theorem tl_230 : tc_230.length = 114 := by rw [tc_230, List.length_append, tl_229]; rfl
theorem cg_230 : zadd (zOf tc_229) 12 3 = zOf tc_230 := zOf_add _ _ _ _ (by intro j; rfl)
def tc_231 : List ZTc := tc_230.set 83 (11, 0, [some 84, some 85, some 86, some 87, some 88, some 89, some 90, none, some 91, some 92, some 93, some 94, some 95, none, some 96, some 97, some 98, some 99, some 100, some 101, some 102, none, none, some 103, some 104, some 105, some 106, none, none, none, none, some 107, some 108, none, some 109, some 110, some 111, some 112, some 113, none, none])
theorem tl_231 : tc_231.length = 114 := by rw [tc_231, List.length_set, tl_230]
theorem cg_231 : zput (zOf tc_230) 83 38 113 = zOf tc_231 := zOf_put (rs := [some 84, some 85, some 86, some 87, some 88, some 89, some 90, none, some 91, some 92, some 93, some 94, some 95, none, some 96, some 97, some 98, some 99, some 100, some 101, some 102, none, none, some 103, some 104, some 105, some 106, none, none, none, none, some 107, some 108, none, some 109, some 110, some 111, some 112, none, none, none]) (by rw [tl_230]; decide) (by decide +kernel) (by decide)
def tc_232 : List ZTc := tc_231 ++ [(12, 180, [])]
theorem tl_232 : tc_232.length = 115 := by rw [tc_232, List.length_append, tl_231]; rfl
theorem cg_232 : zadd (zOf tc_231) 12 180 = zOf tc_232 := zOf_add _ _ _ _ (by intro j; rfl)
def tc_233 : List ZTc := tc_232.set 83 (11, 0, [some 84, some 85, some 86, some 87, some 88, some 89, some 90, none, some 91, some 92, some 93, some 94, some 95, none, some 96, some 97, some 98, some 99, some 100, some 101, some 102, none, none, some 103, some 104, some 105, some 106, none, none, none, none, some 107, some 108, none, some 109, some 110, some 111, some 112, some 113, some 114, none])
theorem tl_233 : tc_233.length = 115 := by rw [tc_233, List.length_set, tl_232]
theorem cg_233 : zput (zOf tc_232) 83 39 114 = zOf tc_233 := zOf_put (rs := [some 84, some 85, some 86, some 87, some 88, some 89, some 90, none, some 91, some 92, some 93, some 94, some 95, none, some 96, some 97, some 98, some 99, some 100, some 101, some 102, none, none, some 103, some 104, some 105, some 106, none, none, none, none, some 107, some 108, none, some 109, some 110, some 111, some 112, some 113, none, none]) (by rw [tl_232]; decide) (by decide +kernel) (by decide)
def tc_234 : List ZTc := tc_233 ++ [(13, 2, [])]
theorem tl_234 : tc_234.length = 116 := by rw [tc_234, List.length_append, tl_233]; rfl
theorem cg_234 : zadd (zOf tc_233) 13 2 = zOf tc_234 := zOf_add _ _ _ _ (by intro j; rfl)
def tc_235 : List ZTc := tc_234.set 83 (11, 0, [some 84, some 85, some 86, some 87, some 88, some 89, some 90, none, some 91, some 92, some 93, some 94, some 95, none, some 96, some 97, some 98, some 99, some 100, some 101, some 102, none, none, some 103, some 104, some 105, some 106, none, none, none, none, some 107, some 108, none, some 109, some 110, some 111, some 112, some 113, some 114, some 115])
theorem tl_235 : tc_235.length = 116 := by rw [tc_235, List.length_set, tl_234]
theorem cg_235 : zput (zOf tc_234) 83 40 115 = zOf tc_235 := zOf_put (rs := [some 84, some 85, some 86, some 87, some 88, some 89, some 90, none, some 91, some 92, some 93, some 94, some 95, none, some 96, some 97, some 98, some 99, some 100, some 101, some 102, none, none, some 103, some 104, some 105, some 106, none, none, none, none, some 107, some 108, none, some 109, some 110, some 111, some 112, some 113, some 114, none]) (by rw [tl_234]; decide) (by decide +kernel) (by decide)
def mc_26 : ZM := zms mc_25 86 0 0
theorem mz_26 : ∀ b, 87 ≤ b → ∀ j, mc_26 b j = 0 := fun b hb j => by rw [mc_26, zms_ne _ _ _ (by omega)]; exact mz_25 b (by omega) j
def mc_27 : ZM := zms mc_26 86 3 0
theorem mz_27 : ∀ b, 87 ≤ b → ∀ j, mc_27 b j = 0 := fun b hb j => by rw [mc_27, zms_ne _ _ _ (by omega)]; exact mz_26 b (by omega) j
def mc_28 : ZM := zms mc_27 86 1 1
theorem mz_28 : ∀ b, 87 ≤ b → ∀ j, mc_28 b j = 0 := fun b hb j => by rw [mc_28, zms_ne _ _ _ (by omega)]; exact mz_27 b (by omega) j
def mc_29 : ZM := zms mc_28 86 4 1
theorem mz_29 : ∀ b, 87 ≤ b → ∀ j, mc_29 b j = 0 := fun b hb j => by rw [mc_29, zms_ne _ _ _ (by omega)]; exact mz_28 b (by omega) j
def mc_30 : ZM := zms mc_29 86 2 2
theorem mz_30 : ∀ b, 87 ≤ b → ∀ j, mc_30 b j = 0 := fun b hb j => by rw [mc_30, zms_ne _ _ _ (by omega)]; exact mz_29 b (by omega) j
def mc_31 : ZM := zms mc_30 86 5 2
theorem mz_31 : ∀ b, 87 ≤ b → ∀ j, mc_31 b j = 0 := fun b hb j => by rw [mc_31, zms_ne _ _ _ (by omega)]; exact mz_30 b (by omega) j
def mc_32 : ZM := zms mc_31 87 0 7
theorem mz_32 : ∀ b, 88 ≤ b → ∀ j, mc_32 b j = 0 := fun b hb j => by rw [mc_32, zms_ne _ _ _ (by omega)]; exact mz_31 b (by omega) j
def mc_33 : ZM := zms mc_32 87 1 7
theorem mz_33 : ∀ b, 88 ≤ b → ∀ j, mc_33 b j = 0 := fun b hb j => by rw [mc_33, zms_ne _ _ _ (by omega)]; exact mz_32 b (by omega) j
def mc_34 : ZM := zms mc_33 87 2 7
theorem mz_34 : ∀ b, 88 ≤ b → ∀ j, mc_34 b j = 0 := fun b hb j => by rw [mc_34, zms_ne _ _ _ (by omega)]; exact mz_33 b (by omega) j
def mc_35 : ZM := zms mc_34 87 3 7
theorem mz_35 : ∀ b, 88 ≤ b → ∀ j, mc_35 b j = 0 := fun b hb j => by rw [mc_35, zms_ne _ _ _ (by omega)]; exact mz_34 b (by omega) j
def mc_36 : ZM := zms mc_35 87 4 7
theorem mz_36 : ∀ b, 88 ≤ b → ∀ j, mc_36 b j = 0 := fun b hb j => by rw [mc_36, zms_ne _ _ _ (by omega)]; exact mz_35 b (by omega) j
def mc_37 : ZM := zms mc_36 87 5 7
theorem mz_37 : ∀ b, 88 ≤ b → ∀ j, mc_37 b j = 0 := fun b hb j => by rw [mc_37, zms_ne _ _ _ (by omega)]; exact mz_36 b (by omega) j
def mc_38 : ZM := zms mc_37 87 6 7
theorem mz_38 : ∀ b, 88 ≤ b → ∀ j, mc_38 b j = 0 := fun b hb j => by rw [mc_38, zms_ne _ _ _ (by omega)]; exact mz_37 b (by omega) j
def mc_39 : ZM := zms mc_38 87 7 7
theorem mz_39 : ∀ b, 88 ≤ b → ∀ j, mc_39 b j = 0 := fun b hb j => by rw [mc_39, zms_ne _ _ _ (by omega)]; exact mz_38 b (by omega) j
def mc_40 : ZM := zms mc_39 87 8 7
theorem mz_40 : ∀ b, 88 ≤ b → ∀ j, mc_40 b j = 0 := fun b hb j => by rw [mc_40, zms_ne _ _ _ (by omega)]; exact mz_39 b (by omega) j
theorem ct_43 (E : ZE) : zW E m_Mo_init 1 (zOf tc_171) mc_25 0 [some (.ref 83), none] [] (fun r S M => r = none ∧ S = zOf tc_235 ∧ M = mc_40) := by
  refine z_aload_n d_Mo_init_0 rfl ?_
  refine z_objInit o_Mo_1 o_1 o_2 d_Mo_init_1 (by decide) (Nat.le_of_ble_eq_true rfl) ?_
  refine z_aload_n d_Mo_init_4 rfl ?_
  refine z_bipush 24 d_Mo_init_5 (by decide) ?_
  refine c_newI 84 24 cg_172 (zM0_id (mz_25 _ (by rw [zOf_1, tl_171]; decide))) (by rw [zOf_1, tl_171]) a_int d_Mo_init_7 (by decide) (by decide) (by decide) ?_
  refine c_putr cg_173 p_Mo_7 rfl d_Mo_init_9 ⟨by rw [zOf_1, tl_172]; decide, by decide +kernel⟩ (fun q => ⟨rfl, rfl⟩) ?_
  refine z_aload_n d_Mo_init_12 rfl ?_
  refine z_iconst 2 d_Mo_init_13 (by decide) ?_
  refine c_newI 85 2 cg_174 (zM0_id (mz_25 _ (by rw [zOf_1, tl_173]; decide))) (by rw [zOf_1, tl_173]) a_int d_Mo_init_14 (by decide) (by decide) (by decide) ?_
  refine c_putr cg_175 p_Mo_13 rfl d_Mo_init_16 ⟨by rw [zOf_1, tl_174]; decide, by decide +kernel⟩ (fun q => ⟨rfl, rfl⟩) ?_
  refine z_aload_n d_Mo_init_19 rfl ?_
  refine z_bipush 6 d_Mo_init_20 (by decide) ?_
  refine c_newI 86 6 cg_176 (zM0_id (mz_25 _ (by rw [zOf_1, tl_175]; decide))) (by rw [zOf_1, tl_175]) a_int d_Mo_init_22 (by decide) (by decide) (by decide) ?_
  refine c_putr cg_177 p_Mo_16 rfl d_Mo_init_24 ⟨by rw [zOf_1, tl_176]; decide, by decide +kernel⟩ (fun q => ⟨rfl, rfl⟩) ?_
  refine z_aload_n d_Mo_init_27 rfl ?_
  refine z_bipush 9 d_Mo_init_28 (by decide) ?_
  refine c_newI 87 9 cg_178 (zM0_id (mz_25 _ (by rw [zOf_1, tl_177]; decide))) (by rw [zOf_1, tl_177]) a_int d_Mo_init_30 (by decide) (by decide) (by decide) ?_
  refine c_putr cg_179 p_Mo_19 rfl d_Mo_init_32 ⟨by rw [zOf_1, tl_178]; decide, by decide +kernel⟩ (fun q => ⟨rfl, rfl⟩) ?_
  refine z_aload_n d_Mo_init_35 rfl ?_
  refine z_bipush 36 d_Mo_init_36 (by decide) ?_
  refine c_newI 88 36 cg_180 (zM0_id (mz_25 _ (by rw [zOf_1, tl_179]; decide))) (by rw [zOf_1, tl_179]) a_int d_Mo_init_38 (by decide) (by decide) (by decide) ?_
  refine c_putr cg_181 p_Mo_22 rfl d_Mo_init_40 ⟨by rw [zOf_1, tl_180]; decide, by decide +kernel⟩ (fun q => ⟨rfl, rfl⟩) ?_
  refine z_aload_n d_Mo_init_43 rfl ?_
  refine z_iconst 3 d_Mo_init_44 (by decide) ?_
  refine c_newI 89 3 cg_182 (zM0_id (mz_25 _ (by rw [zOf_1, tl_181]; decide))) (by rw [zOf_1, tl_181]) a_int d_Mo_init_45 (by decide) (by decide) (by decide) ?_
  refine c_putr cg_183 p_Mo_25 rfl d_Mo_init_47 ⟨by rw [zOf_1, tl_182]; decide, by decide +kernel⟩ (fun q => ⟨rfl, rfl⟩) ?_
  refine z_aload_n d_Mo_init_50 rfl ?_
  refine z_bipush 40 d_Mo_init_51 (by decide) ?_
  refine c_newI 90 40 cg_184 (zM0_id (mz_25 _ (by rw [zOf_1, tl_183]; decide))) (by rw [zOf_1, tl_183]) a_int d_Mo_init_53 (by decide) (by decide) (by decide) ?_
  refine c_putr cg_185 p_Mo_28 rfl d_Mo_init_55 ⟨by rw [zOf_1, tl_184]; decide, by decide +kernel⟩ (fun q => ⟨rfl, rfl⟩) ?_
  refine z_aload_n d_Mo_init_58 rfl ?_
  refine z_bipush 24 d_Mo_init_59 (by decide) ?_
  refine c_newI 91 24 cg_186 (zM0_id (mz_25 _ (by rw [zOf_1, tl_185]; decide))) (by rw [zOf_1, tl_185]) a_int d_Mo_init_61 (by decide) (by decide) (by decide) ?_
  refine c_putr cg_187 p_Mo_31 rfl d_Mo_init_63 ⟨by rw [zOf_1, tl_186]; decide, by decide +kernel⟩ (fun q => ⟨rfl, rfl⟩) ?_
  refine z_aload_n d_Mo_init_66 rfl ?_
  refine z_iconst 2 d_Mo_init_67 (by decide) ?_
  refine c_newI 92 2 cg_188 (zM0_id (mz_25 _ (by rw [zOf_1, tl_187]; decide))) (by rw [zOf_1, tl_187]) a_int d_Mo_init_68 (by decide) (by decide) (by decide) ?_
  refine c_putr cg_189 p_Mo_34 rfl d_Mo_init_70 ⟨by rw [zOf_1, tl_188]; decide, by decide +kernel⟩ (fun q => ⟨rfl, rfl⟩) ?_
  refine z_aload_n d_Mo_init_73 rfl ?_
  refine z_bipush 81 d_Mo_init_74 (by decide) ?_
  refine c_newI 93 81 cg_190 (zM0_id (mz_25 _ (by rw [zOf_1, tl_189]; decide))) (by rw [zOf_1, tl_189]) a_int d_Mo_init_76 (by decide) (by decide) (by decide) ?_
  refine c_putr cg_191 p_Mo_37 rfl d_Mo_init_78 ⟨by rw [zOf_1, tl_190]; decide, by decide +kernel⟩ (fun q => ⟨rfl, rfl⟩) ?_
  refine z_aload_n d_Mo_init_81 rfl ?_
  refine z_bipush 27 d_Mo_init_82 (by decide) ?_
  refine c_newI 94 27 cg_192 (zM0_id (mz_25 _ (by rw [zOf_1, tl_191]; decide))) (by rw [zOf_1, tl_191]) a_int d_Mo_init_84 (by decide) (by decide) (by decide) ?_
  refine c_putr cg_193 p_Mo_40 rfl d_Mo_init_86 ⟨by rw [zOf_1, tl_192]; decide, by decide +kernel⟩ (fun q => ⟨rfl, rfl⟩) ?_
  refine z_aload_n d_Mo_init_89 rfl ?_
  refine z_bipush 27 d_Mo_init_90 (by decide) ?_
  refine c_newI 95 27 cg_194 (zM0_id (mz_25 _ (by rw [zOf_1, tl_193]; decide))) (by rw [zOf_1, tl_193]) a_int d_Mo_init_92 (by decide) (by decide) (by decide) ?_
  refine c_putr cg_195 p_Mo_43 rfl d_Mo_init_94 ⟨by rw [zOf_1, tl_194]; decide, by decide +kernel⟩ (fun q => ⟨rfl, rfl⟩) ?_
  refine z_aload_n d_Mo_init_97 rfl ?_
  refine z_sipush 7200 d_Mo_init_98 (by decide) ?_
  refine c_newI 96 7200 cg_196 (zM0_id (mz_25 _ (by rw [zOf_1, tl_195]; decide))) (by rw [zOf_1, tl_195]) a_int d_Mo_init_101 (by decide) (by decide) (by decide) ?_
  refine c_putr cg_197 p_Mo_46 rfl d_Mo_init_103 ⟨by rw [zOf_1, tl_196]; decide, by decide +kernel⟩ (fun q => ⟨rfl, rfl⟩) ?_
  refine z_aload_n d_Mo_init_106 rfl ?_
  refine z_sipush 300 d_Mo_init_107 (by decide) ?_
  refine c_newI 97 300 cg_198 (zM0_id (mz_25 _ (by rw [zOf_1, tl_197]; decide))) (by rw [zOf_1, tl_197]) a_int d_Mo_init_110 (by decide) (by decide) (by decide) ?_
  refine c_putr cg_199 p_Mo_49 rfl d_Mo_init_112 ⟨by rw [zOf_1, tl_198]; decide, by decide +kernel⟩ (fun q => ⟨rfl, rfl⟩) ?_
  refine z_aload_n d_Mo_init_115 rfl ?_
  refine z_sipush 1350 d_Mo_init_116 (by decide) ?_
  refine c_newI 98 1350 cg_200 (zM0_id (mz_25 _ (by rw [zOf_1, tl_199]; decide))) (by rw [zOf_1, tl_199]) a_int d_Mo_init_119 (by decide) (by decide) (by decide) ?_
  refine c_putr cg_201 p_Mo_52 rfl d_Mo_init_121 ⟨by rw [zOf_1, tl_200]; decide, by decide +kernel⟩ (fun q => ⟨rfl, rfl⟩) ?_
  refine z_aload_n d_Mo_init_124 rfl ?_
  refine z_sipush 150 d_Mo_init_125 (by decide) ?_
  refine c_newI 99 150 cg_202 (zM0_id (mz_25 _ (by rw [zOf_1, tl_201]; decide))) (by rw [zOf_1, tl_201]) a_int d_Mo_init_128 (by decide) (by decide) (by decide) ?_
  refine c_putr cg_203 p_Mo_55 rfl d_Mo_init_130 ⟨by rw [zOf_1, tl_202]; decide, by decide +kernel⟩ (fun q => ⟨rfl, rfl⟩) ?_
  refine z_aload_n d_Mo_init_133 rfl ?_
  refine z_sipush 150 d_Mo_init_134 (by decide) ?_
  refine c_newI 100 150 cg_204 (zM0_id (mz_25 _ (by rw [zOf_1, tl_203]; decide))) (by rw [zOf_1, tl_203]) a_int d_Mo_init_137 (by decide) (by decide) (by decide) ?_
  refine c_putr cg_205 p_Mo_58 rfl d_Mo_init_139 ⟨by rw [zOf_1, tl_204]; decide, by decide +kernel⟩ (fun q => ⟨rfl, rfl⟩) ?_
  refine z_aload_n d_Mo_init_142 rfl ?_
  refine z_sipush 150 d_Mo_init_143 (by decide) ?_
  refine c_newI 101 150 cg_206 (zM0_id (mz_25 _ (by rw [zOf_1, tl_205]; decide))) (by rw [zOf_1, tl_205]) a_int d_Mo_init_146 (by decide) (by decide) (by decide) ?_
  refine c_putr cg_207 p_Mo_61 rfl d_Mo_init_148 ⟨by rw [zOf_1, tl_206]; decide, by decide +kernel⟩ (fun q => ⟨rfl, rfl⟩) ?_
  refine z_aload_n d_Mo_init_151 rfl ?_
  refine z_sipush 150 d_Mo_init_152 (by decide) ?_
  refine c_newZ 102 150 cg_208 (zM0_id (mz_25 _ (by rw [zOf_1, tl_207]; decide))) (by rw [zOf_1, tl_207]) a_bool d_Mo_init_155 (by decide) (by decide) (by decide) ?_
  refine c_putr cg_209 p_Mo_64 rfl d_Mo_init_157 ⟨by rw [zOf_1, tl_208]; decide, by decide +kernel⟩ (fun q => ⟨rfl, rfl⟩) ?_
  refine z_aload_n d_Mo_init_160 rfl ?_
  refine z_bipush 96 d_Mo_init_161 (by decide) ?_
  refine c_newI 103 96 cg_210 (zM0_id (mz_25 _ (by rw [zOf_1, tl_209]; decide))) (by rw [zOf_1, tl_209]) a_int d_Mo_init_163 (by decide) (by decide) (by decide) ?_
  refine c_putr cg_211 p_Mo_68 rfl d_Mo_init_165 ⟨by rw [zOf_1, tl_210]; decide, by decide +kernel⟩ (fun q => ⟨rfl, rfl⟩) ?_
  refine z_aload_n d_Mo_init_168 rfl ?_
  refine z_iconst 2 d_Mo_init_169 (by decide) ?_
  refine c_newI 104 2 cg_212 (zM0_id (mz_25 _ (by rw [zOf_1, tl_211]; decide))) (by rw [zOf_1, tl_211]) a_int d_Mo_init_170 (by decide) (by decide) (by decide) ?_
  refine c_putr cg_213 p_Mo_71 rfl d_Mo_init_172 ⟨by rw [zOf_1, tl_212]; decide, by decide +kernel⟩ (fun q => ⟨rfl, rfl⟩) ?_
  refine z_aload_n d_Mo_init_175 rfl ?_
  refine z_bipush 9 d_Mo_init_176 (by decide) ?_
  refine c_newI 105 9 cg_214 (zM0_id (mz_25 _ (by rw [zOf_1, tl_213]; decide))) (by rw [zOf_1, tl_213]) a_int d_Mo_init_178 (by decide) (by decide) (by decide) ?_
  refine c_putr cg_215 p_Mo_74 rfl d_Mo_init_180 ⟨by rw [zOf_1, tl_214]; decide, by decide +kernel⟩ (fun q => ⟨rfl, rfl⟩) ?_
  refine z_aload_n d_Mo_init_183 rfl ?_
  refine z_bipush 60 d_Mo_init_184 (by decide) ?_
  refine c_newI 106 60 cg_216 (zM0_id (mz_25 _ (by rw [zOf_1, tl_215]; decide))) (by rw [zOf_1, tl_215]) a_int d_Mo_init_186 (by decide) (by decide) (by decide) ?_
  refine c_putr cg_217 p_Mo_77 rfl d_Mo_init_188 ⟨by rw [zOf_1, tl_216]; decide, by decide +kernel⟩ (fun q => ⟨rfl, rfl⟩) ?_
  refine z_aload_n d_Mo_init_191 rfl ?_
  refine z_sipush 183 d_Mo_init_192 (by decide) ?_
  refine c_newI 107 183 cg_218 (zM0_id (mz_25 _ (by rw [zOf_1, tl_217]; decide))) (by rw [zOf_1, tl_217]) a_int d_Mo_init_195 (by decide) (by decide) (by decide) ?_
  refine c_putr cg_219 p_Mo_80 rfl d_Mo_init_197 ⟨by rw [zOf_1, tl_218]; decide, by decide +kernel⟩ (fun q => ⟨rfl, rfl⟩) ?_
  refine z_aload_n d_Mo_init_200 rfl ?_
  refine z_iconst 3 d_Mo_init_201 (by decide) ?_
  refine c_newI 108 3 cg_220 (zM0_id (mz_25 _ (by rw [zOf_1, tl_219]; decide))) (by rw [zOf_1, tl_219]) a_int d_Mo_init_202 (by decide) (by decide) (by decide) ?_
  refine c_putr cg_221 p_Mo_83 rfl d_Mo_init_204 ⟨by rw [zOf_1, tl_220]; decide, by decide +kernel⟩ (fun q => ⟨rfl, rfl⟩) ?_
  refine z_aload_n d_Mo_init_207 rfl ?_
  refine z_bipush 36 d_Mo_init_208 (by decide) ?_
  refine c_newI 109 36 cg_222 (zM0_id (mz_25 _ (by rw [zOf_1, tl_221]; decide))) (by rw [zOf_1, tl_221]) a_int d_Mo_init_210 (by decide) (by decide) (by decide) ?_
  refine c_putr cg_223 p_Mo_86 rfl d_Mo_init_212 ⟨by rw [zOf_1, tl_222]; decide, by decide +kernel⟩ (fun q => ⟨rfl, rfl⟩) ?_
  refine z_aload_n d_Mo_init_215 rfl ?_
  refine z_iconst 3 d_Mo_init_216 (by decide) ?_
  refine c_newI 110 3 cg_224 (zM0_id (mz_25 _ (by rw [zOf_1, tl_223]; decide))) (by rw [zOf_1, tl_223]) a_int d_Mo_init_217 (by decide) (by decide) (by decide) ?_
  refine c_putr cg_225 p_Mo_89 rfl d_Mo_init_219 ⟨by rw [zOf_1, tl_224]; decide, by decide +kernel⟩ (fun q => ⟨rfl, rfl⟩) ?_
  refine z_aload_n d_Mo_init_222 rfl ?_
  refine z_sipush 288 d_Mo_init_223 (by decide) ?_
  refine c_newI 111 288 cg_226 (zM0_id (mz_25 _ (by rw [zOf_1, tl_225]; decide))) (by rw [zOf_1, tl_225]) a_int d_Mo_init_226 (by decide) (by decide) (by decide) ?_
  refine c_putr cg_227 p_Mo_92 rfl d_Mo_init_228 ⟨by rw [zOf_1, tl_226]; decide, by decide +kernel⟩ (fun q => ⟨rfl, rfl⟩) ?_
  refine z_aload_n d_Mo_init_231 rfl ?_
  refine z_iconst 2 d_Mo_init_232 (by decide) ?_
  refine c_newI 112 2 cg_228 (zM0_id (mz_25 _ (by rw [zOf_1, tl_227]; decide))) (by rw [zOf_1, tl_227]) a_int d_Mo_init_233 (by decide) (by decide) (by decide) ?_
  refine c_putr cg_229 p_Mo_95 rfl d_Mo_init_235 ⟨by rw [zOf_1, tl_228]; decide, by decide +kernel⟩ (fun q => ⟨rfl, rfl⟩) ?_
  refine z_aload_n d_Mo_init_238 rfl ?_
  refine z_iconst 3 d_Mo_init_239 (by decide) ?_
  refine c_newI 113 3 cg_230 (zM0_id (mz_25 _ (by rw [zOf_1, tl_229]; decide))) (by rw [zOf_1, tl_229]) a_int d_Mo_init_240 (by decide) (by decide) (by decide) ?_
  refine c_putr cg_231 p_Mo_98 rfl d_Mo_init_242 ⟨by rw [zOf_1, tl_230]; decide, by decide +kernel⟩ (fun q => ⟨rfl, rfl⟩) ?_
  refine z_aload_n d_Mo_init_245 rfl ?_
  refine z_sipush 180 d_Mo_init_246 (by decide) ?_
  refine c_newI 114 180 cg_232 (zM0_id (mz_25 _ (by rw [zOf_1, tl_231]; decide))) (by rw [zOf_1, tl_231]) a_int d_Mo_init_249 (by decide) (by decide) (by decide) ?_
  refine c_putr cg_233 p_Mo_101 rfl d_Mo_init_251 ⟨by rw [zOf_1, tl_232]; decide, by decide +kernel⟩ (fun q => ⟨rfl, rfl⟩) ?_
  refine z_aload_n d_Mo_init_254 rfl ?_
  refine z_iconst 2 d_Mo_init_255 (by decide) ?_
  refine c_newZ 115 2 cg_234 (zM0_id (mz_25 _ (by rw [zOf_1, tl_233]; decide))) (by rw [zOf_1, tl_233]) a_bool d_Mo_init_256 (by decide) (by decide) (by decide) ?_
  refine c_putr cg_235 p_Mo_104 rfl d_Mo_init_258 ⟨by rw [zOf_1, tl_234]; decide, by decide +kernel⟩ (fun q => ⟨rfl, rfl⟩) ?_
  refine z_iconst 0 d_Mo_init_261 (by decide) ?_
  refine z_istore_n (ls' := [some (.ref 83), some (.int 0)]) d_Mo_init_262 (Nat.le_of_ble_eq_true rfl) rfl rfl ?_
  refine z_iload_n d_Mo_init_263 rfl ?_
  refine z_iconst 3 d_Mo_init_264 (by decide) ?_
  refine z_icmp_ge 290 d_Mo_init_265 rfl ⟨fun q => absurd q (by decide), fun _ => ?_⟩
  refine z_aload_n d_Mo_init_268 rfl ?_
  refine z_getr (b := 86) f_Mo_16 rfl d_Mo_init_269 ⟨by rw [zOf_1, tl_235]; decide, by decide +kernel⟩ (by decide +kernel) ?_
  refine z_iload_n d_Mo_init_272 rfl ?_
  refine z_iload_n d_Mo_init_273 rfl ?_
  refine c_iastore (M1 := mc_26) 0 rfl d_Mo_init_274 (N := 6) ⟨⟨by rw [zOf_1, tl_235]; decide, by decide +kernel⟩, by decide +kernel, by decide⟩ (by decide) (by decide) ?_
  refine z_aload_n d_Mo_init_275 rfl ?_
  refine z_getr (b := 86) f_Mo_16 rfl d_Mo_init_276 ⟨by rw [zOf_1, tl_235]; decide, by decide +kernel⟩ (by decide +kernel) ?_
  refine z_iconst 3 d_Mo_init_279 (by decide) ?_
  refine z_iload_n d_Mo_init_280 rfl ?_
  refine z_iadd d_Mo_init_281 ?_
  rw [show (3 : Int32) + 0 = 3 by decide]
  refine z_iload_n d_Mo_init_282 rfl ?_
  refine c_iastore (M1 := mc_27) 3 rfl d_Mo_init_283 (N := 6) ⟨⟨by rw [zOf_1, tl_235]; decide, by decide +kernel⟩, by decide +kernel, by decide⟩ (by decide) (by decide) ?_
  refine z_iinc (ls' := [some (.ref 83), some (.int 1)]) 1 d_Mo_init_284 rfl (by decide) (Nat.le_of_ble_eq_true rfl) rfl rfl ?_
  refine z_goto 263 d_Mo_init_287 rfl ?_
  refine z_iload_n d_Mo_init_263 rfl ?_
  refine z_iconst 3 d_Mo_init_264 (by decide) ?_
  refine z_icmp_ge 290 d_Mo_init_265 rfl ⟨fun q => absurd q (by decide), fun _ => ?_⟩
  refine z_aload_n d_Mo_init_268 rfl ?_
  refine z_getr (b := 86) f_Mo_16 rfl d_Mo_init_269 ⟨by rw [zOf_1, tl_235]; decide, by decide +kernel⟩ (by decide +kernel) ?_
  refine z_iload_n d_Mo_init_272 rfl ?_
  refine z_iload_n d_Mo_init_273 rfl ?_
  refine c_iastore (M1 := mc_28) 1 rfl d_Mo_init_274 (N := 6) ⟨⟨by rw [zOf_1, tl_235]; decide, by decide +kernel⟩, by decide +kernel, by decide⟩ (by decide) (by decide) ?_
  refine z_aload_n d_Mo_init_275 rfl ?_
  refine z_getr (b := 86) f_Mo_16 rfl d_Mo_init_276 ⟨by rw [zOf_1, tl_235]; decide, by decide +kernel⟩ (by decide +kernel) ?_
  refine z_iconst 3 d_Mo_init_279 (by decide) ?_
  refine z_iload_n d_Mo_init_280 rfl ?_
  refine z_iadd d_Mo_init_281 ?_
  rw [show (3 : Int32) + 1 = 4 by decide]
  refine z_iload_n d_Mo_init_282 rfl ?_
  refine c_iastore (M1 := mc_29) 4 rfl d_Mo_init_283 (N := 6) ⟨⟨by rw [zOf_1, tl_235]; decide, by decide +kernel⟩, by decide +kernel, by decide⟩ (by decide) (by decide) ?_
  refine z_iinc (ls' := [some (.ref 83), some (.int 2)]) 2 d_Mo_init_284 rfl (by decide) (Nat.le_of_ble_eq_true rfl) rfl rfl ?_
  refine z_goto 263 d_Mo_init_287 rfl ?_
  refine z_iload_n d_Mo_init_263 rfl ?_
  refine z_iconst 3 d_Mo_init_264 (by decide) ?_
  refine z_icmp_ge 290 d_Mo_init_265 rfl ⟨fun q => absurd q (by decide), fun _ => ?_⟩
  refine z_aload_n d_Mo_init_268 rfl ?_
  refine z_getr (b := 86) f_Mo_16 rfl d_Mo_init_269 ⟨by rw [zOf_1, tl_235]; decide, by decide +kernel⟩ (by decide +kernel) ?_
  refine z_iload_n d_Mo_init_272 rfl ?_
  refine z_iload_n d_Mo_init_273 rfl ?_
  refine c_iastore (M1 := mc_30) 2 rfl d_Mo_init_274 (N := 6) ⟨⟨by rw [zOf_1, tl_235]; decide, by decide +kernel⟩, by decide +kernel, by decide⟩ (by decide) (by decide) ?_
  refine z_aload_n d_Mo_init_275 rfl ?_
  refine z_getr (b := 86) f_Mo_16 rfl d_Mo_init_276 ⟨by rw [zOf_1, tl_235]; decide, by decide +kernel⟩ (by decide +kernel) ?_
  refine z_iconst 3 d_Mo_init_279 (by decide) ?_
  refine z_iload_n d_Mo_init_280 rfl ?_
  refine z_iadd d_Mo_init_281 ?_
  rw [show (3 : Int32) + 2 = 5 by decide]
  refine z_iload_n d_Mo_init_282 rfl ?_
  refine c_iastore (M1 := mc_31) 5 rfl d_Mo_init_283 (N := 6) ⟨⟨by rw [zOf_1, tl_235]; decide, by decide +kernel⟩, by decide +kernel, by decide⟩ (by decide) (by decide) ?_
  refine z_iinc (ls' := [some (.ref 83), some (.int 3)]) 3 d_Mo_init_284 rfl (by decide) (Nat.le_of_ble_eq_true rfl) rfl rfl ?_
  refine z_goto 263 d_Mo_init_287 rfl ?_
  refine z_iload_n d_Mo_init_263 rfl ?_
  refine z_iconst 3 d_Mo_init_264 (by decide) ?_
  refine z_icmp_ge 290 d_Mo_init_265 rfl ⟨fun _ => ?_, fun q => absurd (by decide) q⟩
  refine z_iconst 0 d_Mo_init_290 (by decide) ?_
  refine z_istore_n (ls' := [some (.ref 83), some (.int 0)]) d_Mo_init_291 (Nat.le_of_ble_eq_true rfl) rfl rfl ?_
  refine z_iload_n d_Mo_init_292 rfl ?_
  refine z_bipush 9 d_Mo_init_293 (by decide) ?_
  refine z_icmp_ge 312 d_Mo_init_295 rfl ⟨fun q => absurd q (by decide), fun _ => ?_⟩
  refine z_aload_n d_Mo_init_298 rfl ?_
  refine z_getr (b := 87) f_Mo_19 rfl d_Mo_init_299 ⟨by rw [zOf_1, tl_235]; decide, by decide +kernel⟩ (by decide +kernel) ?_
  refine z_iload_n d_Mo_init_302 rfl ?_
  refine z_bipush 7 d_Mo_init_303 (by decide) ?_
  refine c_iastore (M1 := mc_32) 0 rfl d_Mo_init_305 (N := 9) ⟨⟨by rw [zOf_1, tl_235]; decide, by decide +kernel⟩, by decide +kernel, by decide⟩ (by decide) (by decide) ?_
  refine z_iinc (ls' := [some (.ref 83), some (.int 1)]) 1 d_Mo_init_306 rfl (by decide) (Nat.le_of_ble_eq_true rfl) rfl rfl ?_
  refine z_goto 292 d_Mo_init_309 rfl ?_
  refine z_iload_n d_Mo_init_292 rfl ?_
  refine z_bipush 9 d_Mo_init_293 (by decide) ?_
  refine z_icmp_ge 312 d_Mo_init_295 rfl ⟨fun q => absurd q (by decide), fun _ => ?_⟩
  refine z_aload_n d_Mo_init_298 rfl ?_
  refine z_getr (b := 87) f_Mo_19 rfl d_Mo_init_299 ⟨by rw [zOf_1, tl_235]; decide, by decide +kernel⟩ (by decide +kernel) ?_
  refine z_iload_n d_Mo_init_302 rfl ?_
  refine z_bipush 7 d_Mo_init_303 (by decide) ?_
  refine c_iastore (M1 := mc_33) 1 rfl d_Mo_init_305 (N := 9) ⟨⟨by rw [zOf_1, tl_235]; decide, by decide +kernel⟩, by decide +kernel, by decide⟩ (by decide) (by decide) ?_
  refine z_iinc (ls' := [some (.ref 83), some (.int 2)]) 2 d_Mo_init_306 rfl (by decide) (Nat.le_of_ble_eq_true rfl) rfl rfl ?_
  refine z_goto 292 d_Mo_init_309 rfl ?_
  refine z_iload_n d_Mo_init_292 rfl ?_
  refine z_bipush 9 d_Mo_init_293 (by decide) ?_
  refine z_icmp_ge 312 d_Mo_init_295 rfl ⟨fun q => absurd q (by decide), fun _ => ?_⟩
  refine z_aload_n d_Mo_init_298 rfl ?_
  refine z_getr (b := 87) f_Mo_19 rfl d_Mo_init_299 ⟨by rw [zOf_1, tl_235]; decide, by decide +kernel⟩ (by decide +kernel) ?_
  refine z_iload_n d_Mo_init_302 rfl ?_
  refine z_bipush 7 d_Mo_init_303 (by decide) ?_
  refine c_iastore (M1 := mc_34) 2 rfl d_Mo_init_305 (N := 9) ⟨⟨by rw [zOf_1, tl_235]; decide, by decide +kernel⟩, by decide +kernel, by decide⟩ (by decide) (by decide) ?_
  refine z_iinc (ls' := [some (.ref 83), some (.int 3)]) 3 d_Mo_init_306 rfl (by decide) (Nat.le_of_ble_eq_true rfl) rfl rfl ?_
  refine z_goto 292 d_Mo_init_309 rfl ?_
  refine z_iload_n d_Mo_init_292 rfl ?_
  refine z_bipush 9 d_Mo_init_293 (by decide) ?_
  refine z_icmp_ge 312 d_Mo_init_295 rfl ⟨fun q => absurd q (by decide), fun _ => ?_⟩
  refine z_aload_n d_Mo_init_298 rfl ?_
  refine z_getr (b := 87) f_Mo_19 rfl d_Mo_init_299 ⟨by rw [zOf_1, tl_235]; decide, by decide +kernel⟩ (by decide +kernel) ?_
  refine z_iload_n d_Mo_init_302 rfl ?_
  refine z_bipush 7 d_Mo_init_303 (by decide) ?_
  refine c_iastore (M1 := mc_35) 3 rfl d_Mo_init_305 (N := 9) ⟨⟨by rw [zOf_1, tl_235]; decide, by decide +kernel⟩, by decide +kernel, by decide⟩ (by decide) (by decide) ?_
  refine z_iinc (ls' := [some (.ref 83), some (.int 4)]) 4 d_Mo_init_306 rfl (by decide) (Nat.le_of_ble_eq_true rfl) rfl rfl ?_
  refine z_goto 292 d_Mo_init_309 rfl ?_
  refine z_iload_n d_Mo_init_292 rfl ?_
  refine z_bipush 9 d_Mo_init_293 (by decide) ?_
  refine z_icmp_ge 312 d_Mo_init_295 rfl ⟨fun q => absurd q (by decide), fun _ => ?_⟩
  refine z_aload_n d_Mo_init_298 rfl ?_
  refine z_getr (b := 87) f_Mo_19 rfl d_Mo_init_299 ⟨by rw [zOf_1, tl_235]; decide, by decide +kernel⟩ (by decide +kernel) ?_
  refine z_iload_n d_Mo_init_302 rfl ?_
  refine z_bipush 7 d_Mo_init_303 (by decide) ?_
  refine c_iastore (M1 := mc_36) 4 rfl d_Mo_init_305 (N := 9) ⟨⟨by rw [zOf_1, tl_235]; decide, by decide +kernel⟩, by decide +kernel, by decide⟩ (by decide) (by decide) ?_
  refine z_iinc (ls' := [some (.ref 83), some (.int 5)]) 5 d_Mo_init_306 rfl (by decide) (Nat.le_of_ble_eq_true rfl) rfl rfl ?_
  refine z_goto 292 d_Mo_init_309 rfl ?_
  refine z_iload_n d_Mo_init_292 rfl ?_
  refine z_bipush 9 d_Mo_init_293 (by decide) ?_
  refine z_icmp_ge 312 d_Mo_init_295 rfl ⟨fun q => absurd q (by decide), fun _ => ?_⟩
  refine z_aload_n d_Mo_init_298 rfl ?_
  refine z_getr (b := 87) f_Mo_19 rfl d_Mo_init_299 ⟨by rw [zOf_1, tl_235]; decide, by decide +kernel⟩ (by decide +kernel) ?_
  refine z_iload_n d_Mo_init_302 rfl ?_
  refine z_bipush 7 d_Mo_init_303 (by decide) ?_
  refine c_iastore (M1 := mc_37) 5 rfl d_Mo_init_305 (N := 9) ⟨⟨by rw [zOf_1, tl_235]; decide, by decide +kernel⟩, by decide +kernel, by decide⟩ (by decide) (by decide) ?_
  refine z_iinc (ls' := [some (.ref 83), some (.int 6)]) 6 d_Mo_init_306 rfl (by decide) (Nat.le_of_ble_eq_true rfl) rfl rfl ?_
  refine z_goto 292 d_Mo_init_309 rfl ?_
  refine z_iload_n d_Mo_init_292 rfl ?_
  refine z_bipush 9 d_Mo_init_293 (by decide) ?_
  refine z_icmp_ge 312 d_Mo_init_295 rfl ⟨fun q => absurd q (by decide), fun _ => ?_⟩
  refine z_aload_n d_Mo_init_298 rfl ?_
  refine z_getr (b := 87) f_Mo_19 rfl d_Mo_init_299 ⟨by rw [zOf_1, tl_235]; decide, by decide +kernel⟩ (by decide +kernel) ?_
  refine z_iload_n d_Mo_init_302 rfl ?_
  refine z_bipush 7 d_Mo_init_303 (by decide) ?_
  refine c_iastore (M1 := mc_38) 6 rfl d_Mo_init_305 (N := 9) ⟨⟨by rw [zOf_1, tl_235]; decide, by decide +kernel⟩, by decide +kernel, by decide⟩ (by decide) (by decide) ?_
  refine z_iinc (ls' := [some (.ref 83), some (.int 7)]) 7 d_Mo_init_306 rfl (by decide) (Nat.le_of_ble_eq_true rfl) rfl rfl ?_
  refine z_goto 292 d_Mo_init_309 rfl ?_
  refine z_iload_n d_Mo_init_292 rfl ?_
  refine z_bipush 9 d_Mo_init_293 (by decide) ?_
  refine z_icmp_ge 312 d_Mo_init_295 rfl ⟨fun q => absurd q (by decide), fun _ => ?_⟩
  refine z_aload_n d_Mo_init_298 rfl ?_
  refine z_getr (b := 87) f_Mo_19 rfl d_Mo_init_299 ⟨by rw [zOf_1, tl_235]; decide, by decide +kernel⟩ (by decide +kernel) ?_
  refine z_iload_n d_Mo_init_302 rfl ?_
  refine z_bipush 7 d_Mo_init_303 (by decide) ?_
  refine c_iastore (M1 := mc_39) 7 rfl d_Mo_init_305 (N := 9) ⟨⟨by rw [zOf_1, tl_235]; decide, by decide +kernel⟩, by decide +kernel, by decide⟩ (by decide) (by decide) ?_
  refine z_iinc (ls' := [some (.ref 83), some (.int 8)]) 8 d_Mo_init_306 rfl (by decide) (Nat.le_of_ble_eq_true rfl) rfl rfl ?_
  refine z_goto 292 d_Mo_init_309 rfl ?_
  refine z_iload_n d_Mo_init_292 rfl ?_
  refine z_bipush 9 d_Mo_init_293 (by decide) ?_
  refine z_icmp_ge 312 d_Mo_init_295 rfl ⟨fun q => absurd q (by decide), fun _ => ?_⟩
  refine z_aload_n d_Mo_init_298 rfl ?_
  refine z_getr (b := 87) f_Mo_19 rfl d_Mo_init_299 ⟨by rw [zOf_1, tl_235]; decide, by decide +kernel⟩ (by decide +kernel) ?_
  refine z_iload_n d_Mo_init_302 rfl ?_
  refine z_bipush 7 d_Mo_init_303 (by decide) ?_
  refine c_iastore (M1 := mc_40) 8 rfl d_Mo_init_305 (N := 9) ⟨⟨by rw [zOf_1, tl_235]; decide, by decide +kernel⟩, by decide +kernel, by decide⟩ (by decide) (by decide) ?_
  refine z_iinc (ls' := [some (.ref 83), some (.int 9)]) 9 d_Mo_init_306 rfl (by decide) (Nat.le_of_ble_eq_true rfl) rfl rfl ?_
  refine z_goto 292 d_Mo_init_309 rfl ?_
  refine z_iload_n d_Mo_init_292 rfl ?_
  refine z_bipush 9 d_Mo_init_293 (by decide) ?_
  refine z_icmp_ge 312 d_Mo_init_295 rfl ⟨fun _ => ?_, fun q => absurd (by decide) q⟩
  exact z_vret rfl d_Mo_init_312 ⟨rfl, rfl, rfl⟩
/-! runs: ct_42 from tc_1, mc_0 to tc_170, mc_25; then tc_171; ct_43 to tc_235, mc_40 -/
