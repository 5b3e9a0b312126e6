/-! rules of the instructions that look at the heap, write into it, or make cells -/
/-- the link of a field, as a class names it in its pool -/
def zFL (own : String) (index ci k : Nat) : Prop := ∃ (C : String) (T : u_T) (N : Nat), zCl[ci]? = some (C, T, N) ∧ k < N ∧ (Cond.fieldLink own index C (T k).2.1 (T k).2.2.1 ∈ ztbl ∨ ∃ host, Cond.fieldLinkNest own index C (T k).2.1 (T k).2.2.1 host ∈ ztbl)
/-- a cell of a kind -/
def zA (S : ZS) (a ci : Nat) : Prop := a < S.1 ∧ S.2.1 a = ci
section ZH
variable {E : ZE} {mi : ZI} {d : Nat} {S : ZS} {M : ZM} {pc : Nat} {ls : List (Option Value)} {st : List Value} {Φ : Option Value → ZS → ZM → Prop}
variable {x y : Int32} {a i tgt : Nat} {off : Int}
theorem zfs_get {B : Nat} {N k : Nat} (hk : k < N) : ((List.range N).map (zpv B S M a))[k]? = some (zpv B S M a k) := by simp [hk]
theorem z_getv {index ci k : Nat} {v : Value} (hl : zFL mi.1.cls index ci k) (ha : zA S a ci) (hv : zpv E.2.2.2 S M a k = zsh E.2.2.2 v) (hd : decode mi.2.1 pc = .ok (.getfield index, 3)) (kk : zW E mi d S M (pc + 3) ls (v :: st) Φ) : zW E mi d S M pc ls (.ref a :: st) Φ := by
  obtain ⟨C0, T, N, hc, hk, hw⟩ := hl
  obtain ⟨hnf, h12⟩ := zg_nf hc
  refine zW_heap rfl rfl (fun {p e R s m args below meth c H locs cells slots Q L} C hH k1 => ?_) kk
  have he : (zws E S M)[a]? = some (E.2.2.2 + a, .inr (ci, (List.range N).map (zpv E.2.2.2 S M a))) := by rw [zws_get E S M ha.1, zce_o ha.2 h12, hnf]
  have hown : (T k).1 = C0 := zg_own hc k
  have hf : ((List.range N).map (zpv E.2.2.2 S M a))[k]? = some (zsh E.2.2.2 v) := by rw [zfs_get hk, hv]
  rcases hw with hw | ⟨host, hw⟩
  · exact va_get C.1 C.2.1 (Ts := ztbl) C.2.2.2.2.2.1 (zg_in hc) C.2.2.2.2.1 C.2.2.2.2.2.2.1 hH.1 a he hc k hk (C.2.2.2.2.2.1 _ hw) (fun z h => by rw [hown] at h; exact h) hf hd (k1 H locs hH)
  · exact va_getN C.1 C.2.1 (Ts := ztbl) C.2.2.2.2.2.1 (zg_in hc) C.2.2.2.2.1 C.2.2.2.2.2.2.1 hH.1 a he hc k hk (C.2.2.2.2.2.1 _ hw) (fun z h => by rw [hown] at h; exact h) hf hd (k1 H locs hH)
theorem z_geti {index ci k : Nat} (hl : zFL mi.1.cls index ci k) (hr : zrf ci k = false) (hd : decode mi.2.1 pc = .ok (.getfield index, 3)) (ha : zA S a ci) (kk : zW E mi d S M (pc + 3) ls (.int (M a k) :: st) Φ) : zW E mi d S M pc ls (.ref a :: st) Φ :=
  z_getv hl ha (by simp [zpv, ha.2, hr, zsh]) hd kk
theorem z_getr {index ci k b : Nat} (hl : zFL mi.1.cls index ci k) (hr : zrf ci k = true) (hd : decode mi.2.1 pc = .ok (.getfield index, 3)) (ha : zA S a ci) (hb : S.2.2.2 a k = some b) (kk : zW E mi d S M (pc + 3) ls (.ref b :: st) Φ) : zW E mi d S M pc ls (.ref a :: st) Φ :=
  z_getv hl ha (by simp [zpv, ha.2, hr, zsh, hb, zrv, va_rf]) hd kk
theorem zsl_eq {S1 : ZS} (hn : S1.1 = S.1) (h1 : S1.2.1 = S.2.1) (h2 : S1.2.2.1 = S.2.2.1) : zsl S1 = zsl S := by
  unfold zsl
  rw [hn]
  congr 1
  refine List.map_congr_left (fun b _ => ?_)
  simp [zszc, h1, h2]
/-- a field is written -/
theorem z_putv {index ci k : Nat} {v : Value} {ty : FieldType} {S1 : ZS} {M1 : ZM} {C0 : String} {T : u_T} {N : Nat} (hc : zCl[ci]? = some (C0, T, N)) (hk : k < N)
    (hw : (Cond.fieldLink mi.1.cls index C0 (T k).2.1 (T k).2.2.1 ∈ ztbl ∧ ((T k).2.2.2 = false ∨ ((T k).2.2.2 = true ∧ mi.1.name = "<init>" ∧ C0 = mi.1.cls))) ∨ ∃ host, Cond.fieldLinkNest mi.1.cls index C0 (T k).2.1 (T k).2.2.1 host ∈ ztbl ∧ (T k).2.2.2 = false) (ha : zA S a ci) (hty : parseFieldDescriptor (T k).2.2.1 = some ty)
    (hn : narrow ty (zsh E.2.2.2 v) = zsh E.2.2.2 v) (hfit : fits ty (zsh E.2.2.2 v) = true)
    (hS : S1.1 = S.1 ∧ S1.2.1 = S.2.1 ∧ S1.2.2.1 = S.2.2.1) (hk1 : zpv E.2.2.2 S1 M1 a k = zsh E.2.2.2 v) (hk2 : ∀ j, j ≠ k → zpv E.2.2.2 S1 M1 a j = zpv E.2.2.2 S M a j) (ho : ∀ b, b < S.1 → b ≠ a → zce E S1 M1 b = zce E S M b)
    (hd : decode mi.2.1 pc = .ok (.putfield index, 3)) (kk : zW E mi d S1 M1 (pc + 3) ls st Φ) : zW E mi d S M pc ls (v :: .ref a :: st) Φ := by
  obtain ⟨hnf, h12⟩ := zg_nf hc
  refine zW_heap hS.1 (zsl_eq hS.1 hS.2.1 hS.2.2) (fun {p e R s m args below meth c H locs cells slots Q L} C hH k1 => ?_) kk
  have he : (zws E S M)[a]? = some (E.2.2.2 + a, .inr (ci, (List.range N).map (zpv E.2.2.2 S M a))) := by rw [zws_get E S M ha.1, zce_o ha.2 h12, hnf]
  have hown : (T k).1 = C0 := zg_own hc k
  have hsame : ∀ x, s.fieldFound? (T k).1 (T k).2.1 (T k).2.2.1 = some x → s.fieldFound? C0 (T k).2.1 (T k).2.2.1 = some x := fun z h => by rw [hown] at h; exact h
  obtain ⟨ty0, hty0⟩ := zg_ty hc
  have hts := C.2.2.2.2.2.1
  have hK := C.2.2.2.2.2.2.1
  have hD := zws_D E S M
  have hset : (zws E S M).set a (E.2.2.2 + a, .inr (ci, ((List.range N).map (zpv E.2.2.2 S M a)).set k (zsh E.2.2.2 v))) = zws E S1 M1 := by
    refine zws_set hS.1 ?_ ho
    rw [zce_o (by rw [hS.2.1]; exact ha.2) h12, hnf, zmap_set hk1 hk2]
  have hap := va_apart (own := mi.1.cls) hts (zg_in hc) ty0 hty0 (zg_nm hc) hK hc
  obtain ⟨r, h1, cell, q1, q2, q3, q4⟩ := hH.1 a _ he
  have hr : r = (C0, T, N) := Option.some.inj (h1.symm.trans hc)
  subst hr
  obtain ⟨hSl, hfc, kC, hkC, hkind⟩ := hK.1 ci _ hc
  obtain ⟨cf, kf, fi, f, hi, hsl⟩ := hSl k hk
  have hst := (u_facts hfc hkC (u_lays hts (zg_in hc) hk) hi).1
  have hlay := hts _ (zg_in hc _ (u_in_lay hk))
  have fin : ∀ H' : Heap, H'[E.2.2.2 + a]? = some (cell.setSlot f.slot (zsh E.2.2.2 v)) → H'.size = H.size → (∀ q, q ≠ E.2.2.2 + a → H'[q]? = H[q]?) → zH E S1 M1 s.heap H' (locs ++ [⟨E.2.2.2 + a, f.slot⟩]) := by
    intro H' e1 e2 e3
    rw [hsl] at e1
    refine ⟨?_, by rw [e2, hS.1]; exact hH.2.1, hH.2.2.put e2 e3 (Nat.le_add_right _ _)⟩
    rw [← hset]
    exact hH.1.set hD he ⟨_, hc, t_OB.to (V := updV (vp_V ((List.range N).map (zpv E.2.2.2 S M a))) k (zsh E.2.2.2 v)) ⟨_, e1, q2, q3, t_set q4 hap hk _⟩ (fun j _ => vp_updV_set (by simpa using hk) _ j)⟩ e3
  rcases hw with ⟨hw, hf | ⟨hf, hin, hcls⟩⟩ | ⟨host, hw, hf⟩
  · unfold u_lay at hlay
    rw [if_neg (by rw [hf]; decide)] at hlay
    have h6 := u_store hfc hkC hkind hlay hi hty hn hfit
    exact W.putK C.1 C.2.1 (f := f) ⟨C.2.2.2.2.1, hts _ hw, ⟨_, _, _, hsame _ hi⟩, hst⟩ (by rw [q2]; exact h6) q1 q3 (by rw [hsl]; exact k2_hasslot (q4 k hk)) rfl rfl hd (fun H' e1 e2 e3 => k1 H' _ (fin H' e1 e2 e3))
  · unfold u_lay at hlay
    rw [if_pos hf] at hlay
    have hcf : m.cls = cf := by
      obtain ⟨_, _, c', _, _, _, -, -, hf', -, -, -, hown2, -⟩ := Cond.laysFinal_spec hlay
      have e1 : c' = cf := by have := hi.symm.trans hf'; simp at this; exact this.1.symm
      rw [hown, hcls] at hown2
      rw [← e1]; exact Option.some.inj (C.2.2.2.2.1.symm.trans hown2)
    have h6 := u_fits hfc hkC hkind (Or.inr hlay) hi hty hn hfit
    exact W.putFinK C.1 C.2.1 C.2.2.2.2.1 (hts _ hw) (hsame _ hi) hst hcf (C.2.2.2.2.2.2.2.2.2.2.trans hin) (by rw [q2]; exact h6) q1 q3 (by rw [hsl]; exact k2_hasslot (q4 k hk)) rfl rfl hd (fun H' e1 e2 e3 => k1 H' _ (fin H' e1 e2 e3))
  · unfold u_lay at hlay
    rw [if_neg (by rw [hf]; decide)] at hlay
    have h6 := u_store hfc hkC hkind hlay hi hty hn hfit
    exact va_WputK C.1 C.2.1 (f := f) C.2.2.2.2.1 (hts _ hw) (hsame _ hi) hst (by rw [q2]; exact h6) q1 q3 (by rw [hsl]; exact k2_hasslot (q4 k hk)) rfl rfl hd (fun H' e1 e2 e3 => k1 H' _ (fin H' e1 e2 e3))
/-- what a field's link gives for writing a number -/
def zPL (mi : ZI) (index ci k : Nat) (ty : FieldType) : Prop := ∃ (C0 : String) (T : u_T) (N : Nat), zCl[ci]? = some (C0, T, N) ∧ k < N ∧ parseFieldDescriptor (T k).2.2.1 = some ty ∧
  ((Cond.fieldLink mi.1.cls index C0 (T k).2.1 (T k).2.2.1 ∈ ztbl ∧ ((T k).2.2.2 = false ∨ ((T k).2.2.2 = true ∧ mi.1.name = "<init>" ∧ C0 = mi.1.cls))) ∨ ∃ host, Cond.fieldLinkNest mi.1.cls index C0 (T k).2.1 (T k).2.2.1 host ∈ ztbl ∧ (T k).2.2.2 = false)
theorem z_puti {index ci k : Nat} {ty : FieldType} (hl : zPL mi index ci k ty) (hr : zrf ci k = false) (hd : decode mi.2.1 pc = .ok (.putfield index, 3)) (ha : zA S a ci) (hn : narrow ty (.int x) = .int x) (hfit : fits ty (.int x) = true) (kk : zW E mi d S (zms M a k x) (pc + 3) ls st Φ) : zW E mi d S M pc ls (.int x :: .ref a :: st) Φ := by
  obtain ⟨C0, T, N, hc, hk, hty, hw⟩ := hl
  refine z_putv (v := .int x) hc hk hw ha hty hn hfit ⟨rfl, rfl, rfl⟩ (by simp [zpv, ha.2, hr, zsh, zms]) (fun j hj => ?_) (fun b _ hb => zce_congr rfl rfl rfl (zms_ne M k x hb)) hd kk
  simp [zpv, ha.2, zms, hj]
theorem z_putr {index ci k b : Nat} {ty : FieldType} (hl : zPL mi index ci k ty) (hr : zrf ci k = true) (hd : decode mi.2.1 pc = .ok (.putfield index, 3)) (ha : zA S a ci) (hn : ∀ q : Nat, narrow ty (.ref q) = .ref q ∧ fits ty (.ref q) = true) (kk : zW E mi d (S.1, S.2.1, S.2.2.1, zup S.2.2.2 a (zup (S.2.2.2 a) k (some b))) M (pc + 3) ls st Φ) : zW E mi d S M pc ls (.ref b :: .ref a :: st) Φ := by
  obtain ⟨C0, T, N, hc, hk, hty, hw⟩ := hl
  refine z_putv (v := .ref b) (S1 := (S.1, S.2.1, S.2.2.1, zup S.2.2.2 a (zup (S.2.2.2 a) k (some b)))) hc hk hw ha hty (hn _).1 (hn _).2 ⟨rfl, rfl, rfl⟩ (by simp [zpv, ha.2, hr, zsh, zup, zrv, va_rf]) (fun j hj => ?_) (fun b' _ hb => zce_congr rfl rfl (by simp [zup, hb]) rfl) hd kk
  simp [zpv, zup, hj]
/-! arrays -/
theorem z_alen {ty : Nat} (ha : zA S a ty) (ht : 12 ≤ ty ∧ ty ≤ 14) (hd : decode mi.2.1 pc = .ok (.arraylength, 1)) (kk : zW E mi d S M (pc + 1) ls (.int (Int32.ofNat (S.2.2.1 a)) :: st) Φ) : zW E mi d S M pc ls (.ref a :: st) Φ := by
  refine zW_heap rfl rfl (fun {p e R s m args below meth c H locs cells slots Q L} C hH k1 => ?_) kk
  have hK := C.2.2.2.2.2.2.1
  have hg := zws_get E S M ha.1
  rcases (show ty = 12 ∨ ty = 13 ∨ ty = 14 by omega) with rfl | rfl | rfl
  · rw [zce_i ha.2] at hg
    exact va_alen C.1 C.2.1 hK hH.1 a 0 hg rfl rfl hd (k1 H locs hH)
  · rw [zce_z ha.2] at hg
    exact va_alen C.1 C.2.1 hK hH.1 a 1 hg rfl rfl hd (k1 H locs hH)
  · rw [zce_r ha.2] at hg
    exact va_alen C.1 C.2.1 hK hH.1 a 2 hg rfl rfl hd (k1 H locs hH)
theorem z_iaload (hd : decode mi.2.1 pc = .ok (.iaload, 1)) (ha : zA S a 12) (hin : vp_in x (S.2.2.1 a)) (kk : zW E mi d S M (pc + 1) ls (.int (M a x.toNatClampNeg) :: st) Φ) : zW E mi d S M pc ls (.int x :: .ref a :: st) Φ := by
  refine zW_heap rfl rfl (fun {p e R s m args below meth c H locs cells slots Q L} C hH k1 => ?_) kk
  have hg := zws_get E S M ha.1
  rw [zce_i ha.2] at hg
  exact va_iald C.1 C.2.1 C.2.2.2.2.2.2.1 hH.1 a 0 hg rfl hin hd (k1 H locs hH)
theorem z_baload (hd : decode mi.2.1 pc = .ok (.baload, 1)) (ha : zA S a 13) (hin : vp_in x (S.2.2.1 a)) (kk : zW E mi d S M (pc + 1) ls (.int (M a x.toNatClampNeg) :: st) Φ) : zW E mi d S M pc ls (.int x :: .ref a :: st) Φ := by
  refine zW_heap rfl rfl (fun {p e R s m args below meth c H locs cells slots Q L} C hH k1 => ?_) kk
  have hg := zws_get E S M ha.1
  rw [zce_z ha.2] at hg
  exact va_zald C.1 C.2.1 C.2.2.2.2.2.2.1 hH.1 a 1 hg rfl hin hd (k1 H locs hH)
theorem z_aaload (o : Option Nat) (hd : decode mi.2.1 pc = .ok (.aaload, 1)) (ha : zA S a 14) (hin : vp_in x (S.2.2.1 a)) (ho : S.2.2.2 a x.toNatClampNeg = o) (kk : zW E mi d S M (pc + 1) ls (va_rf o :: st) Φ) : zW E mi d S M pc ls (.int x :: .ref a :: st) Φ := by
  subst ho
  refine zW_heap rfl rfl (fun {p e R s m args below meth c H locs cells slots Q L} C hH k1 => ?_) kk
  have hg := zws_get E S M ha.1
  rw [zce_r ha.2] at hg
  have k2 := k1 H locs hH
  rw [List.map_cons, zsh_rf] at k2
  exact va_aldq C.1 C.2.1 C.2.2.2.2.2.2.1 hH.1 a 2 hg rfl hin hd k2
theorem z_iastore (hd : decode mi.2.1 pc = .ok (.iastore, 1)) (ha : zA S a 12) (hin : vp_in x (S.2.2.1 a)) (kk : zW E mi d S (zms M a x.toNatClampNeg y) (pc + 1) ls st Φ) : zW E mi d S M pc ls (.int y :: .int x :: .ref a :: st) Φ := by
  refine zW_heap rfl rfl (fun {p e R s m args below meth c H locs cells slots Q L} C hH k1 => ?_) kk
  have hg := zws_get E S M ha.1
  rw [zce_i ha.2] at hg
  have hset : (zws E S M).set a (E.2.2.2 + a, .inl (E.2.2.1.1, S.2.2.1 a, .inl (zup (M a) x.toNatClampNeg y))) = zws E S (zms M a x.toNatClampNeg y) :=
    zws_set rfl (by rw [zce_i ha.2, zms_self]) (fun b _ hb => zce_congr rfl rfl rfl (zms_ne M _ _ hb))
  refine W.iast C.1 C.2.1 (hH.1 a _ hg) ((C.2.2.2.2.2.2.1.2 0 _ rfl).1 (S.2.2.1 a) (fun j => .int (M a j))) (fun q => by cases q) (by show ¬ (x < 0 ∨ (arrV _ _ _).slots.size ≤ _); rw [arrV_size]; exact hin) rfl rfl hd fun H1 e1 z oq => ?_
  refine k1 H1 _ ⟨?_, z.trans hH.2.1, hH.2.2.put z oq (Nat.le_add_right _ _)⟩
  rw [← hset]
  refine hH.1.set (zws_D E S M) hg ?_ oq
  show H1[E.2.2.2 + a]? = some (vp_cell _ _)
  rw [e1]
  rw [vp_cell_i, vp_cell_i, arrV_store]
  congr 2
  funext q
  by_cases hq : q = x.toNatClampNeg
  · subst hq
    simp [updV, zup]
  · simp [updV, zup, hq]
theorem z_bastore (hd : decode mi.2.1 pc = .ok (.bastore, 1)) (ha : zA S a 13) (hin : vp_in x (S.2.2.1 a)) (hy : narrow .boolean (.int y) = .int y) (kk : zW E mi d S (zms M a x.toNatClampNeg y) (pc + 1) ls st Φ) : zW E mi d S M pc ls (.int y :: .int x :: .ref a :: st) Φ := by
  refine zW_heap rfl rfl (fun {p e R s m args below meth c H locs cells slots Q L} C hH k1 => ?_) kk
  have hg := zws_get E S M ha.1
  rw [zce_z ha.2] at hg
  have hset : (zws E S M).set a (E.2.2.2 + a, .inl (E.2.2.1.2.1, S.2.2.1 a, .inl (zup (M a) x.toNatClampNeg y))) = zws E S (zms M a x.toNatClampNeg y) :=
    zws_set rfl (by rw [zce_z ha.2, zms_self]) (fun b _ hb => zce_congr rfl rfl rfl (zms_ne M _ _ hb))
  refine W.zast C.1 C.2.1 (hH.1 a _ hg) ((C.2.2.2.2.2.2.1.2 1 _ rfl).1 (S.2.2.1 a) (fun j => .int (M a j))) (fun q => by cases q) (by show ¬ (x < 0 ∨ (arrV _ _ _).slots.size ≤ _); rw [arrV_size]; exact hin) rfl rfl hd fun H1 e1 z oq => ?_
  refine k1 H1 _ ⟨?_, z.trans hH.2.1, hH.2.2.put z oq (Nat.le_add_right _ _)⟩
  rw [← hset]
  refine hH.1.set (zws_D E S M) hg ?_ oq
  show H1[E.2.2.2 + a]? = some (vp_cell _ _)
  rw [e1, hy]
  rw [vp_cell_i, vp_cell_i, arrV_store]
  congr 2
  funext q
  by_cases hq : q = x.toNatClampNeg
  · subst hq
    simp [updV, zup]
  · simp [updV, zup, hq]
theorem z_aastore {b : Nat} (hd : decode mi.2.1 pc = .ok (.aastore, 1)) (ha : zA S a 14) (hb : zA S b 4) (hin : vp_in x (S.2.2.1 a)) (kk : zW E mi d (S.1, S.2.1, S.2.2.1, zup S.2.2.2 a (zup (S.2.2.2 a) x.toNatClampNeg (some b))) M (pc + 1) ls st Φ) : zW E mi d S M pc ls (.ref b :: .int x :: .ref a :: st) Φ := by
  refine zW_heap (S1 := (S.1, S.2.1, S.2.2.1, zup S.2.2.2 a (zup (S.2.2.2 a) x.toNatClampNeg (some b)))) rfl (zsl_eq rfl rfl rfl) (fun {p e R s m args below meth c H locs cells slots Q L} C hH k1 => ?_) kk
  have hg := zws_get E S M ha.1
  rw [zce_r ha.2] at hg
  have hgb := zws_get E S M hb.1
  rw [zce_o hb.2 (by decide)] at hgb
  have hK := C.2.2.2.2.2.2.1
  have hset : (zws E S M).set a (E.2.2.2 + a, .inl (E.2.2.1.2.2, S.2.2.1 a, .inr (.inr (.inr (.inr (fun k => (zup (S.2.2.2 a) x.toNatClampNeg (some b) k).map (fun q => E.2.2.2 + q))))))) = zws E (S.1, S.2.1, S.2.2.1, zup S.2.2.2 a (zup (S.2.2.2 a) x.toNatClampNeg (some b))) M := by
    refine zws_set rfl ?_ (fun b' _ hb' => zce_congr rfl rfl (by simp [zup, hb']) rfl)
    rw [zce_r (show (S.1, S.2.1, S.2.2.1, zup S.2.2.2 a (zup (S.2.2.2 a) x.toNatClampNeg (some b))).2.1 a = 14 from ha.2)]
    simp [zup]
  have hlt : x.toNatClampNeg < S.2.2.1 a := Nat.not_le.mp fun q => hin (Or.inr q)
  have h0 : ¬ x < 0 := fun q => hin (Or.inl q)
  obtain ⟨r', hr', cellV, g1, g2, g3, -⟩ := hH.1 b _ hgb
  have hcls := (hK.1 4 (zR_Node, zT_Node, 11) rfl).2
  obtain ⟨kA, comp, k1', k2, k3, -⟩ := (hK.2 2 _ rfl).2
  have hcomp : comp = E.2.1.1 4 := Option.some.inj (k3.symm.trans hcls.1)
  subst hcomp
  obtain ⟨kC, hkC, -⟩ := hcls.2
  refine W.aast C.1 C.2.1 (hH.1 a _ hg) (fun q h => by cases h) (fun h => by cases h) k1' k2 rfl hkC ⟨h0, by show _ < (arrV _ _ _).slots.size; rw [arrV_size]; exact hlt⟩ g1 (fun q h => by rw [g3] at h; cases h) (by rw [g2]; exact hkC) (by rw [g2]; exact va_assign hcls) rfl rfl hd fun H1 e z oq => ?_
  refine k1 H1 _ ⟨?_, z.trans hH.2.1, hH.2.2.put z oq (Nat.le_add_right _ _)⟩
  rw [← hset]
  refine hH.1.set (zws_D E S M) hg ?_ oq
  show H1[E.2.2.2 + a]? = some (vp_cell _ _)
  rw [e]
  rw [vp_cell_q, vp_cell_q, arrV_store]
  congr 2
  funext q
  by_cases hq : q = x.toNatClampNeg
  · subst hq
    simp [updV, zup, va_rf]
  · simp [updV, zup, hq]
end ZH
