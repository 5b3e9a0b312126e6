/-! the judgement of the plain machine, and a rule an instruction -/
def zC (E : ZE) (mi : ZI) (d : Nat) (p : Program) (R : Room) (s : State) (m : MethodId) (args : Array Value) (meth : Method) (c : Code) : Prop :=
  p.tables.exec = Jvm.exec ∧ c.code = mi.2.1 ∧ meth.sig.returnType = mi.2.2.2 ∧ c.maxLocals = mi.2.2.1 ∧ s.vm.findClass mi.1.cls = some m.cls ∧ (∀ w ∈ ztbl, w.before args s = true) ∧ va_K E.2.1 zCl (ztys E) s ∧ meth.locks = false ∧ d ≤ R.frames ∧ 36 * d ≤ R.locals ∧ meth.name = mi.1.name
def zH (E : ZE) (S : ZS) (M : ZM) (H0 H : Heap) (locs : List Loc) : Prop := va_P E.2.1 zCl (zws E S M) H ∧ H.size = E.2.2.2 + S.1 ∧ va_S (fun q => E.2.2.2 ≤ q) H0 H locs
def zQ (E : ZE) (S : ZS) (M : ZM) (r : Option Value) : Array Value → State → Outcome → State → Prop := fun _ st o t => o = .returned (r.map (zsh E.2.2.2)) ∧ va_P E.2.1 zCl (zws E S M) t.heap ∧ t.heap.size = E.2.2.2 + S.1 ∧ va_F (fun q => E.2.2.2 ≤ q) st t
def zW (E : ZE) (mi : ZI) (d : Nat) (S : ZS) (M : ZM) (pc : Nat) (ls : List (Option Value)) (st : List Value) (Φ : Option Value → ZS → ZM → Prop) : Prop :=
  ∃ (S' : ZS) (M' : ZM) (r : Option Value), Φ r S' M' ∧ S.1 ≤ S'.1 ∧ zsl S ≤ zsl S' ∧
    ∀ (p : Program) (e : Env) (R : Room) (s : State) (m : MethodId) (args : Array Value) (below : List Frame) (meth : Method) (c : Code) (n0 s0 : Nat), zC E mi d p R s m args meth c → n0 ≤ S.1 → s0 ≤ zsl S → S'.1 - n0 ≤ R.cells → zsl S' - s0 ≤ R.slots → E.2.2.2 ≤ s.heap.size →
    ∀ (H : Heap) (locs : List Loc) (L : Array Slot), zH E S M s.heap H locs → zL E.2.2.2 mi.2.2.1 L ls →
    W p E.1 e R s m args below meth c H locs (S.1 - n0) (zsl S - s0) (MQ below (zQ E S' M' r) args s (S'.1 - n0) (zsl S' - s0) (fun q => E.2.2.2 ≤ q)) (F0 m pc L (st.map (zsh E.2.2.2)))
section ZR
variable {E : ZE} {mi : ZI} {d : Nat} {S : ZS} {M : ZM} {pc : Nat} {ls : List (Option Value)} {st : List Value} {Φ : Option Value → ZS → ZM → Prop}
theorem zW_mono {Ψ : Option Value → ZS → ZM → Prop} (h : zW E mi d S M pc ls st Ψ) (hm : ∀ r S' M', Ψ r S' M' → Φ r S' M') : zW E mi d S M pc ls st Φ := by
  obtain ⟨S', M', r, h1, h2⟩ := h
  exact ⟨S', M', r, hm _ _ _ h1, h2⟩
/-- another picture of the same cells -/
theorem zW_same {S1 : ZS} {M1 : ZM} (hn : S1.1 = S.1) (he : ∀ b, b < S.1 → zce E S1 M1 b = zce E S M b) (hz : zsl S1 = zsl S) (k : zW E mi d S1 M1 pc ls st Φ) : zW E mi d S M pc ls st Φ := by
  obtain ⟨S', M', r, h1, h2, h3, h4⟩ := k
  refine ⟨S', M', r, h1, by rw [← hn]; exact h2, by rw [← hz]; exact h3, fun p e R s m args below meth c n0 s0 C a1 a2 a3 a4 a5 H locs L hH hL => ?_⟩
  have := h4 p e R s m args below meth c n0 s0 C (by rw [hn]; exact a1) (by rw [hz]; exact a2) a3 a4 a5 H locs L ⟨by rw [zws_eq hn he]; exact hH.1, by rw [hn]; exact hH.2.1, hH.2.2⟩ hL
  rwa [hn, hz] at this
theorem zW_step {ls' : List (Option Value)} {st' : List Value} {pc' : Nat}
    (h : ∀ {p : Program} {e : Env} {R : Room} {s : State} {m : MethodId} {args : Array Value} {below : List Frame} {meth : Method} {c : Code} {H : Heap} {locs : List Loc} {cells slots : Nat} {Q : State → Prop} {L : Array Slot}, zC E mi d p R s m args meth c → zL E.2.2.2 mi.2.2.1 L ls →
      (∀ L', zL E.2.2.2 mi.2.2.1 L' ls' → W p E.1 e R s m args below meth c H locs cells slots Q (F0 m pc' L' (st'.map (zsh E.2.2.2)))) → W p E.1 e R s m args below meth c H locs cells slots Q (F0 m pc L (st.map (zsh E.2.2.2))))
    (k : zW E mi d S M pc' ls' st' Φ) : zW E mi d S M pc ls st Φ := by
  obtain ⟨S', M', r, h1, h2, h3, h4⟩ := k
  exact ⟨S', M', r, h1, h2, h3, fun p e R s m args below meth c n0 s0 C a1 a2 a3 a4 a5 H locs L hH hL => h C hL (fun L' hL' => h4 p e R s m args below meth c n0 s0 C a1 a2 a3 a4 a5 H locs L' hH hL')⟩
/-- what looks at the heap, or writes into it, and makes nothing -/
theorem zW_heap {S1 : ZS} {M1 : ZM} {st' : List Value} {pc' : Nat} (hn : S1.1 = S.1) (hz : zsl S1 = zsl S)
    (h : ∀ {p : Program} {e : Env} {R : Room} {s : State} {m : MethodId} {args : Array Value} {below : List Frame} {meth : Method} {c : Code} {H : Heap} {locs : List Loc} {cells slots : Nat} {Q : State → Prop} {L : Array Slot}, zC E mi d p R s m args meth c → zH E S M s.heap H locs →
      (∀ H' locs', zH E S1 M1 s.heap H' locs' → W p E.1 e R s m args below meth c H' locs' cells slots Q (F0 m pc' L (st'.map (zsh E.2.2.2)))) → W p E.1 e R s m args below meth c H locs cells slots Q (F0 m pc L (st.map (zsh E.2.2.2))))
    (k : zW E mi d S1 M1 pc' ls st' Φ) : zW E mi d S M pc ls st Φ := by
  obtain ⟨S', M', r, h1, h2, h3, h4⟩ := k
  refine ⟨S', M', r, h1, by rw [← hn]; exact h2, by rw [← hz]; exact h3, fun p e R s m args below meth c n0 s0 C a1 a2 a3 a4 a5 H locs L hH hL => h C hH (fun H' locs' hH' => ?_)⟩
  have := h4 p e R s m args below meth c n0 s0 C (by rw [hn]; exact a1) (by rw [hz]; exact a2) a3 a4 a5 H' locs' L hH' hL
  rwa [hn, hz] at this
variable {x y : Int32} {a i tgt : Nat} {off : Int}
theorem z_iconst {n : Int} (v : Int32) (hd : decode mi.2.1 pc = .ok (.iconst n, 1)) (hv : Int32.ofInt n = v) (k : zW E mi d S M (pc + 1) ls (.int v :: st) Φ) : zW E mi d S M pc ls st Φ :=
  zW_step (fun C hL kk => lv_iconst C.1 C.2.1 hd hv (kk _ hL)) k
theorem z_bipush {n : Int} (v : Int32) (hd : decode mi.2.1 pc = .ok (.bipush n, 2)) (hv : (Int8.ofInt n).toInt32 = v) (k : zW E mi d S M (pc + 2) ls (.int v :: st) Φ) : zW E mi d S M pc ls st Φ :=
  zW_step (fun C hL kk => lv_bipush C.1 C.2.1 hd hv (kk _ hL)) k
theorem z_sipush {n : Int} (v : Int32) (hd : decode mi.2.1 pc = .ok (.sipush n, 3)) (hv : (Int16.ofInt n).toInt32 = v) (k : zW E mi d S M (pc + 3) ls (.int v :: st) Φ) : zW E mi d S M pc ls st Φ :=
  zW_step (fun C hL kk => lv_sipush C.1 C.2.1 hd hv (kk _ hL)) k
theorem z_lconst {n : Fin 2} (v : Int64) (hd : decode mi.2.1 pc = .ok (.lconst n, 1)) (hv : Int64.ofNat (n : Nat) = v) (k : zW E mi d S M (pc + 1) ls (.long v :: st) Φ) : zW E mi d S M pc ls st Φ :=
  zW_step (fun C hL kk => lv_lconst C.1 C.2.1 hd hv (kk _ hL)) k
theorem z_ldc {index : Nat} (v : Int32) (hd : decode mi.2.1 pc = .ok (.ldc index, 2)) (hw : Cond.constant mi.1.cls index v ∈ ztbl) (k : zW E mi d S M (pc + 2) ls (.int v :: st) Φ) : zW E mi d S M pc ls st Φ :=
  zW_step (fun C hL kk => lv_ldc C.1 C.2.1 C.2.2.2.2.1 (C.2.2.2.2.2.1 _ hw) hd (kk _ hL)) k
theorem z_ldc2 {index : Nat} (v : Int64) (hd : decode mi.2.1 pc = .ok (.ldc2_w index, 3)) (hw : Cond.constantLong mi.1.cls index v ∈ ztbl) (k : zW E mi d S M (pc + 3) ls (.long v :: st) Φ) : zW E mi d S M pc ls st Φ :=
  zW_step (fun C hL kk => lv_ldc2 C.1 C.2.1 C.2.2.2.2.1 (C.2.2.2.2.2.1 _ hw) hd (kk _ hL)) k
theorem z_null (hd : decode mi.2.1 pc = .ok (.aconst_null, 1)) (k : zW E mi d S M (pc + 1) ls (.null :: st) Φ) : zW E mi d S M pc ls st Φ :=
  zW_step (fun C hL kk => lv_null C.1 C.2.1 hd (kk _ hL)) k
theorem z_iload_n {j : Fin 4} (hd : decode mi.2.1 pc = .ok (.iload_n j, 1)) (hl : ls[(j : Nat)]? = some (some (.int x))) (k : zW E mi d S M (pc + 1) ls (.int x :: st) Φ) : zW E mi d S M pc ls st Φ :=
  zW_step (fun C hL kk => lv_iload_n C.1 C.2.1 hd rfl (hL.2.2 _ _ hl) (kk _ hL)) k
theorem z_iload (hd : decode mi.2.1 pc = .ok (.iload i, 2)) (hl : ls[i]? = some (some (.int x))) (k : zW E mi d S M (pc + 2) ls (.int x :: st) Φ) : zW E mi d S M pc ls st Φ :=
  zW_step (fun C hL kk => lv_iload C.1 C.2.1 hd (hL.2.2 _ _ hl) (kk _ hL)) k
theorem z_lload_n {j : Fin 4} {v : Int64} (hd : decode mi.2.1 pc = .ok (.lload_n j, 1)) (hl : ls[(j : Nat)]? = some (some (.long v))) (k : zW E mi d S M (pc + 1) ls (.long v :: st) Φ) : zW E mi d S M pc ls st Φ :=
  zW_step (fun C hL kk => lv_lload_n C.1 C.2.1 hd rfl (hL.2.2 _ _ hl) (kk _ hL)) k
theorem z_lload {v : Int64} (hd : decode mi.2.1 pc = .ok (.lload i, 2)) (hl : ls[i]? = some (some (.long v))) (k : zW E mi d S M (pc + 2) ls (.long v :: st) Φ) : zW E mi d S M pc ls st Φ :=
  zW_step (fun C hL kk => lv_lload C.1 C.2.1 hd (hL.2.2 _ _ hl) (kk _ hL)) k
theorem z_aload_n {j : Fin 4} (hd : decode mi.2.1 pc = .ok (.aload_n j, 1)) (hl : ls[(j : Nat)]? = some (some (.ref a))) (k : zW E mi d S M (pc + 1) ls (.ref a :: st) Φ) : zW E mi d S M pc ls st Φ :=
  zW_step (fun C hL kk => lv_aload_n C.1 C.2.1 hd rfl (hL.2.2 _ _ hl) (kk _ hL)) k
theorem z_aload (hd : decode mi.2.1 pc = .ok (.aload i, 2)) (hl : ls[i]? = some (some (.ref a))) (k : zW E mi d S M (pc + 2) ls (.ref a :: st) Φ) : zW E mi d S M pc ls st Φ :=
  zW_step (fun C hL kk => lv_aload C.1 C.2.1 hd (hL.2.2 _ _ hl) (kk _ hL)) k
theorem z_aload_nN {j : Fin 4} (hd : decode mi.2.1 pc = .ok (.aload_n j, 1)) (hl : ls[(j : Nat)]? = some (some .null)) (k : zW E mi d S M (pc + 1) ls (.null :: st) Φ) : zW E mi d S M pc ls st Φ :=
  zW_step (fun C hL kk => lv_aload_nN C.1 C.2.1 hd rfl (hL.2.2 _ _ hl) (kk _ hL)) k
theorem z_aloadN (hd : decode mi.2.1 pc = .ok (.aload i, 2)) (hl : ls[i]? = some (some .null)) (k : zW E mi d S M (pc + 2) ls (.null :: st) Φ) : zW E mi d S M pc ls st Φ :=
  zW_step (fun C hL kk => lv_aloadN C.1 C.2.1 hd (hL.2.2 _ _ hl) (kk _ hL)) k
variable {ls' : List (Option Value)}
theorem z_istore_n {j : Fin 4} (hd : decode mi.2.1 pc = .ok (.istore_n j, 1)) (hn : (j : Nat) < mi.2.2.1) (hk : zok1 ls (j : Nat) = true) (hs : ls.set (j : Nat) (some (.int x)) = ls') (k : zW E mi d S M (pc + 1) ls' st Φ) : zW E mi d S M pc ls (.int x :: st) Φ :=
  zW_step (fun C hL kk => lv_istore_n C.1 C.2.1 hd rfl hL.has hn rfl (fun L' h => kk L' (by rw [← hs]; exact zL_st1 (v := .int x) hk h))) k
theorem z_istore (hd : decode mi.2.1 pc = .ok (.istore i, 2)) (hn : i < mi.2.2.1) (hk : zok1 ls i = true) (hs : ls.set i (some (.int x)) = ls') (k : zW E mi d S M (pc + 2) ls' st Φ) : zW E mi d S M pc ls (.int x :: st) Φ :=
  zW_step (fun C hL kk => lv_istore C.1 C.2.1 hd hL.has hn rfl (fun L' h => kk L' (by rw [← hs]; exact zL_st1 (v := .int x) hk h))) k
theorem z_astore_n {j : Fin 4} (hd : decode mi.2.1 pc = .ok (.astore_n j, 1)) (hn : (j : Nat) < mi.2.2.1) (hk : zok1 ls (j : Nat) = true) (hs : ls.set (j : Nat) (some (.ref a)) = ls') (k : zW E mi d S M (pc + 1) ls' st Φ) : zW E mi d S M pc ls (.ref a :: st) Φ :=
  zW_step (fun C hL kk => lv_astore_n C.1 C.2.1 hd rfl hL.has hn rfl (fun L' h => kk L' (by rw [← hs]; exact zL_st1 (v := .ref a) hk h))) k
theorem z_astore (hd : decode mi.2.1 pc = .ok (.astore i, 2)) (hn : i < mi.2.2.1) (hk : zok1 ls i = true) (hs : ls.set i (some (.ref a)) = ls') (k : zW E mi d S M (pc + 2) ls' st Φ) : zW E mi d S M pc ls (.ref a :: st) Φ :=
  zW_step (fun C hL kk => lv_astore C.1 C.2.1 hd hL.has hn rfl (fun L' h => kk L' (by rw [← hs]; exact zL_st1 (v := .ref a) hk h))) k
theorem z_astore_nN {j : Fin 4} (hd : decode mi.2.1 pc = .ok (.astore_n j, 1)) (hn : (j : Nat) < mi.2.2.1) (hk : zok1 ls (j : Nat) = true) (hs : ls.set (j : Nat) (some .null) = ls') (k : zW E mi d S M (pc + 1) ls' st Φ) : zW E mi d S M pc ls (.null :: st) Φ :=
  zW_step (fun C hL kk => lv_astore_nN C.1 C.2.1 hd rfl hL.has hn rfl (fun L' h => kk L' (by rw [← hs]; exact zL_st1 (v := .null) hk h))) k
theorem z_astoreN (hd : decode mi.2.1 pc = .ok (.astore i, 2)) (hn : i < mi.2.2.1) (hk : zok1 ls i = true) (hs : ls.set i (some .null) = ls') (k : zW E mi d S M (pc + 2) ls' st Φ) : zW E mi d S M pc ls (.null :: st) Φ :=
  zW_step (fun C hL kk => lv_astoreN C.1 C.2.1 hd hL.has hn rfl (fun L' h => kk L' (by rw [← hs]; exact zL_st1 (v := .null) hk h))) k
theorem z_lstore_n {j : Fin 4} {v : Int64} (hd : decode mi.2.1 pc = .ok (.lstore_n j, 1)) (hn : (j : Nat) + 1 < mi.2.2.1) (hk : zok1 ls (j : Nat) = true) (hs : (ls.set (j : Nat) (some (.long v))).set ((j : Nat) + 1) none = ls') (k : zW E mi d S M (pc + 1) ls' st Φ) : zW E mi d S M pc ls (.long v :: st) Φ :=
  zW_step (fun C hL kk => lv_lstore_n C.1 C.2.1 hd rfl hL.has hn rfl (fun L' h => kk L' (by rw [← hs]; exact zL_st2 (v := .long v) hk h))) k
theorem z_iinc {n : Int} (v : Int32) (hd : decode mi.2.1 pc = .ok (.iinc i n, 3)) (hl : ls[i]? = some (some (.int x))) (hv : x + Int32.ofInt n = v) (hn : i < mi.2.2.1) (hk : zok1 ls i = true) (hs : ls.set i (some (.int v)) = ls') (k : zW E mi d S M (pc + 3) ls' st Φ) : zW E mi d S M pc ls st Φ :=
  zW_step (fun {p e R s m args below meth c H locs cells slots Q L} C hL kk => by
    obtain ⟨q, hq⟩ := List.getElem?_of_mem (zal_mem (B := E.2.2.2) (q := (i, .int x)).mpr ⟨.int x, hl, rfl⟩)
    exact lv_iinc C.1 C.2.1 hd hL.has hq hv hn rfl (fun L' h => kk L' (by rw [← hs]; exact zL_st1 (v := .int v) hk h))) k
theorem z_iadd (hd : decode mi.2.1 pc = .ok (.iadd, 1)) (k : zW E mi d S M (pc + 1) ls (.int (x + y) :: st) Φ) : zW E mi d S M pc ls (.int y :: .int x :: st) Φ :=
  zW_step (fun C hL kk => lv_iadd C.1 C.2.1 hd (kk _ hL)) k
theorem z_isub (hd : decode mi.2.1 pc = .ok (.isub, 1)) (k : zW E mi d S M (pc + 1) ls (.int (x - y) :: st) Φ) : zW E mi d S M pc ls (.int y :: .int x :: st) Φ :=
  zW_step (fun C hL kk => lv_isub C.1 C.2.1 hd (kk _ hL)) k
theorem z_imul (hd : decode mi.2.1 pc = .ok (.imul, 1)) (k : zW E mi d S M (pc + 1) ls (.int (x * y) :: st) Φ) : zW E mi d S M pc ls (.int y :: .int x :: st) Φ :=
  zW_step (fun C hL kk => lv_imul C.1 C.2.1 hd (kk _ hL)) k
theorem z_iand (hd : decode mi.2.1 pc = .ok (.iand, 1)) (k : zW E mi d S M (pc + 1) ls (.int (x &&& y) :: st) Φ) : zW E mi d S M pc ls (.int y :: .int x :: st) Φ :=
  zW_step (fun C hL kk => lv_iand C.1 C.2.1 hd (kk _ hL)) k
theorem z_ior (hd : decode mi.2.1 pc = .ok (.ior, 1)) (k : zW E mi d S M (pc + 1) ls (.int (x ||| y) :: st) Φ) : zW E mi d S M pc ls (.int y :: .int x :: st) Φ :=
  zW_step (fun C hL kk => lv_ior C.1 C.2.1 hd (kk _ hL)) k
theorem z_ixor (hd : decode mi.2.1 pc = .ok (.ixor, 1)) (k : zW E mi d S M (pc + 1) ls (.int (x ^^^ y) :: st) Φ) : zW E mi d S M pc ls (.int y :: .int x :: st) Φ :=
  zW_step (fun C hL kk => lv_ixor C.1 C.2.1 hd (kk _ hL)) k
theorem z_ishl (hd : decode mi.2.1 pc = .ok (.ishl, 1)) (k : zW E mi d S M (pc + 1) ls (.int (x <<< (y &&& 31)) :: st) Φ) : zW E mi d S M pc ls (.int y :: .int x :: st) Φ :=
  zW_step (fun C hL kk => lv_ishl C.1 C.2.1 hd (kk _ hL)) k
theorem z_ishr (hd : decode mi.2.1 pc = .ok (.ishr, 1)) (k : zW E mi d S M (pc + 1) ls (.int (x >>> (y &&& 31)) :: st) Φ) : zW E mi d S M pc ls (.int y :: .int x :: st) Φ :=
  zW_step (fun C hL kk => lv_ishr C.1 C.2.1 hd (kk _ hL)) k
theorem z_iushr (hd : decode mi.2.1 pc = .ok (.iushr, 1)) (k : zW E mi d S M (pc + 1) ls (.int ((x.toUInt32 >>> (y.toUInt32 &&& Int32.toUInt32 31)).toInt32) :: st) Φ) : zW E mi d S M pc ls (.int y :: .int x :: st) Φ :=
  zW_step (fun C hL kk => lv_iushr C.1 C.2.1 hd rfl (kk _ hL)) k
theorem z_idiv (hd : decode mi.2.1 pc = .ok (.idiv, 1)) (hne : ¬ y = 0) (k : zW E mi d S M (pc + 1) ls (.int (x / y) :: st) Φ) : zW E mi d S M pc ls (.int y :: .int x :: st) Φ :=
  zW_step (fun C hL kk => lv_idiv C.1 C.2.1 hd hne (kk _ hL)) k
theorem z_irem (hd : decode mi.2.1 pc = .ok (.irem, 1)) (hne : ¬ y = 0) (k : zW E mi d S M (pc + 1) ls (.int (x - x / y * y) :: st) Φ) : zW E mi d S M pc ls (.int y :: .int x :: st) Φ :=
  zW_step (fun C hL kk => lv_irem C.1 C.2.1 hd hne (kk _ hL)) k
theorem z_ineg (hd : decode mi.2.1 pc = .ok (.ineg, 1)) (k : zW E mi d S M (pc + 1) ls (.int (-x) :: st) Φ) : zW E mi d S M pc ls (.int x :: st) Φ :=
  zW_step (fun C hL kk => lv_ineg C.1 C.2.1 hd (kk _ hL)) k
theorem z_i2l (hd : decode mi.2.1 pc = .ok (.i2l, 1)) (k : zW E mi d S M (pc + 1) ls (.long x.toInt64 :: st) Φ) : zW E mi d S M pc ls (.int x :: st) Φ :=
  zW_step (fun C hL kk => lv_i2l C.1 C.2.1 hd rfl (kk _ hL)) k
theorem z_ladd {u v : Int64} (hd : decode mi.2.1 pc = .ok (.ladd, 1)) (k : zW E mi d S M (pc + 1) ls (.long (u + v) :: st) Φ) : zW E mi d S M pc ls (.long v :: .long u :: st) Φ :=
  zW_step (fun C hL kk => lv_ladd C.1 C.2.1 hd (kk _ hL)) k
theorem z_lshl {u : Int64} (hd : decode mi.2.1 pc = .ok (.lshl, 1)) (k : zW E mi d S M (pc + 1) ls (.long (u <<< (y.toInt64 &&& 63)) :: st) Φ) : zW E mi d S M pc ls (.int y :: .long u :: st) Φ :=
  zW_step (fun C hL kk => lv_lshl C.1 C.2.1 hd rfl (kk _ hL)) k
theorem z_lcmp {u v : Int64} (hd : decode mi.2.1 pc = .ok (.lcmp, 1)) (k : zW E mi d S M (pc + 1) ls (.int (lg_cmp u v) :: st) Φ) : zW E mi d S M pc ls (.long v :: .long u :: st) Φ :=
  zW_step (fun C hL kk => W.lcmp C.1 C.2.1 hd (kk _ hL)) k
theorem z_dup {v : Value} (hd : decode mi.2.1 pc = .ok (.dup, 1)) (hv : v.category = 1) (k : zW E mi d S M (pc + 1) ls (v :: v :: st) Φ) : zW E mi d S M pc ls (v :: st) Φ :=
  zW_step (fun C hL kk => lv_dup C.1 C.2.1 hd (by rw [zsh_cat]; exact hv) (kk _ hL)) k
theorem z_dup2 {v w : Value} (hd : decode mi.2.1 pc = .ok (.dup2, 1)) (hv : v.category = 1) (hw : w.category = 1) (k : zW E mi d S M (pc + 1) ls (v :: w :: v :: w :: st) Φ) : zW E mi d S M pc ls (v :: w :: st) Φ :=
  zW_step (fun C hL kk => lv_dup2_11 C.1 C.2.1 hd (by rw [zsh_cat]; exact hv) (by rw [zsh_cat]; exact hw) (kk _ hL)) k
theorem z_pop {v : Value} (hd : decode mi.2.1 pc = .ok (.pop, 1)) (hv : v.category = 1) (k : zW E mi d S M (pc + 1) ls st Φ) : zW E mi d S M pc ls (v :: st) Φ :=
  zW_step (fun C hL kk => lv_pop C.1 C.2.1 hd (by rw [zsh_cat]; exact hv) (kk _ hL)) k
theorem z_goto (tgt : Nat) (hd : decode mi.2.1 pc = .ok (.goto off, 3)) (ht : (pc : Int) + off = (tgt : Int)) (k : zW E mi d S M tgt ls st Φ) : zW E mi d S M pc ls st Φ :=
  zW_step (fun C hL kk => lv_goto C.1 C.2.1 hd ht (kk _ hL)) k
theorem z_if_eq (tgt : Nat) (hd : decode mi.2.1 pc = .ok (.ifCond .eq off, 3)) (ht : (pc : Int) + off = (tgt : Int)) (k : (x = 0 → zW E mi d S M tgt ls st Φ) ∧ (¬ x = 0 → zW E mi d S M (pc + 3) ls st Φ)) : zW E mi d S M pc ls (.int x :: st) Φ := by
  by_cases hP : x = 0
  · exact zW_step (fun C hL kk => lv_if_eq C.1 C.2.1 hd ht (fun _ => kk _ hL) (fun h => absurd hP h)) (k.1 hP)
  · exact zW_step (fun C hL kk => lv_if_eq C.1 C.2.1 hd ht (fun h => absurd h hP) (fun _ => kk _ hL)) (k.2 hP)
theorem z_if_ne (tgt : Nat) (hd : decode mi.2.1 pc = .ok (.ifCond .ne off, 3)) (ht : (pc : Int) + off = (tgt : Int)) (k : (¬ x = 0 → zW E mi d S M tgt ls st Φ) ∧ (x = 0 → zW E mi d S M (pc + 3) ls st Φ)) : zW E mi d S M pc ls (.int x :: st) Φ := by
  by_cases hP : x = 0
  · exact zW_step (fun C hL kk => lv_if_ne C.1 C.2.1 hd ht (fun h => absurd hP h) (fun _ => kk _ hL)) (k.2 hP)
  · exact zW_step (fun C hL kk => lv_if_ne C.1 C.2.1 hd ht (fun _ => kk _ hL) (fun h => absurd h hP)) (k.1 hP)
theorem z_if_lt (tgt : Nat) (hd : decode mi.2.1 pc = .ok (.ifCond .lt off, 3)) (ht : (pc : Int) + off = (tgt : Int)) (k : (x < 0 → zW E mi d S M tgt ls st Φ) ∧ (¬ x < 0 → zW E mi d S M (pc + 3) ls st Φ)) : zW E mi d S M pc ls (.int x :: st) Φ := by
  by_cases hP : x < 0
  · exact zW_step (fun C hL kk => lv_if_lt C.1 C.2.1 hd ht (fun _ => kk _ hL) (fun h => absurd hP h)) (k.1 hP)
  · exact zW_step (fun C hL kk => lv_if_lt C.1 C.2.1 hd ht (fun h => absurd h hP) (fun _ => kk _ hL)) (k.2 hP)
theorem z_if_ge (tgt : Nat) (hd : decode mi.2.1 pc = .ok (.ifCond .ge off, 3)) (ht : (pc : Int) + off = (tgt : Int)) (k : (0 ≤ x → zW E mi d S M tgt ls st Φ) ∧ (¬ 0 ≤ x → zW E mi d S M (pc + 3) ls st Φ)) : zW E mi d S M pc ls (.int x :: st) Φ := by
  by_cases hP : 0 ≤ x
  · exact zW_step (fun C hL kk => lv_if_ge C.1 C.2.1 hd ht (fun _ => kk _ hL) (fun h => absurd hP h)) (k.1 hP)
  · exact zW_step (fun C hL kk => lv_if_ge C.1 C.2.1 hd ht (fun h => absurd h hP) (fun _ => kk _ hL)) (k.2 hP)
theorem z_if_gt (tgt : Nat) (hd : decode mi.2.1 pc = .ok (.ifCond .gt off, 3)) (ht : (pc : Int) + off = (tgt : Int)) (k : (0 < x → zW E mi d S M tgt ls st Φ) ∧ (¬ 0 < x → zW E mi d S M (pc + 3) ls st Φ)) : zW E mi d S M pc ls (.int x :: st) Φ := by
  by_cases hP : 0 < x
  · exact zW_step (fun C hL kk => lv_if_gt C.1 C.2.1 hd ht (fun _ => kk _ hL) (fun h => absurd hP h)) (k.1 hP)
  · exact zW_step (fun C hL kk => lv_if_gt C.1 C.2.1 hd ht (fun h => absurd h hP) (fun _ => kk _ hL)) (k.2 hP)
theorem z_if_le (tgt : Nat) (hd : decode mi.2.1 pc = .ok (.ifCond .le off, 3)) (ht : (pc : Int) + off = (tgt : Int)) (k : (x ≤ 0 → zW E mi d S M tgt ls st Φ) ∧ (¬ x ≤ 0 → zW E mi d S M (pc + 3) ls st Φ)) : zW E mi d S M pc ls (.int x :: st) Φ := by
  by_cases hP : x ≤ 0
  · exact zW_step (fun C hL kk => lv_if_le C.1 C.2.1 hd ht (fun _ => kk _ hL) (fun h => absurd hP h)) (k.1 hP)
  · exact zW_step (fun C hL kk => lv_if_le C.1 C.2.1 hd ht (fun h => absurd h hP) (fun _ => kk _ hL)) (k.2 hP)
theorem z_icmp_eq (tgt : Nat) (hd : decode mi.2.1 pc = .ok (.if_icmp .eq off, 3)) (ht : (pc : Int) + off = (tgt : Int)) (k : (x = y → zW E mi d S M tgt ls st Φ) ∧ (¬ x = y → zW E mi d S M (pc + 3) ls st Φ)) : zW E mi d S M pc ls (.int y :: .int x :: st) Φ := by
  by_cases hP : x = y
  · exact zW_step (fun C hL kk => lv_icmp_eq C.1 C.2.1 hd ht (fun _ => kk _ hL) (fun h => absurd hP h)) (k.1 hP)
  · exact zW_step (fun C hL kk => lv_icmp_eq C.1 C.2.1 hd ht (fun h => absurd h hP) (fun _ => kk _ hL)) (k.2 hP)
theorem z_icmp_ne (tgt : Nat) (hd : decode mi.2.1 pc = .ok (.if_icmp .ne off, 3)) (ht : (pc : Int) + off = (tgt : Int)) (k : (¬ x = y → zW E mi d S M tgt ls st Φ) ∧ (x = y → zW E mi d S M (pc + 3) ls st Φ)) : zW E mi d S M pc ls (.int y :: .int x :: st) Φ := by
  by_cases hP : x = y
  · exact zW_step (fun C hL kk => lv_icmp_ne C.1 C.2.1 hd ht (fun h => absurd hP h) (fun _ => kk _ hL)) (k.2 hP)
  · exact zW_step (fun C hL kk => lv_icmp_ne C.1 C.2.1 hd ht (fun _ => kk _ hL) (fun h => absurd h hP)) (k.1 hP)
theorem z_icmp_lt (tgt : Nat) (hd : decode mi.2.1 pc = .ok (.if_icmp .lt off, 3)) (ht : (pc : Int) + off = (tgt : Int)) (k : (x < y → zW E mi d S M tgt ls st Φ) ∧ (¬ x < y → zW E mi d S M (pc + 3) ls st Φ)) : zW E mi d S M pc ls (.int y :: .int x :: st) Φ := by
  by_cases hP : x < y
  · exact zW_step (fun C hL kk => lv_icmp_lt C.1 C.2.1 hd ht (fun _ => kk _ hL) (fun h => absurd hP h)) (k.1 hP)
  · exact zW_step (fun C hL kk => lv_icmp_lt C.1 C.2.1 hd ht (fun h => absurd h hP) (fun _ => kk _ hL)) (k.2 hP)
theorem z_icmp_ge (tgt : Nat) (hd : decode mi.2.1 pc = .ok (.if_icmp .ge off, 3)) (ht : (pc : Int) + off = (tgt : Int)) (k : (y ≤ x → zW E mi d S M tgt ls st Φ) ∧ (¬ y ≤ x → zW E mi d S M (pc + 3) ls st Φ)) : zW E mi d S M pc ls (.int y :: .int x :: st) Φ := by
  by_cases hP : y ≤ x
  · exact zW_step (fun C hL kk => lv_icmp_ge C.1 C.2.1 hd ht (fun _ => kk _ hL) (fun h => absurd hP h)) (k.1 hP)
  · exact zW_step (fun C hL kk => lv_icmp_ge C.1 C.2.1 hd ht (fun h => absurd h hP) (fun _ => kk _ hL)) (k.2 hP)
theorem z_icmp_gt (tgt : Nat) (hd : decode mi.2.1 pc = .ok (.if_icmp .gt off, 3)) (ht : (pc : Int) + off = (tgt : Int)) (k : (y < x → zW E mi d S M tgt ls st Φ) ∧ (¬ y < x → zW E mi d S M (pc + 3) ls st Φ)) : zW E mi d S M pc ls (.int y :: .int x :: st) Φ := by
  by_cases hP : y < x
  · exact zW_step (fun C hL kk => lv_icmp_gt C.1 C.2.1 hd ht (fun _ => kk _ hL) (fun h => absurd hP h)) (k.1 hP)
  · exact zW_step (fun C hL kk => lv_icmp_gt C.1 C.2.1 hd ht (fun h => absurd h hP) (fun _ => kk _ hL)) (k.2 hP)
theorem z_icmp_le (tgt : Nat) (hd : decode mi.2.1 pc = .ok (.if_icmp .le off, 3)) (ht : (pc : Int) + off = (tgt : Int)) (k : (x ≤ y → zW E mi d S M tgt ls st Φ) ∧ (¬ x ≤ y → zW E mi d S M (pc + 3) ls st Φ)) : zW E mi d S M pc ls (.int y :: .int x :: st) Φ := by
  by_cases hP : x ≤ y
  · exact zW_step (fun C hL kk => lv_icmp_le C.1 C.2.1 hd ht (fun _ => kk _ hL) (fun h => absurd hP h)) (k.1 hP)
  · exact zW_step (fun C hL kk => lv_icmp_le C.1 C.2.1 hd ht (fun h => absurd h hP) (fun _ => kk _ hL)) (k.2 hP)
theorem z_ifnonnull (tgt : Nat) (hd : decode mi.2.1 pc = .ok (.ifnonnull off, 3)) (ht : (pc : Int) + off = (tgt : Int)) (k : zW E mi d S M tgt ls st Φ) : zW E mi d S M pc ls (.ref a :: st) Φ :=
  zW_step (fun C hL kk => lv_ifnonnull C.1 C.2.1 hd ht (kk _ hL)) k
theorem z_ifnonnullN (hd : decode mi.2.1 pc = .ok (.ifnonnull off, 3)) (k : zW E mi d S M (pc + 3) ls st Φ) : zW E mi d S M pc ls (.null :: st) Φ :=
  zW_step (fun C hL kk => lv_ifnonnullN C.1 C.2.1 hd (kk _ hL)) k
theorem z_ifnull (hd : decode mi.2.1 pc = .ok (.ifnull off, 3)) (k : zW E mi d S M (pc + 3) ls st Φ) : zW E mi d S M pc ls (.ref a :: st) Φ :=
  zW_step (fun C hL kk => lv_ifnull C.1 C.2.1 hd (kk _ hL)) k
theorem z_ifnullN (tgt : Nat) (hd : decode mi.2.1 pc = .ok (.ifnull off, 3)) (ht : (pc : Int) + off = (tgt : Int)) (k : zW E mi d S M tgt ls st Φ) : zW E mi d S M pc ls (.null :: st) Φ :=
  zW_step (fun C hL kk => lv_ifnullN C.1 C.2.1 hd ht (kk _ hL)) k
theorem z_tswIn (tgt : Nat) {dflt lo hi : Int} {offs : Array Int} {len : Nat} (hd : decode mi.2.1 pc = .ok (.tableswitch dflt lo hi offs, len)) (h1 : ¬ x.toInt < lo) (h2 : ¬ hi < x.toInt) (ho : offs[(x.toInt - lo).toNat]? = some off) (ht : (pc : Int) + off = (tgt : Int)) (k : zW E mi d S M tgt ls st Φ) : zW E mi d S M pc ls (.int x :: st) Φ :=
  zW_step (fun C hL kk => lv_tableIn C.1 C.2.1 hd h1 h2 ho ht (kk _ hL)) k
theorem z_tswOut (tgt : Nat) {dflt lo hi : Int} {offs : Array Int} {len : Nat} (hd : decode mi.2.1 pc = .ok (.tableswitch dflt lo hi offs, len)) (h : x.toInt < lo ∨ hi < x.toInt) (ht : (pc : Int) + dflt = (tgt : Int)) (k : zW E mi d S M tgt ls st Φ) : zW E mi d S M pc ls (.int x :: st) Φ :=
  zW_step (fun C hL kk => lv_tableOut C.1 C.2.1 hd h ht (kk _ hL)) k
end ZR
