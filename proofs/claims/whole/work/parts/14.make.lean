/-! rules of the instructions that make cells, of the returns and of the calls -/
section ZN
variable {E : ZE} {mi : ZI} {d : Nat} {S : ZS} {M : ZM} {pc : Nat} {ls : List (Option Value)} {st : List Value} {Φ : Option Value → ZS → ZM → Prop}
variable {x y : Int32} {a i tgt : Nat} {off : Int}
/-- one cell more: of a kind, with a length; nothing in it -/
def zadd (S : ZS) (ty len : Nat) : ZS := (S.1 + 1, zup S.2.1 S.1 ty, zup S.2.2.1 S.1 len, zup S.2.2.2 S.1 (fun _ => none))
def zM0 (S : ZS) (M : ZM) : ZM := zup M S.1 (fun _ => 0)
theorem zadd_sl (S : ZS) (ty len : Nat) : zsl (zadd S ty len) = zsl S + (if ty < 12 then znf ty else len) := by
  unfold zsl
  show (List.map (zszc (zadd S ty len)) (List.range (S.1 + 1))).sum = _
  rw [List.range_succ, List.map_append, List.sum_append]
  congr 1
  · congr 1
    refine List.map_congr_left (fun b hb => ?_)
    have hb := List.mem_range.mp hb
    have hne : b ≠ S.1 := by omega
    simp [zszc, zadd, zup, hne]
  · simp [zszc, zadd, zup]
theorem zadd_ce {ty len b : Nat} (hb : b < S.1) : zce E (zadd S ty len) (zM0 S M) b = zce E S M b := by
  have hne : b ≠ S.1 := by omega
  refine zce_congr ?_ ?_ ?_ ?_ <;> simp [zadd, zM0, zup, hne]
/-- what is made stands behind all that was there -/
theorem zH_push {ty len : Nat} {H H' : Heap} {H0 : Heap} {locs : List Loc} (hH : zH E S M H0 H locs) (z : H'.size = E.2.2.2 + S.1 + 1) (oq : ∀ q, q < E.2.2.2 + S.1 → H'[q]? = H[q]?) (he : va_at E.2.1 zCl (E.2.2.2 + S.1, zce E (zadd S ty len) (zM0 S M) S.1) H') : zH E (zadd S ty len) (zM0 S M) H0 H' locs := by
  have hz := hH.2.1
  refine ⟨?_, by rw [z]; show _ = E.2.2.2 + (S.1 + 1); omega, Nat.le_trans hH.2.2.1 (by omega), fun q h1 h2 => ?_, hH.2.2.2.2⟩
  · rw [← zws_push (E := E) (S := S) (S' := zadd S ty len) (M := M) (M' := zM0 S M) rfl rfl (fun b hb => zadd_ce hb)]
    refine va_P.app (hH.1.kept (fun k q hk => oq _ ?_)) (fun k q hk => ?_)
    · rw [(zws_inv hk).2]
      exact Nat.add_lt_add_left (zws_inv hk).1 _
    · have hz : k < 1 := (List.getElem?_eq_some_iff.mp hk).1
      rw [show k = 0 by omega] at hk
      cases hk
      exact he
  · rw [oq q (by have := hH.2.2.1; omega)]
    exact hH.2.2.2.1 q h1 h2
theorem zW_make {ty len : Nat} {st' : List Value} {pc' : Nat} 
    (h : ∀ {p : Program} {e : Env} {R : Room} {s : State} {m : MethodId} {args : Array Value} {below : List Frame} {meth : Method} {c : Code} {H : Heap} {locs : List Loc} {cells slots : Nat} {Q : State → Prop} {L : Array Slot}, zC E mi d p R s m args meth c → zH E S M s.heap H locs → cells + 1 ≤ R.cells → slots + (if ty < 12 then znf ty else len) ≤ R.slots →
      (∀ H', zH E (zadd S ty len) (zM0 S M) s.heap H' locs → W p E.1 e R s m args below meth c H' locs (cells + 1) (slots + (if ty < 12 then znf ty else len)) Q (F0 m pc' L (st'.map (zsh E.2.2.2)))) → W p E.1 e R s m args below meth c H locs cells slots Q (F0 m pc L (st.map (zsh E.2.2.2))))
    (k : zW E mi d (zadd S ty len) (zM0 S M) pc' ls st' Φ) : zW E mi d S M pc ls st Φ := by
  obtain ⟨S', M', r, h1, h2, h3, h4⟩ := k
  have e1 : (zadd S ty len).1 = S.1 + 1 := rfl
  have e2 := zadd_sl S ty len
  rw [e1] at h2
  rw [e2] at h3
  refine ⟨S', M', r, h1, by omega, by omega, fun p e R s m args below meth c n0 s0 C a1 a2 a3 a4 a5 H locs L hH hL => h C hH (by omega) (by omega) (fun H' hH' => ?_)⟩
  have := h4 p e R s m args below meth c n0 s0 C (by rw [e1]; omega) (by rw [e2]; omega) a3 a4 a5 H' locs L hH' hL
  rw [e1, e2] at this
  rw [show S.1 - n0 + 1 = S.1 + 1 - n0 by omega, show zsl S - s0 + (if ty < 12 then znf ty else len) = zsl S + (if ty < 12 then znf ty else len) - s0 by omega]
  exact this
def zNL (own : String) (index ci : Nat) : Prop := ∃ (C : String) (T : u_T) (N : Nat), zCl[ci]? = some (C, T, N) ∧ Cond.classLink own index C ∈ ztbl ∧ Cond.instantiable C N ∈ ztbl ∧ Cond.initialized C ∈ ztbl
theorem z_new {index ci : Nat} (hl : zNL mi.1.cls index ci) (hd : decode mi.2.1 pc = .ok (.new index, 3)) (kk : zW E mi d (zadd S ci 0) (zM0 S M) (pc + 3) ls (.ref S.1 :: st) Φ) : zW E mi d S M pc ls st Φ := by
  obtain ⟨C0, T, N, hc, hw1, hw2, hw3⟩ := hl
  obtain ⟨hnf, h12⟩ := zg_nf hc
  refine zW_make (fun {p e R s m args below meth c H locs cells slots Q L} C hH hcl hsl k1 => ?_) kk
  rw [if_pos h12, hnf] at hsl k1
  have hts := C.2.2.2.2.2.1
  have hKn := C.2.2.2.2.2.2.1.1 ci _ hc
  obtain ⟨ty0, hty0, hdef⟩ := zg_def hc
  refine W.newcK C.1 C.2.1 C.2.2.2.2.1 (hts _ hw1) (hts _ hw2) (hts _ hw3) rfl hd hcl hsl hKn.2.1 hH.2.1 fun H1 kC hkC e1 z1 o1 => ?_
  refine k1 H1 (zH_push hH z1 o1 ?_)
  rw [zce_o (show (zadd S ci 0).2.1 S.1 = ci by simp [zadd, zup]) h12, hnf]
  refine ⟨_, hc, (u_born ty0 hts (zg_in hc) hKn hkC e1 hty0).to (fun k hk => ?_)⟩
  have hk' : k < N := hk
  rw [hdef k hk']
  simp only [vp_V, List.getD_eq_getElem?_getD, List.getElem?_map, List.getElem?_range hk', Option.map_some, Option.getD_some, zpv]
  simp [zadd, zM0, zup, zrv, va_rf]
theorem z_newI (N : Nat) (hw : Cond.arrayClass .int ∈ ztbl) (hd : decode mi.2.1 pc = .ok (.newarray .int, 2)) (hn : ¬ x < 0) (hN : x.toNatClampNeg = N) (hb : N * 4 ≤ 536870912) (kk : zW E mi d (zadd S 12 N) (zM0 S M) (pc + 2) ls (.ref S.1 :: st) Φ) : zW E mi d S M pc ls (.int x :: st) Φ := by
  refine zW_make (ty := 12) (len := N) (fun {p e R s m args below meth c H locs cells slots Q L} C hH hcl hsl k1 => ?_) kk
  have hts := C.2.2.2.2.2.1
  refine va_newaK (atype := .int) C.1 C.2.1 (hts _ hw) rfl hd rfl hn hN hb hcl hsl hH.2.1 fun H1 cA e1 z1 o1 hAr hNm => ?_
  have hcA : cA = E.2.2.1.1 := Option.some.inj (hNm.symm.trans (C.2.2.2.2.2.2.1.2 0 _ rfl).2)
  subst hcA
  refine k1 H1 (zH_push hH z1 o1 ?_)
  rw [zce_i (show (zadd S 12 N).2.1 S.1 = 12 by simp [zadd, zup])]
  show H1[E.2.2.2 + S.1]? = some (vp_cell _ _)
  rw [e1, vp_cell_i]
  simp only [zadd, zM0, zup, if_true]
  rfl
theorem z_newZ (N : Nat) (hw : Cond.arrayClass .boolean ∈ ztbl) (hd : decode mi.2.1 pc = .ok (.newarray .boolean, 2)) (hn : ¬ x < 0) (hN : x.toNatClampNeg = N) (hb : N * 1 ≤ 536870912) (kk : zW E mi d (zadd S 13 N) (zM0 S M) (pc + 2) ls (.ref S.1 :: st) Φ) : zW E mi d S M pc ls (.int x :: st) Φ := by
  refine zW_make (ty := 13) (len := N) (fun {p e R s m args below meth c H locs cells slots Q L} C hH hcl hsl k1 => ?_) kk
  have hts := C.2.2.2.2.2.1
  refine va_newaK (atype := .boolean) C.1 C.2.1 (hts _ hw) rfl hd rfl hn hN hb hcl hsl hH.2.1 fun H1 cA e1 z1 o1 hAr hNm => ?_
  have hcA : cA = E.2.2.1.2.1 := Option.some.inj (hNm.symm.trans (C.2.2.2.2.2.2.1.2 1 _ rfl).2)
  subst hcA
  refine k1 H1 (zH_push hH z1 o1 ?_)
  rw [zce_z (show (zadd S 13 N).2.1 S.1 = 13 by simp [zadd, zup])]
  show H1[E.2.2.2 + S.1]? = some (vp_cell _ _)
  rw [e1, vp_cell_i]
  simp only [zadd, zM0, zup, if_true]
  rfl
theorem z_newN (N : Nat) {index : Nat} (hw1 : Cond.classLink mi.1.cls index "HeadSplits$Node" ∈ ztbl) (hw2 : Cond.arrayOver (.object "HeadSplits$Node") ∈ ztbl) (hd : decode mi.2.1 pc = .ok (.anewarray index, 3)) (hn : ¬ x < 0) (hN : x.toNatClampNeg = N) (hb : N * 4 ≤ 536870912) (kk : zW E mi d (zadd S 14 N) (zM0 S M) (pc + 3) ls (.ref S.1 :: st) Φ) : zW E mi d S M pc ls (.int x :: st) Φ := by
  subst hN
  refine zW_make (ty := 14) (len := x.toNatClampNeg) (fun {p e R s m args below meth c H locs cells slots Q L} C hH hcl hsl k1 => ?_) kk
  have hts := C.2.2.2.2.2.1
  refine W.anew C.1 C.2.1 C.2.2.2.2.1 (hts _ hw1) (hts _ hw2) rfl hd rfl hn hb hcl hsl fun cA kA comp f1 f2 f3 f4 => ?_
  obtain ⟨kA', comp', g1, g2, g3, g4⟩ := (C.2.2.2.2.2.2.1.2 2 _ rfl).2
  have hcA : cA = E.2.2.1.2.2 := Option.some.inj (f1.symm.trans g4)
  subst hcA
  rw [hH.2.1]
  refine k1 _ (zH_push hH (by rw [Array.size_push, hH.2.1]) (fun q hq => ?_) ?_)
  · rw [Array.getElem?_push, if_neg (by rw [hH.2.1]; omega)]
  · rw [zce_r (show (zadd S 14 x.toNatClampNeg).2.1 S.1 = 14 by simp [zadd, zup])]
    show (H.push _)[E.2.2.2 + S.1]? = some (vp_cell _ _)
    rw [← hH.2.1, Array.getElem?_push_size, vp_cell_q, arrV_new]
    simp only [zadd, zup, if_true]
    rfl
/-! returns -/
theorem zQ_of {H : Heap} {locs : List Loc} {r : Option Value} {s t : State} {args : Array Value} (hH : zH E S M s.heap H locs) (ht : t.heap = H) : zQ E S M r args s (.returned (r.map (zsh E.2.2.2))) t :=
  ⟨rfl, by rw [ht]; exact hH.1, by rw [ht]; exact hH.2.1, hH.2.2.F ht⟩
theorem z_iret (hr : mi.2.2.2 = some .int) (hd : decode mi.2.1 pc = .ok (.ireturn, 1)) (h : Φ (some (.int x)) S M) : zW E mi d S M pc ls [.int x] Φ :=
  ⟨S, M, _, h, Nat.le_refl _, Nat.le_refl _, fun p e R s m args below meth c n0 s0 C a1 a2 a3 a4 a5 H locs L hH hL => W.iret C.1 C.2.1 (C.2.2.1.trans hr) (fun t ht hW => zQ_of (r := some (.int x)) hH ht) hH.2.2.2.2 hd C.2.2.2.2.2.2.2.1⟩
theorem z_zret (hr : mi.2.2.2 = some .boolean) (hd : decode mi.2.1 pc = .ok (.ireturn, 1)) (hx : narrow .boolean (.int x) = .int x) (h : Φ (some (.int x)) S M) : zW E mi d S M pc ls [.int x] Φ :=
  ⟨S, M, _, h, Nat.le_refl _, Nat.le_refl _, fun p e R s m args below meth c n0 s0 C a1 a2 a3 a4 a5 H locs L hH hL => W.zret C.1 C.2.1 (C.2.2.1.trans hr) hx (fun t ht hW => zQ_of (r := some (.int x)) hH ht) hH.2.2.2.2 hd C.2.2.2.2.2.2.2.1⟩
theorem z_lret {v : Int64} (hr : mi.2.2.2 = some .long) (hd : decode mi.2.1 pc = .ok (.lreturn, 1)) (h : Φ (some (.long v)) S M) : zW E mi d S M pc ls [.long v] Φ :=
  ⟨S, M, _, h, Nat.le_refl _, Nat.le_refl _, fun p e R s m args below meth c n0 s0 C a1 a2 a3 a4 a5 H locs L hH hL => W.lret C.1 C.2.1 (C.2.2.1.trans hr) (fun t ht hW => zQ_of (r := some (.long v)) hH ht) hH.2.2.2.2 hd C.2.2.2.2.2.2.2.1⟩
theorem z_aret {n : String} (o : Option Nat) (hr : mi.2.2.2 = some (.object n)) (hd : decode mi.2.1 pc = .ok (.areturn, 1)) (h : Φ (some (va_rf o)) S M) : zW E mi d S M pc ls [va_rf o] Φ :=
  ⟨S, M, _, h, Nat.le_refl _, Nat.le_refl _, fun p e R s m args below meth c n0 s0 C a1 a2 a3 a4 a5 H locs L hH hL => W.aret C.1 C.2.1 (C.2.2.1.trans hr) (Or.inl ⟨n, rfl⟩) (by cases o with | none => exact Or.inl rfl | some q => exact Or.inr ⟨_, rfl⟩) (fun t ht hW => zQ_of (r := some (va_rf o)) hH ht) hH.2.2.2.2 hd C.2.2.2.2.2.2.2.1⟩
theorem z_vret (hr : mi.2.2.2 = none) (hd : decode mi.2.1 pc = .ok (.return_, 1)) (h : Φ none S M) : zW E mi d S M pc ls [] Φ :=
  ⟨S, M, _, h, Nat.le_refl _, Nat.le_refl _, fun p e R s m args below meth c n0 s0 C a1 a2 a3 a4 a5 H locs L hH hL => W.vret C.1 C.2.1 (C.2.2.1.trans hr) (fun t ht hW => zQ_of (r := none) hH ht) hH.2.2.2.2 hd C.2.2.2.2.2.2.2.1⟩
/-! a method's contract out of its walk -/
def zPre (E : ZE) (S : ZS) (M : ZM) (U : State) : Prop := U.heap.size = E.2.2.2 + S.1 ∧ va_P E.2.1 zCl (zws E S M) U.heap ∧ va_K E.2.1 zCl (ztys E) U ∧ ∀ w ∈ ztbl, w.before #[] U = true
def zrm (d : Nat) (S S' : ZS) : Room := { frames := d, cells := S'.1 - S.1, slots := zsl S' - zsl S, locals := 36 * d }
theorem z_met {as : List Value} (hp : plainName mi.1.cls = true) (hlen : (as.flatMap zsl1).length ≤ mi.2.2.1) (k : zW E mi d S M 0 (zent as mi.2.2.1) [] Φ) :
    ∃ (S' : ZS) (M' : ZM) (r : Option Value), Φ r S' M' ∧ S.1 ≤ S'.1 ∧ zsl S ≤ zsl S' ∧ Met E.1 mi.1 [Cond.code mi.1 mi.2.1 mi.2.2.1 mi.2.2.2] (zrm d S S') (va_Pc (as.map (zsh E.2.2.2)) (zPre E S M)) (zQ E S' M' r) (S'.1 - S.1) (zsl S' - zsl S) (fun q => E.2.2.2 ≤ q) := by
  obtain ⟨S', M', r, h1, h2, h3, h4⟩ := k
  refine ⟨S', M', r, h1, h2, h3, ?_⟩
  refine Met.ofW (cc := mi.2.1) (maxL := mi.2.2.1) (ret := mi.2.2.2) hp rfl ?_
  intro p e s m args below meth c s₁ B hml hv
  obtain ⟨rfl, hsz, hP, hK, hws⟩ := hv
  have hown : s.vm.findClass mi.1.cls = some m.cls := findClass_of_methodNamed B.named
  have hC : zC E mi d p (zrm d S S') s m (as.map (zsh E.2.2.2)).toArray meth c :=
    ⟨B.exec, B.bytes, B.returns, hml, hown, zwarm (State.WarmedH.refl s) hws, hK, B.notSynchronized, Nat.le_refl _, Nat.le_refl _, (name_of_methodNamed B.named B.method).1⟩
  have := h4 p e (zrm d S S') s m (as.map (zsh E.2.2.2)).toArray below meth c S.1 (zsl S) hC (Nat.le_refl _) (Nat.le_refl _) (Nat.le_refl _) (Nat.le_refl _) (by omega) s.heap [] _ ⟨hP, hsz, va_S.rf⟩ (zL_entry E.2.2.2 as hlen)
  rw [Nat.sub_self, Nat.sub_self] at this
  rw [lg_entry_eq]
  exact this
theorem zPre_blind {as : List Value} : FrameBlind (va_Pc as (zPre E S M)) := by
  intro a U g mk q
  obtain ⟨q0, q1, qP, qK, qw⟩ := q
  exact ⟨q0, q1, qP, va_K.moved (u := U) (U := U.calling g mk a) (Vm.Alike.refl U.vm) qK, zwarm (s := U) (U := U.calling g mk a) (State.WarmedH.refl U) qw⟩
theorem zPre_at {p : Program} {R : Room} {s U : State} {m : MethodId} {args : Array Value} {meth : Method} {c : Code} {H : Heap} {locs : List Loc} (C : zC E mi d p R s m args meth c) (hH : zH E S M s.heap H locs) (hU : U.heap = H) (hW : s.WarmedH U.vm) : zPre E S M U :=
  ⟨by rw [hU]; exact hH.2.1, by rw [hU]; exact hH.1, va_K.moved hW.alike C.2.2.2.2.2.2.1, zwarm hW C.2.2.2.2.2.1⟩
/-- behind a call -/
theorem zrun_go {p : Program} {e : Env} {R : Room} {s : State} {m : MethodId} {args : Array Value} {below : List Frame} {meth : Method} {c : Code} {H : Heap} {locs : List Loc} {cells slots mc ms : Nat} {Q : State → Prop} {L : Array Slot} {st0 : List Value} {S1 : ZS} {M1 : ZM} {r : Option Value} {av : Array Value}
    (hr : va_Run p E.1 e R s m args below meth c H locs cells slots mc ms (F0 m pc L st0) (st.map (zsh E.2.2.2)) (zQ E S1 M1 r av) (fun q => E.2.2.2 ≤ q)) (hH : zH E S M s.heap H locs)
    (kk : ∀ H' locs', zH E S1 M1 s.heap H' locs' → W p E.1 e R s m args below meth c H' locs' (cells + mc) (slots + ms) Q (F0 m (pc + 3) L ((r.toList ++ st).map (zsh E.2.2.2)))) : W p E.1 e R s m args below meth c H locs cells slots Q (F0 m pc L st0) := by
  intro T hT X
  obtain ⟨v, st₀, t, T', L2, h0, X', hL, e1, e2, ⟨hv, hP, hz, hF⟩, g⟩ := hr T hT X
  have hv := Outcome.returned.inj hv
  subst hv
  have hH' : zH E S1 M1 s.heap T'.heap (locs ++ L2) := by
    refine ⟨by rw [e1]; exact hP, by rw [e1]; exact hz, ?_, fun q h1 h2 => ?_, fun q hq => ?_⟩
    · rw [e1]
      have := hF.1
      rw [h0] at this
      exact Nat.le_trans hH.2.2.1 this
    · rw [e1]
      have h3 := hF.2 q (by rw [h0]; exact Nat.lt_of_lt_of_le h1 hH.2.2.1) h2
      rw [h3, h0]
      exact hH.2.2.2.1 q h1 h2
    · rcases List.mem_append.mp hq with h | h
      · exact hH.2.2.2.2 q h
      · exact hL q h
  obtain ⟨t2, a1, b1⟩ := kk T'.heap (locs ++ L2) hH' T' rfl X'
  refine ⟨t2, g t2 ?_, b1⟩
  have h5 : ((r.toList ++ st).map (zsh E.2.2.2)) = (r.map (zsh E.2.2.2)).toList ++ st.map (zsh E.2.2.2) := by cases r <;> simp
  rw [h5] at a1
  exact a1
/-- what every callee's words give -/
def zMI (mi : ZI) (n : Nat) : Prop := Cond.code mi.1 mi.2.1 mi.2.2.1 mi.2.2.2 ∈ ztbl ∧ Cond.initialized mi.1.cls ∈ ztbl ∧ (mi.1.cls ≠ "java/lang/invoke/MethodHandle" ∧ mi.1.cls ≠ "java/lang/invoke/VarHandle") ∧ (parseMethodDescriptor mi.1.desc).map (fun q => q.parameters.length) = some n ∧ mi.2.2.1 ≤ 17 ∧ plainName mi.1.cls = true
def zML (own : String) (index : Nat) (y : MethodName) : Prop := Cond.methodLink own index y ∈ ztbl ∨ ∃ host, Cond.methodLinkNest own index y host ∈ ztbl
theorem zparams {y : MethodName} {n : Nat} (h2 : (parseMethodDescriptor y.desc).map (fun q => q.parameters.length) = some n) : ∀ sig, parseMethodDescriptor y.desc = some sig → n = sig.parameters.length := by
  intro sig h
  rw [h] at h2
  exact (Option.some.inj h2).symm
variable {mj : ZI} {d' : Nat} {as : List Value} {Ψ : Option Value → ZS → ZM → Prop} {st0 : List Value} {index : Nat}
theorem zroom {p : Program} {R : Room} {s : State} {m : MethodId} {args : Array Value} {meth : Method} {c : Code} {nL : Nat} (C : zC E mi d p R s m args meth c) (hdd : d' + 1 ≤ d) (h17 : nL ≤ 17) (S S1 : ZS) : (zrm d' S S1).frames + 1 ≤ R.frames ∧ 8 + (nL + 11) + (zrm d' S S1).locals ≤ R.locals := by
  have h1 := C.2.2.2.2.2.2.2.2.1
  have h2 := C.2.2.2.2.2.2.2.2.2.1
  refine ⟨?_, ?_⟩
  · show d' + 1 ≤ R.frames
    omega
  · show 8 + (nL + 11) + 36 * d' ≤ R.locals
    omega
theorem zcat (B : Nat) (st : List Value) : ((st.map (zsh B)).map fun v => v.category).sum = (st.map fun v => v.category).sum := by
  rw [List.map_map]
  congr 1
  exact List.map_congr_left (fun v _ => zsh_cat B v)
theorem z_call0 {st1 : List Value} (hmi : zMI mj as.length) (hlen : (as.flatMap zsl1).length ≤ mj.2.2.1)
    (run : ∀ {p : Program} {e : Env} {R : Room} {s : State} {m : MethodId} {args : Array Value} {below : List Frame} {meth : Method} {c : Code} {H : Heap} {locs : List Loc} {cells slots : Nat} {L : Array Slot} {S1 : ZS} {M1 : ZM} {r : Option Value}, zC E mi d p R s m args meth c → zH E S M s.heap H locs → zL E.2.2.2 mi.2.2.1 L ls → Met E.1 mj.1 [Cond.code mj.1 mj.2.1 mj.2.2.1 mj.2.2.2] (zrm d' S S1) (va_Pc (st1.map (zsh E.2.2.2)) (zPre E S M)) (zQ E S1 M1 r) (S1.1 - S.1) (zsl S1 - zsl S) (fun q => E.2.2.2 ≤ q) → cells + (S1.1 - S.1) ≤ R.cells ∧ slots + (zsl S1 - zsl S) ≤ R.slots →
      va_Run p E.1 e R s m args below meth c H locs cells slots (S1.1 - S.1) (zsl S1 - zsl S) (F0 m pc L (st0.map (zsh E.2.2.2))) (st.map (zsh E.2.2.2)) (zQ E S1 M1 r (st1.map (zsh E.2.2.2)).toArray) (fun q => E.2.2.2 ≤ q)) (hlen1 : (st1.flatMap zsl1).length ≤ mj.2.2.1)
    (hc : zW E mj d' S M 0 (zent st1 mj.2.2.1) [] Ψ) (kk : ∀ r S1 M1, Ψ r S1 M1 → zW E mi d S1 M1 (pc + 3) ls (r.toList ++ st) Φ) : zW E mi d S M pc ls st0 Φ := by
  obtain ⟨S1, M1, r, hΨ, hn1, hz1, hM⟩ := z_met hmi.2.2.2.2.2 hlen1 hc
  obtain ⟨S', M', r', h1, h2, h3, h4⟩ := kk r S1 M1 hΨ
  refine ⟨S', M', r', h1, Nat.le_trans hn1 h2, Nat.le_trans hz1 h3, fun p e R s m args below meth c n0 s0 C a1 a2 a3 a4 a5 H locs L hH hL => ?_⟩
  refine zrun_go (run C hH hL hM ⟨by omega, by omega⟩) hH (fun H' locs' hH' => ?_)
  have := h4 p e R s m args below meth c n0 s0 C (by omega) (by omega) a3 a4 a5 H' locs' L hH' hL
  rw [show S.1 - n0 + (S1.1 - S.1) = S1.1 - n0 by omega, show zsl S - s0 + (zsl S1 - zsl S) = zsl S1 - s0 by omega]
  exact this
/-- an instance method; the receiver's class is the method's own -/
theorem z_callV {ci : Nat} {C0 : String} {T : u_T} {N : Nat} (hmi : zMI mj as.length) (hcl : zCl[ci]? = some (C0, T, N) ∧ mj.1.cls = C0) (hw1 : Cond.instanceMethod mj.1 ∈ ztbl) (hw2 : Cond.selects mj.1.cls mj.1 mj.1 ∈ ztbl) (hl : zML mi.1.cls index mj.1) (hd : decode mi.2.1 pc = .ok (.invokevirtual index, 3)) (hdd : d' + 1 ≤ d) (ha : zA S a ci)
    (hst : st0 = as.reverse ++ .ref a :: st) (hrm : (st.map fun v => v.category).sum ≤ 8) (hlen1 : ((Value.ref a :: as).flatMap zsl1).length ≤ mj.2.2.1)
    (hc : zW E mj d' S M 0 (zent (.ref a :: as) mj.2.2.1) [] Ψ) (kk : ∀ r S1 M1, Ψ r S1 M1 → zW E mi d S1 M1 (pc + 3) ls (r.toList ++ st) Φ) : zW E mi d S M pc ls st0 Φ := by
  refine z_call0 (st1 := .ref a :: as) hmi (by simp only [List.flatMap_cons, List.length_append] at hlen1; omega) (fun {p e R s m args below meth c H locs cells slots L S1 M1 r} C hH hL hM hf => ?_) hlen1 hc kk
  have hts := C.2.2.2.2.2.1
  obtain ⟨hc1, hc2⟩ := hcl
  obtain ⟨hnf, h12⟩ := zg_nf hc1
  have he : (zws E S M)[a]? = some (E.2.2.2 + a, .inr (ci, (List.range N).map (zpv E.2.2.2 S M a))) := by rw [zws_get E S M ha.1, zce_o ha.2 h12, hnf]
  have hrecv := va_recv C.2.2.2.2.2.2.1 hH.1 hc1 he
  obtain ⟨m1, m2, m3, m4, m5, m6⟩ := hmi
  have hgood : ∀ w ∈ [Cond.code mj.1 mj.2.1 mj.2.2.1 mj.2.2.2], ∀ (a' : Array Value) (U : State), s.WarmedH U.vm → w.before a' U = true := by
    intro w hw a' U hW
    rw [List.mem_singleton.mp hw]
    exact zwarm hW hts _ m1
  have hstk : (F0 m pc L (st0.map (zsh E.2.2.2))).stack = (as.map (zsh E.2.2.2)).reverse ++ .ref (E.2.2.2 + a) :: st.map (zsh E.2.2.2) := by
    show st0.map (zsh E.2.2.2) = _
    rw [hst]
    simp [zsh]
  have hpre : PreV s H mj.1.cls (E.2.2.2 + a) (va_Pc ((Value.ref a :: as).map (zsh E.2.2.2)) (zPre E S M)) (as.map (zsh E.2.2.2)) :=
    ⟨zPre_blind, by rw [hc2]; exact hrecv, fun U hU hW => ⟨rfl, zPre_at C hH hU hW⟩⟩
  have hrm' : 2 * (F0 m pc L (st0.map (zsh E.2.2.2))).monitorRoom + ((st.map (zsh E.2.2.2)).map fun v => v.category).sum ≤ 8 := lv_room (by rw [zcat]; exact hrm)
  have hR := zroom C hdd m5 S S1
  rcases hl with hl | ⟨host, hl⟩
  · exact va_runV (Ts := ztbl) (own := mi.1.cls) (C := mj.1.cls) (b := E.2.2.2 + a) (As := as.map (zsh E.2.2.2)) (n := as.length) ⟨C.1, C.2.1, C.2.2.2.1, C.2.2.2.2.1, hts⟩ hM ⟨⟨rfl, rfl, hR.1, hR.2, hgood, List.mem_singleton.mpr rfl, hts _ m1, hts _ m2, m3, zparams m4, hts _ hl⟩, hts _ hw1, hts _ hw2⟩ hpre rfl (by simp) hL.1 hstk hrm' hd hf
  · exact va_runVN (Ts := ztbl) (own := mi.1.cls) (C := mj.1.cls) (host := host) (b := E.2.2.2 + a) (As := as.map (zsh E.2.2.2)) (n := as.length) ⟨C.1, C.2.1, C.2.2.2.1, C.2.2.2.2.1, hts⟩ hM ⟨⟨⟨rfl, rfl, hR.1, hR.2, hgood, List.mem_singleton.mpr rfl⟩, hts _ m1, hts _ m2, m3, zparams m4, hts _ hl⟩, hts _ hw1, hts _ hw2⟩ hpre rfl (by simp) hL.1 hstk hrm' hd hf
/-- a static method -/
theorem z_callS (hmi : zMI mj as.length) (hw1 : Cond.static mj.1 ∈ ztbl) (hl : zML mi.1.cls index mj.1) (hd : decode mi.2.1 pc = .ok (.invokestatic index, 3)) (hdd : d' + 1 ≤ d)
    (hst : st0 = as.reverse ++ st) (hrm : (st.map fun v => v.category).sum ≤ 8) (hlen1 : (as.flatMap zsl1).length ≤ mj.2.2.1)
    (hc : zW E mj d' S M 0 (zent as mj.2.2.1) [] Ψ) (kk : ∀ r S1 M1, Ψ r S1 M1 → zW E mi d S1 M1 (pc + 3) ls (r.toList ++ st) Φ) : zW E mi d S M pc ls st0 Φ := by
  refine z_call0 (st1 := as) hmi hlen1 (fun {p e R s m args below meth c H locs cells slots L S1 M1 r} C hH hL hM hf => ?_) hlen1 hc kk
  have hts := C.2.2.2.2.2.1
  obtain ⟨m1, m2, m3, m4, m5, m6⟩ := hmi
  have hgood : ∀ w ∈ [Cond.code mj.1 mj.2.1 mj.2.2.1 mj.2.2.2], ∀ (a' : Array Value) (U : State), s.WarmedH U.vm → w.before a' U = true := by
    intro w hw a' U hW
    rw [List.mem_singleton.mp hw]
    exact zwarm hW hts _ m1
  have hstk : (F0 m pc L (st0.map (zsh E.2.2.2))).stack = (as.map (zsh E.2.2.2)).reverse ++ st.map (zsh E.2.2.2) := by
    show st0.map (zsh E.2.2.2) = _
    rw [hst]
    simp
  have hpre : PreS s H (va_Pc (as.map (zsh E.2.2.2)) (zPre E S M)) (as.map (zsh E.2.2.2)) := ⟨zPre_blind, fun U hU hW => ⟨rfl, zPre_at C hH hU hW⟩⟩
  have hrm' : 2 * (F0 m pc L (st0.map (zsh E.2.2.2))).monitorRoom + ((st.map (zsh E.2.2.2)).map fun v => v.category).sum ≤ 8 := lv_room (by rw [zcat]; exact hrm)
  have hR := zroom C hdd m5 S S1
  rcases hl with hl | ⟨host, hl⟩
  · exact va_runS (Ts := ztbl) (own := mi.1.cls) (As := as.map (zsh E.2.2.2)) (n := as.length) ⟨C.1, C.2.1, C.2.2.2.1, C.2.2.2.2.1, hts⟩ hM ⟨⟨rfl, rfl, hR.1, hR.2, hgood, List.mem_singleton.mpr rfl, hts _ m1, hts _ m2, m3, zparams m4, hts _ hl⟩, hts _ hw1⟩ hpre rfl (by simp) hL.1 hstk hrm' hd hf
  · exact va_runSN (Ts := ztbl) (own := mi.1.cls) (host := host) (As := as.map (zsh E.2.2.2)) (n := as.length) ⟨C.1, C.2.1, C.2.2.2.1, C.2.2.2.2.1, hts⟩ hM ⟨⟨⟨rfl, rfl, hR.1, hR.2, hgood, List.mem_singleton.mpr rfl⟩, hts _ m1, hts _ m2, m3, zparams m4, hts _ hl⟩, hts _ hw1, trivial⟩ hpre rfl (by simp) hL.1 hstk hrm' hd hf
/-- a constructor -/
theorem z_callI (hmi : zMI mj as.length) (hret : mj.2.2.2 = none) (hin : mj.1.name = "<init>") (hw1 : Cond.instanceMethod mj.1 ∈ ztbl) (hl : zML mi.1.cls index mj.1) (hd : decode mi.2.1 pc = .ok (.invokespecial index, 3)) (hdd : d' + 1 ≤ d)
    (hst : st0 = as.reverse ++ .ref a :: st) (hrm : (st.map fun v => v.category).sum ≤ 8) (hlen1 : ((Value.ref a :: as).flatMap zsl1).length ≤ mj.2.2.1)
    (hc : zW E mj d' S M 0 (zent (.ref a :: as) mj.2.2.1) [] Ψ) (kk : ∀ r S1 M1, Ψ r S1 M1 → zW E mi d S1 M1 (pc + 3) ls (r.toList ++ st) Φ) : zW E mi d S M pc ls st0 Φ := by
  refine z_call0 (st1 := .ref a :: as) hmi (by simp only [List.flatMap_cons, List.length_append] at hlen1; omega) (fun {p e R s m args below meth c H locs cells slots L S1 M1 r} C hH hL hM hf => ?_) hlen1 hc kk
  have hts := C.2.2.2.2.2.1
  obtain ⟨m1, m2, m3, m4, m5, m6⟩ := hmi
  have hgood : ∀ w ∈ [Cond.code mj.1 mj.2.1 mj.2.2.1 mj.2.2.2], ∀ (a' : Array Value) (U : State), s.WarmedH U.vm → w.before a' U = true := by
    intro w hw a' U hW
    rw [List.mem_singleton.mp hw]
    exact zwarm hW hts _ m1
  have hstk : (F0 m pc L (st0.map (zsh E.2.2.2))).stack = (as.map (zsh E.2.2.2)).reverse ++ .ref (E.2.2.2 + a) :: st.map (zsh E.2.2.2) := by
    show st0.map (zsh E.2.2.2) = _
    rw [hst]
    simp [zsh]
  have hpre : PreS s H (va_Pc ((Value.ref a :: as).map (zsh E.2.2.2)) (zPre E S M)) (.ref (E.2.2.2 + a) :: as.map (zsh E.2.2.2)) :=
    ⟨zPre_blind, fun U hU hW => ⟨rfl, zPre_at C hH hU hW⟩⟩
  have hrm' : 2 * (F0 m pc L (st0.map (zsh E.2.2.2))).monitorRoom + ((st.map (zsh E.2.2.2)).map fun v => v.category).sum ≤ 8 := lv_room (by rw [zcat]; exact hrm)
  have hR := zroom C hdd m5 S S1
  rw [hret] at m1 hM hgood
  rcases hl with hl | ⟨host, hl⟩
  · exact va_runI (Ts := ztbl) (own := mi.1.cls) (b := E.2.2.2 + a) (As := as.map (zsh E.2.2.2)) (n := as.length) ⟨C.1, C.2.1, C.2.2.2.1, C.2.2.2.2.1, hts⟩ hM ⟨⟨rfl, rfl, hR.1, hR.2, hgood, List.mem_singleton.mpr rfl, hts _ m1, hts _ m2, m3, zparams m4, hts _ hl⟩, hin, hts _ hw1⟩ hpre rfl (by simp) hL.1 hstk hrm' hd hf
  · exact va_runIN (Ts := ztbl) (own := mi.1.cls) (host := host) (b := E.2.2.2 + a) (As := as.map (zsh E.2.2.2)) (n := as.length) ⟨C.1, C.2.1, C.2.2.2.1, C.2.2.2.2.1, hts⟩ hM ⟨⟨⟨rfl, rfl, hR.1, hR.2, hgood, List.mem_singleton.mpr rfl⟩, hts _ m1, hts _ m2, m3, zparams m4, hts _ hl⟩, hin, hts _ hw1⟩ hpre rfl (by simp) hL.1 hstk hrm' hd hf
theorem z_objInit (hw1 : Cond.methodLink mi.1.cls index objectInit ∈ ztbl) (hw2 : Cond.instanceMethod objectInit ∈ ztbl) (hw3 : Cond.code objectInit ⟨#[0xb1]⟩ 1 none ∈ ztbl) (hd : decode mi.2.1 pc = .ok (.invokespecial index, 3)) (hd1 : 1 ≤ d) (hrm : (st.map fun v => v.category).sum ≤ 8) (kk : zW E mi d S M (pc + 3) ls st Φ) : zW E mi d S M pc ls (.ref a :: st) Φ :=
  zW_step (fun {p e R s m args below meth c H locs cells slots Q L} C hL k1 => by
    have hts := C.2.2.2.2.2.1
    have h1 := C.2.2.2.2.2.2.2.2.1
    have h2 := C.2.2.2.2.2.2.2.2.2.1
    refine W.objInit C.1 C.2.1 C.2.2.2.2.1 (hts _ hw1) (hts _ hw2) (hts _ hw3) rfl (by rw [C.2.2.2.1]; exact hL.1) rfl hd (by omega) ?_ (k1 L hL)
    show 2 * 0 + ((st.map (zsh E.2.2.2)).map fun v => v.category).sum + 12 ≤ R.locals
    rw [zcat]
    omega) kk
end ZN
