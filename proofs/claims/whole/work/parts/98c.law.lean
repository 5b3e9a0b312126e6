/-! THE CLAIM OUT OF ONE WALK OF THE LAW'S BODY. Your part is whole_start (and what it stands on); all else here is the same for every law, but numbers. -/
def R_law : String := "HeadSplitsLaw"
def lw_P (b : Addr) (xs : List Int32) (args : Array Value) (s : State) : Prop := args = #[.ref b] ∧ s.IntsAt b xs ∧ xs.length ≤ 2048 ∧ (Jvm.Cond.and given_1 narrow_1).before args s = true
def lw_Q (_ : Array Value) (s : State) (o : Outcome) (t : State) : Prop := o = .returned (some (.int 1)) ∧ Framed s o t [] 600000 7302250
def lw_Z (below : List Frame) (a : Array Value) (s : State) : State → Prop := fun t => ∃ o, t.status = .running ∧ Ended t below o ∧ lw_Q a s o t
/-- the law's own end, with 1 on the stack, nothing written that was there before, its room as the claim has it -/
theorem lw_ret {p : Program} {l : Launch} {e : Env} {s : State} {m : MethodId} {below : List Frame} {meth : Method} {c : Code} {b : Nat} (hx : p.tables.exec = Jvm.exec) (hb : c.code = code) (hr : meth.sig.returnType = ret) (hlocks : meth.locks = false) {pc : Nat} {H : Heap} {ls : Array Slot} (hdg : decode code pc = .ok (.ireturn, 1)) : W p l e room_1 s m #[Value.ref b] below meth c H [] 600000 7302250 (lw_Z below #[Value.ref b] s) (F0 m pc ls [.int 1]) := by
  intro T hT X
  obtain ⟨fs, hret, hrun, hended, hW, hframe⟩ := X.leave (v := some (.int 1)) (hlocks := hlocks) (fun h => by rw [hr] at h; cases h)
  have hmeth' : T.vm.method? m = some meth := X.method'
  refine ⟨T.setFrames fs, ?_, .returned (some (.int 1)), hrun, hended, rfl, ⟨_, rfl⟩, hW, hframe⟩
  jvm_step X.here [X.here.top, hx, hb, hdg, hmeth', hr, ret, narrow_b1]
  (try refine ⟨rfl, ?_⟩); (try refine ⟨rfl, ?_⟩)
  first | (intro acts; rw [hret _ acts rfl rfl rfl]) | rw [hret _ _ rfl rfl rfl]
  exact Steps.refl _
/-- what holds at the law's entry: the machine, the code, the tables' words (any of lw_tbl by 'hts w (by decide +kernel)'), the script of L ints xs at the cell b, what the Statement gives of the start (any of its parts by flat_of_before) -/
def lw_At (p : Program) (s : State) (m : MethodId) (meth : Method) (c : Code) (b L : Nat) (xs : Nat → Int32) : Prop :=
  p.tables.exec = Jvm.exec ∧ c.code = code ∧ meth.sig.returnType = ret ∧ c.maxLocals = 4 ∧ s.vm.findClass R_law = some m.cls ∧ (∀ w ∈ lw_tbl, w.before #[Value.ref b] s = true) ∧ va_X b L xs s s.heap ∧ b < s.heap.size ∧ meth.locks = false ∧ (Jvm.Cond.and given_1 narrow_1).before #[Value.ref b] s = true
/-! the law: what it calls -/
theorem zt_lw {args : Array Value} {s : State} (h : ∀ w ∈ lw_tbl, w.before args s = true) : ∀ w ∈ ztbl, w.before args s = true := fun w hw => h w (List.mem_filter.mp hw).1
theorem kn_of {args : Array Value} {s : State} {own : String} {i ci : Nat} (hts : ∀ w ∈ ztbl, w.before args s = true) (h : zNL own i ci) : ∃ (cC : ClassId) (iS : Nat → Nat), ∀ q, zCl[ci]? = some q → u_Kn s q.1 q.2.1 q.2.2 cC iS := by
  obtain ⟨C, T, N, hc, -, h2, -⟩ := h
  obtain ⟨cC, iS, hk⟩ := u_known (n := N) hts (zg_in hc) (hts _ h2)
  refine ⟨cC, iS, fun q hq => ?_⟩
  rw [hc] at hq
  cases hq
  exact hk
theorem kn_all {args : Array Value} {s : State} (hts : ∀ w ∈ ztbl, w.before args s = true) (ci : Nat) : ∃ (cC : ClassId) (iS : Nat → Nat), ∀ q, zCl[ci]? = some q → u_Kn s q.1 q.2.1 q.2.2 cC iS := by
  match ci with
  | 0 => exact kn_of hts n_H_53
  | 1 => exact kn_of hts n_H_18
  | 2 => exact kn_of hts n_Book_23
  | 3 => exact kn_of hts n_H_44
  | 4 => exact kn_of hts n_Net_9
  | 5 => exact kn_of hts n_H_9
  | 6 => exact kn_of hts n_H_31
  | 7 => exact kn_of hts n_H_69
  | 8 => exact kn_of hts n_H_62
  | 9 => exact kn_of hts n_Book_30
  | 10 => exact kn_of hts n_Law_7
  | 11 => exact kn_of hts n_Law_10
  | n + 12 =>
    obtain ⟨cC, iS, -⟩ := kn_of hts n_H_53
    exact ⟨cC, iS, fun q hq => by simp [zCl] at hq⟩
theorem zK_start {args : Array Value} {s : State} (hts : ∀ w ∈ ztbl, w.before args s = true) : ∃ (D : va_G) (cs : ClassId × ClassId × ClassId), ∀ (l : Launch) (B : Nat), va_K D zCl (ztys (l, D, cs, B)) s := by
  obtain ⟨cI, kI, mI, hI1, hI2, hI3⟩ := Cond.arrayClass_spec (hts _ a_int)
  obtain ⟨cZ, kZ, mZ, hZ1, hZ2, hZ3⟩ := Cond.arrayClass_spec (hts _ a_bool)
  obtain ⟨mN, cN, kN, hN1, hN2, hN3, hN4, hN5⟩ := Cond.arrayOver_spec (hts _ a_node)
  refine ⟨(fun c => (kn_all hts c).choose, fun c => (kn_all hts c).choose_spec.choose), (cI, cZ, cN), fun l B => ⟨fun c q hq => (kn_all hts c).choose_spec.choose_spec q hq, fun k q hq => ?_⟩⟩
  match k, hq with
  | 0, hq =>
    cases hq
    exact ⟨fun n z => ⟨fun k h => (by cases h), kI, hI2, mI, hI3⟩, hI1⟩
  | 1, hq =>
    cases hq
    exact ⟨fun n z => ⟨fun k h => (by cases h), kZ, hZ2, mZ, hZ3⟩, hZ1⟩
  | 2, hq =>
    cases hq
    exact ⟨fun n z => ⟨fun k h => (by cases h), kN, hN3, mN, hN4⟩, kN, mN, hN3, hN4, hN1, hN5⟩
  | n + 3, hq => simp [ztys] at hq
def lF (E : ZE) (p : Program) (s : State) (m : MethodId) (meth : Method) (c : Code) (b L : Nat) (xs : Nat → Int32) : Prop := lw_At p s m meth c b L xs ∧ va_K E.2.1 zCl (ztys E) s ∧ E.2.2.2 = s.heap.size
section LAW
variable {p : Program} {e : Env} {s : State} {m : MethodId} {below : List Frame} {meth : Method} {c : Code} {b L : Nat} {xs : Nat → Int32} {E : ZE} {H : Heap} {locs : List Loc} {ls : Array Slot} {Q : State → Prop} {S : ZS} {M : ZM} {pc : Nat} {rest : List Value} {mj : ZI} {d' : Nat} {as : List Value} {a ci index : Nat} {Ψ : Option Value → ZS → ZM → Prop} {C0 : String} {T : u_T} {N : Nat}
theorem lrun_go {cells slots mc ms : Nat} {st0 : List Value} {S1 : ZS} {M1 : ZM} {r : Option Value} {av : Array Value}
    (hr : va_Run p E.1 e room_1 s m #[Value.ref b] below meth c H locs cells slots mc ms (F0 m pc ls st0) rest (zQ E S1 M1 r av) (fun q => E.2.2.2 ≤ q)) (hH : zH E S M s.heap H locs)
    (kk : ∀ H' locs', zH E S1 M1 s.heap H' locs' → W p E.1 e room_1 s m #[Value.ref b] below meth c H' locs' (cells + mc) (slots + ms) Q (F0 m (pc + 3) ls ((r.map (zsh E.2.2.2)).toList ++ rest))) : W p E.1 e room_1 s m #[Value.ref b] below meth c H locs cells slots Q (F0 m pc ls st0) := by
  intro T hT X
  obtain ⟨v, st₀, t, T', L2, h0, X', hL, e1, e2, ⟨hv, hP, hz, hF⟩, g⟩ := hr T hT X
  have hv := Outcome.returned.inj hv
  subst hv
  have hH' : zH E S1 M1 s.heap T'.heap (locs ++ L2) := by
    refine ⟨by rw [e1]; exact hP, by rw [e1]; exact hz, ?_, fun q h1 h2 => ?_, fun q hq => ?_⟩
    · rw [e1]
      have := hF.1
      rw [h0] at this
      exact Nat.le_trans hH.2.2.1 this
    · rw [e1]
      have h3 := hF.2 q (by rw [h0]; exact Nat.lt_of_lt_of_le h1 hH.2.2.1) h2
      rw [h3, h0]
      exact hH.2.2.2.1 q h1 h2
    · rcases List.mem_append.mp hq with h | h
      · exact hH.2.2.2.2 q h
      · exact hL q h
  obtain ⟨t2, a1, b1⟩ := kk T'.heap (locs ++ L2) hH' T' rfl X'
  exact ⟨t2, g t2 a1, b1⟩
theorem lPre {U : State} (F : lF E p s m meth c b L xs) (hH : zH E S M s.heap H locs) (hU : U.heap = H) (hW : s.WarmedH U.vm) : zPre E S M U :=
  ⟨by rw [hU]; exact hH.2.1, by rw [hU]; exact hH.1, va_K.moved hW.alike F.2.1, zwarm hW (zt_lw F.1.2.2.2.2.2.1)⟩
theorem lroom (hdd : d' ≤ 9) (h17 : mj.2.2.1 ≤ 17) (S S1 : ZS) : (zrm d' S S1).frames + 1 ≤ room_1.frames ∧ 8 + (mj.2.2.1 + 11) + (zrm d' S S1).locals ≤ room_1.locals := by
  refine ⟨?_, ?_⟩
  · show d' + 1 ≤ 10
    omega
  · show 8 + (mj.2.2.1 + 11) + 36 * d' ≤ 368
    omega
/-- the law calls a method -/
theorem lcallV (F : lF E p s m meth c b L xs) (hH : zH E S M s.heap H locs) (hls : ls.size = 4) (hmi : zMI mj as.length) (hcl : zCl[ci]? = some (C0, T, N) ∧ mj.1.cls = C0) (hw1 : Cond.instanceMethod mj.1 ∈ ztbl) (hw2 : Cond.selects mj.1.cls mj.1 mj.1 ∈ ztbl) (hl : zML R_law index mj.1) (hd : decode code pc = .ok (.invokevirtual index, 3)) (hdd : d' ≤ 9) (ha : zA S a ci)
    (hrm : (rest.map fun v => v.category).sum ≤ 8) (hlen1 : ((Value.ref a :: as).flatMap zsl1).length ≤ mj.2.2.1) (hc : zW E mj d' S M 0 (zent (.ref a :: as) mj.2.2.1) [] Ψ) (hroom : ∀ r S1 M1, Ψ r S1 M1 → S1.1 ≤ 600000 ∧ zsl S1 ≤ 7302250)
    (kk : ∀ r S1 M1, Ψ r S1 M1 → ∀ H' locs', zH E S1 M1 s.heap H' locs' → W p E.1 e room_1 s m #[Value.ref b] below meth c H' locs' S1.1 (zsl S1) Q (F0 m (pc + 3) ls ((r.map (zsh E.2.2.2)).toList ++ rest))) :
    W p E.1 e room_1 s m #[Value.ref b] below meth c H locs S.1 (zsl S) Q (F0 m pc ls ((as.map (zsh E.2.2.2)).reverse ++ .ref (E.2.2.2 + a) :: rest)) := by
  obtain ⟨S1, M1, r, hΨ, hn1, hz1, hM⟩ := z_met hmi.2.2.2.2.2 hlen1 hc
  have hrm1 := hroom r S1 M1 hΨ
  have hts := zt_lw F.1.2.2.2.2.2.1
  obtain ⟨hx, hb, hr, hml, hown, -, hX, hbl, hlocks, hgv⟩ := F.1
  obtain ⟨hc1, hc2⟩ := hcl
  obtain ⟨hnf, h12⟩ := zg_nf hc1
  have he : (zws E S M)[a]? = some (E.2.2.2 + a, .inr (ci, (List.range N).map (zpv E.2.2.2 S M a))) := by rw [zws_get E S M ha.1, zce_o ha.2 h12, hnf]
  have hrecv := va_recv F.2.1 hH.1 hc1 he
  obtain ⟨m1, m2, m3, m4, m5, m6⟩ := hmi
  have hgood : ∀ w ∈ [Cond.code mj.1 mj.2.1 mj.2.2.1 mj.2.2.2], ∀ (a' : Array Value) (U : State), s.WarmedH U.vm → w.before a' U = true := by
    intro w hw a' U hW
    rw [List.mem_singleton.mp hw]
    exact zwarm hW hts _ m1
  have hpre : PreV s H mj.1.cls (E.2.2.2 + a) (va_Pc ((Value.ref a :: as).map (zsh E.2.2.2)) (zPre E S M)) (as.map (zsh E.2.2.2)) :=
    ⟨zPre_blind, by rw [hc2]; exact hrecv, fun U hU hW => ⟨rfl, lPre F hH hU hW⟩⟩
  have hrm' : 2 * (F0 m pc ls ((as.map (zsh E.2.2.2)).reverse ++ .ref (E.2.2.2 + a) :: rest)).monitorRoom + (rest.map fun v => v.category).sum ≤ 8 := lv_room hrm
  have hR := lroom (mj := mj) hdd m5 S S1
  have hf : S.1 + (S1.1 - S.1) ≤ room_1.cells ∧ zsl S + (zsl S1 - zsl S) ≤ room_1.slots := by
    refine ⟨?_, ?_⟩
    · show S.1 + (S1.1 - S.1) ≤ 600000
      omega
    · show zsl S + (zsl S1 - zsl S) ≤ 7302250
      omega
  have fin : va_Run p E.1 e room_1 s m #[Value.ref b] below meth c H locs S.1 (zsl S) (S1.1 - S.1) (zsl S1 - zsl S) (F0 m pc ls ((as.map (zsh E.2.2.2)).reverse ++ .ref (E.2.2.2 + a) :: rest)) rest (zQ E S1 M1 r ((Value.ref a :: as).map (zsh E.2.2.2)).toArray) (fun q => E.2.2.2 ≤ q) → W p E.1 e room_1 s m #[Value.ref b] below meth c H locs S.1 (zsl S) Q (F0 m pc ls ((as.map (zsh E.2.2.2)).reverse ++ .ref (E.2.2.2 + a) :: rest)) := fun hrun => by
    refine lrun_go hrun hH (fun H' locs' hH' => ?_)
    have := kk r S1 M1 hΨ H' locs' hH'
    rw [show S.1 + (S1.1 - S.1) = S1.1 by omega, show zsl S + (zsl S1 - zsl S) = zsl S1 by omega]
    exact this
  rcases hl with hl | ⟨host, hl⟩
  · exact fin (va_runV (Ts := ztbl) (own := R_law) (C := mj.1.cls) (b := E.2.2.2 + a) (As := as.map (zsh E.2.2.2)) (n := as.length) ⟨hx, hb, hml, hown, hts⟩ hM ⟨⟨rfl, rfl, hR.1, hR.2, hgood, List.mem_singleton.mpr rfl, hts _ m1, hts _ m2, m3, zparams m4, hts _ hl⟩, hts _ hw1, hts _ hw2⟩ hpre rfl (by simp) hls rfl hrm' hd hf)
  · exact fin (va_runVN (Ts := ztbl) (own := R_law) (C := mj.1.cls) (host := host) (b := E.2.2.2 + a) (As := as.map (zsh E.2.2.2)) (n := as.length) ⟨hx, hb, hml, hown, hts⟩ hM ⟨⟨⟨rfl, rfl, hR.1, hR.2, hgood, List.mem_singleton.mpr rfl⟩, hts _ m1, hts _ m2, m3, zparams m4, hts _ hl⟩, hts _ hw1, hts _ hw2⟩ hpre rfl (by simp) hls rfl hrm' hd hf)
/-- the law calls a constructor -/
theorem lcallI (F : lF E p s m meth c b L xs) (hH : zH E S M s.heap H locs) (hls : ls.size = 4) (hmi : zMI mj as.length) (hret : mj.2.2.2 = none) (hin : mj.1.name = "<init>") (hw1 : Cond.instanceMethod mj.1 ∈ ztbl) (hl : zML R_law index mj.1) (hd : decode code pc = .ok (.invokespecial index, 3)) (hdd : d' ≤ 9)
    (hrm : (rest.map fun v => v.category).sum ≤ 8) (hlen1 : ((Value.ref a :: as).flatMap zsl1).length ≤ mj.2.2.1) (hc : zW E mj d' S M 0 (zent (.ref a :: as) mj.2.2.1) [] Ψ) (hroom : ∀ r S1 M1, Ψ r S1 M1 → S1.1 ≤ 600000 ∧ zsl S1 ≤ 7302250)
    (kk : ∀ r S1 M1, Ψ r S1 M1 → ∀ H' locs', zH E S1 M1 s.heap H' locs' → W p E.1 e room_1 s m #[Value.ref b] below meth c H' locs' S1.1 (zsl S1) Q (F0 m (pc + 3) ls ((r.map (zsh E.2.2.2)).toList ++ rest))) :
    W p E.1 e room_1 s m #[Value.ref b] below meth c H locs S.1 (zsl S) Q (F0 m pc ls ((as.map (zsh E.2.2.2)).reverse ++ .ref (E.2.2.2 + a) :: rest)) := by
  obtain ⟨S1, M1, r, hΨ, hn1, hz1, hM⟩ := z_met hmi.2.2.2.2.2 hlen1 hc
  have hrm1 := hroom r S1 M1 hΨ
  have hts := zt_lw F.1.2.2.2.2.2.1
  obtain ⟨hx, hb, hr, hml, hown, -, hX, hbl, hlocks, hgv⟩ := F.1
  obtain ⟨m1, m2, m3, m4, m5, m6⟩ := hmi
  have hgood : ∀ w ∈ [Cond.code mj.1 mj.2.1 mj.2.2.1 mj.2.2.2], ∀ (a' : Array Value) (U : State), s.WarmedH U.vm → w.before a' U = true := by
    intro w hw a' U hW
    rw [List.mem_singleton.mp hw]
    exact zwarm hW hts _ m1
  have hpre : PreS s H (va_Pc ((Value.ref a :: as).map (zsh E.2.2.2)) (zPre E S M)) (.ref (E.2.2.2 + a) :: as.map (zsh E.2.2.2)) :=
    ⟨zPre_blind, fun U hU hW => ⟨rfl, lPre F hH hU hW⟩⟩
  have hrm' : 2 * (F0 m pc ls ((as.map (zsh E.2.2.2)).reverse ++ .ref (E.2.2.2 + a) :: rest)).monitorRoom + (rest.map fun v => v.category).sum ≤ 8 := lv_room hrm
  have hR := lroom (mj := mj) hdd m5 S S1
  have hf : S.1 + (S1.1 - S.1) ≤ room_1.cells ∧ zsl S + (zsl S1 - zsl S) ≤ room_1.slots := by
    refine ⟨?_, ?_⟩
    · show S.1 + (S1.1 - S.1) ≤ 600000
      omega
    · show zsl S + (zsl S1 - zsl S) ≤ 7302250
      omega
  have fin : va_Run p E.1 e room_1 s m #[Value.ref b] below meth c H locs S.1 (zsl S) (S1.1 - S.1) (zsl S1 - zsl S) (F0 m pc ls ((as.map (zsh E.2.2.2)).reverse ++ .ref (E.2.2.2 + a) :: rest)) rest (zQ E S1 M1 r ((Value.ref a :: as).map (zsh E.2.2.2)).toArray) (fun q => E.2.2.2 ≤ q) → W p E.1 e room_1 s m #[Value.ref b] below meth c H locs S.1 (zsl S) Q (F0 m pc ls ((as.map (zsh E.2.2.2)).reverse ++ .ref (E.2.2.2 + a) :: rest)) := fun hrun => by
    refine lrun_go hrun hH (fun H' locs' hH' => ?_)
    have := kk r S1 M1 hΨ H' locs' hH'
    rw [show S.1 + (S1.1 - S.1) = S1.1 by omega, show zsl S + (zsl S1 - zsl S) = zsl S1 by omega]
    exact this
  rw [hret] at m1 hM hgood
  rcases hl with hl | ⟨host, hl⟩
  · exact fin (va_runI (Ts := ztbl) (own := R_law) (b := E.2.2.2 + a) (As := as.map (zsh E.2.2.2)) (n := as.length) ⟨hx, hb, hml, hown, hts⟩ hM ⟨⟨rfl, rfl, hR.1, hR.2, hgood, List.mem_singleton.mpr rfl, hts _ m1, hts _ m2, m3, zparams m4, hts _ hl⟩, hin, hts _ hw1⟩ hpre rfl (by simp) hls rfl hrm' hd hf)
  · exact fin (va_runIN (Ts := ztbl) (own := R_law) (host := host) (b := E.2.2.2 + a) (As := as.map (zsh E.2.2.2)) (n := as.length) ⟨hx, hb, hml, hown, hts⟩ hM ⟨⟨⟨rfl, rfl, hR.1, hR.2, hgood, List.mem_singleton.mpr rfl⟩, hts _ m1, hts _ m2, m3, zparams m4, hts _ hl⟩, hin, hts _ hw1⟩ hpre rfl (by simp) hls rfl hrm' hd hf)
/-- the law makes an object -/
theorem lnew (F : lF E p s m meth c b L xs) (hH : zH E S M s.heap H locs) (hl : zNL R_law index ci) (hd : decode code pc = .ok (.new index, 3)) (h6 : S.1 < 600000) (h7 : zsl S + 100 ≤ 7302250) (hci : znf ci ≤ 100)
    (kk : ∀ H', zH E (zadd S ci 0) (zM0 S M) s.heap H' locs → W p E.1 e room_1 s m #[Value.ref b] below meth c H' locs (zadd S ci 0).1 (zsl (zadd S ci 0)) Q (F0 m (pc + 3) ls (.ref (E.2.2.2 + S.1) :: rest))) :
    W p E.1 e room_1 s m #[Value.ref b] below meth c H locs S.1 (zsl S) Q (F0 m pc ls rest) := by
  obtain ⟨C0, T, N, hc, hw1, hw2, hw3⟩ := hl
  obtain ⟨hnf, h12⟩ := zg_nf hc
  have hts := zt_lw F.1.2.2.2.2.2.1
  obtain ⟨hx, hb, hr, hml, hown, -, hX, hbl, hlocks, hgv⟩ := F.1
  have hKn := F.2.1.1 ci _ hc
  obtain ⟨ty0, hty0, hdef⟩ := zg_def hc
  have ezs := zadd_sl S ci 0
  rw [if_pos h12, hnf] at ezs
  refine W.newcK hx hb hown (hts _ hw1) (hts _ hw2) (hts _ hw3) rfl hd (by show S.1 + 1 ≤ 600000; omega) (by show zsl S + N ≤ 7302250; omega) hKn.2.1 hH.2.1 fun H1 kC hkC e1 z1 o1 => ?_
  have := kk H1 (zH_push hH z1 o1 ?_)
  · rw [ezs] at this
    exact this
  · rw [zce_o (show (zadd S ci 0).2.1 S.1 = ci by simp [zadd, zup]) h12, hnf]
    refine ⟨_, hc, (u_born ty0 hts (zg_in hc) hKn hkC e1 hty0).to (fun k hk => ?_)⟩
    have hk' : k < N := hk
    rw [hdef k hk']
    simp only [vp_V, List.getD_eq_getElem?_getD, List.getElem?_map, List.getElem?_range hk', Option.map_some, Option.getD_some, zpv]
    simp [zadd, zM0, zup, zrv, va_rf]
end LAW
