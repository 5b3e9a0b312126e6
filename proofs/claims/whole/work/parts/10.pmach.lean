/-! A plain machine over a flat memory: what stands in the world is told by S (how many cells, the kind of each, its length, its references: all that seldom changes) and by M (the numbers). -/
def zsh (B : Nat) : Value → Value
  | .ref a => .ref (B + a)
  | .int x => .int x
  | .long x => .long x
  | .float x => .float x
  | .double x => .double x
  | .null => .null
  | .retAddr x => .retAddr x
abbrev ZS : Type := Nat × (Nat → Nat) × (Nat → Nat) × (Nat → Nat → Option Nat)
abbrev ZM : Type := Nat → Nat → Int32
abbrev ZE : Type := Launch × va_G × (ClassId × ClassId × ClassId) × Nat
abbrev ZI : Type := MethodName × ByteArray × Nat × Option FieldType
def zrft : List (List Bool) := [[true, true, true, false], [true, true, true, true, false, false], [true], [true, true, true, true, true, true, true, true, false, false, false, false, false], [false, true, true, true, true, false, false, false, false, false, false], [true, false], [true, true, true, true, true, false, false], [true, true], [true, true, true, true, false], [true, true, true], [true, true, true, true, true, true, true, true, true, true, true, true, false, false], [true, true, true, true, true, true, true, false, true, true, true, true, true, false, true, true, true, true, true, true, true, false, false, true, true, true, true, false, false, false, false, true, true, false, true, true, true, true, true, true, true, false, false]]
def znf (ci : Nat) : Nat := ((zrft[ci]?).getD []).length
def zrf (ci k : Nat) : Bool := (((zrft[ci]?).getD [])[k]?).getD false
def zrv (B : Nat) (o : Option Nat) : Value := va_rf (o.map (fun a => B + a))
def zpv (B : Nat) (S : ZS) (M : ZM) (a k : Nat) : Value := if zrf (S.2.1 a) k = true then zrv B (S.2.2.2 a k) else .int (M a k)
def zce (E : ZE) (S : ZS) (M : ZM) (a : Nat) : va_E :=
  if S.2.1 a < 12 then .inr (S.2.1 a, (List.range (znf (S.2.1 a))).map (zpv E.2.2.2 S M a))
  else if S.2.1 a = 12 then .inl (E.2.2.1.1, S.2.2.1 a, .inl (M a))
  else if S.2.1 a = 13 then .inl (E.2.2.1.2.1, S.2.2.1 a, .inl (M a))
  else .inl (E.2.2.1.2.2, S.2.2.1 a, .inr (.inr (.inr (.inr (fun k => (S.2.2.2 a k).map (fun x => E.2.2.2 + x))))))
def zws (E : ZE) (S : ZS) (M : ZM) : va_W := (List.range S.1).map (fun a => (E.2.2.2 + a, zce E S M a))
def ztys (E : ZE) : List (ClassId × FieldType) := [(E.2.2.1.1, .int), (E.2.2.1.2.1, .boolean), (E.2.2.1.2.2, .object "HeadSplits$Node")]
def zszc (S : ZS) (a : Nat) : Nat := if S.2.1 a < 12 then znf (S.2.1 a) else S.2.2.1 a
def zsl (S : ZS) : Nat := ((List.range S.1).map (zszc S)).sum
def zms (M : ZM) (a k : Nat) (v : Int32) : ZM := fun p q => if p = a ∧ q = k then v else M p q
def zup {α : Type} (f : Nat → α) (a : Nat) (v : α) : Nat → α := fun p => if p = a then v else f p
theorem zsh_cat (B : Nat) (v : Value) : (zsh B v).category = v.category := by cases v <;> rfl
theorem zsh_rf (B : Nat) (o : Option Nat) : zsh B (va_rf o) = zrv B o := by cases o <;> rfl
theorem zws_len (E : ZE) (S : ZS) (M : ZM) : (zws E S M).length = S.1 := by simp [zws]
theorem zws_get (E : ZE) (S : ZS) (M : ZM) {a : Nat} (h : a < S.1) : (zws E S M)[a]? = some (E.2.2.2 + a, zce E S M a) := by
  simp [zws, h]
theorem zws_inv {E : ZE} {S : ZS} {M : ZM} {k : Nat} {q : Nat × va_E} (h : (zws E S M)[k]? = some q) : k < S.1 ∧ q = (E.2.2.2 + k, zce E S M k) := by
  have hk : k < S.1 := by
    have := (List.getElem?_eq_some_iff.mp h).1
    rwa [zws_len] at this
  rw [zws_get E S M hk] at h
  exact ⟨hk, (Option.some.inj h).symm⟩
theorem zws_D (E : ZE) (S : ZS) (M : ZM) : va_D (fun q => E.2.2.2 ≤ q) (zws E S M) := by
  refine ⟨fun i j x y hi hj e => ?_, fun k q hk => ?_⟩
  · rw [(zws_inv hi).2, (zws_inv hj).2] at e
    exact Nat.add_left_cancel e
  · rw [(zws_inv hk).2]
    exact Nat.le_add_right _ _
theorem zws_eq {E : ZE} {S S' : ZS} {M M' : ZM} (hn : S'.1 = S.1) (h : ∀ b, b < S.1 → zce E S' M' b = zce E S M b) : zws E S' M' = zws E S M := by
  unfold zws
  rw [hn]
  exact List.map_congr_left (fun b hb => by rw [h b (List.mem_range.mp hb)])
theorem zws_set {E : ZE} {S S' : ZS} {M M' : ZM} {a : Nat} {e : va_E} (hn : S'.1 = S.1) (he : zce E S' M' a = e) (h : ∀ b, b < S.1 → b ≠ a → zce E S' M' b = zce E S M b) : (zws E S M).set a (E.2.2.2 + a, e) = zws E S' M' := by
  apply List.ext_getElem?
  intro i
  by_cases hi : i < S.1
  · rw [zws_get E S' M' (by rw [hn]; exact hi)]
    by_cases hia : i = a
    · subst hia
      rw [List.getElem?_set_self (by rw [zws_len]; exact hi), he]
    · rw [List.getElem?_set_ne (Ne.symm hia), zws_get E S M hi, h i hi hia]
  · rw [List.getElem?_eq_none (by rw [List.length_set, zws_len]; omega), List.getElem?_eq_none (by rw [zws_len, hn]; omega)]
theorem zws_push {E : ZE} {S S' : ZS} {M M' : ZM} {e : va_E} (hn : S'.1 = S.1 + 1) (he : zce E S' M' S.1 = e) (h : ∀ b, b < S.1 → zce E S' M' b = zce E S M b) : zws E S M ++ [(E.2.2.2 + S.1, e)] = zws E S' M' := by
  unfold zws
  rw [hn, List.range_succ, List.map_append]
  congr 1
  · exact List.map_congr_left (fun b hb => by rw [h b (List.mem_range.mp hb)])
  · simp [he]
theorem zce_o {E : ZE} {S : ZS} {M : ZM} {a ci : Nat} (h : S.2.1 a = ci) (hc : ci < 12) : zce E S M a = .inr (ci, (List.range (znf ci)).map (zpv E.2.2.2 S M a)) := by
  subst h
  simp [zce, hc]
theorem zce_i {E : ZE} {S : ZS} {M : ZM} {a : Nat} (h : S.2.1 a = 12) : zce E S M a = .inl (E.2.2.1.1, S.2.2.1 a, .inl (M a)) := by simp [zce, h]
theorem zce_z {E : ZE} {S : ZS} {M : ZM} {a : Nat} (h : S.2.1 a = 13) : zce E S M a = .inl (E.2.2.1.2.1, S.2.2.1 a, .inl (M a)) := by simp [zce, h]
theorem zce_r {E : ZE} {S : ZS} {M : ZM} {a : Nat} (h : S.2.1 a = 14) : zce E S M a = .inl (E.2.2.1.2.2, S.2.2.1 a, .inr (.inr (.inr (.inr (fun k => (S.2.2.2 a k).map (fun x => E.2.2.2 + x)))))) := by simp [zce, h]
theorem zce_congr {E : ZE} {S S' : ZS} {M M' : ZM} {b : Nat} (h1 : S'.2.1 b = S.2.1 b) (h2 : S'.2.2.1 b = S.2.2.1 b) (h3 : S'.2.2.2 b = S.2.2.2 b) (h4 : M' b = M b) : zce E S' M' b = zce E S M b := by
  have e : zpv E.2.2.2 S' M' b = zpv E.2.2.2 S M b := by
    funext k
    simp [zpv, h1, h3, h4]
  unfold zce
  rw [h1, h2, h3, h4, e]
theorem zms_self (M : ZM) (a k : Nat) (v : Int32) : zms M a k v a = zup (M a) k v := by
  funext q
  simp [zms, zup]
theorem zms_ne (M : ZM) {a b : Nat} (k : Nat) (v : Int32) (h : b ≠ a) : zms M a k v b = M b := by
  funext q
  simp [zms, h]
theorem zmap_set {N k : Nat} {f g : Nat → Value} {v : Value} (hk : g k = v) (h : ∀ j, j ≠ k → g j = f j) : ((List.range N).map f).set k v = (List.range N).map g := by
  apply List.ext_getElem?
  intro i
  by_cases hi : i < N
  · by_cases hik : i = k
    · subst hik
      rw [List.getElem?_set_self (by simpa using hi)]
      simp [hi, hk]
    · rw [List.getElem?_set_ne (Ne.symm hik)]
      simp [hi, h i hik]
  · rw [List.getElem?_eq_none (by simp; omega), List.getElem?_eq_none (by simp; omega)]
/-! the locals: by their numbers -/
def zL (B nL : Nat) (L : Array Slot) (ls : List (Option Value)) : Prop := L.size = nL ∧ lv_wf L ∧ ∀ (i : Nat) (v : Value), ls[i]? = some (some v) → L[i]? = some (.val (zsh B v))
def zal (B : Nat) (ls : List (Option Value)) : List (Nat × Value) := (List.range ls.length).filterMap (fun i => ((ls[i]?).join).map (fun v => (i, zsh B v)))
theorem zal_mem {B : Nat} {ls : List (Option Value)} {q : Nat × Value} : q ∈ zal B ls ↔ ∃ v, ls[q.1]? = some (some v) ∧ q.2 = zsh B v := by
  unfold zal
  rw [List.mem_filterMap]
  constructor
  · rintro ⟨i, -, h⟩
    cases hl : ls[i]? with
    | none => rw [hl] at h; cases h
    | some o =>
      rw [hl] at h
      cases o with
      | none => cases h
      | some v => cases h; exact ⟨v, hl, rfl⟩
  · rintro ⟨v, h, e⟩
    have hi := (List.getElem?_eq_some_iff.mp h).1
    refine ⟨q.1, List.mem_range.mpr hi, ?_⟩
    rw [h]
    obtain ⟨a, b⟩ := q
    subst e
    rfl
theorem zL.has {B nL : Nat} {L : Array Slot} {ls : List (Option Value)} (h : zL B nL L ls) : lv_has L nL (zal B ls) := by
  refine ⟨h.1, h.2.1, fun q hq => ?_⟩
  obtain ⟨v, h1, h2⟩ := zal_mem.mp hq
  rw [h2]
  exact h.2.2 q.1 v h1
def zok1 (ls : List (Option Value)) (i : Nat) : Bool := i == 0 || match ls[i - 1]? with
  | some (some v) => v.category == 1
  | _ => true
theorem zok1_spec {ls : List (Option Value)} {i j : Nat} {w : Value} (h : zok1 ls i = true) (hj : j + 1 = i) (hw : ls[j]? = some (some w)) : w.category = 1 := by
  subst hj
  unfold zok1 at h
  rw [Nat.add_sub_cancel, hw] at h
  simpa using h
theorem zL_st1 {B nL : Nat} {L' : Array Slot} {ls : List (Option Value)} {i : Nat} {v : Value} (hk : zok1 ls i = true)
    (h : lv_has L' nL ((i, zsh B v) :: (zal B ls).filter (fun q => !(q.1 == i) && !(q.1 + 1 == i && q.2.category == 2)))) : zL B nL L' (ls.set i (some v)) := by
  refine ⟨h.1, h.2.1, fun j w hj => ?_⟩
  by_cases hji : j = i
  · subst hji
    have hl : j < (ls.set j (some v)).length := (List.getElem?_eq_some_iff.mp hj).1
    rw [List.length_set] at hl
    rw [List.getElem?_set_self hl] at hj
    cases hj
    exact h.2.2 (j, zsh B v) List.mem_cons_self
  · rw [List.getElem?_set_ne (Ne.symm hji)] at hj
    refine h.2.2 (j, zsh B w) (List.mem_cons_of_mem _ (List.mem_filter.mpr ⟨zal_mem.mpr ⟨w, hj, rfl⟩, ?_⟩))
    by_cases h1 : j + 1 = i
    · have hc := zok1_spec hk h1 hj
      simp [hji, zsh_cat, hc]
    · simp [hji, h1]
theorem zL_st2 {B nL : Nat} {L' : Array Slot} {ls : List (Option Value)} {i : Nat} {v : Value} (hk : zok1 ls i = true)
    (h : lv_has L' nL ((i, zsh B v) :: (zal B ls).filter (fun q => !(q.1 == i) && (!(q.1 == i + 1) && !(q.1 + 1 == i && q.2.category == 2))))) : zL B nL L' ((ls.set i (some v)).set (i + 1) none) := by
  refine ⟨h.1, h.2.1, fun j w hj => ?_⟩
  by_cases hj1 : j = i + 1
  · subst hj1
    have hl : i + 1 < ((ls.set i (some v)).set (i + 1) none).length := (List.getElem?_eq_some_iff.mp hj).1
    rw [List.length_set] at hl
    rw [List.getElem?_set_self hl] at hj
    cases hj
  · rw [List.getElem?_set_ne (Ne.symm hj1)] at hj
    by_cases hji : j = i
    · subst hji
      have hl : j < (ls.set j (some v)).length := (List.getElem?_eq_some_iff.mp hj).1
      rw [List.length_set] at hl
      rw [List.getElem?_set_self hl] at hj
      cases hj
      exact h.2.2 (j, zsh B v) List.mem_cons_self
    · rw [List.getElem?_set_ne (Ne.symm hji)] at hj
      refine h.2.2 (j, zsh B w) (List.mem_cons_of_mem _ (List.mem_filter.mpr ⟨zal_mem.mpr ⟨w, hj, rfl⟩, ?_⟩))
      by_cases h1 : j + 1 = i
      · have hc := zok1_spec hk h1 hj
        simp [hji, hj1, zsh_cat, hc]
      · simp [hji, hj1, h1]
/-! a method's start -/
def zsl1 (v : Value) : List (Option Value) := if v.category = 2 then [some v, none] else [some v]
def zent (as : List Value) (n : Nat) : List (Option Value) := as.flatMap zsl1 ++ List.replicate (n - (as.flatMap zsl1).length) none
theorem zent_args {B : Nat} : ∀ (as : List Value) (o i : Nat) (v : Value), (as.flatMap zsl1)[i]? = some (some v) → (o + i, zsh B v) ∈ lv_args o (as.map (zsh B))
  | [], o, i, v, h => by simp at h
  | a :: as, o, i, v, h => by
    simp only [List.flatMap_cons, zsl1] at h
    simp only [List.map_cons, lv_args, zsh_cat]
    by_cases hc : a.category = 2
    · rw [if_pos hc] at h ⊢
      match i, h with
      | 0, h => cases h; exact List.mem_cons_self
      | 1, h => cases h
      | i + 2, h =>
        have h2 : (as.flatMap zsl1)[i]? = some (some v) := h
        have := zent_args (B := B) as (o + 2) i v h2
        rw [show o + (i + 2) = o + 2 + i by omega]
        exact List.mem_cons_of_mem _ this
    · rw [if_neg hc] at h ⊢
      match i, h with
      | 0, h => cases h; exact List.mem_cons_self
      | i + 1, h =>
        have h2 : (as.flatMap zsl1)[i]? = some (some v) := h
        have := zent_args (B := B) as (o + 1) i v h2
        rw [show o + (i + 1) = o + 1 + i by omega]
        exact List.mem_cons_of_mem _ this
theorem zsl_len (B : Nat) (as : List Value) : (lg_sl (as.map (zsh B))).length = (as.flatMap zsl1).length := by
  induction as with
  | nil => rfl
  | cons a as ih =>
    simp only [lg_sl, List.map_cons, List.flatMap_cons, List.length_append, zsl1, zsh_cat] at ih ⊢
    rw [ih]
    by_cases hc : a.category = 2 <;> simp [hc]
theorem zL_entry (B : Nat) (as : List Value) {n : Nat} (h : (as.flatMap zsl1).length ≤ n) : zL B n ((lg_sl (as.map (zsh B)) ++ List.replicate (n - (lg_sl (as.map (zsh B))).length) Slot.unset).toArray) (zent as n) := by
  have h1 := lv_entry (as.map (zsh B)) (n := n) (by rw [zsl_len]; exact h)
  refine ⟨h1.1, h1.2.1, fun i v hi => ?_⟩
  unfold zent at hi
  by_cases hl : i < (as.flatMap zsl1).length
  · rw [List.getElem?_append_left hl] at hi
    have h2 := zent_args (B := B) as 0 i v hi
    rw [Nat.zero_add] at h2
    exact h1.2.2 _ h2
  · rw [List.getElem?_append_right (by omega)] at hi
    have := List.eq_of_mem_replicate (List.mem_of_getElem? hi)
    cases this
/-! the tables' words, wherever the machine stands -/
def zgood : Cond → Bool
  | .arrayClass _ => true
  | .arrayOver (.object _) => true
  | .fieldLinkNest _ _ _ _ _ _ => true
  | .methodLinkNest _ _ _ _ => true
  | w => w.onTables && w.keeps
def ztbl : List Cond := lw_tbl.filter zgood
theorem zq {w : Cond} (i : Nat) (h : lw_tbl[i]? = some w) (hg : zgood w = true) : w ∈ ztbl := List.mem_filter.mpr ⟨List.mem_of_getElem? h, hg⟩
theorem zmems {ws : List Cond} (ps : List Nat) (hp : ws = ps.filterMap (fun i => lw_tbl[i]?)) (hg : ws.all zgood = true) : ∀ w ∈ ws, w ∈ ztbl := by
  intro w hw
  have hg2 := List.all_eq_true.mp hg w hw
  subst hp
  obtain ⟨i, -, hi⟩ := List.mem_filterMap.mp hw
  exact List.mem_filter.mpr ⟨List.mem_of_getElem? hi, hg2⟩
theorem zwarm1 {w : Cond} (hg : zgood w = true) {s U : State} {a a' : Array Value} (hW : s.WarmedH U.vm) (h : w.before a s = true) : w.before a' U = true := by
  cases w
  case arrayOver ty =>
    cases ty
    case object C => exact va_AO.use (va_AO.moved hW.alike (va_AO.of h))
    all_goals exact word_at hW (Or.inl hg) h
  case arrayClass ty => exact word_at hW (Or.inr ⟨_, rfl⟩) h
  case fieldLinkNest => exact va_Nw.use rfl (va_Nw.warmF hW (va_Nw.of rfl h))
  case methodLinkNest => exact va_Nw.use rfl (va_Nw.warmM hW (va_Nw.of rfl h))
  all_goals exact word_at hW (Or.inl hg) h
theorem zwarm {s U : State} {a a' : Array Value} (hW : s.WarmedH U.vm) (h : ∀ w ∈ ztbl, w.before a s = true) : ∀ w ∈ ztbl, w.before a' U = true :=
  fun w hw => zwarm1 (List.mem_filter.mp hw).2 hW (h w hw)
