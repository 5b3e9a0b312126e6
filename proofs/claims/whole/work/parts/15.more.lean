/-! Math.max -/
section ZX
variable {E : ZE} {mi : ZI} {d : Nat} {S : ZS} {M : ZM} {pc : Nat} {ls : List (Option Value)} {st : List Value} {Φ : Option Value → ZS → ZM → Prop} {x y : Int32} {index : Nat}
theorem z_mmax (hw1 : Cond.methodLink mi.1.cls index Lib.Math.max.name ∈ ztbl) (hw2 : Cond.static Lib.Math.max.name ∈ ztbl) (hw3 : Cond.initialized "java/lang/Math" ∈ ztbl) (hw4 : Cond.code Lib.Math.max.name Lib.Math.max.code 2 (some .int) ∈ ztbl) (hd : decode mi.2.1 pc = .ok (.invokestatic index, 3)) (hd1 : 1 ≤ d) (hrm : (st.map fun v => v.category).sum ≤ 8)
    (k : zW E mi d S M (pc + 3) ls (.int (if x < y then y else x) :: st) Φ) : zW E mi d S M pc ls (.int y :: .int x :: st) Φ := by
  obtain ⟨S', M', r, h1, h2, h3, h4⟩ := k
  refine ⟨S', M', r, h1, h2, h3, fun p e R s m args below meth c n0 s0 C a1 a2 a3 a4 a5 H locs L hH hL => ?_⟩
  have hts := C.2.2.2.2.2.1
  have g1 := C.2.2.2.2.2.2.2.2.1
  have g2 := C.2.2.2.2.2.2.2.2.2.1
  refine va_mmax C.1 C.2.1 (C.2.2.2.1.trans hL.1.symm) C.2.2.2.2.1 (hts _ hw1) (hts _ hw2) (hts _ hw3) (hts _ hw4) (by omega) ?_ (by omega) (by omega) hd (h4 p e R s m args below meth c n0 s0 C a1 a2 a3 a4 a5 H locs L hH hL)
  show ((st.map (zsh E.2.2.2)).map fun v => v.category).sum + 13 ≤ R.locals
  rw [zcat]
  omega
end ZX
