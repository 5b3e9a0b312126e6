/-! the reference: small methods -/
section MO
variable {E : ZE} {k : Nat} {M M' : ZM} {Φ : Option Value → ZS → ZM → Prop}
theorem lg_lt (x y : Int64) : lg_cmp x y < 0 ↔ x.toInt < y.toInt := by
  unfold lg_cmp
  by_cases c : x > y
  · rw [if_pos c]
    rw [gt_iff_lt, Int64.lt_iff_toInt_lt] at c
    exact ⟨fun h => absurd h (by decide), fun h => by omega⟩
  · rw [if_neg c]
    rw [gt_iff_lt, Int64.lt_iff_toInt_lt] at c
    by_cases e : x = y
    · rw [if_pos e, e]; exact ⟨fun h => absurd h (by decide), fun h => by omega⟩
    · rw [if_neg e]
      have e' : x.toInt ≠ y.toInt := fun h => e (Int64.toInt_inj.mp h)
      exact ⟨fun _ => by omega, fun _ => by decide⟩
theorem lg_gt (x y : Int64) : 0 < lg_cmp x y ↔ y.toInt < x.toInt := by
  unfold lg_cmp
  by_cases c : x > y
  · rw [if_pos c]
    rw [gt_iff_lt, Int64.lt_iff_toInt_lt] at c
    exact ⟨fun _ => c, fun _ => by decide⟩
  · rw [if_neg c]
    rw [gt_iff_lt, Int64.lt_iff_toInt_lt] at c
    by_cases e : x = y
    · rw [if_pos e]; exact ⟨fun h => absurd h (by decide), fun h => absurd h c⟩
    · rw [if_neg e]; exact ⟨fun h => absurd h (by decide), fun h => absurd h c⟩
theorem Mo_in_ok {x : Int32} {a b : Int64} {l h : Int} (ea : a.toInt = l) (eb : b.toInt = h) (h1 : l ≤ x.toInt ∧ x.toInt ≤ h → Φ (some (.int 1)) (zSt k) M) (h0 : ¬ (l ≤ x.toInt ∧ x.toInt ≤ h) → Φ (some (.int 0)) (zSt k) M) : zW E m_Mo_in 0 (zSt k) M 0 [some (.long (Int32.toInt64 x)), none, some (.long a), none, some (.long b), none] [] Φ := by
  refine vc_Mo_in_0 E k M _ _ _ Φ ?_
  rw [lg_lt, lg_gt, Int32.toInt_toInt64, ea, eb]
  exact ⟨fun c => h0 (by omega), fun c => ⟨fun c2 => h0 (by omega), fun c2 => h1 (by omega)⟩⟩
end MO
