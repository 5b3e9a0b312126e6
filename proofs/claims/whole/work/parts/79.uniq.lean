/-! shortest answers one thing -/
theorem isB_uniq {B : AB} {x y z x' y' z' : Nat} (h : isB B x y z) (h' : isB B x' y' z') : x = x' ∧ y = y' ∧ z = z' := by
  obtain ⟨⟨a1, a2, a3⟩, a4, a5⟩ := h
  obtain ⟨⟨b1, b2, b3⟩, b4, b5⟩ := h'
  have c1 := a5 x' y' z' b1 b2 b3 b4
  have c2 := b5 x y z a1 a2 a3 a4
  omega
theorem isSh_uniq {B : AB} {x r r' : Int32} (h : isSh B x r) (h' : isSh B x r') : r = r' := by
  have nb : ∀ {p q s}, noB B → isB B p q s → False := fun n i => by
    have := n _ _ _ i.1.1 i.1.2.1 i.1.2.2
    rw [i.2.1] at this
    cases this
  rcases h with ⟨a1, a2, a3⟩ | ⟨a1, a2⟩
  · rcases h' with ⟨b1, b2, b3⟩ | ⟨b1, b2⟩
    · rw [a3, b3]
    · rcases b1 with b1 | b1
      · exact absurd b1 a1
      · exact absurd a2 b1
  · rcases h' with ⟨b1, b2, b3⟩ | ⟨b1, b2⟩
    · rcases a1 with a1 | a1
      · exact absurd a1 b1
      · exact absurd b2 a1
    · rcases a2 with ⟨n, e⟩ | ⟨p, q, s, i, e⟩
      · rcases b2 with ⟨n', e'⟩ | ⟨p', q', s', i', e'⟩
        · rw [e, e']
        · exact (nb n i').elim
      · rcases b2 with ⟨n', e'⟩ | ⟨p', q', s', i', e'⟩
        · exact (nb n' i).elim
        · obtain ⟨u1, u2, u3⟩ := isB_uniq i i'
          subst u1 u2 u3
          rcases e with ⟨e1, e2⟩ | ⟨v, hv, e1, e2⟩
          · rcases e' with ⟨f1, f2⟩ | ⟨v', hv', f1, f2⟩
            · rw [e2, f2]
            · rw [e1] at f1
              exact absurd f1.symm (nI_ne1 (by omega))
          · rcases e' with ⟨f1, f2⟩ | ⟨v', hv', f1, f2⟩
            · rw [f1] at e1
              exact absurd e1.symm (nI_ne1 (by omega))
            · rw [e1] at f1
              have := (nI_eq (by omega) (by omega)).mp f1
              rw [e2, f2, this]
