-- the reference's turn: a piece is put, a story stays, a story was moved
theorem OnL_snoc {L : List Pc} {x : Pc} {c l : Int} : OnL (L ++ [x]) c l ↔ OnL L c l ∨ OnX x c l := by
  unfold OnL
  constructor
  · rintro ⟨y, hy, g⟩
    rcases List.mem_append.1 hy with q | q
    · exact Or.inl ⟨y, q, g⟩
    · simp only [List.mem_cons, List.not_mem_nil, or_false] at q
      subst q
      exact Or.inr g
  · rintro (⟨y, hy, g⟩ | g)
    · exact ⟨y, List.mem_append.2 (Or.inl hy), g⟩
    · exact ⟨x, List.mem_append.2 (Or.inr (by simp)), g⟩
theorem OnL_nil {c l : Int} : ¬ OnL [] c l := by
  rintro ⟨y, hy, _⟩
  simp at hy
