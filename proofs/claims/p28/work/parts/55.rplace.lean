theorem gp_b {V : Nat → Int → Int} {T : Int → Int → Prop} {x : Pc} {t : Int} (hW : HWf V t) (h : GdP V T x) : (0 ≤ x.1 ∧ x.1 ≤ 4) ∧ (0 ≤ x.2.1 ∧ x.2.1 < 240) ∧ 0 ≤ x.2.2.1 ∧ x.2.1 % 60 + x.2.2.1 ≤ 60 := by
  obtain ⟨a1, a2, a3, a4, _⟩ := h
  have b1 := a3.1
  have b2 := a3.2.1
  have w0 := hW.1
  have w1 := hW.2.1
  have w2 := hW.2.2.1
  exact ⟨by omega, by omega, by omega, by omega⟩
theorem GdL.one {V : Nat → Int → Int} {T : Int → Int → Prop} {x : Pc} (h : GdP V T x) : GdL V T [x] := by
  refine ⟨by simp, fun y hy => ?_, List.Pairwise.cons (fun y hy => by simp at hy) List.Pairwise.nil⟩
  simp only [List.mem_cons, List.not_mem_nil, or_false] at hy
  subst hy
  exact h
theorem GdL.two {V : Nat → Int → Int} {T : Int → Int → Prop} {x y : Pc} (h : GdP V T x) (g : GdP V T y) (n : x.1 ≠ y.1) : GdL V T [x, y] := by
  refine ⟨by simp, fun z hz => ?_, List.Pairwise.cons (fun z hz => ?_) (List.Pairwise.cons (fun z hz => by simp at hz) List.Pairwise.nil)⟩
  · simp only [List.mem_cons, List.not_mem_nil, or_false] at hz
    rcases hz with rfl | rfl
    · exact h
    · exact g
  · simp only [List.mem_cons, List.not_mem_nil, or_false] at hz
    subst hz
    exact n
