theorem Sm_ge {f : Int → Int} {a b : Int} (hab : a ≤ b) (h : ∀ j, a ≤ j → j < b → 1 ≤ f j) : b - a ≤ Sm f a b := by
  have : ∀ x, a ≤ x → x ≤ b → x - a ≤ Sm f a x := by
    refine nat_ind a b ?_ ?_
    · rw [Sm_nil (Int.le_refl a)]; omega
    · intro x h1 h2 ih
      rw [Sm_succ h1]
      have := h x h1 h2
      omega
  exact this b hab (Int.le_refl b)
