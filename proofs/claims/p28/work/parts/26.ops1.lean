-- PAIRS OF CALLS: setRank, setHome, addParagraph, kill, revive
theorem i0 : InR 0 := ir (by omega) (by omega)
theorem i1 : InR 1 := ir (by omega) (by omega)
theorem alN_bd {al : Int → Int} {c : Int} (h : 0 ≤ c) : 0 ≤ alN al c ∧ alN al c ≤ c := by
  unfold alN
  have := Sm_bd (f := fun j => if al j = 0 then 0 else 1) (c := 1) h (fun j _ _ => by split <;> omega)
  omega
theorem alN_eq {al g : Int → Int} {c : Int} (h : ∀ j, 0 ≤ j → j < c → g j = al j ∧ (al j = 0 ∨ al j = 1)) : Sm g 0 c = alN al c := by
  unfold alN
  refine Sm_congr (fun j h1 h2 => ?_)
  obtain ⟨a, b⟩ := h j h1 h2
  rcases b with b | b <;> simp [a, b]
