-- PAIRS OF CALLS: story, paragraph, count, appendCharacter, clearText, undo
theorem ahN_congr {rk rk' al al' : Int → Int} {c i : Int} (hi : 0 ≤ i ∧ i < c) (h : ∀ j, 0 ≤ j → j < c → rk j = rk' j ∧ al j = al' j) : ahN rk al c i = ahN rk' al' c i := by
  unfold ahN
  refine Sm_congr (fun j h1 h2 => ?_)
  obtain ⟨a, b⟩ := h j h1 h2
  obtain ⟨e, -⟩ := h i hi.1 hi.2
  simp only [ahd, a, b, e]
theorem ahN_bd {rk al : Int → Int} {c i : Int} (h : 0 ≤ c) : 0 ≤ ahN rk al c i ∧ ahN rk al c i ≤ c := by
  unfold ahN
  have := Sm_bd (f := fun j => if al j = 0 then 0 else if ahd rk j i then 1 else 0) (c := 1) h (fun j _ _ => by split; omega; split <;> omega)
  omega
