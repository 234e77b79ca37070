-- the memory behind the constructor
def ini (g : Int → Int → Int) : MI := fun k p i => match k with
  | 0 => g p i
  | 2 => if 0 ≤ i ∧ i < 6 then 2 + i else 2
  | 3 => if i = 0 then 3 else if i = 1 then 2 else if i = 2 then 30 else 0
  | 11 => -1
  | 19 => if i = 3 then -1 else 0
  | _ => 0
theorem ini_bits (g : Int → Int → Int) : Bits (ini g) := by
  intro k p i hk
  unfold ini
  split <;> first | (exact Or.inl rfl) | (exact absurd hk (by decide))
theorem ini_svd (g : Int → Int → Int) : Svd (ini g) := by
  intro p i
  show 0 ≤ (if 0 ≤ i ∧ i < 6 then 2 + i else 2) ∧ (if 0 ≤ i ∧ i < 6 then 2 + i else 2) < 8
  split <;> omega
theorem ini_inv (g : Int → Int → Int) : Inv 0 (ini g) := by
  have n0 : ∀ {P : Prop}, (0 : Int) < 0 → P := fun h => absurd h (by omega)
  have nn : ∀ {P : Prop} (i : Int), 0 ≤ i → i < 0 → P := fun i h1 h2 => absurd h2 (by omega)
  refine ⟨⟨⟨?_, fun i h1 h2 => nn i h1 h2, fun i _ _ => ⟨?_, Or.inl rfl, fun _ => rfl, fun _ => ⟨rfl, rfl⟩, fun k h1 h2 => ?_⟩⟩, fun i _ _ k h1 h2 => ?_, fun i j c l _ _ _ _ _ h _ => ?_⟩, ?_, ⟨fun i h1 h2 => ?_, fun i j h1 h2 h3 h4 h6 => ?_⟩, fun i h1 h2 => nn i h1 h2, ?_⟩
  · show ((2 : Int) ≤ 3 ∧ (3 : Int) ≤ 5) ∧ ((1 : Int) ≤ 2 ∧ (2 : Int) ≤ 4) ∧ ((10 : Int) ≤ 30 ∧ (30 : Int) ≤ 60) ∧ ((0 : Int) ≤ 0 ∧ (0 : Int) ≤ 12) ∧ ((0 : Int) ≤ 0 ∧ (0 : Int) ≤ 0) ∧ ((0 : Int) < 0 → _)
    exact ⟨by omega, by omega, by omega, by omega, by omega, fun h => n0 h⟩
  · show (-1 : Int) ≤ -1 ∧ (-1 : Int) ≤ 3
    omega
  · have h2 : k < -1 := h2
    omega
  · have h2 : k < -1 := h2
    omega
  · obtain ⟨k, k0, k1, -⟩ := h
    have k1 : k < -1 := k1
    omega
  · show (0 : Int) ≤ 0 ∧ (0 : Int) ≤ 6
    omega
  · show 2 ≤ (if 0 ≤ i ∧ i < 6 then 2 + i else 2) ∧ (if 0 ≤ i ∧ i < 6 then 2 + i else 2) ≤ 7
    split <;> omega
  · have h6 : (if 0 ≤ i ∧ i < 6 then 2 + i else 2) = (if 0 ≤ j ∧ j < 6 then 2 + j else 2) := h6
    rw [if_pos (by omega), if_pos (by omega)] at h6
    omega
  · show (0 : Int) ≤ 0 ∧ (0 : Int) ≤ 120
    omega
