/-- a line with a piece -/
def OccH (V : Nat → Int → Int) (p c l : Int) : Prop := ∃ i, 0 ≤ i ∧ i < 12 ∧ HasOn V p c l i
theorem onP_has {m : MI} {e i p c l : Int} (hp : PcB1 m e i) (hc : 0 ≤ c ∧ c ≤ 3) : OnP (Vw m e) i (p * 4 + c) l ↔ HasOn (Vw m e) p c l i := by
  constructor
  · rintro ⟨k, k1, k2, k3, k4⟩
    have b := hp.2 k k1 k2
    dsimp only [Vw] at k3
    exact ⟨k, k1, k2, by show m 13 e (i * 3 + k) = p; omega, by show m 14 e (i * 3 + k) = c; omega, k4.1, k4.2⟩
  · rintro ⟨k, k1, k2, k3, k4, k5, k6⟩
    dsimp only [Vw] at k3 k4
    exact ⟨k, k1, k2, by show p * 4 + c = m 13 e (i * 3 + k) * 4 + m 14 e (i * 3 + k); omega, k5, k6⟩
theorem ownR_free {V : Nat → Int → Int} {p c l r : Int} (h : OwnR V p c l r) : r = -9 ↔ ¬ OccH V p c l := by
  rcases h with ⟨a1, a2, a3, a4⟩ | ⟨a1, a2⟩
  · exact ⟨fun z => by omega, fun z => absurd ⟨r, a1, a2, a3⟩ z⟩
  · exact ⟨fun _ ⟨i, i1, i2, i3⟩ => a2 i i1 i2 i3, fun _ => a1⟩
