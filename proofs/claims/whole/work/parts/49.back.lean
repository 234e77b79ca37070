-- the reference takes a story's pieces back
/-- a line of a printed piece -/
def InPc (m : MI) (i k z : Int) : Prop := 60 * (4 * m 32 0 (20 * i + 2 + 6 * k) + m 32 0 (20 * i + 2 + 6 * k + 1)) + m 32 0 (20 * i + 2 + 6 * k + 2) ≤ z ∧ z < 60 * (4 * m 32 0 (20 * i + 2 + 6 * k) + m 32 0 (20 * i + 2 + 6 * k + 1)) + m 32 0 (20 * i + 2 + 6 * k + 2) + m 32 0 (20 * i + 2 + 6 * k + 3)
def PcMb (m : MI) (i k : Int) : Prop := (0 ≤ m 32 0 (20 * i + 2 + 6 * k) ∧ m 32 0 (20 * i + 2 + 6 * k) ≤ 4) ∧ (0 ≤ m 32 0 (20 * i + 2 + 6 * k + 1) ∧ m 32 0 (20 * i + 2 + 6 * k + 1) ≤ 3) ∧ (0 ≤ m 32 0 (20 * i + 2 + 6 * k + 2) ∧ 0 ≤ m 32 0 (20 * i + 2 + 6 * k + 3) ∧ m 32 0 (20 * i + 2 + 6 * k + 2) + m 32 0 (20 * i + 2 + 6 * k + 3) ≤ 60)
theorem r_takesBack {Γ : GG} {d : Nat} {m : MI} {n : ML} {post : PO} {i c : Int} (hi : 0 ≤ i ∧ i < 12) (hc : m 32 0 (20 * i) = c) (c0 : 0 ≤ c ∧ c ≤ 3) (hb : ∀ k, 0 ≤ k → k < c → PcMb m i k) (K : ∀ m', (∀ k, k ≠ 31 → k ≠ 32 → m' k = m k) → m' 32 0 (20 * i) = 0 → (∀ z, z ≠ 20 * i → m' 32 0 z = m 32 0 z) → (∀ z, (∃ k, 0 ≤ k ∧ k < c ∧ InPc m i k z) → m' 31 0 z = 0) → (∀ z, (¬ ∃ k, 0 ≤ k ∧ k < c ∧ InPc m i k z) → m' 31 0 z = m 31 0 z) → post none m' n) : CM Γ (d + 2) 133 [vr 25 0, vi i] m n post := by
  refine e133 (b133_0 ?_)
  have key := up_ind (P := fun y => ∀ (mm : MI) u, (∀ k, k ≠ 31 → mm k = m k) → (∀ z, (∃ k, 0 ≤ k ∧ k < y ∧ InPc m i k z) → mm 31 0 z = 0) → (∀ z, (¬ ∃ k, 0 ≤ k ∧ k < y ∧ InPc m i k z) → mm 31 0 z = m 31 0 z) → AM Γ (d + 2) 133 2 [some (vr 25 0), some (vi i), some (vi y), u] [] mm n post) 0 c c0.1 ?_ ?_
  · exact key m none (fun _ _ => rfl) (fun z ⟨k, k1, k2, _⟩ => by omega) (fun _ _ => rfl)
  · intro mm u h1 h2 h3
    have e32 : mm 32 = m 32 := h1 32 (by omega)
    refine b133_2 (by omega) (by omega) (by rw [e32]; omega) (fun _ => b133_68 (by omega) (K _ (fun k k1 k2 => by rw [up_k k2, h1 k k1]) ?_ (fun z z1 => ?_) (fun z z1 => ?_) (fun z z1 => ?_))) (fun z => absurd z (by rw [e32]; omega))
    · rw [up_rd, if_pos ⟨rfl, rfl, rfl⟩]
    · rw [up_rd, if_neg (fun w => z1 w.2.2), e32]
    · rw [up_k (by omega), h2 z z1]
    · rw [up_k (by omega), h3 z z1]
  · intro y y1 y2 ih mm u h1 h2 h3
    have e32 : mm 32 = m 32 := h1 32 (by omega)
    have b := hb y y1 y2
    unfold PcMb at b
    refine b133_2 (by omega) (by omega) (by rw [e32]; omega) (fun z => absurd y2 (by rw [e32] at z; omega)) (fun _ => b133_15 (by omega) (by omega) (by omega) (by omega) ?_)
    rw [e32]
    refine r_marks b.1 b.2.1 b.2.2 (Or.inl rfl) (fun m' g1 g2 => b133_62 (ih m' _ (fun k k1 => by rw [g1 k k1, h1 k k1]) (fun z z1 => ?_) (fun z z1 => ?_)))
    · rw [g2 z]
      by_cases q : InPc m i y z
      · unfold InPc at q
        rw [if_pos q]
      · have q' : ¬ (60 * (4 * m 32 0 (20 * i + 2 + 6 * y) + m 32 0 (20 * i + 2 + 6 * y + 1)) + m 32 0 (20 * i + 2 + 6 * y + 2) ≤ z ∧ z < 60 * (4 * m 32 0 (20 * i + 2 + 6 * y) + m 32 0 (20 * i + 2 + 6 * y + 1)) + m 32 0 (20 * i + 2 + 6 * y + 2) + m 32 0 (20 * i + 2 + 6 * y + 3)) := q
        rw [if_neg q']
        obtain ⟨k, k1, k2, k3⟩ := z1
        refine h2 z ⟨k, k1, ?_, k3⟩
        rcases (show k < y ∨ k = y by omega) with w | w
        · exact w
        · rw [w] at k3; exact absurd k3 q
    · have q' : ¬ (60 * (4 * m 32 0 (20 * i + 2 + 6 * y) + m 32 0 (20 * i + 2 + 6 * y + 1)) + m 32 0 (20 * i + 2 + 6 * y + 2) ≤ z ∧ z < 60 * (4 * m 32 0 (20 * i + 2 + 6 * y) + m 32 0 (20 * i + 2 + 6 * y + 1)) + m 32 0 (20 * i + 2 + 6 * y + 2) + m 32 0 (20 * i + 2 + 6 * y + 3)) := fun w => z1 ⟨y, y1, by omega, w⟩
      rw [g2 z, if_neg q', h3 z (fun ⟨k, k1, k2, k3⟩ => z1 ⟨k, k1, by omega, k3⟩)]
