/-- a story's own numbers are in their ranges -/
def SWf (V : Nat → Int → Int) (i : Int) : Prop :=
  (1 ≤ V 4 i ∧ V 4 i ≤ 99) ∧ (0 ≤ V 5 i ∧ V 5 i < V 3 0) ∧ (1 ≤ V 6 i ∧ V 6 i ≤ 8) ∧ (V 8 i = 0 ∨ V 8 i = 1) ∧ (V 9 i = 0 ∨ V 9 i = 1) ∧ (∀ j, 0 ≤ j → j < V 6 i → 1 ≤ V 7 (i * 8 + j) ∧ V 7 (i * 8 + j) ≤ 30) ∧
  (V 9 i = 0 → 0 < V 10 0 ∧ V 10 1 = V 3 0 ∧ V 10 2 = V 3 1 ∧ V 10 3 = V 3 2) ∧ (V 8 i = 0 → 0 < V 11 i → V 9 i = 1)
def EWf (V : Nat → Int → Int) (i : Int) : Prop :=
  (-1 ≤ V 11 i ∧ V 11 i ≤ 3) ∧ (V 12 i = 0 ∨ V 12 i = 1) ∧ (V 10 0 = 0 → V 11 i = -1) ∧ (V 3 3 ≤ i → V 11 i = -1 ∧ V 12 i = 0) ∧
  ∀ k, 0 ≤ k → k < V 11 i → (0 ≤ V 13 (i * 3 + k) ∧ V 13 (i * 3 + k) < V 10 1) ∧ (0 ≤ V 14 (i * 3 + k) ∧ V 14 (i * 3 + k) < V 10 2) ∧ (0 ≤ V 15 (i * 3 + k) ∧ 1 ≤ V 16 (i * 3 + k) ∧ V 15 (i * 3 + k) + V 16 (i * 3 + k) ≤ V 10 3) ∧ (0 ≤ V 17 (i * 3 + k) ∧ V 17 (i * 3 + k) ≤ 8) ∧ (1 ≤ V 18 (i * 3 + k) ∧ V 18 (i * 3 + k) ≤ 8) ∧ ∀ k', 0 ≤ k' → k' < V 11 i → k' ≠ k → V 13 (i * 3 + k') ≠ V 13 (i * 3 + k)
def HWf (V : Nat → Int → Int) (t : Int) : Prop :=
  (2 ≤ V 3 0 ∧ V 3 0 ≤ 5) ∧ (1 ≤ V 3 1 ∧ V 3 1 ≤ 4) ∧ (10 ≤ V 3 2 ∧ V 3 2 ≤ 60) ∧ (0 ≤ V 3 3 ∧ V 3 3 ≤ 12) ∧ (0 ≤ V 10 0 ∧ V 10 0 ≤ t) ∧ (0 < V 10 0 → (2 ≤ V 10 1 ∧ V 10 1 ≤ 5) ∧ (1 ≤ V 10 2 ∧ V 10 2 ≤ 4) ∧ (10 ≤ V 10 3 ∧ V 10 3 ≤ 60))
def PWf (V : Nat → Int → Int) (t : Int) : Prop := HWf V t ∧ (∀ i, 0 ≤ i → i < V 3 3 → SWf V i) ∧ ∀ i, 0 ≤ i → i < 12 → EWf V i
def VEq (V' V : Nat → Int → Int) : Prop := ∀ k, 3 ≤ k → k ≤ 18 → ∀ i, 0 ≤ i → i < lenK k → V' k i = V k i
theorem lenK_3 : lenK 3 = 4 := by decide
theorem lenK_10 : lenK 10 = 4 := by decide
theorem HWf.congr {V V' : Nat → Int → Int} {t : Int} (h : VEq V' V) (hw : HWf V t) : HWf V' t := by
  unfold HWf at *
  rw [h 3 (by omega) (by omega) 0 (by omega) (by decide), h 3 (by omega) (by omega) 1 (by omega) (by decide), h 3 (by omega) (by omega) 2 (by omega) (by decide), h 3 (by omega) (by omega) 3 (by omega) (by decide), h 10 (by omega) (by omega) 0 (by omega) (by decide), h 10 (by omega) (by omega) 1 (by omega) (by decide), h 10 (by omega) (by omega) 2 (by omega) (by decide), h 10 (by omega) (by omega) 3 (by omega) (by decide)]
  exact hw
theorem SWf.congr {V V' : Nat → Int → Int} {i : Int} (h : VEq V' V) (hi : 0 ≤ i ∧ i < 12) (hw : SWf V i) : SWf V' i := by
  have g : ∀ k, 4 ≤ k → k ≤ 9 → k ≠ 7 → V' k i = V k i := fun k h1 h2 h3 => by
    rcases (show k = 4 ∨ k = 5 ∨ k = 6 ∨ k = 8 ∨ k = 9 by omega) with rfl | rfl | rfl | rfl | rfl <;> exact h _ (by omega) (by omega) i hi.1 hi.2
  unfold SWf at *
  rw [h 11 (by omega) (by omega) i hi.1 hi.2, g 4 (by omega) (by omega) (by omega), g 5 (by omega) (by omega) (by omega), g 6 (by omega) (by omega) (by omega), g 8 (by omega) (by omega) (by omega), g 9 (by omega) (by omega) (by omega), h 3 (by omega) (by omega) 0 (by omega) (by decide), h 3 (by omega) (by omega) 1 (by omega) (by decide), h 3 (by omega) (by omega) 2 (by omega) (by decide), h 10 (by omega) (by omega) 0 (by omega) (by decide), h 10 (by omega) (by omega) 1 (by omega) (by decide), h 10 (by omega) (by omega) 2 (by omega) (by decide), h 10 (by omega) (by omega) 3 (by omega) (by decide)]
  obtain ⟨h1, h2, h3, h4, h5, h6, h7⟩ := hw
  refine ⟨h1, h2, h3, h4, h5, fun j q1 q2 => ?_, h7⟩
  rw [h 7 (by omega) (by omega) (i * 8 + j) (by omega) (show i * 8 + j < 96 by omega)]
  exact h6 j q1 q2
theorem ekind {V V' : Nat → Int → Int} (h : VEq V' V) {k : Nat} (h1 : 13 ≤ k) (h2 : k ≤ 18) {z : Int} (z0 : 0 ≤ z) (z1 : z < 36) : V' k z = V k z := by
  rcases k13 h1 h2 with rfl | rfl | rfl | rfl | rfl | rfl <;> exact h _ (by omega) (by omega) z z0 z1
theorem EWf.congr {V V' : Nat → Int → Int} {i : Int} (h : VEq V' V) (hi : 0 ≤ i ∧ i < 12) (hw : EWf V i) : EWf V' i := by
  unfold EWf at *
  rw [h 11 (by omega) (by omega) i hi.1 hi.2, h 12 (by omega) (by omega) i hi.1 hi.2, h 3 (by omega) (by omega) 3 (by omega) (by decide), h 10 (by omega) (by omega) 0 (by omega) (by decide), h 10 (by omega) (by omega) 1 (by omega) (by decide), h 10 (by omega) (by omega) 2 (by omega) (by decide), h 10 (by omega) (by omega) 3 (by omega) (by decide)]
  obtain ⟨h1, h2, h3, h4, h5⟩ := hw
  refine ⟨h1, h2, h3, h4, fun k q1 q2 => ?_⟩
  have z0 : 0 ≤ i * 3 + k := by omega
  have z1 : i * 3 + k < 36 := by omega
  rw [ekind h (k := 13) (by omega) (by omega) z0 z1, ekind h (k := 14) (by omega) (by omega) z0 z1, ekind h (k := 15) (by omega) (by omega) z0 z1, ekind h (k := 16) (by omega) (by omega) z0 z1, ekind h (k := 17) (by omega) (by omega) z0 z1, ekind h (k := 18) (by omega) (by omega) z0 z1]
  obtain ⟨a1, a2, a3, a4, a5, a6⟩ := h5 k q1 q2
  refine ⟨a1, a2, a3, a4, a5, fun k' r1 r2 r3 => ?_⟩
  rw [ekind h (k := 13) (by omega) (by omega) (show 0 ≤ i * 3 + k' by omega) (by omega)]
  exact a6 k' r1 r2 r3
theorem PWf.congr {V V' : Nat → Int → Int} {t : Int} (h : VEq V' V) (hw : PWf V t) : PWf V' t := by
  have hc := hw.1.2.2.2.1
  have e3 : V' 3 3 = V 3 3 := h 3 (by omega) (by omega) 3 (by omega) (by decide)
  exact ⟨hw.1.congr h, fun i h1 h2 => by rw [e3] at h2; exact (hw.2.1 i h1 h2).congr h ⟨h1, by omega⟩, fun i h1 h2 => (hw.2.2 i h1 h2).congr h ⟨h1, h2⟩⟩
theorem HWf.mono {V : Nat → Int → Int} {t t' : Int} (h : t ≤ t') (hw : HWf V t) : HWf V t' := by
  unfold HWf at *
  omega
theorem PWf.mono {V : Nat → Int → Int} {t t' : Int} (h : t ≤ t') (hw : PWf V t) : PWf V t' := ⟨hw.1.mono h, hw.2⟩
abbrev Vw (m : MI) (p : Int) : Nat → Int → Int := fun k i => m k p i
