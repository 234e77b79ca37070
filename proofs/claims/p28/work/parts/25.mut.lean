theorem PWf.story {V V' : Nat → Int → Int} {t x : Int} (hw : PWf V t) (hx : 0 ≤ x ∧ x < V 3 3) (hV3 : V' 3 = V 3) (hVe : ∀ k, 10 ≤ k → V' k = V k) (hVo : ∀ k i, 4 ≤ k → k ≤ 9 → k ≠ 7 → i ≠ x → V' k i = V k i) (hV7 : ∀ z, ¬ (x * 8 ≤ z ∧ z < x * 8 + 8) → V' 7 z = V 7 z) (hSx : SWf V' x) : PWf V' t := by
  have h10 := hVe 10 (by omega)
  refine ⟨?_, fun i h1 h2 => ?_, fun i h1 h2 => ?_⟩
  · unfold HWf
    rw [hV3, h10]
    exact hw.1
  · rw [hV3] at h2
    by_cases hi : i = x
    · rw [hi]; exact hSx
    · have a := hw.2.1 i h1 h2
      unfold SWf at a ⊢
      rw [hVe 11 (by omega), hV3, h10, hVo 4 i (by omega) (by omega) (by omega) hi, hVo 5 i (by omega) (by omega) (by omega) hi, hVo 6 i (by omega) (by omega) (by omega) hi, hVo 8 i (by omega) (by omega) (by omega) hi, hVo 9 i (by omega) (by omega) (by omega) hi]
      refine ⟨a.1, a.2.1, a.2.2.1, a.2.2.2.1, a.2.2.2.2.1, fun j q1 q2 => ?_, a.2.2.2.2.2.2⟩
      have h8 := a.2.2.1
      rw [hV7 (i * 8 + j) (by omega)]
      exact a.2.2.2.2.2.1 j q1 q2
  · have a := hw.2.2 i h1 h2
    unfold EWf at a ⊢
    rw [hV3, h10, hVe 11 (by omega), hVe 12 (by omega), hVe 13 (by omega), hVe 14 (by omega), hVe 15 (by omega), hVe 16 (by omega), hVe 17 (by omega), hVe 18 (by omega)]
    exact a
/-- what the class's save says -/
def SavC (m mA : MI) (sh : Int) : Prop := (sh = if m 1 0 3 = 6 then 1 else 0) ∧ (∀ k r, k ≠ 1 → k ≠ 2 → ¬ (3 ≤ k ∧ k ≤ 18 ∧ r = mA 2 0 (m 1 0 3 - sh)) → mA k r = m k r) ∧ mA 1 0 3 = m 1 0 3 - sh + 1 ∧ SvOK mA ∧ (∀ i, 0 ≤ i → i < m 1 0 3 - sh → mA 2 0 i = m 2 0 (i + sh)) ∧ CpEq 3 mA m (mA 2 0 (m 1 0 3 - sh)) 0
/-- what the reference's says -/
def SavR (m mC : MI) (sh : Int) : Prop := (sh = if m 25 0 2 = 6 then 1 else 0) ∧ (∀ k, k ≠ 25 → k ≠ 27 → mC k = m k) ∧ (∀ f, f ≠ 2 → mC 25 0 f = m 25 0 f) ∧ mC 25 0 2 = m 25 0 2 - sh + 1 ∧ (∀ i, 0 ≤ i → i < 404 * (m 25 0 2 - sh) → mC 27 0 i = m 27 0 (i + 404 * sh)) ∧ (∀ i, 0 ≤ i → i < 404 → mC 27 0 (404 * (m 25 0 2 - sh) + i) = m 26 0 i)
