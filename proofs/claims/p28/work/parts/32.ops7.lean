theorem PWf.grow {V V' : Nat → Int → Int} {t c : Int} (hw : PWf V t) (hc : V 3 3 = c) (c12 : c < 12) (hV3 : ∀ j, j ≠ 3 → V' 3 j = V 3 j) (h33 : V' 3 3 = c + 1) (hVe : ∀ k, 10 ≤ k → k ≤ 18 → V' k = V k) (hVo : ∀ k i, 4 ≤ k → k ≤ 9 → k ≠ 7 → i ≠ c → V' k i = V k i) (hV7 : ∀ z, ¬ (c * 8 ≤ z ∧ z < c * 8 + 8) → V' 7 z = V 7 z) (hSx : SWf V' c) : PWf V' t := by
  have h10 := hVe 10 (by omega) (by omega)
  refine ⟨?_, fun i h1 h2 => ?_, fun i h1 h2 => ?_⟩
  · have := hw.1
    unfold HWf at this ⊢
    rw [hV3 0 (by omega), hV3 1 (by omega), hV3 2 (by omega), h33, h10]
    exact ⟨this.1, this.2.1, this.2.2.1, by omega, this.2.2.2.2⟩
  · rw [h33] at h2
    by_cases hi : i = c
    · rw [hi]; exact hSx
    · have a := hw.2.1 i h1 (by omega)
      unfold SWf at a ⊢
      rw [hVe 11 (by omega) (by omega), hV3 0 (by omega), hV3 1 (by omega), hV3 2 (by omega), h10, hVo 4 i (by omega) (by omega) (by omega) hi, hVo 5 i (by omega) (by omega) (by omega) hi, hVo 6 i (by omega) (by omega) (by omega) hi, hVo 8 i (by omega) (by omega) (by omega) hi, hVo 9 i (by omega) (by omega) (by omega) hi]
      refine ⟨a.1, a.2.1, a.2.2.1, a.2.2.2.1, a.2.2.2.2.1, fun j q1 q2 => ?_, a.2.2.2.2.2.2⟩
      have h8 := a.2.2.1
      rw [hV7 (i * 8 + j) (by omega)]
      exact a.2.2.2.2.2.1 j q1 q2
  · have a := hw.2.2 i h1 h2
    unfold EWf at a ⊢
    rw [h33, h10, hVe 11 (by omega) (by omega), hVe 12 (by omega) (by omega), hVe 13 (by omega) (by omega), hVe 14 (by omega) (by omega), hVe 15 (by omega) (by omega), hVe 16 (by omega) (by omega), hVe 17 (by omega) (by omega), hVe 18 (by omega) (by omega)]
    exact ⟨a.1, a.2.1, a.2.2.1, fun z => a.2.2.2.1 (by omega), a.2.2.2.2⟩
