-- the pairs of calls: addStory, setPages
theorem PRel.grow {V V' : Nat → Int → Int} {s s' : Int → Int} {t c : Int} (hw : PWf V t) (hP : PRel V s) (hc : V 3 3 = c) (c12 : c < 12) (hV3 : ∀ j, j ≠ 3 → V' 3 j = V 3 j) (h33 : V' 3 3 = c + 1) (hVe : ∀ k, 10 ≤ k → k ≤ 18 → V' k = V k) (hVo : ∀ k i, 4 ≤ k → k ≤ 9 → k ≠ 7 → i ≠ c → V' k i = V k i) (hV7 : ∀ z, ¬ (c * 8 ≤ z ∧ z < c * 8 + 8) → V' 7 z = V 7 z)
    (hs3 : s' 3 = c + 1) (hs : ∀ j, 0 ≤ j → j < 404 → j ≠ 3 → ¬ (4 + 13 * c ≤ j ∧ j < 17 + 13 * c) → ¬ (164 + 20 * c ≤ j ∧ j < 184 + 20 * c) → s' j = s j) (h9 : s' (164 + 20 * c) = -9) (h0 : s' (164 + 20 * c + 1) = 0) (hSx : SRel V' s' c) : PRel V' s' := by
  have hc0 := hw.1.2.2.2.1.1
  have h10 := hVe 10 (by omega) (by omega)
  refine ⟨?_, fun i h1 h2 => ?_⟩
  · rw [hV3 0 (by omega), hV3 1 (by omega), hV3 2 (by omega), h33, h10, hs 0 (by omega) (by omega) (by omega) (by omega) (by omega), hs 1 (by omega) (by omega) (by omega) (by omega) (by omega), hs 2 (by omega) (by omega) (by omega) (by omega) (by omega), hs3, hs 160 (by omega) (by omega) (by omega) (by omega) (by omega), hs 161 (by omega) (by omega) (by omega) (by omega) (by omega), hs 162 (by omega) (by omega) (by omega) (by omega) (by omega), hs 163 (by omega) (by omega) (by omega) (by omega) (by omega)]
    exact ⟨hP.1.1, hP.1.2.1, hP.1.2.2.1, rfl, hP.1.2.2.2.2⟩
  · rw [h33] at h2
    by_cases hi : i = c
    · subst hi
      refine ⟨hSx, ?_⟩
      obtain ⟨e1, e2⟩ := (hw.2.2 i h1 c12).2.2.2.1 (by omega)
      unfold ERel
      rw [hVe 11 (by omega) (by omega), hVe 12 (by omega) (by omega), e1, e2]
      exact ⟨h9, h0, fun k k1 k2 => by omega⟩
    · obtain ⟨a, b⟩ := hP.2 i h1 (by omega)
      have h8 := (hw.2.1 i h1 (by omega)).2.2.1
      have h3 := (hw.2.2 i h1 (by omega)).1
      have g : ∀ j, 0 ≤ j → j < 13 → s' (4 + 13 * i + j) = s (4 + 13 * i + j) := fun j j1 j2 => hs _ (by omega) (by omega) (by omega) (by omega) (by omega)
      have g' : ∀ j, 0 ≤ j → j < 20 → s' (164 + 20 * i + j) = s (164 + 20 * i + j) := fun j j1 j2 => hs _ (by omega) (by omega) (by omega) (by omega) (by omega)
      constructor
      · unfold SRel at a ⊢
        rw [hVe 11 (by omega) (by omega), hVo 4 i (by omega) (by omega) (by omega) hi, hVo 5 i (by omega) (by omega) (by omega) hi, hVo 6 i (by omega) (by omega) (by omega) hi, hVo 8 i (by omega) (by omega) (by omega) hi, hVo 9 i (by omega) (by omega) (by omega) hi, g 1 (by omega) (by omega), g 2 (by omega) (by omega), g 3 (by omega) (by omega), g 4 (by omega) (by omega), show s' (4 + 13 * i) = s (4 + 13 * i) by have := g 0 (by omega) (by omega); rwa [Int.add_zero] at this]
        refine ⟨a.1, a.2.1, a.2.2.1, a.2.2.2.1, a.2.2.2.2.1, fun j q1 q2 => ?_⟩
        rw [show 9 + 13 * i + j = 4 + 13 * i + (5 + j) by omega, g (5 + j) (by omega) (by omega), hV7 (i * 8 + j) (by omega), show 4 + 13 * i + (5 + j) = 9 + 13 * i + j by omega]
        exact a.2.2.2.2.2 j q1 q2
      · unfold ERel at b ⊢
        rw [hVe 11 (by omega) (by omega), hVe 12 (by omega) (by omega), hVe 13 (by omega) (by omega), hVe 14 (by omega) (by omega), hVe 15 (by omega) (by omega), hVe 16 (by omega) (by omega), hVe 17 (by omega) (by omega), hVe 18 (by omega) (by omega), g' 1 (by omega) (by omega), show s' (164 + 20 * i) = s (164 + 20 * i) by have := g' 0 (by omega) (by omega); rwa [Int.add_zero] at this]
        refine ⟨b.1, b.2.1, fun k q1 q2 => ?_⟩
        have g'' : ∀ w, 0 ≤ w → w < 6 → s' (166 + 20 * i + 6 * k + w) = s (166 + 20 * i + 6 * k + w) := fun w w1 w2 => by
          have := g' (2 + 6 * k + w) (by omega) (by omega)
          rwa [show 164 + 20 * i + (2 + 6 * k + w) = 166 + 20 * i + 6 * k + w by omega] at this
        rw [show s' (166 + 20 * i + 6 * k) = s (166 + 20 * i + 6 * k) by have := g'' 0 (by omega) (by omega); rwa [Int.add_zero] at this, g'' 1 (by omega) (by omega), g'' 2 (by omega) (by omega), g'' 3 (by omega) (by omega), g'' 4 (by omega) (by omega), g'' 5 (by omega) (by omega)]
        exact b.2.2 k q1 q2
theorem PWf.grow {V V' : Nat → Int → Int} {t c : Int} (hw : PWf V t) (hc : V 3 3 = c) (c12 : c < 12) (hV3 : ∀ j, j ≠ 3 → V' 3 j = V 3 j) (h33 : V' 3 3 = c + 1) (hVe : ∀ k, 10 ≤ k → k ≤ 18 → V' k = V k) (hVo : ∀ k i, 4 ≤ k → k ≤ 9 → k ≠ 7 → i ≠ c → V' k i = V k i) (hV7 : ∀ z, ¬ (c * 8 ≤ z ∧ z < c * 8 + 8) → V' 7 z = V 7 z) (hSx : SWf V' c) : PWf V' t := by
  have h10 := hVe 10 (by omega) (by omega)
  refine ⟨?_, fun i h1 h2 => ?_, fun i h1 h2 => ?_⟩
  · have := hw.1
    unfold HWf at this ⊢
    rw [hV3 0 (by omega), hV3 1 (by omega), hV3 2 (by omega), h33, h10]
    exact ⟨this.1, this.2.1, this.2.2.1, by omega, this.2.2.2.2⟩
  · rw [h33] at h2
    by_cases hi : i = c
    · rw [hi]; exact hSx
    · have a := hw.2.1 i h1 (by omega)
      unfold SWf at a ⊢
      rw [hVe 11 (by omega) (by omega), hV3 0 (by omega), hV3 1 (by omega), hV3 2 (by omega), h10, hVo 4 i (by omega) (by omega) (by omega) hi, hVo 5 i (by omega) (by omega) (by omega) hi, hVo 6 i (by omega) (by omega) (by omega) hi, hVo 8 i (by omega) (by omega) (by omega) hi, hVo 9 i (by omega) (by omega) (by omega) hi]
      refine ⟨a.1, a.2.1, a.2.2.1, a.2.2.2.1, a.2.2.2.2.1, fun j q1 q2 => ?_, a.2.2.2.2.2.2⟩
      have h8 := a.2.2.1
      rw [hV7 (i * 8 + j) (by omega)]
      exact a.2.2.2.2.2.1 j q1 q2
  · have a := hw.2.2 i h1 h2
    unfold EWf at a ⊢
    rw [h33, h10, hVe 11 (by omega) (by omega), hVe 12 (by omega) (by omega), hVe 13 (by omega) (by omega), hVe 14 (by omega) (by omega), hVe 15 (by omega) (by omega), hVe 16 (by omega) (by omega), hVe 17 (by omega) (by omega), hVe 18 (by omega) (by omega)]
    exact ⟨a.1, a.2.1, a.2.2.1, fun z => a.2.2.2.1 (by omega), a.2.2.2.2⟩
theorem r_adds {Γ : GG} {d : Nat} {m : MI} {n : ML} {post : PO} {r h c : Int} (hc : m 26 0 3 = c) (h0 : 0 ≤ c) (h1 : c < 12) (K : ∀ m', (∀ k, k ≠ 26 → m' k = m k) → m' 26 0 3 = c + 1 → (∀ z, z ≠ 3 → ¬ (4 + 13 * c ≤ z ∧ z < 17 + 13 * c) → ¬ (164 + 20 * c ≤ z ∧ z < 184 + 20 * c) → m' 26 0 z = m 26 0 z) → m' 26 0 (4 + 13 * c) = r → m' 26 0 (4 + 13 * c + 1) = h → m' 26 0 (4 + 13 * c + 2) = 1 → m' 26 0 (4 + 13 * c + 3) = 1 → m' 26 0 (4 + 13 * c + 4) = 0 → m' 26 0 (164 + 20 * c) = -9 → m' 26 0 (164 + 20 * c + 1) = 0 → post (some (vi c)) m' n) : CM Γ (d + 1) 99 [vr 25 0, vi r, vi h] m n post := by
  refine e99 (b99_0 ?_)
  rw [hc]
  have k1 := up_ind (P := fun y => ∀ mm : MI, (∀ k, k ≠ 26 → mm k = m k) → (∀ z, ¬ (4 + 13 * c ≤ z ∧ z < 4 + 13 * c + y) → mm 26 0 z = m 26 0 z) → (∀ z, 4 + 13 * c ≤ z → z < 4 + 13 * c + y → mm 26 0 z = 0) → AM Γ (d + 1) 99 10 [some (vr 25 0), some (vi r), some (vi h), some (vi c), some (vi y)] [] mm n post) 0 13 (by omega) ?_ ?_
  · exact k1 m (fun _ _ => rfl) (fun _ _ => rfl) (fun z z1 z2 => by omega)
  · intro mm f1 f2 f3
    refine b99_10 (by omega) (fun _ => b99_31 (r_puts (by omega) (by omega) (b99_38 (r_puts (by omega) (by omega) (b99_45 (r_puts (by omega) (by omega) (b99_52 (r_puts (by omega) (by omega) (b99_59 ?_))))))))) (fun z => absurd z (by omega))
    have e3 : up (up (up (up mm 26 0 (4 + 13 * c + 0) r) 26 0 (4 + 13 * c + 1) h) 26 0 (4 + 13 * c + 2) 1) 26 0 (4 + 13 * c + 3) 1 26 0 3 = c := by
      rw [up26, if_neg (by omega), up26, if_neg (by omega), up26, if_neg (by omega), up26, if_neg (by omega), f2 3 (by omega), hc]
    rw [e3]
    generalize hmB : up (up (up (up (up mm 26 0 (4 + 13 * c + 0) r) 26 0 (4 + 13 * c + 1) h) 26 0 (4 + 13 * c + 2) 1) 26 0 (4 + 13 * c + 3) 1) 26 0 3 (c + 1) = mB
    have g1 : ∀ k, k ≠ 26 → mB k = m k := fun k z => by rw [← hmB, up_k z, up_k z, up_k z, up_k z, up_k z, f1 k z]
    have g2 : ∀ z, z ≠ 3 → ¬ (4 + 13 * c ≤ z ∧ z < 17 + 13 * c) → mB 26 0 z = m 26 0 z := fun z z1 z2 => by
      rw [← hmB, up26, if_neg z1, up26, if_neg (by omega), up26, if_neg (by omega), up26, if_neg (by omega), up26, if_neg (by omega), f2 z (by omega)]
    have g3 : mB 26 0 3 = c + 1 := by rw [← hmB, up26, if_pos rfl]
    have g4 : mB 26 0 (4 + 13 * c) = r := by rw [← hmB, up26, if_neg (by omega), up26, if_neg (by omega), up26, if_neg (by omega), up26, if_neg (by omega), up26, if_pos (by omega)]
    have g5 : mB 26 0 (4 + 13 * c + 1) = h := by rw [← hmB, up26, if_neg (by omega), up26, if_neg (by omega), up26, if_neg (by omega), up26, if_pos rfl]
    have g6 : mB 26 0 (4 + 13 * c + 2) = 1 := by rw [← hmB, up26, if_neg (by omega), up26, if_neg (by omega), up26, if_pos rfl]
    have g7 : mB 26 0 (4 + 13 * c + 3) = 1 := by rw [← hmB, up26, if_neg (by omega), up26, if_pos rfl]
    have g8 : mB 26 0 (4 + 13 * c + 4) = 0 := by rw [← hmB, up26, if_neg (by omega), up26, if_neg (by omega), up26, if_neg (by omega), up26, if_neg (by omega), up26, if_neg (by omega), f3 _ (by omega) (by omega)]
    clear hmB e3
    have k2 := up_ind (P := fun y => ∀ mm : MI, (∀ k, k ≠ 26 → mm k = m k) → (∀ z, ¬ (164 + 20 * c ≤ z ∧ z < 164 + 20 * c + y) → mm 26 0 z = mB 26 0 z) → (0 < y → mm 26 0 (164 + 20 * c) = -9) → (1 < y → mm 26 0 (164 + 20 * c + 1) = 0) → AM Γ (d + 1) 99 72 [some (vr 25 0), some (vi r), some (vi h), some (vi c), some (vi y)] [] mm n post) 0 20 (by omega) ?_ ?_
    · exact k2 mB g1 (fun _ _ => rfl) (fun z => absurd z (by omega)) (fun z => absurd z (by omega))
    · intro m' p1 p2 p3 p4
      refine b99_72 (by omega) (fun _ => b99_112 (K m' p1 ?_ (fun z z1 z2 z3 => ?_) ?_ ?_ ?_ ?_ ?_ (p3 (by omega)) (p4 (by omega)))) (fun z => absurd z (by omega))
      · rw [p2 3 (by omega), g3]
      · rw [p2 z (by omega), g2 z z1 z2]
      · rw [p2 _ (by omega), g4]
      · rw [p2 _ (by omega), g5]
      · rw [p2 _ (by omega), g6]
      · rw [p2 _ (by omega), g7]
      · rw [p2 _ (by omega), g8]
    · intro y y1 y2 ih m' p1 p2 p3 p4
      refine b99_72 (by omega) (fun z => absurd y2 z) (fun _ => b99_79 (by omega) (fun z => b99_104 (b99_105 (by omega) (ih _ (fun k z => by rw [up_k z, p1 k z]) (fun z z1 => by rw [up26, if_neg (by omega), p2 z (by omega)]) (fun _ => by rw [up26, if_neg (by omega), p3 (by omega)]) (fun _ => ?_)))) (fun z => b99_99 (b99_105 (by omega) (ih _ (fun k z => by rw [up_k z, p1 k z]) (fun z z1 => by rw [up26, if_neg (by omega), p2 z (by omega)]) (fun _ => by rw [up26, if_pos (by omega)]) (fun z => absurd z (by omega))))))
      rw [up26]
      by_cases q : y = 1
      · rw [if_pos (by omega)]
      · rw [if_neg (by omega), p4 (by omega)]
  · intro y y1 y2 ih mm f1 f2 f3
    refine b99_10 (by omega) (fun z => absurd y2 z) (fun _ => b99_17 (r_puts (by omega) (by omega) (b99_25 (ih _ (fun k z => by rw [up_k z, f1 k z]) (fun z z1 => by rw [up26, if_neg (by omega), f2 z (by omega)]) (fun z z1 z2 => ?_)))))
    rw [up26]
    by_cases q : z = 4 + 13 * c + y
    · rw [if_pos q]
    · rw [if_neg q, f3 z z1 (by omega)]
