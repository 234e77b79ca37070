-- PAIRS OF CALLS: story, paragraph, count, appendCharacter, clearText, undo
theorem ahN_congr {rk rk' al al' : Int → Int} {c i : Int} (hi : 0 ≤ i ∧ i < c) (h : ∀ j, 0 ≤ j → j < c → rk j = rk' j ∧ al j = al' j) : ahN rk al c i = ahN rk' al' c i := by
  unfold ahN
  refine Sm_congr (fun j h1 h2 => ?_)
  obtain ⟨a, b⟩ := h j h1 h2
  obtain ⟨e, -⟩ := h i hi.1 hi.2
  simp only [ahd, a, b, e]
theorem ahN_bd {rk al : Int → Int} {c i : Int} (h : 0 ≤ c) : 0 ≤ ahN rk al c i ∧ ahN rk al c i ≤ c := by
  unfold ahN
  have := Sm_bd (f := fun j => if al j = 0 then 0 else if ahd rk j i then 1 else 0) (c := 1) h (fun j _ _ => by split; omega; split <;> omega)
  omega
/-- the reference's order numbers are the class's -/
theorem ah_sim {t : Int} {m : MI} {a : Int} (hS : Sim t m m) (ha : 0 ≤ a ∧ a < m 3 0 3) : ahN (fun j => m 26 0 (4 + 13 * j)) (fun j => m 26 0 (4 + 13 * j + 2)) (m 26 0 3) a = ahN (m 4 0) (m 8 0) (m 3 0 3) a := by
  rw [(sim_cnt hS).2.2.1]
  refine ahN_congr ha (fun j h1 h2 => ?_)
  have := (hS.1.1.2 j h1 h2).1
  exact ⟨this.1, this.2.2.1⟩
theorem sum_sim {t : Int} {m : MI} {a : Int} (hS : Sim t m m) (ha : 0 ≤ a ∧ a < m 3 0 3) {x y : Int} (hx : 0 ≤ x) (hy : y ≤ m 6 0 a) : Sm (fun j => m 26 0 (9 + 13 * a + j)) x y = Sm (fun j => m 7 0 (a * 8 + j)) x y :=
  Sm_congr (fun j h1 h2 => (hS.1.1.2 a ha.1 ha.2).1.2.2.2.2.2 j (by omega) (by show j < m 6 0 a; omega))
theorem sum_bd {t : Int} {m : MI} {a : Int} (hS : Sim t m m) (ha : 0 ≤ a ∧ a < m 3 0 3) {x y : Int} (hx : 0 ≤ x) (hxy : x ≤ y) (hy : y ≤ m 6 0 a) : 0 ≤ Sm (fun j => m 7 0 (a * 8 + j)) x y ∧ Sm (fun j => m 7 0 (a * 8 + j)) x y ≤ 30 * (y - x) :=
  Sm_bd hxy (fun j h1 h2 => by have := (hS.1.2.2.1 a ha.1 ha.2).2.2.2.2.2.1 j (by omega) (by show j < m 6 0 a; omega); dsimp only [Vw] at this; exact ⟨by omega, this.2⟩)
set_option maxHeartbeats 4000000 in
theorem op_story {Γ : GG} {d : Nat} {m : MI} {n : ML} {t a b : Int} (hS : Sim t m m) (ha : InR a) (hb : InR b) : Both Γ (d + 5) 65 113 [vr 1 0, vi a, vi b] [vr 25 0, vi a, vi b] m n t := by
  obtain ⟨c0, c1, c2, c3, c4, c5⟩ := sim_cnt hS
  have bad : (a < 0 ∨ m 3 0 3 ≤ a) ∨ (b < 0 ∨ 5 < b) → ∃ x, InR x ∧ some (vi (-1)) = some (vi x) ∧ CM Γ (d + 5) 113 [vr 25 0, vi a, vi b] m n (fun r2 m2 _ => r2 = some (vi x) ∧ Sim (t + 1) m2 m2) := by
    intro q
    refine ⟨-1, ir (by omega) (by omega), rfl, e113 (b113_0 (r_isStory ha (by omega) (by omega) (fun q1 q2 => ?_) (fun _ => ?_)))⟩
    · refine b113_5 (by omega) (fun h => absurd h (by omega)) (fun _ => b113_8 (r_in hb i0 (ir (by omega) (by omega)) (fun q3 q4 => by omega) (fun _ => ?_)))
      exact b113_14 (by omega) (fun h => absurd rfl h) (fun _ => b113_17 ⟨rfl, hS.next⟩)
    · exact b113_5 (by omega) (fun _ => b113_17 ⟨rfl, hS.next⟩) (fun h => absurd rfl h)
  refine e65 (b65_0 (c_isStory ha c0 c1 (fun q1 q2 => ?_) (fun q => ?_)))
  · have hR := (hS.1.1.2 a q1 q2).1
    have hW := hS.1.2.2.1 a q1 q2
    obtain ⟨r1, r2, r3, r4, r5, r6⟩ := hR
    obtain ⟨w1, w2, w3, w4, w5, w6, w7, w8⟩ := hW
    dsimp only [Vw] at r1 r2 r3 r4 r5 r6 w1 w2 w3 w4 w5 w6 w7 w8
    have p1 := hS.1.2.1.1
    dsimp only [Vw] at p1
    have go : ∀ (x : Int), (0 ≤ b ∧ b ≤ 5) → AM Γ (d + 5) 113 19 [some (vr 25 0), some (vi a), some (vi b)] [] m n (fun r2 m2 _ => r2 = some (vi x) ∧ Sim (t + 1) m2 m2) → CM Γ (d + 5) 113 [vr 25 0, vi a, vi b] m n (fun r2 m2 _ => r2 = some (vi x) ∧ Sim (t + 1) m2 m2) := by
      intro x hb2 h
      refine e113 (b113_0 (r_isStory ha (by omega) (by omega) (fun _ _ => ?_) (fun _ => by omega)))
      refine b113_5 (by omega) (fun h => absurd h (by omega)) (fun _ => b113_8 (r_in hb i0 (ir (by omega) (by omega)) (fun _ _ => ?_) (fun _ => by omega)))
      exact b113_14 (by omega) (fun _ => h) (fun h => absurd h (by omega))
    refine b65_5 (by omega) (fun _ => b65_10 hb (fun h => ?_) (fun h => ?_) (fun h => ?_) (fun h => ?_) (fun h => ?_) (fun h => ?_) (fun h => ?_)) (fun h => absurd h (by omega))
    · exact b65_124 (bad (Or.inr (by omega)))
    · refine b65_48 (by omega) ⟨m 4 0 a, ir (by omega) (by omega), rfl, go _ (by omega) ?_⟩
      refine b113_19 (by omega) (fun _ => by omega) (fun _ => b113_56 (r_of (by omega) (by omega) (b113_62 ⟨by rw [Int.add_zero, r1], hS.next⟩))) (fun _ => by omega) (fun _ => by omega) (fun _ => by omega) (fun _ => by omega)
    · refine b65_58 (by omega) ⟨m 5 0 a, ir (by omega) (by omega), rfl, go _ (by omega) ?_⟩
      refine b113_19 (by omega) (fun _ => by omega) (fun _ => by omega) (fun _ => b113_63 (r_of (by omega) (by omega) (b113_69 ⟨by rw [r2], hS.next⟩))) (fun _ => by omega) (fun _ => by omega) (fun _ => by omega)
    · refine b65_68 (by omega) ⟨m 6 0 a, ir (by omega) (by omega), rfl, go _ (by omega) ?_⟩
      refine b113_19 (by omega) (fun _ => by omega) (fun _ => by omega) (fun _ => by omega) (fun _ => b113_70 (r_of (by omega) (by omega) (b113_76 ⟨by rw [r5], hS.next⟩))) (fun _ => by omega) (fun _ => by omega)
    · have sb := sum_bd hS ⟨q1, q2⟩ (x := 0) (y := 0 + m 6 0 a) (by omega) (by omega) (by omega)
      refine b65_78 (by omega) (c_linesOfParagraphs (by omega) (by omega) (by omega) (by omega) (b65_96 ⟨_, ir (by omega) (by omega), rfl, go _ (by omega) ?_⟩))
      refine b113_19 (by omega) (fun _ => by omega) (fun _ => by omega) (fun _ => by omega) (fun _ => by omega) (fun _ => b113_77 (r_of (by omega) (by omega) (b113_86 ?_))) (fun _ => by omega)
      rw [r5]
      exact r_lines (by omega) (by omega) (by omega) (by omega) (b113_89 ⟨by rw [sum_sim hS ⟨q1, q2⟩ (by omega) (by omega)], hS.next⟩)
    · refine b65_97 (by omega) (by omega) (fun g => b65_113 (b65_114 ?_)) (fun g => b65_109 (b65_114 ?_))
      · refine ⟨0, i0, rfl, go _ (by omega) ?_⟩
        refine b113_19 (by omega) (fun _ => by omega) (fun _ => by omega) (fun _ => by omega) (fun _ => by omega) (fun _ => by omega) (fun _ => b113_90 (r_of (by omega) (by omega) (b113_96 ⟨by rw [r3, g], hS.next⟩)))
      · refine ⟨1, i1, rfl, go _ (by omega) ?_⟩
        refine b113_19 (by omega) (fun _ => by omega) (fun _ => by omega) (fun _ => by omega) (fun _ => by omega) (fun _ => by omega) (fun _ => b113_90 (r_of (by omega) (by omega) (b113_96 ⟨by rw [r3]; congr 2; omega, hS.next⟩)))
    · have sb := ahN_bd (rk := m 4 0) (al := m 8 0) (c := m 3 0 3) (i := a) c0
      have hrk : ∀ j, 0 ≤ j → j < m 3 0 3 → InR (m 4 0 j) := fun j z1 z2 => by have := (hS.1.2.2.1 j z1 z2).1; dsimp only [Vw] at this; exact ir (by omega) (by omega)
      refine b65_115 (c_aliveAheadOf (by omega) c0 c1 hrk (hrk a q1 q2) (b65_123 ⟨_, ir (by omega) (by omega), rfl, go _ (by omega) ?_⟩))
      refine b113_19 (by omega) (fun _ => b113_97 (r_ahead (by omega) (by omega) (by omega) (fun j z1 z2 => ?_) (by rw [r1]; exact hrk a q1 q2) (fun j z1 z2 => ?_) (b113_102 ⟨by rw [ah_sim hS ⟨q1, q2⟩], hS.next⟩))) (fun _ => by omega) (fun _ => by omega) (fun _ => by omega) (fun _ => by omega) (fun _ => by omega)
      · rw [(hS.1.1.2 j z1 (by show j < m 3 0 3; omega)).1.1]; exact hrk j z1 (by omega)
      · rw [(hS.1.1.2 j z1 (by show j < m 3 0 3; omega)).1.2.2.1]; exact (hS.1.2.2.1 j z1 (by show j < m 3 0 3; omega)).2.2.2.1
  · exact b65_5 (by omega) (fun h => absurd rfl h) (fun _ => b65_8 (bad (Or.inl q)))
set_option maxHeartbeats 4000000 in
theorem op_paragraph {Γ : GG} {d : Nat} {m : MI} {n : ML} {t a b : Int} (hS : Sim t m m) (ha : InR a) (hb : InR b) : Both Γ (d + 5) 66 114 [vr 1 0, vi a, vi b] [vr 25 0, vi a, vi b] m n t := by
  obtain ⟨c0, c1, c2, c3, c4, c5⟩ := sim_cnt hS
  have bad : (a < 0 ∨ m 3 0 3 ≤ a) ∨ b < 0 → ∃ x, InR x ∧ some (vi (-1)) = some (vi x) ∧ CM Γ (d + 5) 114 [vr 25 0, vi a, vi b] m n (fun r2 m2 _ => r2 = some (vi x) ∧ Sim (t + 1) m2 m2) := by
    intro q
    refine ⟨-1, ir (by omega) (by omega), rfl, e114 (b114_0 (r_isStory ha (by omega) (by omega) (fun q1 q2 => ?_) (fun _ => ?_)))⟩
    · exact b114_5 (by omega) (fun h => absurd h (by omega)) (fun _ => b114_8 hb (fun h => by omega) (fun _ => b114_12 ⟨rfl, hS.next⟩))
    · exact b114_5 (by omega) (fun _ => b114_12 ⟨rfl, hS.next⟩) (fun h => absurd rfl h)
  refine e66 (b66_0 (c_isStory ha c0 c1 (fun q1 q2 => ?_) (fun q => ?_)))
  · obtain ⟨r1, r2, r3, r4, r5, r6⟩ := (hS.1.1.2 a q1 q2).1
    obtain ⟨w1, w2, w3, w4, w5, w6, w7, w8⟩ := hS.1.2.2.1 a q1 q2
    dsimp only [Vw] at r1 r2 r3 r4 r5 r6 w1 w2 w3 w4 w5 w6 w7 w8
    refine b66_5 (by omega) (fun h => absurd h (by omega)) (fun _ => b66_8 hb (fun g => ?_) (fun g => b66_12 (bad (Or.inr g))))
    have go : ∀ (x : Int), AM Γ (d + 5) 114 21 [some (vr 25 0), some (vi a), some (vi b)] [vi (m 6 0 a), vi b] m n (fun r2 m2 _ => r2 = some (vi x) ∧ Sim (t + 1) m2 m2) → CM Γ (d + 5) 114 [vr 25 0, vi a, vi b] m n (fun r2 m2 _ => r2 = some (vi x) ∧ Sim (t + 1) m2 m2) := by
      intro x h
      refine e114 (b114_0 (r_isStory ha (by omega) (by omega) (fun _ _ => ?_) (fun _ => by omega)))
      refine b114_5 (by omega) (fun h => absurd h (by omega)) (fun _ => b114_8 hb (fun _ => b114_14 (r_of (by omega) (by omega) ?_)) (fun h => absurd h g))
      rw [r5]
      exact h
    refine b66_14 (by omega) hb (by omega) (fun f => b66_30 (c_linesOf (by omega) (by omega) (b66_39 ?_))) (fun f => b66_27 ?_)
    · have := w6 b (by omega) f
      refine ⟨_, ir (by omega) (by omega), rfl, go _ ?_⟩
      refine b114_21 hb (by omega) (fun h => absurd f h) (fun _ => b114_24 (r_of (by omega) (by omega) (b114_32 (b114_37 ⟨?_, hS.next⟩))))
      rw [show 4 + 13 * a + (5 + b) = 9 + 13 * a + b by omega, r6 b (by omega) f]
    · refine ⟨-9, ir (by omega) (by omega), rfl, go _ ?_⟩
      exact b114_21 hb (by omega) (fun _ => b114_35 (b114_37 ⟨rfl, hS.next⟩)) (fun h => absurd h f)
  · exact b66_5 (by omega) (fun _ => b66_12 (bad (Or.inl q))) (fun h => absurd rfl h)
set_option maxHeartbeats 4000000 in
theorem op_count {Γ : GG} {d : Nat} {m : MI} {n : ML} {t a : Int} (hS : Sim t m m) (ht : t ≤ 1000) (ha : InR a) : Both Γ (d + 5) 67 115 [vr 1 0, vi a] [vr 25 0, vi a] m n t := by
  obtain ⟨c0, c1, c2, c3, c4, c5⟩ := sim_cnt hS
  have hP := hS.1.1.1
  have hW := hS.1.2.1
  unfold HWf at hW
  dsimp only [Vw] at hP hW
  obtain ⟨x1, x2, -⟩ := hS.2.2
  refine e67 (b67_0 ha (fun h => ?_) (fun h => ?_) (fun h => ?_) (fun h => ?_) (fun h => ?_) (fun h => ?_) (fun h => ?_) (fun h => ?_) (fun h => ?_))
  · exact b67_112 ⟨-1, ir (by omega) (by omega), rfl, e115 (b115_0 ha (fun _ => b115_79 ⟨rfl, hS.next⟩) (fun _ => by omega) (fun _ => by omega) (fun _ => by omega) (fun _ => by omega) (fun _ => by omega) (fun _ => by omega) (fun _ => by omega) (fun _ => by omega))⟩
  · subst h
    exact b67_48 ⟨_, ir (by omega) (by omega), rfl, e115 (b115_0 ha (fun _ => by omega) (fun _ => b115_48 (by omega) ⟨by rw [hP.1], hS.next⟩) (fun _ => by omega) (fun _ => by omega) (fun _ => by omega) (fun _ => by omega) (fun _ => by omega) (fun _ => by omega) (fun _ => by omega))⟩
  · subst h
    exact b67_56 ⟨_, ir (by omega) (by omega), rfl, e115 (b115_0 ha (fun _ => by omega) (fun _ => by omega) (fun _ => b115_48 (by omega) ⟨by rw [hP.2.1], hS.next⟩) (fun _ => by omega) (fun _ => by omega) (fun _ => by omega) (fun _ => by omega) (fun _ => by omega) (fun _ => by omega))⟩
  · subst h
    exact b67_64 ⟨_, ir (by omega) (by omega), rfl, e115 (b115_0 ha (fun _ => by omega) (fun _ => by omega) (fun _ => by omega) (fun _ => b115_48 (by omega) ⟨by rw [hP.2.2.1], hS.next⟩) (fun _ => by omega) (fun _ => by omega) (fun _ => by omega) (fun _ => by omega) (fun _ => by omega))⟩
  · subst h
    exact b67_72 ⟨_, ir (by omega) (by omega), rfl, e115 (b115_0 ha (fun _ => by omega) (fun _ => by omega) (fun _ => by omega) (fun _ => by omega) (fun _ => b115_48 (by omega) ⟨by rw [c2], hS.next⟩) (fun _ => by omega) (fun _ => by omega) (fun _ => by omega) (fun _ => by omega))⟩
  · subst h
    have hbd := alN_bd (al := m 8 0) (c := m 3 0 3) c0
    refine b67_80 (c_aliveCount c0 c1 (b67_87 ⟨_, ir (by omega) (by omega), rfl, e115 (b115_0 ha (fun _ => by omega) (fun _ => by omega) (fun _ => by omega) (fun _ => by omega) (fun _ => by omega) (fun _ => b115_55 (r_alive (by omega) (by omega) (b115_59 ⟨?_, hS.next⟩))) (fun _ => by omega) (fun _ => by omega) (fun _ => by omega))⟩))
    rw [c2]
    congr 2
    exact alN_eq (fun j z1 z2 => ⟨(hS.1.1.2 j z1 z2).1.2.2.1, (hS.1.2.2.1 j z1 z2).2.2.2.1⟩)
  · subst h
    exact b67_88 ⟨_, ir (by omega) (by omega), rfl, e115 (b115_0 ha (fun _ => by omega) (fun _ => by omega) (fun _ => by omega) (fun _ => by omega) (fun _ => by omega) (fun _ => by omega) (fun _ => b115_60 ⟨by rw [hP.2.2.2.2.1], hS.next⟩) (fun _ => by omega) (fun _ => by omega))⟩
  · subst h
    exact b67_99 ⟨_, ir (by omega) (by omega), rfl, e115 (b115_0 ha (fun _ => by omega) (fun _ => by omega) (fun _ => by omega) (fun _ => by omega) (fun _ => by omega) (fun _ => by omega) (fun _ => by omega) (fun _ => b115_69 ⟨by rw [x2], hS.next⟩) (fun _ => by omega))⟩
  · subst h
    exact b67_107 ⟨_, ir (by omega) (by omega), rfl, e115 (b115_0 ha (fun _ => by omega) (fun _ => by omega) (fun _ => by omega) (fun _ => by omega) (fun _ => by omega) (fun _ => by omega) (fun _ => by omega) (fun _ => by omega) (fun _ => b115_74 ⟨by rw [c3], hS.next⟩))⟩
/-- kinds of the present paper, the saved ones and the reference's rows stay -/
theorem Sim.text {t : Int} {m mB mD : MI} (hS : Sim t m m) (h1 : ∀ k, k ≤ 18 → mD k = m k) (h2 : mD 26 = m 26) (h3 : mD 27 = m 27) (h4 : mD 25 0 2 = m 25 0 2) (hT : Txt mD mD) : Sim (t + 1) mD mD := by
  refine ⟨⟨?_, ?_⟩, ?_, hT⟩
  · exact hS.1.1.congr (V' := Vw mD 0) (fun k _ k2 j _ _ => by show mD k 0 j = m k 0 j; rw [h1 k k2]) (fun _ _ _ => by rw [h2]) hS.1.2
  · exact (hS.1.2.congr (V' := Vw mD 0) (fun k _ k2 j _ _ => by show mD k 0 j = m k 0 j; rw [h1 k k2])).mono (by omega)
  · exact (hS.2.1.frame (fun k p k1 _ => by rw [h1 k k1]) h4 h3).mono (by omega)
theorem byt8 {x : Int} (h : 0 ≤ x ∧ x ≤ 255) : (Int32.ofInt x).toInt8.toInt = byt x := by
  have e : (Int32.ofInt x).toInt8 = Int8.ofInt x := by
    rw [← Int8.toInt_inj, Int32.toInt_toInt8, toI ⟨by omega, by omega⟩, Int8.toInt_ofInt]
  rw [e, Int8.toInt_ofInt]
  unfold byt
  split
  · exact Int.bmod_eq_of_le (by simp [Int8.size]; omega) (by simp [Int8.size]; omega)
  · rw [show x = (x - 256) + 256 by omega]
    have : ((x - 256) + 256).bmod Int8.size = (x - 256).bmod Int8.size := by
      show ((x - 256) + ((256 : Nat) : Int)).bmod 256 = (x - 256).bmod 256
      exact Int.add_bmod_right _ _
    rw [this, show x - 256 + 256 - 256 = x - 256 by omega]
    exact Int.bmod_eq_of_le (by simp [Int8.size]; omega) (by simp [Int8.size]; omega)
theorem byt_bd {x : Int} (h : 0 ≤ x ∧ x ≤ 255) : -128 ≤ byt x ∧ byt x < 128 := by
  unfold byt
  split <;> omega
set_option maxHeartbeats 4000000 in
theorem op_appendCharacter {Γ : GG} {d : Nat} {m : MI} {n : ML} {t a : Int} (hS : Sim t m m) (ha : InR a) : Both Γ (d + 5) 68 116 [vr 1 0, vi a] [vr 25 0, vi a] m n t := by
  obtain ⟨x1, x2, x3⟩ := hS.2.2
  refine e68 (b68_0 (c_isWithin ha i0 (ir (by omega) (by omega)) (fun q1 q2 => ?_) (fun q => ?_)))
  · refine b68_8 (by omega) (fun _ => b68_13 (by omega) (fun g => ?_) (fun g => ?_)) (fun h => absurd h (by omega))
    · refine b68_28 (e46 (b46_0 (by omega) (b46_12 (b68_36 ?_))))
      generalize hmB : up (up m 20 0 (m 19 0 0) a) 19 0 0 (up m 20 0 (m 19 0 0) a 19 0 0 + 1) = mB
      have e19 : mB 19 0 0 = m 19 0 0 + 1 := by rw [← hmB]; simp [up_rd]
      have e20 : ∀ i, mB 20 0 i = if i = m 19 0 0 then a else m 20 0 i := fun i => by rw [← hmB]; simp [up_rd]
      have eo : ∀ k, k ≠ 19 → k ≠ 20 → mB k = m k := fun k z1 z2 => by rw [← hmB, up_k z1, up_k z2]
      refine ⟨mB 19 0 0, by rw [e19]; exact ir (by omega) (by omega), rfl, ?_⟩
      have e25 : mB 25 0 4 = m 19 0 0 := by rw [eo 25 (by omega) (by omega), x2]
      refine e116 (b116_0 (r_in ha i0 (ir (by omega) (by omega)) (fun _ _ => ?_) (fun _ => by omega)))
      have hby := byt_bd ⟨q1, q2⟩
      refine b116_8 (by omega) (fun _ => b116_13 (by omega) (fun _ => b116_25 (by omega) (by rw [byt8 ⟨q1, q2⟩]; exact hby) (b116_38 (b116_47 ?_))) (fun h => by omega)) (fun h => absurd h (by omega))
      rw [byt8 ⟨q1, q2⟩, e25]
      have e4 : up mB 28 0 (m 19 0 0) (byt a) 25 0 4 = m 19 0 0 := by rw [up_k (by omega), e25]
      rw [e4]
      refine ⟨by rw [e19]; simp [up_rd], hS.text (mB := m) (fun k z => by rw [up_k (by omega), up_k (by omega), eo k (by omega) (by omega)]) (by rw [up_k (by omega), up_k (by omega), eo 26 (by omega) (by omega)]) (by rw [up_k (by omega), up_k (by omega), eo 27 (by omega) (by omega)]) (by simp [up_rd, eo 25 (by omega) (by omega)]) ?_⟩
      unfold Txt
      simp only [up_rd, e19, e20]
      simp
      refine ⟨by omega, fun i z1 z2 => ?_⟩
      by_cases hi : i = m 19 0 0
      · simp [hi]; omega
      · have := x3 i z1 (by omega)
        simp [hi, eo 28 (by omega) (by omega)]
        exact ⟨this.1, this.2⟩
    · refine b68_25 ⟨-3, ir (by omega) (by omega), rfl, e116 (b116_0 (r_in ha i0 (ir (by omega) (by omega)) (fun _ _ => ?_) (fun _ => by omega)))⟩
      exact b116_8 (by omega) (fun _ => b116_13 (by omega) (fun h => by omega) (fun _ => b116_22 ⟨rfl, hS.next⟩)) (fun h => absurd h (by omega))
  · refine b68_8 (by omega) (fun h => absurd rfl h) (fun _ => b68_11 ⟨-1, ir (by omega) (by omega), rfl, e116 (b116_0 (r_in ha i0 (ir (by omega) (by omega)) (fun _ _ => by omega) (fun _ => ?_)))⟩)
    exact b116_8 (by omega) (fun h => absurd rfl h) (fun _ => b116_11 ⟨rfl, hS.next⟩)
theorem op_clearText {Γ : GG} {d : Nat} {m : MI} {n : ML} {t : Int} (hS : Sim t m m) : Both Γ (d + 5) 69 117 [vr 1 0] [vr 25 0] m n t := by
  obtain ⟨x1, x2, x3⟩ := hS.2.2
  refine e69 (b69_0 ⟨m 19 0 0, ir (by omega) (by omega), rfl, e117 (b117_0 ⟨?_, ?_⟩)⟩)
  · rw [up_k (by omega), x2]
  · refine hS.text (mB := m) (fun k z => by rw [up_k (by omega), up_k (by omega)]) (by rw [up_k (by omega), up_k (by omega)]) (by rw [up_k (by omega), up_k (by omega)]) (by simp [up_rd]) ?_
    unfold Txt
    simp [up_rd]
    intro i z1 z2
    omega
set_option maxHeartbeats 4000000 in
theorem op_undo {Γ : GG} {d : Nat} {m : MI} {n : ML} {t : Int} (hS : Sim t m m) : Both Γ (d + 5) 81 91 [vr 1 0] [vr 25 0] m n t := by
  obtain ⟨c0, c1, c2, c3, c4, c5⟩ := sim_cnt hS
  refine c_undo ⟨c4, c5⟩ hS.2.1.2.2.1 (fun h => ?_) (fun h m1 f1 f2 f3 => ?_)
  · exact ⟨-2, ir (by omega) (by omega), rfl, r_undo (by omega) (fun _ => ⟨rfl, hS.next⟩) (fun h2 => by omega)⟩
  · refine ⟨m 1 0 3 - 1, ir (by omega) (by omega), rfl, ?_⟩
    have b25 : m1 25 = m 25 := by funext r; exact f1 25 r (by omega) (by omega)
    have b2 : m1 2 = m 2 := by funext r; exact f1 2 r (by omega) (by omega)
    refine r_undo (by rw [b25]; omega) (fun h2 => by rw [b25] at h2; omega) (fun h2 m2 g1 g2 g3 g4 => ⟨by rw [b25, c3], ?_⟩)
    obtain ⟨y1, y2⟩ := hS.2.1.2.2.2 (m 1 0 3 - 1) (by omega) (by omega)
    have hsv := hS.2.1.2.2.1
    have eV : VEq (Vw m2 0) (Vw m (m 2 0 (m 1 0 3 - 1))) := fun k k1 k2 j j1 j2 => by
      show m2 k 0 j = m k (m 2 0 (m 1 0 3 - 1)) j
      rw [g1 k (by omega) (by omega)]; exact f3 k k1 k2 j j1 j2
    have d1 : ∀ k, k ≠ 25 → k ≠ 26 → m2 k = m1 k := g1
    refine ⟨⟨y1.congr eV (fun j j1 j2 => ?_) y2, (y2.congr eV).mono (by omega)⟩, ?_, ?_⟩
    · rw [g4 j j1 j2, b25, c3]
      have : m1 27 0 = m 27 0 := f1 27 0 (by omega) (by omega)
      rw [this]
    · have e1 : m2 1 0 3 = m 1 0 3 - 1 := by rw [d1 1 (by omega) (by omega)]; exact f2
      have e2 : m2 2 0 = m 2 0 := by rw [d1 2 (by omega) (by omega), b2]
      refine ⟨by rw [e1]; omega, by rw [e1, g3, b25, c3], by unfold SvOK; rw [e2]; exact hsv, fun i q1 q2 => ?_⟩
      rw [e1] at q2
      obtain ⟨w1, w2⟩ := hS.2.1.2.2.2 i q1 (by omega)
      have hi := hsv.1 i q1 (by omega)
      have eV2 : VEq (Vw m2 (m2 2 0 i)) (Vw m (m 2 0 i)) := fun k k1 k2 j _ _ => by
        show m2 k (m2 2 0 i) j = m k (m 2 0 i) j
        rw [e2, d1 k (by omega) (by omega), f1 k (m 2 0 i) (by omega) (by omega)]
      refine ⟨w1.congr eV2 (fun j _ _ => ?_) w2, (w2.congr eV2).mono (by omega)⟩
      rw [d1 27 (by omega) (by omega)]
      have : m1 27 0 = m 27 0 := f1 27 0 (by omega) (by omega)
      rw [this]
    · obtain ⟨x1, x2, x3⟩ := hS.2.2
      have e19 : m2 19 0 = m 19 0 := by rw [d1 19 (by omega) (by omega)]; exact f1 19 0 (by omega) (by omega)
      have e20 : m2 20 0 = m 20 0 := by rw [d1 20 (by omega) (by omega)]; exact f1 20 0 (by omega) (by omega)
      have e28 : m2 28 0 = m 28 0 := by rw [d1 28 (by omega) (by omega)]; exact f1 28 0 (by omega) (by omega)
      have e25 : m2 25 0 4 = m 25 0 4 := by rw [g2 4 (by omega), b25]
      unfold Txt
      rw [e19, e20, e28, e25]
      exact ⟨x1, x2, x3⟩
