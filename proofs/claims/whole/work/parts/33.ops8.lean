-- the pair of calls: addStory
set_option maxHeartbeats 4000000 in
theorem op_addStory {Γ : GG} {d : Nat} {m : MI} {n : ML} {t a b v : Int} (hS : Sim t m m) (ha : InR a) (hb : InR b) (hv : InR v) : Both Γ (d + 5) 58 101 [vr 1 0, vi a, vi b, vi v] [vr 25 0, vi a, vi b, vi v] m n t := by
  obtain ⟨c0, c1, c2, c3, c4, c5⟩ := sim_cnt hS
  have p1 := hS.1.2.1.1
  have p2 := hS.1.1.1.1
  dsimp only [Vw] at p1 p2
  have bad : (a < 1 ∨ 99 < a) ∨ (b < 0 ∨ m 3 0 0 ≤ b) ∨ (v < 1 ∨ 30 < v) → ∃ x, InR x ∧ some (vi (-1)) = some (vi x) ∧ CM Γ (d + 5) 101 [vr 25 0, vi a, vi b, vi v] m n (fun r2 m2 _ => r2 = some (vi x) ∧ Sim (t + 1) m2 m2) := by
    intro q
    refine ⟨-1, ir (by omega) (by omega), rfl, e101 (b101_0 (r_in ha i1 (ir (by omega) (by omega)) (fun q1 q2 => ?_) (fun _ => ?_)))⟩
    · refine b101_7 (by omega) (fun h => absurd h (by omega)) (fun _ => b101_10 (r_isPage hb (by omega) (by omega) (fun q3 q4 => ?_) (fun _ => ?_)))
      · refine b101_15 (by omega) (fun h => absurd h (by omega)) (fun _ => b101_18 (r_in hv i1 (ir (by omega) (by omega)) (fun q5 q6 => by omega) (fun _ => ?_)))
        exact b101_25 (by omega) (fun h => absurd rfl h) (fun _ => b101_28 ⟨rfl, hS.next⟩)
      · exact b101_15 (by omega) (fun _ => b101_28 ⟨rfl, hS.next⟩) (fun h => absurd rfl h)
    · exact b101_7 (by omega) (fun _ => b101_28 ⟨rfl, hS.next⟩) (fun h => absurd rfl h)
  refine e58 (b58_0 (c_isRank ha (fun q1 q2 => ?_) (fun q => ?_)))
  · refine b58_4 (by omega) (fun h => absurd h (by omega)) (fun _ => b58_7 (c_isPage hb (by omega) (by omega) (fun q3 q4 => ?_) (fun q => ?_)))
    · refine b58_12 (by omega) (fun h => absurd h (by omega)) (fun _ => b58_15 (c_isWithin hv i1 (ir (by omega) (by omega)) (fun q5 q6 => ?_) (fun q => ?_)))
      · have go : ∀ (mB : MI) (x : Int), mB 26 = m 26 → (AM Γ (d + 5) 101 30 [some (vr 25 0), some (vi a), some (vi b), some (vi v), none] [] mB n (fun r2 m2 _ => r2 = some (vi x) ∧ Sim (t + 1) m2 m2)) → CM Γ (d + 5) 101 [vr 25 0, vi a, vi b, vi v] mB n (fun r2 m2 _ => r2 = some (vi x) ∧ Sim (t + 1) m2 m2) := by
          intro mB x e26 h
          refine e101 (b101_0 (r_in ha i1 (ir (by omega) (by omega)) (fun _ _ => ?_) (fun _ => by omega)))
          refine b101_7 (by omega) (fun h => absurd h (by omega)) (fun _ => b101_10 (r_isPage hb (by rw [e26]; omega) (by rw [e26]; omega) (fun _ _ => ?_) (fun z => by rw [e26] at z; omega)))
          refine b101_15 (by omega) (fun h => absurd h (by omega)) (fun _ => b101_18 (r_in hv i1 (ir (by omega) (by omega)) (fun _ _ => ?_) (fun _ => by omega)))
          exact b101_25 (by omega) (fun _ => h) (fun h => absurd h (by omega))
        refine b58_22 (by omega) (fun _ => b58_27 (by omega) (fun cl => ?_) (fun cl => ?_)) (fun h => absurd h (by omega))
        · refine b58_42 (c_save hS.2.1 (fun mA sh hA => b58_46 ?_))
          obtain ⟨eA, -, -, -⟩ := mid hS hA (mB := mA) (fun k r z => rfl)
          refine c_appendStory (by rw [eA 3 (by omega)]; omega) ?_
          rw [eA 3 (by omega)]
          generalize hm1 : up (up (up (up (up mA 4 0 (m 3 0 3) a) 5 0 (m 3 0 3) b) 6 0 (m 3 0 3) 0) 8 0 (m 3 0 3) 1) 3 0 3 (m 3 0 3 + 1) = m1
          have e61 : m1 6 0 (m 3 0 3) = 0 := by rw [← hm1]; simp [up_rd]
          refine b58_55 (c_appendParagraph (by omega) (by omega) (b58_67 ?_))
          rw [e61]
          generalize hmB : up (up (up m1 6 0 (m 3 0 3) (0 + 1)) 7 0 (m 3 0 3 * 8 + 0) v) 9 0 (m 3 0 3) 1 = mB
          have hB : ∀ k r, ¬ (3 ≤ k ∧ k ≤ 9 ∧ r = 0) → mB k r = mA k r := fun k r z => by rw [← hmB, ← hm1, up_ne (fun y => z (by omega)), up_ne (fun y => z (by omega)), up_ne (fun y => z (by omega)), up_ne (fun y => z (by omega)), up_ne (fun y => z (by omega)), up_ne (fun y => z (by omega)), up_ne (fun y => z (by omega)), up_ne (fun y => z (by omega))]
          obtain ⟨-, e25, e26, e6⟩ := mid hS hA (mB := mB) (fun k r z => hB k r (fun y => z (by omega)))
          have z3 : ∀ j, mB 3 0 j = if j = 3 then m 3 0 3 + 1 else m 3 0 j := fun j => by rw [← hmB, ← hm1]; simp [up_rd, eA 3 (by omega)]
          have z4 : ∀ j, mB 4 0 j = if j = m 3 0 3 then a else m 4 0 j := fun j => by rw [← hmB, ← hm1]; simp [up_rd, eA 4 (by omega)]
          have z5 : ∀ j, mB 5 0 j = if j = m 3 0 3 then b else m 5 0 j := fun j => by rw [← hmB, ← hm1]; simp [up_rd, eA 5 (by omega)]
          have z6 : ∀ j, mB 6 0 j = if j = m 3 0 3 then 1 else m 6 0 j := fun j => by rw [← hmB, ← hm1]; simp [up_rd, eA 6 (by omega)]; by_cases y : j = m 3 0 3 <;> simp [y]
          have z7 : ∀ j, mB 7 0 j = if j = m 3 0 3 * 8 then v else m 7 0 j := fun j => by rw [← hmB, ← hm1]; simp [up_rd, eA 7 (by omega)]
          have z8 : ∀ j, mB 8 0 j = if j = m 3 0 3 then 1 else m 8 0 j := fun j => by rw [← hmB, ← hm1]; simp [up_rd, eA 8 (by omega)]
          have z9 : ∀ j, mB 9 0 j = if j = m 3 0 3 then 1 else m 9 0 j := fun j => by rw [← hmB, ← hm1]; simp [up_rd, eA 9 (by omega)]
          have ze : ∀ k, 10 ≤ k → mB k 0 = m k 0 := fun k k1 => by rw [hB k 0 (by omega), eA k (by omega)]
          clear hmB hm1 e61
          refine ⟨m 3 0 3, ir (by omega) (by omega), rfl, go mB _ e26 ?_⟩
          refine b101_30 (by rw [e26]; omega) (fun _ => b101_44 (r_save e6 (fun mC sh2 hC => b101_48 ?_))) (fun z => by rw [e26] at z; omega)
          have eC : ∀ j, mC 26 0 j = m 26 0 j := fun j => by rw [hC.2.1 26 (by omega) (by omega), e26]
          refine r_adds (c := m 3 0 3) (by rw [eC]; omega) (by omega) cl (fun mD f1 f2 f3 f4 f5 f6 f7 f8 f9 f10 => b101_54 (r_lengthens (by omega) (by omega) (b101_63 ⟨rfl, ?_⟩)))
          rw [f8, Int.add_zero]
          generalize hs : up (up (up mD 26 0 (9 + 13 * m 3 0 3) v) 26 0 (4 + 13 * m 3 0 3 + 4) (0 + 1)) 26 0 (4 + 13 * m 3 0 3 + 3) 1 = mE
          have s1 : ∀ z, z ≠ 9 + 13 * m 3 0 3 → z ≠ 4 + 13 * m 3 0 3 + 4 → z ≠ 4 + 13 * m 3 0 3 + 3 → mE 26 0 z = mD 26 0 z := fun z y1 y2 y3 => by rw [← hs, up26, if_neg y3, up26, if_neg y2, up26, if_neg y1]
          have s3 : mE 26 0 (4 + 13 * m 3 0 3 + 3) = 1 := by rw [← hs, up26, if_pos rfl]
          have s4 : mE 26 0 (4 + 13 * m 3 0 3 + 4) = 1 := by rw [← hs, up26, if_neg (by omega), up26, if_pos rfl]; rfl
          have s5 : mE 26 0 (9 + 13 * m 3 0 3) = v := by rw [← hs, up26, if_neg (by omega), up26, if_neg (by omega), up26, if_pos rfl]
          have hE : ∀ k, k ≠ 26 → mE k = mC k := fun k z => by rw [← hs, up_k z, up_k z, up_k z, f1 k z]
          clear hs
          refine sim_step hS hA (fun k r q => hB k r (fun z => q ⟨by omega, by omega, z.2.2⟩)) hC hE ?_ ?_
          · refine PRel.grow hS.1.2 hS.1.1 (c := m 3 0 3) rfl cl (fun j y => ?_) ?_ (fun k k1 k2 => ze k k1) (fun k i k1 k2 k3 k4 => ?_) (fun z y => ?_) ?_ (fun j j0 j1 j2 j3 j4 => ?_) ?_ ?_ ?_
            · exact (z3 j).trans (if_neg y)
            · exact (z3 3).trans (if_pos rfl)
            · rcases (show k = 4 ∨ k = 5 ∨ k = 6 ∨ k = 8 ∨ k = 9 by omega) with rfl | rfl | rfl | rfl | rfl
              · exact (z4 i).trans (if_neg k4)
              · exact (z5 i).trans (if_neg k4)
              · exact (z6 i).trans (if_neg k4)
              · exact (z8 i).trans (if_neg k4)
              · exact (z9 i).trans (if_neg k4)
            · exact (z7 z).trans (if_neg (by omega))
            · rw [s1 3 (by omega) (by omega) (by omega), f2]
            · rw [s1 j (by omega) (by omega) (by omega), f3 j j2 (by omega) j4, eC]
            · rw [s1 _ (by omega) (by omega) (by omega), f9]
            · rw [s1 _ (by omega) (by omega) (by omega), f10]
            · unfold SRel
              dsimp only [Vw]
              rw [z4, if_pos rfl, z5, if_pos rfl, z6, if_pos rfl, z8, if_pos rfl, z9, if_pos rfl, s1 _ (by omega) (by omega) (by omega), f4, s1 _ (by omega) (by omega) (by omega), f5, s1 _ (by omega) (by omega) (by omega), f6, s3, s4]
              refine ⟨rfl, rfl, rfl, fun _ => rfl, rfl, fun j j1 j2 => ?_⟩
              have hj : j = 0 := by omega
              subst hj
              rw [Int.add_zero, Int.add_zero, s5, z7, if_pos rfl]
          · refine (PWf.grow hS.1.2 (c := m 3 0 3) rfl cl (fun j y => ?_) ?_ (fun k k1 k2 => ze k k1) (fun k i k1 k2 k3 k4 => ?_) (fun z y => ?_) ?_).mono (by omega)
            · exact (z3 j).trans (if_neg y)
            · exact (z3 3).trans (if_pos rfl)
            · rcases (show k = 4 ∨ k = 5 ∨ k = 6 ∨ k = 8 ∨ k = 9 by omega) with rfl | rfl | rfl | rfl | rfl
              · exact (z4 i).trans (if_neg k4)
              · exact (z5 i).trans (if_neg k4)
              · exact (z6 i).trans (if_neg k4)
              · exact (z8 i).trans (if_neg k4)
              · exact (z9 i).trans (if_neg k4)
            · exact (z7 z).trans (if_neg (by omega))
            · unfold SWf
              dsimp only [Vw]
              rw [z4, if_pos rfl, z5, if_pos rfl, z6, if_pos rfl, z8, if_pos rfl, z9, if_pos rfl, z3, if_neg (by omega)]
              refine ⟨⟨q1, q2⟩, ⟨q3, q4⟩, ⟨by omega, by omega⟩, Or.inr rfl, Or.inr rfl, fun j j1 j2 => ?_, fun z => absurd z (by omega), fun _ _ => rfl⟩
              have hj : j = 0 := by omega
              subst hj
              rw [Int.add_zero, z7, if_pos rfl]
              exact ⟨q5, q6⟩
        · refine b58_39 ⟨-3, ir (by omega) (by omega), rfl, go m _ rfl ?_⟩
          exact b101_30 (by omega) (fun z => absurd z (by omega)) (fun _ => b101_41 ⟨rfl, hS.next⟩)
      · exact b58_22 (by omega) (fun h => absurd rfl h) (fun _ => b58_25 (bad (Or.inr (Or.inr q))))
    · exact b58_12 (by omega) (fun _ => b58_25 (bad (Or.inr (Or.inl q)))) (fun h => absurd rfl h)
  · exact b58_4 (by omega) (fun _ => b58_25 (bad (Or.inl q))) (fun h => absurd rfl h)
