-- PAIRS OF CALLS: setRank, setHome, addParagraph, kill, revive
theorem i0 : InR 0 := ir (by omega) (by omega)
theorem i1 : InR 1 := ir (by omega) (by omega)
theorem sim_cnt {t : Int} {m : MI} (hS : Sim t m m) : 0 ≤ m 3 0 3 ∧ m 3 0 3 ≤ 12 ∧ m 26 0 3 = m 3 0 3 ∧ m 25 0 2 = m 1 0 3 ∧ 0 ≤ m 1 0 3 ∧ m 1 0 3 ≤ 6 := by
  have h1 := hS.1.2.1.2.2.2.1
  have h2 := hS.1.1.1.2.2.2.1
  exact ⟨h1.1, h1.2, h2, hS.2.1.2.1, hS.2.1.1.1, hS.2.1.1.2⟩
theorem up26 {m : MI} {w v j : Int} : up m 26 0 w v 26 0 j = if j = w then v else m 26 0 j := by simp [up_rd]
/-- what a good turn knows between the two calls -/
theorem mid {t sh : Int} {m mA mB : MI} (hS : Sim t m m) (hA : SavC m mA sh) (hB : ∀ k r, ¬ (3 ≤ k ∧ k ≤ 18 ∧ r = 0) → mB k r = mA k r) : (∀ k, 3 ≤ k → mA k 0 = m k 0) ∧ mB 25 = m 25 ∧ mB 26 = m 26 ∧ (0 ≤ mB 25 0 2 ∧ mB 25 0 2 ≤ 6) := by
  obtain ⟨a0, a1, a2⟩ := hA.now hS.2.1
  have b : ∀ k, 19 ≤ k → mB k = m k := fun k q => by rw [← a1 k q]; funext r; exact hB k r (fun z => by omega)
  have hc := sim_cnt hS
  exact ⟨fun k q => a0 k (by omega) (by omega), b 25 (by omega), b 26 (by omega), by rw [b 25 (by omega)]; omega⟩
set_option maxHeartbeats 4000000 in
theorem op_setRank {Γ : GG} {d : Nat} {m : MI} {n : ML} {t a b : Int} (hS : Sim t m m) (ha : InR a) (hb : InR b) : Both Γ (d + 5) 59 102 [vr 1 0, vi a, vi b] [vr 25 0, vi a, vi b] m n t := by
  obtain ⟨c0, c1, c2, c3, c4, c5⟩ := sim_cnt hS
  have bad : (a < 0 ∨ m 3 0 3 ≤ a) ∨ (b < 1 ∨ 99 < b) → ∃ x, InR x ∧ some (vi (-1)) = some (vi x) ∧ CM Γ (d + 5) 102 [vr 25 0, vi a, vi b] m n (fun r2 m2 _ => r2 = some (vi x) ∧ Sim (t + 1) m2 m2) := by
    intro q
    refine ⟨-1, ir (by omega) (by omega), rfl, e102 (b102_0 (r_isStory ha (by omega) (by omega) (fun q1 q2 => ?_) (fun _ => ?_)))⟩
    · refine b102_5 (by omega) (fun h => absurd h (by omega)) (fun _ => b102_8 (r_in hb i1 (ir (by omega) (by omega)) (fun q3 q4 => by omega) (fun _ => ?_)))
      exact b102_15 (by omega) (fun h => absurd rfl h) (fun _ => b102_18 ⟨rfl, hS.next⟩)
    · exact b102_5 (by omega) (fun _ => b102_18 ⟨rfl, hS.next⟩) (fun h => absurd rfl h)
  refine e59 (b59_0 (c_isStory ha c0 c1 (fun q1 q2 => ?_) (fun q => ?_)))
  · refine b59_5 (by omega) (fun h => absurd h (by omega)) (fun _ => b59_8 (c_isRank hb (fun q3 q4 => ?_) (fun q => ?_)))
    · refine b59_12 (by omega) (fun _ => b59_17 (c_save hS.2.1 (fun mA sh hA => ?_))) (fun h => absurd h (by omega))
      refine b59_21 (by omega) (by omega) ?_
      have hB : ∀ k r, ¬ (4 ≤ k ∧ k ≤ 9 ∧ r = 0) → up mA 4 0 a b k r = mA k r := fun k r z => up_ne (fun y => z (by omega))
      obtain ⟨eA, e25, e26, e6⟩ := mid hS hA (mB := up mA 4 0 a b) (fun k r z => hB k r (fun y => z (by omega)))
      have hR := (hS.1.1.2 a q1 q2).1
      have hW := hS.1.2.2.1 a q1 q2
      obtain ⟨r1, r2, r3, r4, r5, r6⟩ := hR
      obtain ⟨w1, w2, w3, w4, w5, w6, w7, w8⟩ := hW
      dsimp only [Vw] at r1 r2 r3 r4 r5 r6 w1 w2 w3 w4 w5 w6 w7 w8
      refine ⟨mA 4 0 a, by rw [eA 4 (by omega)]; exact ir (by omega) (by omega), rfl, ?_⟩
      refine e102 (b102_0 (r_isStory ha (by rw [e26]; omega) (by rw [e26]; omega) (fun _ _ => ?_) (fun z => by rw [e26] at z; omega)))
      refine b102_5 (by omega) (fun h => absurd h (by omega)) (fun _ => b102_8 (r_in hb i1 (ir (by omega) (by omega)) (fun _ _ => ?_) (fun z => by omega)))
      refine b102_15 (by omega) (fun _ => b102_20 (r_save e6 (fun mC sh2 hC => ?_))) (fun h => absurd h (by omega))
      have eC : ∀ j, mC 26 0 j = m 26 0 j := fun j => by rw [hC.2.1 26 (by omega) (by omega), e26]
      refine b102_24 (r_of (by omega) (by omega) (b102_30 (r_puts (by omega) (by omega) (b102_38 ⟨?_, ?_⟩))))
      · rw [eC, eA 4 (by omega), Int.add_zero, r1]
      · refine sim_mut1 hS ⟨q1, q2⟩ hA hB (fun k i k1 k2 k3 k4 => ?_) (fun z _ => by rw [up_k (by omega)]) hC (fun k z => up_k z) (fun j z => by rw [up26, if_neg (by omega)]) ?_ ?_
        · rw [up_rd, if_neg (fun z => k4 z.2.2)]
        · unfold SRel
          simp only [Vw, up_rd, eC, eA 4 (by omega), eA 5 (by omega), eA 6 (by omega), eA 7 (by omega), eA 8 (by omega), eA 9 (by omega), eA 11 (by omega)]
          refine ⟨by simp, by split <;> split <;> omega, by split <;> split <;> omega, fun z => ?_, by split <;> split <;> omega, fun j z1 z2 => ?_⟩
          · have := r4 (by simpa using z)
            split <;> split <;> omega
          · have := r6 j z1 (by simpa using z2)
            split <;> split <;> omega
        · unfold SWf
          simp only [Vw, up_rd, eA 3 (by omega), eA 4 (by omega), eA 5 (by omega), eA 6 (by omega), eA 7 (by omega), eA 8 (by omega), eA 9 (by omega), eA 10 (by omega), eA 11 (by omega)]
          simp
          exact ⟨⟨q3, q4⟩, w2, w3, w4, w5, w6, w7, w8⟩
    · exact b59_12 (by omega) (fun h => absurd rfl h) (fun _ => b59_15 (bad (Or.inr q)))
  · exact b59_5 (by omega) (fun _ => b59_15 (bad (Or.inl q))) (fun h => absurd rfl h)
set_option maxHeartbeats 4000000 in
theorem op_setHome {Γ : GG} {d : Nat} {m : MI} {n : ML} {t a b : Int} (hS : Sim t m m) (ha : InR a) (hb : InR b) : Both Γ (d + 5) 60 103 [vr 1 0, vi a, vi b] [vr 25 0, vi a, vi b] m n t := by
  obtain ⟨c0, c1, c2, c3, c4, c5⟩ := sim_cnt hS
  have p1 := hS.1.2.1.1
  have p2 := hS.1.1.1.1
  dsimp only [Vw] at p1 p2
  have bad : (a < 0 ∨ m 3 0 3 ≤ a) ∨ (b < 0 ∨ m 3 0 0 ≤ b) → ∃ x, InR x ∧ some (vi (-1)) = some (vi x) ∧ CM Γ (d + 5) 103 [vr 25 0, vi a, vi b] m n (fun r2 m2 _ => r2 = some (vi x) ∧ Sim (t + 1) m2 m2) := by
    intro q
    refine ⟨-1, ir (by omega) (by omega), rfl, e103 (b103_0 (r_isStory ha (by omega) (by omega) (fun q1 q2 => ?_) (fun _ => ?_)))⟩
    · refine b103_5 (by omega) (fun h => absurd h (by omega)) (fun _ => b103_8 (r_isPage hb (by omega) (by omega) (fun q3 q4 => by omega) (fun _ => ?_)))
      exact b103_13 (by omega) (fun h => absurd rfl h) (fun _ => b103_16 ⟨rfl, hS.next⟩)
    · exact b103_5 (by omega) (fun _ => b103_16 ⟨rfl, hS.next⟩) (fun h => absurd rfl h)
  refine e60 (b60_0 (c_isStory ha c0 c1 (fun q1 q2 => ?_) (fun q => ?_)))
  · refine b60_5 (by omega) (fun h => absurd h (by omega)) (fun _ => b60_8 (c_isPage hb (by omega) (by omega) (fun q3 q4 => ?_) (fun q => ?_)))
    · refine b60_13 (by omega) (fun _ => b60_18 (c_save hS.2.1 (fun mA sh hA => ?_))) (fun h => absurd h (by omega))
      refine b60_22 (by omega) (by omega) (by omega) ?_
      generalize hmB : up (up mA 5 0 a b) 9 0 a 1 = mB
      have hB : ∀ k r, ¬ (4 ≤ k ∧ k ≤ 9 ∧ r = 0) → mB k r = mA k r := fun k r z => by rw [← hmB, up_ne (fun y => z (by omega)), up_ne (fun y => z (by omega))]
      obtain ⟨eA, e25, e26, e6⟩ := mid hS hA (mB := mB) (fun k r z => hB k r (fun y => z (by omega)))
      have hR := (hS.1.1.2 a q1 q2).1
      have hW := hS.1.2.2.1 a q1 q2
      obtain ⟨r1, r2, r3, r4, r5, r6⟩ := hR
      obtain ⟨w1, w2, w3, w4, w5, w6, w7, w8⟩ := hW
      dsimp only [Vw] at r1 r2 r3 r4 r5 r6 w1 w2 w3 w4 w5 w6 w7 w8
      refine ⟨mA 5 0 a, by rw [eA 5 (by omega)]; exact ir (by omega) (by omega), rfl, ?_⟩
      refine e103 (b103_0 (r_isStory ha (by rw [e26]; omega) (by rw [e26]; omega) (fun _ _ => ?_) (fun z => by rw [e26] at z; omega)))
      refine b103_5 (by omega) (fun h => absurd h (by omega)) (fun _ => b103_8 (r_isPage hb (by rw [e26]; omega) (by rw [e26]; omega) (fun _ _ => ?_) (fun z => by rw [e26] at z; omega)))
      refine b103_13 (by omega) (fun _ => b103_18 (r_save e6 (fun mC sh2 hC => ?_))) (fun h => absurd h (by omega))
      have eC : ∀ j, mC 26 0 j = m 26 0 j := fun j => by rw [hC.2.1 26 (by omega) (by omega), e26]
      refine b103_22 (r_of (by omega) (by omega) (b103_28 (r_puts (by omega) (by omega) (b103_36 (r_puts (by omega) (by omega) (b103_43 ⟨?_, ?_⟩))))))
      · rw [eC, eA 5 (by omega), r2]
      · refine sim_mut1 hS ⟨q1, q2⟩ hA hB (fun k i k1 k2 k3 k4 => ?_) (fun z _ => by rw [← hmB, up_k (by omega), up_k (by omega)]) hC (fun k z => by rw [up_k z, up_k z]) (fun j z => by rw [up26, if_neg (by omega), up26, if_neg (by omega)]) ?_ ?_
        · rw [← hmB, up_rd, if_neg (fun z => k4 z.2.2), up_rd, if_neg (fun z => k4 z.2.2)]
        · subst hmB
          unfold SRel
          simp only [Vw, up_rd, eC, eA 4 (by omega), eA 5 (by omega), eA 6 (by omega), eA 7 (by omega), eA 8 (by omega), eA 9 (by omega), eA 11 (by omega)]
          refine ⟨?_, ?_, ?_, fun z => ?_, ?_, fun j z1 z2 => ?_⟩
          · first | (simp; done) | (simp; omega)
          · first | (simp; done) | (simp; omega)
          · first | (simp; done) | (simp; omega)
          · simp
          · first | (simp; done) | (simp; omega)
          · have := r6 j z1 (by simpa using z2)
            simp
            rw [if_neg (by omega), if_neg (by omega)]
            exact this
        · subst hmB
          unfold SWf
          simp only [Vw, up_rd, eA 3 (by omega), eA 4 (by omega), eA 5 (by omega), eA 6 (by omega), eA 7 (by omega), eA 8 (by omega), eA 9 (by omega), eA 10 (by omega), eA 11 (by omega)]
          simp
          exact ⟨w1, ⟨q3, q4⟩, w3, w4, w6⟩
    · exact b60_13 (by omega) (fun h => absurd rfl h) (fun _ => b60_16 (bad (Or.inr q)))
  · exact b60_5 (by omega) (fun _ => b60_16 (bad (Or.inl q))) (fun h => absurd rfl h)
set_option maxHeartbeats 4000000 in
theorem op_addParagraph {Γ : GG} {d : Nat} {m : MI} {n : ML} {t a b : Int} (hS : Sim t m m) (ha : InR a) (hb : InR b) : Both Γ (d + 5) 61 104 [vr 1 0, vi a, vi b] [vr 25 0, vi a, vi b] m n t := by
  obtain ⟨c0, c1, c2, c3, c4, c5⟩ := sim_cnt hS
  have bad : (a < 0 ∨ m 3 0 3 ≤ a) ∨ (b < 1 ∨ 30 < b) → ∃ x, InR x ∧ some (vi (-1)) = some (vi x) ∧ CM Γ (d + 5) 104 [vr 25 0, vi a, vi b] m n (fun r2 m2 _ => r2 = some (vi x) ∧ Sim (t + 1) m2 m2) := by
    intro q
    refine ⟨-1, ir (by omega) (by omega), rfl, e104 (b104_0 (r_isStory ha (by omega) (by omega) (fun q1 q2 => ?_) (fun _ => ?_)))⟩
    · refine b104_5 (by omega) (fun h => absurd h (by omega)) (fun _ => b104_8 (r_in hb i1 (ir (by omega) (by omega)) (fun q3 q4 => by omega) (fun _ => ?_)))
      exact b104_15 (by omega) (fun h => absurd rfl h) (fun _ => b104_18 ⟨rfl, hS.next⟩)
    · exact b104_5 (by omega) (fun _ => b104_18 ⟨rfl, hS.next⟩) (fun h => absurd rfl h)
  refine e61 (b61_0 (c_isStory ha c0 c1 (fun q1 q2 => ?_) (fun q => ?_)))
  · refine b61_5 (by omega) (fun h => absurd h (by omega)) (fun _ => b61_8 (c_isWithin hb i1 (ir (by omega) (by omega)) (fun q3 q4 => ?_) (fun q => ?_)))
    · have hR := (hS.1.1.2 a q1 q2).1
      have hW := hS.1.2.2.1 a q1 q2
      obtain ⟨r1, r2, r3, r4, r5, r6⟩ := hR
      obtain ⟨w1, w2, w3, w4, w5, w6, w7, w8⟩ := hW
      dsimp only [Vw] at r1 r2 r3 r4 r5 r6 w1 w2 w3 w4 w5 w6 w7 w8
      refine b61_15 (by omega) (fun _ => b61_20 (by omega) (by omega) (fun g => ?_) (fun g => ?_)) (fun h => absurd h (by omega))
      · refine b61_37 (c_save hS.2.1 (fun mA sh hA => b61_41 ?_))
        obtain ⟨eA, -, -, -⟩ := mid hS hA (mB := mA) (fun k r z => rfl)
        refine c_appendParagraph (by omega) (by rw [eA 6 (by omega)]; omega) (b61_50 (by omega) ?_)
        generalize hmB : up (up (up mA 6 0 a (mA 6 0 a + 1)) 7 0 (a * 8 + mA 6 0 a) b) 9 0 a 1 = mB
        have hB : ∀ k r, ¬ (4 ≤ k ∧ k ≤ 9 ∧ r = 0) → mB k r = mA k r := fun k r z => by rw [← hmB, up_ne (fun y => z (by omega)), up_ne (fun y => z (by omega)), up_ne (fun y => z (by omega))]
        obtain ⟨-, e25, e26, e6⟩ := mid hS hA (mB := mB) (fun k r z => hB k r (fun y => z (by omega)))
        have eB6 : mB 6 0 a = m 6 0 a + 1 := by rw [← hmB]; simp [up_rd, eA 6 (by omega)]
        refine ⟨mB 6 0 a, by rw [eB6]; exact ir (by omega) (by omega), rfl, ?_⟩
        refine e104 (b104_0 (r_isStory ha (by rw [e26]; omega) (by rw [e26]; omega) (fun _ _ => ?_) (fun z => by rw [e26] at z; omega)))
        refine b104_5 (by omega) (fun h => absurd h (by omega)) (fun _ => b104_8 (r_in hb i1 (ir (by omega) (by omega)) (fun _ _ => ?_) (fun z => by omega)))
        refine b104_15 (by omega) (fun _ => b104_20 (r_of (by omega) (by omega) ?_)) (fun h => absurd h (by omega))
        rw [e26, r5]
        refine b104_26 (by omega) (fun _ => b104_34 (r_save e6 (fun mC sh2 hC => b104_38 ?_))) (fun z => by omega)
        have eC : ∀ j, mC 26 0 j = m 26 0 j := fun j => by rw [hC.2.1 26 (by omega) (by omega), e26]
        refine r_lengthens (by omega) (by rw [eC, r5]; omega) (b104_44 (r_of (by omega) (by omega) (b104_50 ⟨?_, ?_⟩)))
        · rw [up26, if_neg (by omega), up26, if_pos rfl, eC, r5, eB6]
        · refine sim_mut1 hS ⟨q1, q2⟩ hA hB (fun k i k1 k2 k3 k4 => ?_) (fun z hz => ?_) hC (fun k z => by rw [up_k z, up_k z, up_k z]) (fun j z => by rw [up26, if_neg (by omega), up26, if_neg (by omega), up26, if_neg (by rw [eC, r5]; omega)]) ?_ ?_
          · rw [← hmB, up_rd, if_neg (fun z => k4 z.2.2), up_rd, if_neg (fun z => k3 z.1), up_rd, if_neg (fun z => k4 z.2.2)]
          · rw [← hmB, up_k (by omega), up_rd, if_neg (fun y => hz (by rw [eA 6 (by omega)] at y; omega)), up_k (by omega)]
          · subst hmB
            unfold SRel
            simp only [Vw, up_rd, eC, eA 4 (by omega), eA 5 (by omega), eA 6 (by omega), eA 7 (by omega), eA 8 (by omega), eA 9 (by omega), eA 11 (by omega), r5]
            refine ⟨?_, ?_, ?_, fun z => ?_, ?_, fun j z1 z2 => ?_⟩
            · first | (simp; done) | (simp; omega) | ((repeat' split) <;> omega)
            · first | (simp; done) | (simp; omega) | ((repeat' split) <;> omega)
            · first | (simp; done) | (simp; omega) | ((repeat' split) <;> omega)
            · simp
            · first | (simp; done) | (simp; omega) | ((repeat' split) <;> omega)
            · simp at z2
              by_cases hj : j = m 6 0 a
              · subst hj
                simp
                (repeat' split) <;> omega
              · have := r6 j z1 (by omega)
                simp
                (repeat' split) <;> omega
          · subst hmB
            unfold SWf
            simp only [Vw, up_rd, eA 3 (by omega), eA 4 (by omega), eA 5 (by omega), eA 6 (by omega), eA 7 (by omega), eA 8 (by omega), eA 9 (by omega), eA 10 (by omega), eA 11 (by omega)]
            simp
            refine ⟨w1, w2, by omega, w4, fun j z1 z2 => ?_⟩
            by_cases hj : j = m 6 0 a
            · subst hj
              simp
              omega
            · have := w6 j z1 (by omega)
              rw [if_neg (by omega)]
              exact this
      · refine b61_34 ⟨-3, ir (by omega) (by omega), rfl, ?_⟩
        refine e104 (b104_0 (r_isStory ha (by omega) (by omega) (fun _ _ => ?_) (fun z => by omega)))
        refine b104_5 (by omega) (fun h => absurd h (by omega)) (fun _ => b104_8 (r_in hb i1 (ir (by omega) (by omega)) (fun _ _ => ?_) (fun z => by omega)))
        refine b104_15 (by omega) (fun _ => b104_20 (r_of (by omega) (by omega) ?_)) (fun h => absurd h (by omega))
        rw [r5]
        exact b104_26 (by omega) (fun z => by omega) (fun _ => b104_31 ⟨rfl, hS.next⟩)
    · exact b61_15 (by omega) (fun h => absurd rfl h) (fun _ => b61_18 (bad (Or.inr q)))
  · exact b61_5 (by omega) (fun _ => b61_18 (bad (Or.inl q))) (fun h => absurd rfl h)
theorem alN_bd {al : Int → Int} {c : Int} (h : 0 ≤ c) : 0 ≤ alN al c ∧ alN al c ≤ c := by
  unfold alN
  have := Sm_bd (f := fun j => if al j = 0 then 0 else 1) (c := 1) h (fun j _ _ => by split <;> omega)
  omega
theorem alN_eq {al g : Int → Int} {c : Int} (h : ∀ j, 0 ≤ j → j < c → g j = al j ∧ (al j = 0 ∨ al j = 1)) : Sm g 0 c = alN al c := by
  unfold alN
  refine Sm_congr (fun j h1 h2 => ?_)
  obtain ⟨a, b⟩ := h j h1 h2
  rcases b with b | b <;> simp [a, b]
set_option maxHeartbeats 4000000 in
theorem op_kill {Γ : GG} {d : Nat} {m : MI} {n : ML} {t a : Int} (hS : Sim t m m) (ha : InR a) : Both Γ (d + 5) 63 108 [vr 1 0, vi a] [vr 25 0, vi a] m n t := by
  obtain ⟨c0, c1, c2, c3, c4, c5⟩ := sim_cnt hS
  refine e63 (b63_0 (c_isStory ha c0 c1 (fun q1 q2 => ?_) (fun q => ?_)))
  · have hR := (hS.1.1.2 a q1 q2).1
    have hW := hS.1.2.2.1 a q1 q2
    obtain ⟨r1, r2, r3, r4, r5, r6⟩ := hR
    obtain ⟨w1, w2, w3, w4, w5, w6, w7, w8⟩ := hW
    dsimp only [Vw] at r1 r2 r3 r4 r5 r6 w1 w2 w3 w4 w5 w6 w7 w8
    refine b63_5 (by omega) (fun _ => b63_10 (by omega) (by omega) (fun g => ?_) (fun g => ?_)) (fun h => absurd h (by omega))
    · refine b63_25 (c_save hS.2.1 (fun mA sh hA => b63_29 (by omega) (by omega) ?_))
      obtain ⟨eA, -, -, -⟩ := mid hS hA (mB := mA) (fun k r z => rfl)
      generalize hmB : up (up mA 8 0 a 0) 9 0 a 1 = mB
      have hB : ∀ k r, ¬ (4 ≤ k ∧ k ≤ 9 ∧ r = 0) → mB k r = mA k r := fun k r z => by rw [← hmB, up_ne (fun y => z (by omega)), up_ne (fun y => z (by omega))]
      obtain ⟨-, e25, e26, e6⟩ := mid hS hA (mB := mB) (fun k r z => hB k r (fun y => z (by omega)))
      have e3 : mB 3 0 3 = m 3 0 3 := by rw [hB 3 0 (by omega), eA 3 (by omega)]
      have e8 : ∀ j, mB 8 0 j = if j = a then 0 else m 8 0 j := fun j => by rw [← hmB]; simp [up_rd, eA 8 (by omega)]
      refine c_aliveCount (by omega) (by omega) (b63_56 ?_)
      have hbd := alN_bd (al := mB 8 0) (c := mB 3 0 3) (by omega)
      refine ⟨_, ir (by omega) (by omega), rfl, ?_⟩
      refine e108 (b108_0 (e107 (b107_0 (r_isStory ha (by rw [e26]; omega) (by rw [e26]; omega) (fun _ _ => ?_) (fun z => by rw [e26] at z; omega)))))
      refine b107_5 (by omega) (fun _ => b107_10 (r_of (by omega) (by omega) ?_)) (fun h => absurd h (by omega))
      rw [e26, r3]
      refine b107_16 (by omega) (by omega) (fun _ => b107_23 (r_save e6 (fun mC sh2 hC => b107_27 ?_))) (fun z => absurd z g)
      have eC : ∀ j, mC 26 0 j = m 26 0 j := fun j => by rw [hC.2.1 26 (by omega) (by omega), e26]
      refine r_puts (by omega) (by omega) (b107_34 (r_puts (by omega) (by omega) (b107_41 (r_alive ?_ ?_ (b107_45 (b108_6 ⟨?_, ?_⟩))))))
      · rw [up26, if_neg (by omega), up26, if_neg (by omega), eC]; omega
      · rw [up26, if_neg (by omega), up26, if_neg (by omega), eC]; omega
      · have e33 : up (up mC 26 0 (4 + 13 * a + 2) 0) 26 0 (4 + 13 * a + 3) 1 26 0 3 = mB 3 0 3 := by rw [up26, if_neg (by omega), up26, if_neg (by omega), eC, e3]; omega
        rw [e33]
        congr 2
        refine alN_eq (fun j z1 z2 => ?_)
        rw [e3] at z2
        have hj := (hS.1.1.2 j z1 z2).1.2.2.1
        have hk := (hS.1.2.2.1 j z1 z2).2.2.2.1
        dsimp only [Vw] at hj hk
        rw [up26, up26, eC, e8]
        (repeat' split) <;> omega
      · refine sim_mut1 hS ⟨q1, q2⟩ hA hB (fun k i k1 k2 k3 k4 => ?_) (fun z _ => by rw [← hmB, up_k (by omega), up_k (by omega)]) hC (fun k z => by rw [up_k z, up_k z]) (fun j z => by rw [up26, if_neg (by omega), up26, if_neg (by omega)]) ?_ ?_
        · rw [← hmB, up_rd, if_neg (fun z => k4 z.2.2), up_rd, if_neg (fun z => k4 z.2.2)]
        · subst hmB
          unfold SRel
          simp only [Vw, up_rd, eC, eA 4 (by omega), eA 5 (by omega), eA 6 (by omega), eA 7 (by omega), eA 8 (by omega), eA 9 (by omega), eA 11 (by omega)]
          refine ⟨?_, ?_, ?_, fun z => ?_, ?_, fun j z1 z2 => ?_⟩
          · first | (simp; done) | (simp; omega) | ((repeat' split) <;> omega)
          · first | (simp; done) | (simp; omega) | ((repeat' split) <;> omega)
          · first | (simp; done) | (simp; omega) | ((repeat' split) <;> omega)
          · simp
          · first | (simp; done) | (simp; omega) | ((repeat' split) <;> omega)
          · have := r6 j z1 (by simpa using z2)
            simp
            (repeat' split) <;> omega
        · subst hmB
          unfold SWf
          simp only [Vw, up_rd, eA 3 (by omega), eA 4 (by omega), eA 5 (by omega), eA 6 (by omega), eA 7 (by omega), eA 8 (by omega), eA 9 (by omega), eA 10 (by omega), eA 11 (by omega)]
          simp
          exact ⟨w1, w2, w3, w6⟩
    · refine b63_22 ⟨-2, ir (by omega) (by omega), rfl, ?_⟩
      refine e108 (b108_0 (e107 (b107_0 (r_isStory ha (by omega) (by omega) (fun _ _ => ?_) (fun z => by omega)))))
      refine b107_5 (by omega) (fun _ => b107_10 (r_of (by omega) (by omega) ?_)) (fun h => absurd h (by omega))
      rw [r3]
      exact b107_16 (by omega) (by omega) (fun z => absurd g z) (fun _ => b107_20 (b108_6 ⟨rfl, hS.next⟩))
  · refine b63_5 (by omega) (fun h => absurd rfl h) (fun _ => b63_8 ⟨-1, ir (by omega) (by omega), rfl, ?_⟩)
    refine e108 (b108_0 (e107 (b107_0 (r_isStory ha (by omega) (by omega) (fun _ _ => by omega) (fun z => ?_)))))
    exact b107_5 (by omega) (fun h => absurd rfl h) (fun _ => b107_8 (b108_6 ⟨rfl, hS.next⟩))
set_option maxHeartbeats 4000000 in
theorem op_revive {Γ : GG} {d : Nat} {m : MI} {n : ML} {t a : Int} (hS : Sim t m m) (ha : InR a) : Both Γ (d + 5) 64 109 [vr 1 0, vi a] [vr 25 0, vi a] m n t := by
  obtain ⟨c0, c1, c2, c3, c4, c5⟩ := sim_cnt hS
  refine e64 (b64_0 (c_isStory ha c0 c1 (fun q1 q2 => ?_) (fun q => ?_)))
  · have hR := (hS.1.1.2 a q1 q2).1
    have hW := hS.1.2.2.1 a q1 q2
    obtain ⟨r1, r2, r3, r4, r5, r6⟩ := hR
    obtain ⟨w1, w2, w3, w4, w5, w6, w7, w8⟩ := hW
    dsimp only [Vw] at r1 r2 r3 r4 r5 r6 w1 w2 w3 w4 w5 w6 w7 w8
    refine b64_5 (by omega) (fun _ => b64_10 (by omega) (by omega) (fun g => ?_) (fun g => ?_)) (fun h => absurd h (by omega))
    · refine b64_25 (c_save hS.2.1 (fun mA sh hA => b64_29 (by omega) ?_))
      obtain ⟨eA, -, -, -⟩ := mid hS hA (mB := mA) (fun k r z => rfl)
      generalize hmB : up mA 8 0 a 1 = mB
      have hB : ∀ k r, ¬ (4 ≤ k ∧ k ≤ 9 ∧ r = 0) → mB k r = mA k r := fun k r z => by rw [← hmB, up_ne (fun y => z (by omega))]
      obtain ⟨-, e25, e26, e6⟩ := mid hS hA (mB := mB) (fun k r z => hB k r (fun y => z (by omega)))
      have e3 : mB 3 0 3 = m 3 0 3 := by rw [hB 3 0 (by omega), eA 3 (by omega)]
      have e8 : ∀ j, mB 8 0 j = if j = a then 1 else m 8 0 j := fun j => by rw [← hmB]; simp [up_rd, eA 8 (by omega)]
      refine c_aliveCount (by omega) (by omega) (b64_46 ?_)
      have hbd := alN_bd (al := mB 8 0) (c := mB 3 0 3) (by omega)
      refine ⟨_, ir (by omega) (by omega), rfl, ?_⟩
      refine e109 (b109_0 (e107 (b107_0 (r_isStory ha (by rw [e26]; omega) (by rw [e26]; omega) (fun _ _ => ?_) (fun z => by rw [e26] at z; omega)))))
      refine b107_5 (by omega) (fun _ => b107_10 (r_of (by omega) (by omega) ?_)) (fun h => absurd h (by omega))
      rw [e26, r3]
      refine b107_16 (by omega) (by omega) (fun _ => b107_23 (r_save e6 (fun mC sh2 hC => b107_27 ?_))) (fun z => by omega)
      have eC : ∀ j, mC 26 0 j = m 26 0 j := fun j => by rw [hC.2.1 26 (by omega) (by omega), e26]
      refine r_puts (by omega) (by omega) (b107_34 (r_puts (by omega) (by omega) (b107_41 (r_alive ?_ ?_ (b107_45 (b109_6 ⟨?_, ?_⟩))))))
      · rw [up26, if_neg (by omega), up26, if_neg (by omega), eC]; omega
      · rw [up26, if_neg (by omega), up26, if_neg (by omega), eC]; omega
      · have e33 : up (up mC 26 0 (4 + 13 * a + 2) 1) 26 0 (4 + 13 * a + 3) 1 26 0 3 = mB 3 0 3 := by rw [up26, if_neg (by omega), up26, if_neg (by omega), eC, e3]; omega
        rw [e33]
        congr 2
        refine alN_eq (fun j z1 z2 => ?_)
        rw [e3] at z2
        have hj := (hS.1.1.2 j z1 z2).1.2.2.1
        have hk := (hS.1.2.2.1 j z1 z2).2.2.2.1
        dsimp only [Vw] at hj hk
        rw [up26, up26, eC, e8]
        (repeat' split) <;> omega
      · refine sim_mut1 hS ⟨q1, q2⟩ hA hB (fun k i k1 k2 k3 k4 => ?_) (fun z _ => by rw [← hmB, up_k (by omega)]) hC (fun k z => by rw [up_k z, up_k z]) (fun j z => by rw [up26, if_neg (by omega), up26, if_neg (by omega)]) ?_ ?_
        · rw [← hmB, up_rd, if_neg (fun z => k4 z.2.2)]
        · subst hmB
          unfold SRel
          simp only [Vw, up_rd, eC, eA 4 (by omega), eA 5 (by omega), eA 6 (by omega), eA 7 (by omega), eA 8 (by omega), eA 9 (by omega), eA 11 (by omega)]
          refine ⟨?_, ?_, ?_, fun z => ?_, ?_, fun j z1 z2 => ?_⟩
          · first | (simp; done) | (simp; omega) | ((repeat' split) <;> omega)
          · first | (simp; done) | (simp; omega) | ((repeat' split) <;> omega)
          · first | (simp; done) | (simp; omega) | ((repeat' split) <;> omega)
          · have := w8 g (by simpa using z)
            simp [this]
          · first | (simp; done) | (simp; omega) | ((repeat' split) <;> omega)
          · have := r6 j z1 (by simpa using z2)
            simp
            (repeat' split) <;> omega
        · subst hmB
          unfold SWf
          simp only [Vw, up_rd, eA 3 (by omega), eA 4 (by omega), eA 5 (by omega), eA 6 (by omega), eA 7 (by omega), eA 8 (by omega), eA 9 (by omega), eA 10 (by omega), eA 11 (by omega)]
          simp
          exact ⟨w1, w2, w3, w5, w6, w7⟩
    · refine b64_22 ⟨-2, ir (by omega) (by omega), rfl, ?_⟩
      refine e109 (b109_0 (e107 (b107_0 (r_isStory ha (by omega) (by omega) (fun _ _ => ?_) (fun z => by omega)))))
      refine b107_5 (by omega) (fun _ => b107_10 (r_of (by omega) (by omega) ?_)) (fun h => absurd h (by omega))
      rw [r3]
      exact b107_16 (by omega) (by omega) (fun z => by omega) (fun _ => b107_20 (b109_6 ⟨rfl, hS.next⟩))
  · refine b64_5 (by omega) (fun h => absurd rfl h) (fun _ => b64_8 ⟨-1, ir (by omega) (by omega), rfl, ?_⟩)
    refine e109 (b109_0 (e107 (b107_0 (r_isStory ha (by omega) (by omega) (fun _ _ => by omega) (fun z => ?_)))))
    exact b107_5 (by omega) (fun h => absurd rfl h) (fun _ => b107_8 (b109_6 ⟨rfl, hS.next⟩))
