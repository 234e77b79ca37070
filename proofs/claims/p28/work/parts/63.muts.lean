-- THE CHANGES: an error leaves all as it was, or the change was saved
def Opp (Γ : GG) (d k : Nat) (as : List AV) (m : MI) (n : ML) (t : Int) : Prop := CM Γ d k as m n (fun r m' _ => ∃ x, InR x ∧ r = some (vi x) ∧ ((x < 0 ∧ m' = m) ∨ (0 ≤ x ∧ Step t m m')))
theorem c_save {Γ : GG} {d : Nat} {m : MI} {n : ML} {post : PO} {t : Int} (hI : Inv t m) (K : ∀ m' sh, SavC m m' sh → post none m' n) : CM Γ (d + 4) 63 [vr 1 0] m n post :=
  c_saveState hI.2.1 hI.2.2.1 (fun m' sh h1 h2 h3 h4 h5 h6 => K m' sh ⟨h1, h2, h3, h4, h5, h6⟩)
theorem step_mut {t sh : Int} {m mA mB : MI} (hA : SavC m mA sh) (hB : ∀ k r, ¬ (3 ≤ k ∧ k ≤ 18 ∧ r = 0) → mB k r = mA k r) (hG : Good (t + 1) (Vw mB 0)) : Step t m mB :=
  ⟨mA, sh, hA, fun k r _ z => hB k r (by omega), hG⟩
/-- .. of one story -/
theorem step_mut1 {t sh x : Int} {m mA mB : MI} (hI : Inv t m) (hx : 0 ≤ x ∧ x < m 3 0 3) (hA : SavC m mA sh) (hB : ∀ k r, ¬ (4 ≤ k ∧ k ≤ 9 ∧ r = 0) → mB k r = mA k r) (hBo : ∀ k i, 4 ≤ k → k ≤ 9 → k ≠ 7 → i ≠ x → mB k 0 i = mA k 0 i) (hB7 : ∀ z, ¬ (x * 8 ≤ z ∧ z < x * 8 + 8) → mB 7 0 z = mA 7 0 z) (hW : SWf (Vw mB 0) x) : Step t m mB := by
  obtain ⟨hb, a0, a1, a2⟩ := hA.at hI.2.1
  have e3 : Vw mB 0 3 = Vw m 0 3 := by show mB 3 0 = m 3 0; rw [hB 3 0 (fun z => by omega), a0 3 (by omega) (by omega)]
  have ee : ∀ k, 10 ≤ k → Vw mB 0 k = Vw m 0 k := fun k q => by show mB k 0 = m k 0; rw [hB k 0 (fun z => by omega), a0 k (by omega) (by omega)]
  have eo : ∀ k i, 4 ≤ k → k ≤ 9 → k ≠ 7 → i ≠ x → Vw mB 0 k i = Vw m 0 k i := fun k i q1 q2 q3 q4 => by show mB k 0 i = m k 0 i; rw [hBo k i q1 q2 q3 q4, a0 k (by omega) (by omega)]
  have e7 : ∀ z, ¬ (x * 8 ≤ z ∧ z < x * 8 + 8) → Vw mB 0 7 z = Vw m 0 7 z := fun z q => by show mB 7 0 z = m 7 0 z; rw [hB7 z q, a0 7 (by omega) (by omega)]
  exact step_mut hA (fun k r q => hB k r (fun z => q ⟨by omega, by omega, z.2.2⟩)) ⟨(hI.1.1.story hx e3 ee eo e7 hW).mono (by omega), hI.1.2.same (fun k k1 _ => ee k k1)⟩
set_option maxHeartbeats 4000000 in
theorem op_setRank {Γ : GG} {d : Nat} {m : MI} {n : ML} {t a b : Int} (hI : Inv t m) (ha : InR a) (hb : InR b) : Opp Γ (d + 5) 46 [vr 1 0, vi a, vi b] m n t := by
  obtain ⟨c0, c1, c2, c3⟩ := inv_cnt hI
  refine e46 (b46_0 (c_isStory ha c0 c1 (fun q1 q2 => ?_) (fun q => ?_)))
  · refine b46_5 (by omega) (fun h => absurd h (by omega)) (fun _ => b46_8 (c_isRank hb (fun q3 q4 => ?_) (fun q => ?_)))
    · refine b46_12 (by omega) (fun _ => b46_17 (c_save hI (fun mA sh hA => ?_))) (fun h => absurd h (by omega))
      refine b46_21 (by omega) (by omega) ?_
      have hB : ∀ k r, ¬ (4 ≤ k ∧ k ≤ 9 ∧ r = 0) → up mA 4 0 a b k r = mA k r := fun k r z => up_ne (fun y => z (by omega))
      obtain ⟨-, eA', -, -⟩ := hA.at hI.2.1
      have eA : ∀ k, 3 ≤ k → mA k 0 = m k 0 := fun k q => eA' k (by omega) (by omega)
      have hW := hI.1.1.2.1 a q1 q2
      obtain ⟨w1, w2, w3, w4, w5, w6, w7, w8⟩ := hW
      dsimp only [Vw] at w1 w2 w3 w4 w5 w6 w7 w8
      refine ⟨mA 4 0 a, by rw [eA 4 (by omega)]; exact ir (by omega) (by omega), rfl, Or.inr ⟨by rw [eA 4 (by omega)]; omega, ?_⟩⟩
      refine step_mut1 hI ⟨q1, q2⟩ hA hB (fun k i k1 k2 k3 k4 => ?_) (fun z _ => by rw [up_k (by omega)]) ?_
      · rw [up_rd, if_neg (fun z => k4 z.2.2)]
      · unfold SWf
        simp only [Vw, up_rd, eA 3 (by omega), eA 4 (by omega), eA 5 (by omega), eA 6 (by omega), eA 7 (by omega), eA 8 (by omega), eA 9 (by omega), eA 10 (by omega), eA 11 (by omega)]
        simp
        exact ⟨⟨q3, q4⟩, w2, w3, w4, w5, w6, w7, w8⟩
    · exact b46_12 (by omega) (fun h => absurd rfl h) (fun _ => b46_15 ⟨-1, ir (by omega) (by omega), rfl, Or.inl ⟨by omega, rfl⟩⟩)
  · exact b46_5 (by omega) (fun _ => b46_15 ⟨-1, ir (by omega) (by omega), rfl, Or.inl ⟨by omega, rfl⟩⟩) (fun h => absurd rfl h)
set_option maxHeartbeats 4000000 in
theorem op_setHome {Γ : GG} {d : Nat} {m : MI} {n : ML} {t a b : Int} (hI : Inv t m) (ha : InR a) (hb : InR b) : Opp Γ (d + 5) 47 [vr 1 0, vi a, vi b] m n t := by
  obtain ⟨c0, c1, c2, c3⟩ := inv_cnt hI
  have p1 := hI.1.1.1.1
  dsimp only [Vw] at p1
  refine e47 (b47_0 (c_isStory ha c0 c1 (fun q1 q2 => ?_) (fun q => ?_)))
  · refine b47_5 (by omega) (fun h => absurd h (by omega)) (fun _ => b47_8 (c_isPage hb (by omega) (by omega) (fun q3 q4 => ?_) (fun q => ?_)))
    · refine b47_13 (by omega) (fun _ => b47_18 (c_save hI (fun mA sh hA => ?_))) (fun h => absurd h (by omega))
      refine b47_22 (by omega) (by omega) (by omega) ?_
      generalize hmB : up (up mA 5 0 a b) 9 0 a 1 = mB
      have hB : ∀ k r, ¬ (4 ≤ k ∧ k ≤ 9 ∧ r = 0) → mB k r = mA k r := fun k r z => by rw [← hmB, up_ne (fun y => z (by omega)), up_ne (fun y => z (by omega))]
      obtain ⟨-, eA', -, -⟩ := hA.at hI.2.1
      have eA : ∀ k, 3 ≤ k → mA k 0 = m k 0 := fun k q => eA' k (by omega) (by omega)
      have hW := hI.1.1.2.1 a q1 q2
      obtain ⟨w1, w2, w3, w4, w5, w6, w7, w8⟩ := hW
      dsimp only [Vw] at w1 w2 w3 w4 w5 w6 w7 w8
      refine ⟨mA 5 0 a, by rw [eA 5 (by omega)]; exact ir (by omega) (by omega), rfl, Or.inr ⟨by rw [eA 5 (by omega)]; omega, ?_⟩⟩
      refine step_mut1 hI ⟨q1, q2⟩ hA hB (fun k i k1 k2 k3 k4 => ?_) (fun z _ => by rw [← hmB, up_k (by omega), up_k (by omega)]) ?_
      · rw [← hmB, up_rd, if_neg (fun z => k4 z.2.2), up_rd, if_neg (fun z => k4 z.2.2)]
      · subst hmB
        unfold SWf
        simp only [Vw, up_rd, eA 3 (by omega), eA 4 (by omega), eA 5 (by omega), eA 6 (by omega), eA 7 (by omega), eA 8 (by omega), eA 9 (by omega), eA 10 (by omega), eA 11 (by omega)]
        simp
        exact ⟨w1, ⟨q3, q4⟩, w3, w4, w6⟩
    · exact b47_13 (by omega) (fun h => absurd rfl h) (fun _ => b47_16 ⟨-1, ir (by omega) (by omega), rfl, Or.inl ⟨by omega, rfl⟩⟩)
  · exact b47_5 (by omega) (fun _ => b47_16 ⟨-1, ir (by omega) (by omega), rfl, Or.inl ⟨by omega, rfl⟩⟩) (fun h => absurd rfl h)
set_option maxHeartbeats 4000000 in
theorem op_addParagraph {Γ : GG} {d : Nat} {m : MI} {n : ML} {t a b : Int} (hI : Inv t m) (ha : InR a) (hb : InR b) : Opp Γ (d + 5) 48 [vr 1 0, vi a, vi b] m n t := by
  obtain ⟨c0, c1, c2, c3⟩ := inv_cnt hI
  refine e48 (b48_0 (c_isStory ha c0 c1 (fun q1 q2 => ?_) (fun q => ?_)))
  · refine b48_5 (by omega) (fun h => absurd h (by omega)) (fun _ => b48_8 (c_isWithin hb i1 (ir (by omega) (by omega)) (fun q3 q4 => ?_) (fun q => ?_)))
    · have hW := hI.1.1.2.1 a q1 q2
      obtain ⟨w1, w2, w3, w4, w5, w6, w7, w8⟩ := hW
      dsimp only [Vw] at w1 w2 w3 w4 w5 w6 w7 w8
      refine b48_15 (by omega) (fun _ => b48_20 (by omega) (by omega) (fun g => ?_) (fun g => ?_)) (fun h => absurd h (by omega))
      · refine b48_37 (c_save hI (fun mA sh hA => b48_41 ?_))
        obtain ⟨-, eA', -, -⟩ := hA.at hI.2.1
        have eA : ∀ k, 3 ≤ k → mA k 0 = m k 0 := fun k q => eA' k (by omega) (by omega)
        refine c_appendParagraph (by omega) (by rw [eA 6 (by omega)]; omega) (b48_50 (by omega) ?_)
        generalize hmB : up (up (up mA 6 0 a (mA 6 0 a + 1)) 7 0 (a * 8 + mA 6 0 a) b) 9 0 a 1 = mB
        have hB : ∀ k r, ¬ (4 ≤ k ∧ k ≤ 9 ∧ r = 0) → mB k r = mA k r := fun k r z => by rw [← hmB, up_ne (fun y => z (by omega)), up_ne (fun y => z (by omega)), up_ne (fun y => z (by omega))]
        have eB6 : mB 6 0 a = m 6 0 a + 1 := by rw [← hmB]; simp [up_rd, eA 6 (by omega)]
        refine ⟨mB 6 0 a, by rw [eB6]; exact ir (by omega) (by omega), rfl, Or.inr ⟨by omega, ?_⟩⟩
        refine step_mut1 hI ⟨q1, q2⟩ hA hB (fun k i k1 k2 k3 k4 => ?_) (fun z hz => ?_) ?_
        · rw [← hmB, up_rd, if_neg (fun z => k4 z.2.2), up_rd, if_neg (fun z => k3 z.1), up_rd, if_neg (fun z => k4 z.2.2)]
        · rw [← hmB, up_k (by omega), up_rd, if_neg (fun y => hz (by rw [eA 6 (by omega)] at y; omega)), up_k (by omega)]
        · subst hmB
          unfold SWf
          simp only [Vw, up_rd, eA 3 (by omega), eA 4 (by omega), eA 5 (by omega), eA 6 (by omega), eA 7 (by omega), eA 8 (by omega), eA 9 (by omega), eA 10 (by omega), eA 11 (by omega)]
          simp
          refine ⟨w1, w2, by omega, w4, fun j z1 z2 => ?_⟩
          by_cases hj : j = m 6 0 a
          · subst hj
            simp
            omega
          · have := w6 j z1 (by omega)
            rw [if_neg (by omega)]
            exact this
      · exact b48_34 ⟨-3, ir (by omega) (by omega), rfl, Or.inl ⟨by omega, rfl⟩⟩
    · exact b48_15 (by omega) (fun h => absurd rfl h) (fun _ => b48_18 ⟨-1, ir (by omega) (by omega), rfl, Or.inl ⟨by omega, rfl⟩⟩)
  · exact b48_5 (by omega) (fun _ => b48_18 ⟨-1, ir (by omega) (by omega), rfl, Or.inl ⟨by omega, rfl⟩⟩) (fun h => absurd rfl h)
set_option maxHeartbeats 4000000 in
theorem op_kill {Γ : GG} {d : Nat} {m : MI} {n : ML} {t a : Int} (hI : Inv t m) (ha : InR a) : Opp Γ (d + 5) 50 [vr 1 0, vi a] m n t := by
  obtain ⟨c0, c1, c2, c3⟩ := inv_cnt hI
  refine e50 (b50_0 (c_isStory ha c0 c1 (fun q1 q2 => ?_) (fun q => ?_)))
  · have hW := hI.1.1.2.1 a q1 q2
    obtain ⟨w1, w2, w3, w4, w5, w6, w7, w8⟩ := hW
    dsimp only [Vw] at w1 w2 w3 w4 w5 w6 w7 w8
    refine b50_5 (by omega) (fun _ => b50_10 (by omega) (by omega) (fun g => ?_) (fun g => ?_)) (fun h => absurd h (by omega))
    · refine b50_25 (c_save hI (fun mA sh hA => b50_29 (by omega) (by omega) ?_))
      obtain ⟨-, eA', -, -⟩ := hA.at hI.2.1
      have eA : ∀ k, 3 ≤ k → mA k 0 = m k 0 := fun k q => eA' k (by omega) (by omega)
      generalize hmB : up (up mA 8 0 a 0) 9 0 a 1 = mB
      have hB : ∀ k r, ¬ (4 ≤ k ∧ k ≤ 9 ∧ r = 0) → mB k r = mA k r := fun k r z => by rw [← hmB, up_ne (fun y => z (by omega)), up_ne (fun y => z (by omega))]
      have e3 : mB 3 0 3 = m 3 0 3 := by rw [hB 3 0 (by omega), eA 3 (by omega)]
      refine c_aliveCount (by omega) (by omega) (b50_56 ?_)
      have hbd := alN_bd (al := mB 8 0) (c := mB 3 0 3) (by omega)
      refine ⟨_, ir (by omega) (by omega), rfl, Or.inr ⟨hbd.1, ?_⟩⟩
      refine step_mut1 hI ⟨q1, q2⟩ hA hB (fun k i k1 k2 k3 k4 => ?_) (fun z _ => by rw [← hmB, up_k (by omega), up_k (by omega)]) ?_
      · rw [← hmB, up_rd, if_neg (fun z => k4 z.2.2), up_rd, if_neg (fun z => k4 z.2.2)]
      · subst hmB
        unfold SWf
        simp only [Vw, up_rd, eA 3 (by omega), eA 4 (by omega), eA 5 (by omega), eA 6 (by omega), eA 7 (by omega), eA 8 (by omega), eA 9 (by omega), eA 10 (by omega), eA 11 (by omega)]
        simp
        exact ⟨w1, w2, w3, w6⟩
    · exact b50_22 ⟨-2, ir (by omega) (by omega), rfl, Or.inl ⟨by omega, rfl⟩⟩
  · exact b50_5 (by omega) (fun h => absurd rfl h) (fun _ => b50_8 ⟨-1, ir (by omega) (by omega), rfl, Or.inl ⟨by omega, rfl⟩⟩)
set_option maxHeartbeats 4000000 in
theorem op_revive {Γ : GG} {d : Nat} {m : MI} {n : ML} {t a : Int} (hI : Inv t m) (ha : InR a) : Opp Γ (d + 5) 51 [vr 1 0, vi a] m n t := by
  obtain ⟨c0, c1, c2, c3⟩ := inv_cnt hI
  refine e51 (b51_0 (c_isStory ha c0 c1 (fun q1 q2 => ?_) (fun q => ?_)))
  · have hW := hI.1.1.2.1 a q1 q2
    obtain ⟨w1, w2, w3, w4, w5, w6, w7, w8⟩ := hW
    dsimp only [Vw] at w1 w2 w3 w4 w5 w6 w7 w8
    refine b51_5 (by omega) (fun _ => b51_10 (by omega) (by omega) (fun g => ?_) (fun g => ?_)) (fun h => absurd h (by omega))
    · refine b51_25 (c_save hI (fun mA sh hA => b51_29 (by omega) ?_))
      obtain ⟨-, eA', -, -⟩ := hA.at hI.2.1
      have eA : ∀ k, 3 ≤ k → mA k 0 = m k 0 := fun k q => eA' k (by omega) (by omega)
      generalize hmB : up mA 8 0 a 1 = mB
      have hB : ∀ k r, ¬ (4 ≤ k ∧ k ≤ 9 ∧ r = 0) → mB k r = mA k r := fun k r z => by rw [← hmB, up_ne (fun y => z (by omega))]
      have e3 : mB 3 0 3 = m 3 0 3 := by rw [hB 3 0 (by omega), eA 3 (by omega)]
      refine c_aliveCount (by omega) (by omega) (b51_46 ?_)
      have hbd := alN_bd (al := mB 8 0) (c := mB 3 0 3) (by omega)
      refine ⟨_, ir (by omega) (by omega), rfl, Or.inr ⟨hbd.1, ?_⟩⟩
      refine step_mut1 hI ⟨q1, q2⟩ hA hB (fun k i k1 k2 k3 k4 => ?_) (fun z _ => by rw [← hmB, up_k (by omega)]) ?_
      · rw [← hmB, up_rd, if_neg (fun z => k4 z.2.2)]
      · subst hmB
        unfold SWf
        simp only [Vw, up_rd, eA 3 (by omega), eA 4 (by omega), eA 5 (by omega), eA 6 (by omega), eA 7 (by omega), eA 8 (by omega), eA 9 (by omega), eA 10 (by omega), eA 11 (by omega)]
        simp
        exact ⟨w1, w2, w3, w5, w6, w7⟩
    · exact b51_22 ⟨-2, ir (by omega) (by omega), rfl, Or.inl ⟨by omega, rfl⟩⟩
  · exact b51_5 (by omega) (fun h => absurd rfl h) (fun _ => b51_8 ⟨-1, ir (by omega) (by omega), rfl, Or.inl ⟨by omega, rfl⟩⟩)
set_option maxHeartbeats 4000000 in
theorem op_setParagraph {Γ : GG} {d : Nat} {m : MI} {n : ML} {t a b v : Int} (hI : Inv t m) (ha : InR a) (hb : InR b) (hv : InR v) : Opp Γ (d + 5) 49 [vr 1 0, vi a, vi b, vi v] m n t := by
  obtain ⟨c0, c1, c2, c3⟩ := inv_cnt hI
  refine e49 (b49_0 (c_isStory ha c0 c1 (fun q1 q2 => ?_) (fun q => ?_)))
  · have hW := hI.1.1.2.1 a q1 q2
    obtain ⟨w1, w2, w3, w4, w5, w6, w7, w8⟩ := hW
    dsimp only [Vw] at w1 w2 w3 w4 w5 w6 w7 w8
    refine b49_5 (by omega) (fun h => absurd h (by omega)) (fun _ => b49_8 (by omega) (c_isWithin hb i0 (ir (by omega) (by omega)) (fun q3 q4 => ?_) (fun q => ?_)))
    · refine b49_24 (by omega) (fun h => absurd h (by omega)) (fun _ => b49_27 (c_isWithin hv i0 (ir (by omega) (by omega)) (fun q5 q6 => ?_) (fun q => ?_)))
      · have good : (v = 0 → m 6 0 a ≠ 1) → AM Γ (d + 5) 49 59 [some (vr 1 0), some (vi a), some (vi b), some (vi v), none] [] m n (fun r m' _ => ∃ x, InR x ∧ r = some (vi x) ∧ ((x < 0 ∧ m' = m) ∨ (0 ≤ x ∧ Step t m m'))) := by
          intro nz
          refine b49_59 (c_save hI (fun mA sh hA => b49_63 (c_linesOf (by omega) (by omega) ?_)))
          obtain ⟨-, eA', -, -⟩ := hA.at hI.2.1
          have eA : ∀ k, 3 ≤ k → mA k 0 = m k 0 := fun k q => eA' k (by omega) (by omega)
          have w6b := w6 b (by omega) (by omega)
          rw [eA 7 (by omega)]
          refine b49_72 (by omega) (fun vz => ?_) (fun vz => ?_)
          · -- a paragraph gets other lines
            refine b49_90 (c_changeParagraph (by omega) (by omega) (b49_100 ?_))
            generalize hmB : up (up mA 7 0 (a * 8 + b) v) 9 0 a 1 = mB
            have hB : ∀ k r, ¬ (4 ≤ k ∧ k ≤ 9 ∧ r = 0) → mB k r = mA k r := fun k r z => by rw [← hmB, up_ne (fun y => z (by omega)), up_ne (fun y => z (by omega))]
            refine ⟨_, ir (by omega) (by omega), rfl, Or.inr ⟨by omega, ?_⟩⟩
            refine step_mut1 hI ⟨q1, q2⟩ hA hB (fun k i k1 k2 k3 k4 => ?_) (fun z hz => ?_) ?_
            · rw [← hmB, up_rd, if_neg (fun z => k4 z.2.2), up_rd, if_neg (fun z => k3 z.1)]
            · rw [← hmB, up_k (by omega), up_rd, if_neg (fun y => hz (by omega))]
            · subst hmB
              unfold SWf
              simp only [Vw, up_rd, eA 3 (by omega), eA 4 (by omega), eA 5 (by omega), eA 6 (by omega), eA 7 (by omega), eA 8 (by omega), eA 9 (by omega), eA 10 (by omega), eA 11 (by omega)]
              simp
              refine ⟨w1, w2, w3, w4, fun j z1 z2 => ?_⟩
              have := w6 j z1 z2
              split <;> omega
          · -- it goes
            subst vz
            have n1 := nz rfl
            refine b49_78 (c_removeParagraph (by omega) (by rw [eA 6 (by omega)]; omega) (by rw [eA 6 (by omega)]; omega) (fun mB f1 f2 f3 f4 f5 f6 => b49_87 (b49_100 ?_)))
            rw [eA 6 (by omega)] at f3 f6
            rw [eA 7 (by omega)] at f5 f6
            have hB : ∀ k r, ¬ (4 ≤ k ∧ k ≤ 9 ∧ r = 0) → mB k r = mA k r := fun k r z => f1 k r (fun y => z (by omega))
            refine ⟨_, ir (by omega) (by omega), rfl, Or.inr ⟨by omega, ?_⟩⟩
            have eB : ∀ k, k ≠ 6 → k ≠ 7 → k ≠ 9 → 3 ≤ k → mB k 0 = m k 0 := fun k k1 k2 k3 k4 => by rw [f1 k 0 (by omega), eA k k4]
            refine step_mut1 hI ⟨q1, q2⟩ hA hB (fun k i k1 k2 k3 k4 => ?_) (fun z hz => ?_) ?_
            · by_cases k6 : k = 6
              · rw [k6]; exact (f2 i k4).1
              · by_cases k9 : k = 9
                · rw [k9]; exact (f2 i k4).2
                · rw [f1 k 0 (by omega)]
            · rw [f5 z hz, eA 7 (by omega)]
            · unfold SWf
              dsimp only [Vw]
              rw [eB 3 (by omega) (by omega) (by omega) (by omega), eB 4 (by omega) (by omega) (by omega) (by omega), eB 5 (by omega) (by omega) (by omega) (by omega), eB 8 (by omega) (by omega) (by omega) (by omega), eB 10 (by omega) (by omega) (by omega) (by omega), eB 11 (by omega) (by omega) (by omega) (by omega), f3, f4]
              refine ⟨w1, w2, by omega, w4, Or.inr rfl, fun j z1 z2 => ?_, fun z => absurd z (by omega), fun _ _ => rfl⟩
              rw [f6 j z1 z2]
              split
              · exact w6 j z1 (by omega)
              · exact w6 (j + 1) (by omega) (by omega)
        exact b49_34 (by omega) (fun _ => b49_39 (by omega) (fun z => good (fun y => absurd y z)) (fun z => b49_43 (by omega) (by omega) (fun y => good (fun _ => y)) (fun y => b49_56 ⟨-2, ir (by omega) (by omega), rfl, Or.inl ⟨by omega, rfl⟩⟩))) (fun h => absurd h (by omega))
      · exact b49_34 (by omega) (fun h => absurd rfl h) (fun _ => b49_37 ⟨-1, ir (by omega) (by omega), rfl, Or.inl ⟨by omega, rfl⟩⟩)
    · exact b49_24 (by omega) (fun _ => b49_37 ⟨-1, ir (by omega) (by omega), rfl, Or.inl ⟨by omega, rfl⟩⟩) (fun h => absurd rfl h)
  · exact b49_5 (by omega) (fun _ => b49_37 ⟨-1, ir (by omega) (by omega), rfl, Or.inl ⟨by omega, rfl⟩⟩) (fun h => absurd rfl h)
set_option maxHeartbeats 4000000 in
theorem op_addStory {Γ : GG} {d : Nat} {m : MI} {n : ML} {t a b v : Int} (hI : Inv t m) (ha : InR a) (hb : InR b) (hv : InR v) : Opp Γ (d + 5) 45 [vr 1 0, vi a, vi b, vi v] m n t := by
  obtain ⟨c0, c1, c2, c3⟩ := inv_cnt hI
  have p1 := hI.1.1.1.1
  dsimp only [Vw] at p1
  refine e45 (b45_0 (c_isRank ha (fun q1 q2 => ?_) (fun q => ?_)))
  · refine b45_4 (by omega) (fun h => absurd h (by omega)) (fun _ => b45_7 (c_isPage hb (by omega) (by omega) (fun q3 q4 => ?_) (fun q => ?_)))
    · refine b45_12 (by omega) (fun h => absurd h (by omega)) (fun _ => b45_15 (c_isWithin hv i1 (ir (by omega) (by omega)) (fun q5 q6 => ?_) (fun q => ?_)))
      · refine b45_22 (by omega) (fun _ => b45_27 (by omega) (fun cl => ?_) (fun cl => ?_)) (fun h => absurd h (by omega))
        · refine b45_42 (c_save hI (fun mA sh hA => b45_46 ?_))
          obtain ⟨-, eA', -, -⟩ := hA.at hI.2.1
          have eA : ∀ k, 3 ≤ k → mA k 0 = m k 0 := fun k q => eA' k (by omega) (by omega)
          refine c_appendStory (by rw [eA 3 (by omega)]; omega) ?_
          rw [eA 3 (by omega)]
          generalize hm1 : up (up (up (up (up mA 4 0 (m 3 0 3) a) 5 0 (m 3 0 3) b) 6 0 (m 3 0 3) 0) 8 0 (m 3 0 3) 1) 3 0 3 (m 3 0 3 + 1) = m1
          have e61 : m1 6 0 (m 3 0 3) = 0 := by rw [← hm1]; simp [up_rd]
          refine b45_55 (c_appendParagraph (by omega) (by omega) (b45_67 ?_))
          rw [e61]
          generalize hmB : up (up (up m1 6 0 (m 3 0 3) (0 + 1)) 7 0 (m 3 0 3 * 8 + 0) v) 9 0 (m 3 0 3) 1 = mB
          have hB : ∀ k r, ¬ (3 ≤ k ∧ k ≤ 9 ∧ r = 0) → mB k r = mA k r := fun k r z => by rw [← hmB, ← hm1, up_ne (fun y => z (by omega)), up_ne (fun y => z (by omega)), up_ne (fun y => z (by omega)), up_ne (fun y => z (by omega)), up_ne (fun y => z (by omega)), up_ne (fun y => z (by omega)), up_ne (fun y => z (by omega)), up_ne (fun y => z (by omega))]
          have z3 : ∀ j, mB 3 0 j = if j = 3 then m 3 0 3 + 1 else m 3 0 j := fun j => by rw [← hmB, ← hm1]; simp [up_rd, eA 3 (by omega)]
          have z4 : ∀ j, mB 4 0 j = if j = m 3 0 3 then a else m 4 0 j := fun j => by rw [← hmB, ← hm1]; simp [up_rd, eA 4 (by omega)]
          have z5 : ∀ j, mB 5 0 j = if j = m 3 0 3 then b else m 5 0 j := fun j => by rw [← hmB, ← hm1]; simp [up_rd, eA 5 (by omega)]
          have z6 : ∀ j, mB 6 0 j = if j = m 3 0 3 then 1 else m 6 0 j := fun j => by rw [← hmB, ← hm1]; simp [up_rd, eA 6 (by omega)]; by_cases y : j = m 3 0 3 <;> simp [y]
          have z7 : ∀ j, mB 7 0 j = if j = m 3 0 3 * 8 then v else m 7 0 j := fun j => by rw [← hmB, ← hm1]; simp [up_rd, eA 7 (by omega)]
          have z8 : ∀ j, mB 8 0 j = if j = m 3 0 3 then 1 else m 8 0 j := fun j => by rw [← hmB, ← hm1]; simp [up_rd, eA 8 (by omega)]
          have z9 : ∀ j, mB 9 0 j = if j = m 3 0 3 then 1 else m 9 0 j := fun j => by rw [← hmB, ← hm1]; simp [up_rd, eA 9 (by omega)]
          have ze : ∀ k, 10 ≤ k → mB k 0 = m k 0 := fun k k1 => by rw [hB k 0 (by omega), eA k (by omega)]
          clear hmB hm1 e61
          refine ⟨m 3 0 3, ir (by omega) (by omega), rfl, Or.inr ⟨c0, ?_⟩⟩
          refine step_mut hA (fun k r q => hB k r (fun z => q ⟨by omega, by omega, z.2.2⟩)) ⟨?_, hI.1.2.same (fun k k1 _ => ze k k1)⟩
          refine (PWf.grow hI.1.1 (c := m 3 0 3) rfl cl (fun j y => ?_) ?_ (fun k k1 k2 => ze k k1) (fun k i k1 k2 k3 k4 => ?_) (fun z y => ?_) ?_).mono (by omega)
          · exact (z3 j).trans (if_neg y)
          · exact (z3 3).trans (if_pos rfl)
          · rcases (show k = 4 ∨ k = 5 ∨ k = 6 ∨ k = 8 ∨ k = 9 by omega) with rfl | rfl | rfl | rfl | rfl
            · exact (z4 i).trans (if_neg k4)
            · exact (z5 i).trans (if_neg k4)
            · exact (z6 i).trans (if_neg k4)
            · exact (z8 i).trans (if_neg k4)
            · exact (z9 i).trans (if_neg k4)
          · exact (z7 z).trans (if_neg (by omega))
          · unfold SWf
            dsimp only [Vw]
            rw [z4, if_pos rfl, z5, if_pos rfl, z6, if_pos rfl, z8, if_pos rfl, z9, if_pos rfl, z3, if_neg (by omega)]
            refine ⟨⟨q1, q2⟩, ⟨q3, q4⟩, ⟨by omega, by omega⟩, Or.inr rfl, Or.inr rfl, fun j j1 j2 => ?_, fun z => absurd z (by omega), fun _ _ => rfl⟩
            have hj : j = 0 := by omega
            subst hj
            rw [Int.add_zero, z7, if_pos rfl]
            exact ⟨q5, q6⟩
        · exact b45_39 ⟨-3, ir (by omega) (by omega), rfl, Or.inl ⟨by omega, rfl⟩⟩
      · exact b45_22 (by omega) (fun h => absurd rfl h) (fun _ => b45_25 ⟨-1, ir (by omega) (by omega), rfl, Or.inl ⟨by omega, rfl⟩⟩)
    · exact b45_12 (by omega) (fun _ => b45_25 ⟨-1, ir (by omega) (by omega), rfl, Or.inl ⟨by omega, rfl⟩⟩) (fun h => absurd rfl h)
  · exact b45_4 (by omega) (fun _ => b45_25 ⟨-1, ir (by omega) (by omega), rfl, Or.inl ⟨by omega, rfl⟩⟩) (fun h => absurd rfl h)
set_option maxHeartbeats 4000000 in
theorem op_setPages {Γ : GG} {d : Nat} {m : MI} {n : ML} {t a b v : Int} (hI : Inv t m) (ha : InR a) (hb : InR b) (hv : InR v) : Opp Γ (d + 5) 44 [vr 1 0, vi a, vi b, vi v] m n t := by
  obtain ⟨c0, c1, c2, c3⟩ := inv_cnt hI
  refine e44 (b44_0 (c_isWithin ha (ir (by omega) (by omega)) (ir (by omega) (by omega)) (fun q1 q2 => ?_) (fun q => ?_)))
  · refine b44_6 (by omega) (fun h => absurd h (by omega)) (fun _ => b44_9 (c_isWithin hb i1 (ir (by omega) (by omega)) (fun q3 q4 => ?_) (fun q => ?_)))
    · refine b44_15 (by omega) (fun h => absurd h (by omega)) (fun _ => b44_18 (c_isWithin hv (ir (by omega) (by omega)) (ir (by omega) (by omega)) (fun q5 q6 => ?_) (fun q => ?_)))
      · have hhm : ∀ j, 0 ≤ j → j < m 3 0 3 → 0 ≤ m 5 0 j ∧ m 5 0 j < m 3 0 0 := fun j j1 j2 => (hI.1.1.2.1 j j1 j2).2.1
        have p1 := hI.1.1.1.1
        dsimp only [Vw] at p1
        refine b44_26 (by omega) (fun _ => b44_31 (c_highestHome c0 c1 (fun j j1 j2 => by have := hhm j j1 j2; exact ir (by omega) (by omega)) (fun r hr hb => ?_))) (fun h => absurd h (by omega))
        have hra := hb a
        refine b44_38 hr ha (fun z => ?_) (fun z => ?_)
        · have hal := (hra.1 z).2
          refine b44_45 (c_save hI (fun mA sh hA => b44_49 ?_))
          obtain ⟨-, eA', -, -⟩ := hA.at hI.2.1
          have eA : ∀ k, 3 ≤ k → mA k 0 = m k 0 := fun k q => eA' k (by omega) (by omega)
          refine c_changePages (by rw [eA 3 (by omega)]; omega) (by rw [eA 3 (by omega)]; omega) (fun mB f1 f2 f3 f4 f5 f6 => ?_)
          rw [eA 3 (by omega)] at f5 f6
          have hB : ∀ k r, ¬ (3 ≤ k ∧ k ≤ 9 ∧ r = 0) → mB k r = mA k r := fun k r z => f1 k r (fun y => z (by omega))
          have ze : ∀ k, 4 ≤ k → k ≠ 9 → mB k 0 = m k 0 := fun k k1 k2 => by rw [f1 k 0 (by omega), eA k (by omega)]
          have hm1 := mul_bd (a := a) (b := b) (A := 5) (B := 4) (by omega) (by omega) (by omega) (by omega)
          have hm2 := mul_bd (a := a * b) (b := v) (A := 20) (B := 60) (by omega) (by omega) (by omega) (by omega)
          refine b44_59 ⟨a * b * v, ir (by omega) (by omega), rfl, Or.inr ⟨by omega, ?_⟩⟩
          refine step_mut hA (fun k r q => hB k r (fun z => q ⟨by omega, by omega, z.2.2⟩)) ⟨?_, hI.1.2.same (fun k k1 _ => ze k (by omega) (by omega))⟩
          refine PWf.mono (t := t) (by omega) ⟨?_, fun i h1 h2 => ?_, fun i h1 h2 => ?_⟩
          · have hh := hI.1.1.1
            unfold HWf at hh ⊢
            dsimp only [Vw] at hh ⊢
            rw [f2, f3, f4, f5, ze 10 (by omega) (by omega)]
            exact ⟨⟨q1, q2⟩, ⟨q3, q4⟩, ⟨q5, q6⟩, hh.2.2.2⟩
          · replace h2 : i < m 3 0 3 := by rw [← f5]; exact h2
            have w := hI.1.1.2.1 i h1 h2
            unfold SWf at w ⊢
            dsimp only [Vw] at w ⊢
            rw [f2, f3, f4, f6 i h1 h2, ze 4 (by omega) (by omega), ze 5 (by omega) (by omega), ze 6 (by omega) (by omega), ze 7 (by omega) (by omega), ze 8 (by omega) (by omega), ze 10 (by omega) (by omega), ze 11 (by omega) (by omega)]
            exact ⟨w.1, ⟨w.2.1.1, hal i h1 h2⟩, w.2.2.1, w.2.2.2.1, Or.inr rfl, w.2.2.2.2.2.1, fun z => absurd z (by omega), fun _ _ => rfl⟩
          · have w := hI.1.1.2.2 i h1 h2
            unfold EWf at w ⊢
            dsimp only [Vw] at w ⊢
            rw [f5, ze 10 (by omega) (by omega), ze 11 (by omega) (by omega), ze 12 (by omega) (by omega), ze 13 (by omega) (by omega), ze 14 (by omega) (by omega), ze 15 (by omega) (by omega), ze 16 (by omega) (by omega), ze 17 (by omega) (by omega), ze 18 (by omega) (by omega)]
            exact w
        · exact b44_42 ⟨-2, ir (by omega) (by omega), rfl, Or.inl ⟨by omega, rfl⟩⟩
      · exact b44_26 (by omega) (fun h => absurd rfl h) (fun _ => b44_29 ⟨-1, ir (by omega) (by omega), rfl, Or.inl ⟨by omega, rfl⟩⟩)
    · exact b44_15 (by omega) (fun _ => b44_29 ⟨-1, ir (by omega) (by omega), rfl, Or.inl ⟨by omega, rfl⟩⟩) (fun h => absurd rfl h)
  · exact b44_6 (by omega) (fun _ => b44_29 ⟨-1, ir (by omega) (by omega), rfl, Or.inl ⟨by omega, rfl⟩⟩) (fun h => absurd rfl h)
