-- the pairs of calls: setParagraph, setPages, addStory
theorem c_removeParagraph {Γ : GG} {d : Nat} {m : MI} {n : ML} {post : PO} {p i j : Int} (hi : 0 ≤ i ∧ i < 12) (hj : 0 ≤ j ∧ j < m 6 p i) (hc : m 6 p i ≤ 8) (K : ∀ m', (∀ k r, ¬ (r = p ∧ (k = 6 ∨ k = 7 ∨ k = 9)) → m' k r = m k r) → (∀ z, z ≠ i → m' 6 p z = m 6 p z ∧ m' 9 p z = m 9 p z) → m' 6 p i = m 6 p i - 1 → m' 9 p i = 1 → (∀ z, ¬ (i * 8 ≤ z ∧ z < i * 8 + 8) → m' 7 p z = m 7 p z) → (∀ k, 0 ≤ k → k < m 6 p i - 1 → m' 7 p (i * 8 + k) = if k < j then m 7 p (i * 8 + k) else m 7 p (i * 8 + (k + 1))) → post none m' n) : CM Γ d 30 [vr 3 p, vi i, vi j] m n post := by
  refine e30 (b30_0 ?_)
  have key := up_ind (P := fun y => ∀ mm : MI, (∀ k r, ¬ (k = 7 ∧ r = p) → mm k r = m k r) → (∀ z, ¬ (i * 8 + j ≤ z ∧ z < i * 8 + y - 1) → mm 7 p z = m 7 p z) → (∀ z, i * 8 + j ≤ z → z < i * 8 + y - 1 → mm 7 p z = m 7 p (z + 1)) → AM Γ d 30 10 [some (vr 3 p), some (vi i), some (vi j), some (vi (i * 8)), some (vi y)] [] mm n post) (j + 1) (m 6 p i) (by omega) ?_ ?_
  · exact key m (fun _ _ _ => rfl) (fun _ _ => rfl) (fun z z1 z2 => by omega)
  · intro mm h1 h2 h3
    have e6 : mm 6 p i = m 6 p i := by rw [h1 6 p (by omega)]
    refine b30_10 hi (by omega) (by omega) (fun _ => b30_47 (by omega) (by omega) (by omega) ?_) (fun z => absurd z (by omega))
    refine K _ (fun k r z => ?_) (fun z z1 => ?_) ?_ ?_ (fun z z1 => ?_) (fun k k1 k2 => ?_)
    · rw [up_ne (fun y => z (by omega)), up_ne (fun y => z (by omega)), h1 k r (fun y => z (by omega))]
    · rw [up_k (by omega), up_rd, if_neg (by omega), up_rd, if_neg (by omega), up_k (by omega), h1 6 p (by omega), h1 9 p (by omega)]
      exact ⟨rfl, rfl⟩
    · rw [up_k (by omega), up_rd, if_pos ⟨rfl, rfl, rfl⟩, e6]
    · rw [up_rd, if_pos ⟨rfl, rfl, rfl⟩]
    · rw [up_k (by omega), up_k (by omega), h2 z (by omega)]
    · rw [up_k (by omega), up_k (by omega)]
      by_cases q : k < j
      · rw [if_pos q, h2 _ (by omega)]
      · rw [if_neg q, h3 _ (by omega) (by omega), Int.add_assoc]
  · intro y y1 y2 ih mm h1 h2 h3
    have e6 : mm 6 p i = m 6 p i := by rw [h1 6 p (by omega)]
    refine b30_10 hi (by omega) (by omega) (fun z => absurd z (by omega)) (fun _ => b30_21 (by omega) (by omega) (ih _ (fun k r z => ?_) (fun z z1 => ?_) (fun z z1 z2 => ?_)))
    · rw [up_ne (fun q => z (by omega)), h1 k r z]
    · rw [up_rd, if_neg (by omega), h2 z (by omega)]
    · rw [up_rd]
      by_cases q : z = i * 8 + y - 1
      · rw [if_pos ⟨rfl, rfl, q⟩, h2 _ (by omega), q]
        congr 1
        omega
      · rw [if_neg (fun u => q u.2.2), h3 z z1 (by omega)]
theorem r_shift {Γ : GG} {d : Nat} {m : MI} {n : ML} {post : PO} {i j v w c : Int} (hi : 0 ≤ i ∧ i < 12) (hc : m 26 0 (4 + 13 * i + 4) = c) (h0 : 0 ≤ j) (hj : j ≤ c) (h7 : c ≤ 7) (K : ∀ m' u, (∀ k, k ≠ 26 → m' k = m k) → (∀ z, ¬ (9 + 13 * i + j ≤ z ∧ z < 9 + 13 * i + c) → m' 26 0 z = m 26 0 z) → (∀ z, 9 + 13 * i + j ≤ z → z < 9 + 13 * i + c → m' 26 0 z = m 26 0 (z + 1)) → AM Γ (d + 1) 105 137 [some (vr 25 0), some (vi i), some (vi j), some (vi v), some (vi w), u] [] m' n post) : AM Γ (d + 1) 105 100 [some (vr 25 0), some (vi i), some (vi j), some (vi v), some (vi w), some (vi j)] [] m n post := by
  have key := up_ind (P := fun y => ∀ mm : MI, (∀ k, k ≠ 26 → mm k = m k) → (∀ z, ¬ (9 + 13 * i + j ≤ z ∧ z < 9 + 13 * i + y) → mm 26 0 z = m 26 0 z) → (∀ z, 9 + 13 * i + j ≤ z → z < 9 + 13 * i + y → mm 26 0 z = m 26 0 (z + 1)) → AM Γ (d + 1) 105 100 [some (vr 25 0), some (vi i), some (vi j), some (vi v), some (vi w), some (vi y)] [] mm n post) j c hj ?_ ?_
  · exact key m (fun _ _ => rfl) (fun _ _ => rfl) (fun z z1 z2 => by omega)
  · intro mm h1 h2 h3
    refine b105_100 (r_of (by omega) (by omega) ?_)
    rw [h2 _ (by omega), hc]
    exact b105_108 (by omega) (by omega) (fun _ => K mm _ h1 h2 h3) (fun z => by omega)
  · intro y y1 y2 ih mm h1 h2 h3
    refine b105_100 (r_of (by omega) (by omega) ?_)
    rw [h2 _ (by omega), hc]
    refine b105_108 (by omega) (by omega) (fun z => absurd y2 z) (fun _ => b105_111 (r_of (by omega) (by omega) (b105_128 (r_puts (by omega) (by omega) (b105_131 (ih _ (fun k z => by rw [up_k z, h1 k z]) (fun z z1 => ?_) (fun z z1 z2 => ?_)))))))
    · rw [up26, if_neg (by omega), h2 z (by omega)]
    · rw [up26]
      by_cases q : z = 4 + 13 * i + (5 + y)
      · rw [if_pos q, h2 _ (by omega), q]
        congr 1
        omega
      · rw [if_neg q, h3 z z1 (by omega)]
set_option maxHeartbeats 4000000 in
theorem op_setParagraph {Γ : GG} {d : Nat} {m : MI} {n : ML} {t a b v : Int} (hS : Sim t m m) (ha : InR a) (hb : InR b) (hv : InR v) : Both Γ (d + 5) 62 105 [vr 1 0, vi a, vi b, vi v] [vr 25 0, vi a, vi b, vi v] m n t := by
  obtain ⟨c0, c1, c2, c3, c4, c5⟩ := sim_cnt hS
  have bad : (a < 0 ∨ m 3 0 3 ≤ a) ∨ (b < 0 ∨ m 6 0 a ≤ b) ∨ (v < 0 ∨ 30 < v) → ∃ x, InR x ∧ some (vi (-1)) = some (vi x) ∧ CM Γ (d + 5) 105 [vr 25 0, vi a, vi b, vi v] m n (fun r2 m2 _ => r2 = some (vi x) ∧ Sim (t + 1) m2 m2) := by
    intro q
    refine ⟨-1, ir (by omega) (by omega), rfl, e105 (b105_0 (r_isStory ha (by omega) (by omega) (fun q1 q2 => ?_) (fun _ => ?_)))⟩
    · have q2' : a < m 3 0 3 := by omega
      have r5 := (hS.1.1.2 a q1 q2').1.2.2.2.2.1
      have w3 := (hS.1.2.2.1 a q1 q2').2.2.1
      dsimp only [Vw] at r5 w3
      refine b105_5 (by omega) (fun h => absurd h (by omega)) (fun _ => b105_8 (r_of (by omega) (by omega) ?_))
      rw [r5]
      refine b105_16 (r_in hb i0 (ir (by omega) (by omega)) (fun q3 q4 => ?_) (fun _ => ?_))
      · refine b105_21 (by omega) (fun h => absurd h (by omega)) (fun _ => b105_24 (r_in hv i0 (ir (by omega) (by omega)) (fun q5 q6 => by omega) (fun _ => ?_)))
        exact b105_31 (by omega) (fun h => absurd rfl h) (fun _ => b105_34 ⟨rfl, hS.next⟩)
      · exact b105_21 (by omega) (fun _ => b105_34 ⟨rfl, hS.next⟩) (fun h => absurd rfl h)
    · exact b105_5 (by omega) (fun _ => b105_34 ⟨rfl, hS.next⟩) (fun h => absurd rfl h)
  refine e62 (b62_0 (c_isStory ha c0 c1 (fun q1 q2 => ?_) (fun q => ?_)))
  · have hR := (hS.1.1.2 a q1 q2).1
    have hW := hS.1.2.2.1 a q1 q2
    obtain ⟨r1, r2, r3, r4, r5, r6⟩ := hR
    obtain ⟨w1, w2, w3, w4, w5, w6, w7, w8⟩ := hW
    dsimp only [Vw] at r1 r2 r3 r4 r5 r6 w1 w2 w3 w4 w5 w6 w7 w8
    refine b62_5 (by omega) (fun h => absurd h (by omega)) (fun _ => b62_8 (by omega) (c_isWithin hb i0 (ir (by omega) (by omega)) (fun q3 q4 => ?_) (fun q => ?_)))
    · refine b62_24 (by omega) (fun h => absurd h (by omega)) (fun _ => b62_27 (c_isWithin hv i0 (ir (by omega) (by omega)) (fun q5 q6 => ?_) (fun q => ?_)))
      · have go : ∀ (mB : MI) (x : Int), mB 26 = m 26 → (AM Γ (d + 5) 105 36 [some (vr 25 0), some (vi a), some (vi b), some (vi v), none, none] [] mB n (fun r2 m2 _ => r2 = some (vi x) ∧ Sim (t + 1) m2 m2)) → CM Γ (d + 5) 105 [vr 25 0, vi a, vi b, vi v] mB n (fun r2 m2 _ => r2 = some (vi x) ∧ Sim (t + 1) m2 m2) := by
          intro mB x e26 h
          refine e105 (b105_0 (r_isStory ha (by rw [e26]; omega) (by rw [e26]; omega) (fun _ _ => ?_) (fun z => by rw [e26] at z; omega)))
          refine b105_5 (by omega) (fun h => absurd h (by omega)) (fun _ => b105_8 (r_of (by omega) (by omega) ?_))
          rw [e26, r5]
          refine b105_16 (r_in hb i0 (ir (by omega) (by omega)) (fun _ _ => ?_) (fun _ => by omega))
          refine b105_21 (by omega) (fun h => absurd h (by omega)) (fun _ => b105_24 (r_in hv i0 (ir (by omega) (by omega)) (fun _ _ => ?_) (fun _ => by omega)))
          exact b105_31 (by omega) (fun _ => h) (fun h => absurd h (by omega))
        have good : (v = 0 → m 6 0 a ≠ 1) → AM Γ (d + 5) 62 59 [some (vr 1 0), some (vi a), some (vi b), some (vi v), none] [] m n (fun r1 m1 n1 => ∃ x, InR x ∧ r1 = some (vi x) ∧ CM Γ (d + 5) 105 [vr 25 0, vi a, vi b, vi v] m1 n1 (fun r2 m2 _ => r2 = some (vi x) ∧ Sim (t + 1) m2 m2)) := by
          intro nz
          refine b62_59 (c_save hS.2.1 (fun mA sh hA => b62_63 (c_linesOf (by omega) (by omega) ?_)))
          obtain ⟨eA, -, -, -⟩ := mid hS hA (mB := mA) (fun k r z => rfl)
          have w6b := w6 b (by omega) (by omega)
          have r6b := r6 b (by omega) (by omega)
          have go2 : ∀ (mB : MI) (x : Int), mB 26 = m 26 → (0 ≤ mB 25 0 2 ∧ mB 25 0 2 ≤ 6) → (∀ mC sh2, SavR mB mC sh2 → AM Γ (d + 5) 105 65 [some (vr 25 0), some (vi a), some (vi b), some (vi v), none, none] [vi (m 7 0 (a * 8 + b))] mC n (fun r2 m2 _ => r2 = some (vi x) ∧ Sim (t + 1) m2 m2)) → CM Γ (d + 5) 105 [vr 25 0, vi a, vi b, vi v] mB n (fun r2 m2 _ => r2 = some (vi x) ∧ Sim (t + 1) m2 m2) := by
            intro mB x e26 e6 h
            have h53 : AM Γ (d + 5) 105 53 [some (vr 25 0), some (vi a), some (vi b), some (vi v), none, none] [] mB n (fun r2 m2 _ => r2 = some (vi x) ∧ Sim (t + 1) m2 m2) := by
              refine b105_53 (r_save e6 (fun mC sh2 hC => b105_57 (r_of (by omega) (by omega) ?_)))
              rw [hC.2.1 26 (by omega) (by omega), e26, show 4 + 13 * a + (5 + b) = 9 + 13 * a + b by omega, r6b]
              exact h mC sh2 hC
            refine go mB x e26 (b105_36 (by omega) (fun _ => h53) (fun z => b105_40 (r_of (by omega) (by omega) ?_)))
            rw [e26, r5]
            exact b105_46 (by omega) (fun _ => h53) (fun y => absurd y (nz z))
          rw [eA 7 (by omega)]
          refine b62_72 (by omega) (fun vz => ?_) (fun vz => ?_)
          · -- a paragraph gets other lines
            refine b62_90 (c_changeParagraph (by omega) (by omega) (b62_100 ?_))
            generalize hmB : up (up mA 7 0 (a * 8 + b) v) 9 0 a 1 = mB
            have hB : ∀ k r, ¬ (4 ≤ k ∧ k ≤ 9 ∧ r = 0) → mB k r = mA k r := fun k r z => by rw [← hmB, up_ne (fun y => z (by omega)), up_ne (fun y => z (by omega))]
            obtain ⟨-, e25, e26, e6⟩ := mid hS hA (mB := mB) (fun k r z => hB k r (fun y => z (by omega)))
            refine ⟨_, ir (by omega) (by omega), rfl, go2 mB _ e26 e6 (fun mC sh2 hC => ?_)⟩
            have eC : ∀ j, mC 26 0 j = m 26 0 j := fun j => by rw [hC.2.1 26 (by omega) (by omega), e26]
            refine b105_65 (by omega) (fun z => by omega) (fun _ => b105_71 (r_puts (by omega) (by omega) (b105_80 (b105_137 (r_puts (by omega) (by omega) (b105_144 ⟨rfl, ?_⟩))))))
            refine sim_mut1 hS ⟨q1, q2⟩ hA hB (fun k i k1 k2 k3 k4 => ?_) (fun z hz => ?_) hC (fun k z => by rw [up_k z, up_k z]) (fun j z => by rw [up26, if_neg (by omega), up26, if_neg (by omega)]) ?_ ?_
            · rw [← hmB, up_rd, if_neg (fun z => k4 z.2.2), up_rd, if_neg (fun z => k3 z.1)]
            · rw [← hmB, up_k (by omega), up_rd, if_neg (fun y => hz (by omega))]
            · subst hmB
              unfold SRel
              simp only [Vw, up_rd, eC, eA 4 (by omega), eA 5 (by omega), eA 6 (by omega), eA 7 (by omega), eA 8 (by omega), eA 9 (by omega), eA 11 (by omega)]
              refine ⟨?_, ?_, ?_, fun z => ?_, ?_, fun j z1 z2 => ?_⟩
              · first | (simp; done) | (simp; omega) | ((repeat' split) <;> omega)
              · first | (simp; done) | (simp; omega) | ((repeat' split) <;> omega)
              · first | (simp; done) | (simp; omega) | ((repeat' split) <;> omega)
              · simp
              · first | (simp; done) | (simp; omega) | ((repeat' split) <;> omega)
              · have := r6 j z1 (by simpa using z2)
                by_cases hj : j = b
                · subst hj
                  simp
                  (repeat' split) <;> omega
                · simp
                  (repeat' split) <;> omega
            · subst hmB
              unfold SWf
              simp only [Vw, up_rd, eA 3 (by omega), eA 4 (by omega), eA 5 (by omega), eA 6 (by omega), eA 7 (by omega), eA 8 (by omega), eA 9 (by omega), eA 10 (by omega), eA 11 (by omega)]
              simp
              refine ⟨w1, w2, w3, w4, fun j z1 z2 => ?_⟩
              have := w6 j z1 z2
              split <;> omega
          · -- it goes
            subst vz
            have n1 := nz rfl
            refine b62_78 (c_removeParagraph (by omega) (by rw [eA 6 (by omega)]; omega) (by rw [eA 6 (by omega)]; omega) (fun mB f1 f2 f3 f4 f5 f6 => b62_87 (b62_100 ?_)))
            rw [eA 6 (by omega)] at f3 f6
            rw [eA 7 (by omega)] at f5 f6
            have hB : ∀ k r, ¬ (4 ≤ k ∧ k ≤ 9 ∧ r = 0) → mB k r = mA k r := fun k r z => f1 k r (fun y => z (by omega))
            obtain ⟨-, e25, e26, e6⟩ := mid hS hA (mB := mB) (fun k r z => hB k r (fun y => z (by omega)))
            refine ⟨_, ir (by omega) (by omega), rfl, go2 mB _ e26 e6 (fun mC sh2 hC => ?_)⟩
            have eC : ∀ j, mC 26 0 j = m 26 0 j := fun j => by rw [hC.2.1 26 (by omega) (by omega), e26]
            refine b105_65 (by omega) (fun _ => b105_83 (r_of (by omega) (by omega) ?_)) (fun z => by omega)
            rw [eC, r5]
            refine b105_92 (r_puts (by omega) (by omega) (b105_97 (r_shift (c := m 6 0 a - 1) (by omega) (by rw [up26, if_pos rfl]) (by omega) (by omega) (by omega) (fun mD u g1 g2 g3 => b105_137 (r_puts (by omega) (by omega) (b105_144 ⟨rfl, ?_⟩))))))
            have eD : ∀ z, z ≠ 4 + 13 * a + 4 → ¬ (9 + 13 * a + b ≤ z ∧ z < 9 + 13 * a + (m 6 0 a - 1)) → mD 26 0 z = m 26 0 z := fun z z1 z2 => by rw [g2 z z2, up26, if_neg z1, eC]
            have eD4 : mD 26 0 (4 + 13 * a + 4) = m 6 0 a - 1 := by rw [g2 _ (by omega), up26, if_pos rfl]
            have eB : ∀ k, k ≠ 6 → k ≠ 7 → k ≠ 9 → 3 ≤ k → mB k 0 = m k 0 := fun k k1 k2 k3 k4 => by rw [f1 k 0 (by omega), eA k k4]
            refine sim_mut1 hS ⟨q1, q2⟩ hA hB (fun k i k1 k2 k3 k4 => ?_) (fun z hz => ?_) hC (fun k z => by rw [up_k z, g1 k z, up_k z]) (fun j z => ?_) ?_ ?_
            · by_cases k6 : k = 6
              · rw [k6]; exact (f2 i k4).1
              · by_cases k9 : k = 9
                · rw [k9]; exact (f2 i k4).2
                · rw [f1 k 0 (by omega)]
            · rw [f5 z hz, eA 7 (by omega)]
            · rw [up26, if_neg (by omega), eD j (by omega) (by omega), eC]
            · unfold SRel
              dsimp only [Vw]
              rw [eB 4 (by omega) (by omega) (by omega) (by omega), eB 5 (by omega) (by omega) (by omega) (by omega), eB 8 (by omega) (by omega) (by omega) (by omega), f3, f4, up26, if_neg (by omega), up26, if_neg (by omega), up26, if_neg (by omega), up26, if_pos rfl, up26, if_neg (by omega), eD _ (by omega) (by omega), eD _ (by omega) (by omega), eD _ (by omega) (by omega), eD4]
              refine ⟨r1, r2, r3, fun _ => rfl, rfl, fun j z1 z2 => ?_⟩
              rw [up26, if_neg (by omega), f6 j z1 z2]
              by_cases q : j < b
              · rw [if_pos q, eD _ (by omega) (by omega), r6 j z1 (by omega)]
              · rw [if_neg q, g3 _ (by omega) (by omega), up26, if_neg (by omega), eC, Int.add_assoc, r6 (j + 1) (by omega) (by omega)]
            · unfold SWf
              dsimp only [Vw]
              rw [eB 3 (by omega) (by omega) (by omega) (by omega), eB 4 (by omega) (by omega) (by omega) (by omega), eB 5 (by omega) (by omega) (by omega) (by omega), eB 8 (by omega) (by omega) (by omega) (by omega), eB 10 (by omega) (by omega) (by omega) (by omega), eB 11 (by omega) (by omega) (by omega) (by omega), f3, f4]
              refine ⟨w1, w2, by omega, w4, Or.inr rfl, fun j z1 z2 => ?_, fun z => absurd z (by omega), fun _ _ => rfl⟩
              rw [f6 j z1 z2]
              split
              · exact w6 j z1 (by omega)
              · exact w6 (j + 1) (by omega) (by omega)
        refine b62_34 (by omega) (fun _ => b62_39 (by omega) (fun z => good (fun y => absurd y z)) (fun z => b62_43 (by omega) (by omega) (fun y => good (fun _ => y)) (fun y => b62_56 ⟨-2, ir (by omega) (by omega), rfl, go m _ rfl ?_⟩))) (fun h => absurd h (by omega))
        refine b105_36 (by omega) (fun y => absurd z y) (fun _ => b105_40 (r_of (by omega) (by omega) ?_))
        rw [r5]
        exact b105_46 (by omega) (fun z => absurd y z) (fun _ => b105_50 ⟨rfl, hS.next⟩)
      · exact b62_34 (by omega) (fun h => absurd rfl h) (fun _ => b62_37 (bad (Or.inr (Or.inr q))))
    · exact b62_24 (by omega) (fun _ => b62_37 (bad (Or.inr (Or.inl (by omega))))) (fun h => absurd rfl h)
  · exact b62_5 (by omega) (fun _ => b62_37 (bad (Or.inl q))) (fun h => absurd rfl h)
