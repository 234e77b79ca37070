-- the pair of calls: setPages
theorem c_highestHome {Γ : GG} {d : Nat} {m : MI} {n : ML} {post : PO} {p : Int} (h0 : 0 ≤ m 3 p 3) (h1 : m 3 p 3 ≤ 12) (hh : ∀ j, 0 ≤ j → j < m 3 p 3 → InR (m 5 p j)) (K : ∀ r, InR r → (∀ b, r < b ↔ -1 < b ∧ ∀ j, 0 ≤ j → j < m 3 p 3 → m 5 p j < b) → post (some (vi r)) m n) : CM Γ (d + 1) 26 [vr 3 p] m n post := by
  refine e26 (b26_0 ?_)
  have key := up_ind (P := fun y => ∀ r, InR r → (∀ b, r < b ↔ -1 < b ∧ ∀ j, 0 ≤ j → j < y → m 5 p j < b) → AM Γ (d + 1) 26 4 [some (vr 3 p), some (vi r), some (vi y)] [] m n post) 0 (m 3 p 3) h0 ?_ ?_
  · exact key (-1) (ir (by omega) (by omega)) (fun b => ⟨fun z => ⟨z, fun j j1 j2 => by omega⟩, fun z => z.1⟩)
  · intro r hr hb
    exact b26_4 (by omega) (by omega) (fun _ => b26_29 (K r hr hb)) (fun z => absurd z (by omega))
  · intro y y1 y2 ih r hr hb
    have hy := hh y y1 y2
    refine b26_4 (by omega) (by omega) (fun z => absurd y2 z) (fun _ => b26_12 (by omega) ⟨hr, hy⟩ (ih _ ?_ (fun b => ?_)))
    · split
      · exact hy
      · exact hr
    · have hbb := hb b
      constructor
      · intro z
        have z1 : r < b := by split at z <;> omega
        have z2 : m 5 p y < b := by split at z <;> omega
        refine ⟨(hbb.1 z1).1, fun j j1 j2 => ?_⟩
        rcases (show j < y ∨ j = y by omega) with q | rfl
        · exact (hbb.1 z1).2 j j1 q
        · exact z2
      · intro z
        have z1 := hbb.2 ⟨z.1, fun j j1 j2 => z.2 j j1 (by omega)⟩
        have z2 := z.2 y y1 (by omega)
        split <;> omega
theorem c_changePages {Γ : GG} {d : Nat} {m : MI} {n : ML} {post : PO} {p a b v : Int} (h0 : 0 ≤ m 3 p 3) (h1 : m 3 p 3 ≤ 12) (K : ∀ m', (∀ k r, ¬ (r = p ∧ (k = 3 ∨ k = 9)) → m' k r = m k r) → m' 3 p 0 = a → m' 3 p 1 = b → m' 3 p 2 = v → m' 3 p 3 = m 3 p 3 → (∀ j, 0 ≤ j → j < m 3 p 3 → m' 9 p j = 1) → post none m' n) : CM Γ d 25 [vr 3 p, vi a, vi b, vi v] m n post := by
  refine e25 (b25_0 ?_)
  generalize hmB : up (up (up m 3 p 0 a) 3 p 1 b) 3 p 2 v = mB
  have f1 : ∀ k r, ¬ (r = p ∧ (k = 3 ∨ k = 9)) → mB k r = m k r := fun k r z => by rw [← hmB, up_ne (fun y => z (by omega)), up_ne (fun y => z (by omega)), up_ne (fun y => z (by omega))]
  have f2 : mB 3 p 0 = a := by rw [← hmB]; simp [up_rd]
  have f3 : mB 3 p 1 = b := by rw [← hmB]; simp [up_rd]
  have f4 : mB 3 p 2 = v := by rw [← hmB]; simp [up_rd]
  have f5 : mB 3 p 3 = m 3 p 3 := by rw [← hmB]; simp [up_rd]
  clear hmB
  have key := up_ind (P := fun y => ∀ mm : MI, (∀ k r, ¬ (k = 9 ∧ r = p) → mm k r = mB k r) → (∀ j, 0 ≤ j → j < y → mm 9 p j = 1) → AM Γ d 25 18 [some (vr 3 p), some (vi a), some (vi b), some (vi v), some (vi y)] [] mm n post) 0 (m 3 p 3) h0 ?_ ?_
  · exact key mB (fun _ _ _ => rfl) (fun j j1 j2 => by omega)
  · intro mm g1 g2
    have e3 : mm 3 p = mB 3 p := g1 3 p (by omega)
    have e33 : mm 3 p 3 = m 3 p 3 := by rw [e3, f5]
    exact b25_18 (by omega) (by omega) (fun _ => b25_41 (K mm (fun k r z => by rw [g1 k r (fun y => z (by omega)), f1 k r z]) (by rw [e3, f2]) (by rw [e3, f3]) (by rw [e3, f4]) e33 g2)) (fun z => absurd z (by omega))
  · intro y y1 y2 ih mm g1 g2
    have e33 : mm 3 p 3 = m 3 p 3 := by rw [g1 3 p (by omega), f5]
    refine b25_18 (by omega) (by omega) (fun z => absurd y2 (by omega)) (fun _ => b25_27 (by omega) (ih _ (fun k r z => by rw [up_ne (fun q => z (by omega)), g1 k r z]) (fun j j1 j2 => ?_)))
    rw [up_rd]
    by_cases q : j = y
    · rw [if_pos ⟨rfl, rfl, q⟩]
    · rw [if_neg (fun u => q u.2.2), g2 j j1 (by omega)]
theorem r_remark {Γ : GG} {d : Nat} {m : MI} {n : ML} {post : PO} {a b v c : Int} (hc : m 26 0 3 = c) (h0 : 0 ≤ c) (h1 : c ≤ 12) (K : ∀ m' u, (∀ k, k ≠ 26 → m' k = m k) → (∀ z, (∀ j, 0 ≤ j → j < c → z ≠ 4 + 13 * j + 3) → m' 26 0 z = m 26 0 z) → (∀ j, 0 ≤ j → j < c → m' 26 0 (4 + 13 * j + 3) = 1) → AM Γ (d + 1) 98 118 [some (vr 25 0), some (vi a), some (vi b), some (vi v), some (vi u)] [] m' n post) : AM Γ (d + 1) 98 93 [some (vr 25 0), some (vi a), some (vi b), some (vi v), some (vi 0)] [] m n post := by
  have key := up_ind (P := fun y => ∀ mm : MI, (∀ k, k ≠ 26 → mm k = m k) → (∀ z, (∀ j, 0 ≤ j → j < y → z ≠ 4 + 13 * j + 3) → mm 26 0 z = m 26 0 z) → (∀ j, 0 ≤ j → j < y → mm 26 0 (4 + 13 * j + 3) = 1) → AM Γ (d + 1) 98 93 [some (vr 25 0), some (vi a), some (vi b), some (vi v), some (vi y)] [] mm n post) 0 c h0 ?_ ?_
  · exact key m (fun _ _ => rfl) (fun _ _ => rfl) (fun j j1 j2 => by omega)
  · intro mm f1 f2 f3
    have e3 : mm 26 0 3 = c := by rw [f2 3 (fun j j1 j2 => by omega), hc]
    exact b98_93 (by omega) (by omega) (fun _ => K mm c f1 f2 f3) (fun z => absurd z (by omega))
  · intro y y1 y2 ih mm f1 f2 f3
    have e3 : mm 26 0 3 = c := by rw [f2 3 (fun j j1 j2 => by omega), hc]
    refine b98_93 (by omega) (by omega) (fun z => absurd y2 (by omega)) (fun _ => b98_104 (r_puts (by omega) (by omega) (b98_112 (ih _ (fun k z => by rw [up_k z, f1 k z]) (fun z z1 => ?_) (fun j j1 j2 => ?_)))))
    · rw [up26, if_neg (z1 y y1 (by omega)), f2 z (fun j j1 j2 => z1 j j1 (by omega))]
    · rw [up26]
      by_cases q : j = y
      · rw [if_pos (by omega)]
      · rw [if_neg (by omega), f3 j j1 (by omega)]
set_option maxHeartbeats 4000000 in
theorem op_setPages {Γ : GG} {d : Nat} {m : MI} {n : ML} {t a b v : Int} (hS : Sim t m m) (ha : InR a) (hb : InR b) (hv : InR v) : Both Γ (d + 5) 57 98 [vr 1 0, vi a, vi b, vi v] [vr 25 0, vi a, vi b, vi v] m n t := by
  obtain ⟨c0, c1, c2, c3, c4, c5⟩ := sim_cnt hS
  have p1 := hS.1.2.1.1
  have p2 := hS.1.1.1.1
  dsimp only [Vw] at p1 p2
  have bad : (a < 2 ∨ 5 < a) ∨ (b < 1 ∨ 4 < b) ∨ (v < 10 ∨ 60 < v) → ∃ x, InR x ∧ some (vi (-1)) = some (vi x) ∧ CM Γ (d + 5) 98 [vr 25 0, vi a, vi b, vi v] m n (fun r2 m2 _ => r2 = some (vi x) ∧ Sim (t + 1) m2 m2) := by
    intro q
    refine ⟨-1, ir (by omega) (by omega), rfl, e98 (b98_0 (r_in ha (ir (by omega) (by omega)) (ir (by omega) (by omega)) (fun q1 q2 => ?_) (fun _ => ?_)))⟩
    · refine b98_6 (by omega) (fun h => absurd h (by omega)) (fun _ => b98_9 (r_in hb i1 (ir (by omega) (by omega)) (fun q3 q4 => ?_) (fun _ => ?_)))
      · refine b98_15 (by omega) (fun h => absurd h (by omega)) (fun _ => b98_18 (r_in hv (ir (by omega) (by omega)) (ir (by omega) (by omega)) (fun q5 q6 => by omega) (fun _ => ?_)))
        exact b98_26 (by omega) (fun h => absurd rfl h) (fun _ => b98_29 ⟨rfl, hS.next⟩)
      · exact b98_15 (by omega) (fun _ => b98_29 ⟨rfl, hS.next⟩) (fun h => absurd rfl h)
    · exact b98_6 (by omega) (fun _ => b98_29 ⟨rfl, hS.next⟩) (fun h => absurd rfl h)
  refine e57 (b57_0 (c_isWithin ha (ir (by omega) (by omega)) (ir (by omega) (by omega)) (fun q1 q2 => ?_) (fun q => ?_)))
  · refine b57_6 (by omega) (fun h => absurd h (by omega)) (fun _ => b57_9 (c_isWithin hb i1 (ir (by omega) (by omega)) (fun q3 q4 => ?_) (fun q => ?_)))
    · refine b57_15 (by omega) (fun h => absurd h (by omega)) (fun _ => b57_18 (c_isWithin hv (ir (by omega) (by omega)) (ir (by omega) (by omega)) (fun q5 q6 => ?_) (fun q => ?_)))
      · have hhm : ∀ j, 0 ≤ j → j < m 3 0 3 → m 26 0 (4 + 13 * j + 1) = m 5 0 j ∧ 0 ≤ m 5 0 j ∧ m 5 0 j < m 3 0 0 := fun j j1 j2 => ⟨(hS.1.1.2 j j1 j2).1.2.1, (hS.1.2.2.1 j j1 j2).2.1⟩
        have go : ∀ (mB : MI) (x : Int), mB 26 = m 26 → (AM Γ (d + 5) 98 34 [some (vr 25 0), some (vi a), some (vi b), some (vi v), some (vi 0)] [] mB n (fun r2 m2 _ => r2 = some (vi x) ∧ Sim (t + 1) m2 m2)) → CM Γ (d + 5) 98 [vr 25 0, vi a, vi b, vi v] mB n (fun r2 m2 _ => r2 = some (vi x) ∧ Sim (t + 1) m2 m2) := by
          intro mB x e26 h
          refine e98 (b98_0 (r_in ha (ir (by omega) (by omega)) (ir (by omega) (by omega)) (fun _ _ => ?_) (fun _ => by omega)))
          refine b98_6 (by omega) (fun h => absurd h (by omega)) (fun _ => b98_9 (r_in hb i1 (ir (by omega) (by omega)) (fun _ _ => ?_) (fun _ => by omega)))
          refine b98_15 (by omega) (fun h => absurd h (by omega)) (fun _ => b98_18 (r_in hv (ir (by omega) (by omega)) (ir (by omega) (by omega)) (fun _ _ => ?_) (fun _ => by omega)))
          exact b98_26 (by omega) (fun _ => b98_31 h) (fun h => absurd h (by omega))
        refine b57_26 (by omega) (fun _ => b57_31 (c_highestHome c0 c1 (fun j j1 j2 => by have := hhm j j1 j2; exact ir (by omega) (by omega)) (fun r hr hb => ?_))) (fun h => absurd h (by omega))
        have hra := hb a
        refine b57_38 hr ha (fun z => ?_) (fun z => ?_)
        · have hal := (hra.1 z).2
          refine b57_45 (c_save hS.2.1 (fun mA sh hA => b57_49 ?_))
          obtain ⟨eA, -, -, -⟩ := mid hS hA (mB := mA) (fun k r z => rfl)
          refine c_changePages (by rw [eA 3 (by omega)]; omega) (by rw [eA 3 (by omega)]; omega) (fun mB f1 f2 f3 f4 f5 f6 => ?_)
          rw [eA 3 (by omega)] at f5 f6
          have hB : ∀ k r, ¬ (3 ≤ k ∧ k ≤ 9 ∧ r = 0) → mB k r = mA k r := fun k r z => f1 k r (fun y => z (by omega))
          obtain ⟨-, e25, e26, e6⟩ := mid hS hA (mB := mB) (fun k r z => hB k r (fun y => z (by omega)))
          have ze : ∀ k, 4 ≤ k → k ≠ 9 → mB k 0 = m k 0 := fun k k1 k2 => by rw [f1 k 0 (by omega), eA k (by omega)]
          have hm1 := mul_bd (a := a) (b := b) (A := 5) (B := 4) (by omega) (by omega) (by omega) (by omega)
          have hm2 := mul_bd (a := a * b) (b := v) (A := 20) (B := 60) (by omega) (by omega) (by omega) (by omega)
          refine b57_59 ⟨a * b * v, ir (by omega) (by omega), rfl, go mB _ e26 ?_⟩
          have key := up_ind (P := fun y => AM Γ (d + 5) 98 34 [some (vr 25 0), some (vi a), some (vi b), some (vi v), some (vi y)] [] mB n (fun r2 m2 _ => r2 = some (vi (a * b * v)) ∧ Sim (t + 1) m2 m2)) 0 (m 3 0 3) c0 ?_ ?_
          · exact key
          · refine b98_34 (by omega) (by rw [e26]; omega) (fun _ => b98_65 (r_save e6 (fun mC sh2 hC => b98_69 ?_))) (fun z => by rw [e26] at z; omega)
            have eC : ∀ j, mC 26 0 j = m 26 0 j := fun j => by rw [hC.2.1 26 (by omega) (by omega), e26]
            generalize hm3 : up (up (up mC 26 0 0 a) 26 0 1 b) 26 0 2 v = mD
            have d0 : ∀ k, k ≠ 26 → mD k = mC k := fun k z => by rw [← hm3, up_k z, up_k z, up_k z]
            have d1 : ∀ z, 3 ≤ z → mD 26 0 z = m 26 0 z := fun z z1 => by rw [← hm3, up26, if_neg (by omega), up26, if_neg (by omega), up26, if_neg (by omega), eC]
            have d2 : mD 26 0 0 = a := by rw [← hm3, up26, if_neg (by omega), up26, if_neg (by omega), up26, if_pos rfl]
            have d3 : mD 26 0 1 = b := by rw [← hm3, up26, if_neg (by omega), up26, if_pos rfl]
            have d4 : mD 26 0 2 = v := by rw [← hm3, up26, if_pos rfl]
            clear hm3
            refine r_remark (c := m 3 0 3) (by rw [d1 3 (by omega)]; omega) c0 c1 (fun mE u g1 g2 g3 => b98_118 ⟨rfl, ?_⟩)
            have g4 : ∀ z, 3 ≤ z → (∀ j, 0 ≤ j → j < m 3 0 3 → z ≠ 4 + 13 * j + 3) → mE 26 0 z = m 26 0 z := fun z z1 z2 => by rw [g2 z z2, d1 z z1]
            refine sim_step hS hA (fun k r q => hB k r (fun z => q ⟨by omega, by omega, z.2.2⟩)) hC (fun k z => by rw [g1 k z, d0 k z]) ?_ ?_
            · refine ⟨?_, fun i h1 h2 => ?_⟩
              · have hh := hS.1.1.1
                dsimp only [Vw] at hh ⊢
                rw [f2, f3, f4, f5, ze 10 (by omega) (by omega), g2 0 (by omega), g2 1 (by omega), g2 2 (by omega), d2, d3, d4, g4 3 (by omega) (by omega), g4 160 (by omega) (by omega), g4 161 (by omega) (by omega), g4 162 (by omega) (by omega), g4 163 (by omega) (by omega)]
                exact ⟨rfl, rfl, rfl, hh.2.2.2.1, hh.2.2.2.2.1, hh.2.2.2.2.2⟩
              · replace h2 : i < m 3 0 3 := by rw [← f5]; exact h2
                obtain ⟨a1, a2⟩ := hS.1.1.2 i h1 h2
                have w3 := (hS.1.2.2.1 i h1 h2).2.2.1
                have w11 := (hS.1.2.2.2 i h1 (by omega)).1
                dsimp only [Vw] at w3 w11
                constructor
                · unfold SRel at a1 ⊢
                  dsimp only [Vw] at a1 ⊢
                  rw [ze 4 (by omega) (by omega), ze 5 (by omega) (by omega), ze 6 (by omega) (by omega), ze 7 (by omega) (by omega), ze 8 (by omega) (by omega), ze 11 (by omega) (by omega), f6 i h1 h2, g3 i h1 h2, g4 (4 + 13 * i) (by omega) (by omega), g4 (4 + 13 * i + 1) (by omega) (by omega), g4 (4 + 13 * i + 2) (by omega) (by omega), g4 (4 + 13 * i + 4) (by omega) (by omega)]
                  refine ⟨a1.1, a1.2.1, a1.2.2.1, fun _ => rfl, a1.2.2.2.2.1, fun j j1 j2 => ?_⟩
                  rw [g4 (9 + 13 * i + j) (by omega) (by omega)]
                  exact a1.2.2.2.2.2 j j1 j2
                · unfold ERel at a2 ⊢
                  have zz : ∀ k, 4 ≤ k → k ≠ 9 → Vw mB 0 k = Vw m 0 k := ze
                  rw [zz 11 (by omega) (by omega), zz 12 (by omega) (by omega), zz 13 (by omega) (by omega), zz 14 (by omega) (by omega), zz 15 (by omega) (by omega), zz 16 (by omega) (by omega), zz 17 (by omega) (by omega), zz 18 (by omega) (by omega), g4 (164 + 20 * i) (by omega) (by omega), g4 (164 + 20 * i + 1) (by omega) (by omega)]
                  refine ⟨a2.1, a2.2.1, fun k k1 k2 => ?_⟩
                  have k2' : k < m 11 0 i := k2
                  rw [g4 (166 + 20 * i + 6 * k) (by omega) (by omega), g4 (166 + 20 * i + 6 * k + 1) (by omega) (by omega), g4 (166 + 20 * i + 6 * k + 2) (by omega) (by omega), g4 (166 + 20 * i + 6 * k + 3) (by omega) (by omega), g4 (166 + 20 * i + 6 * k + 4) (by omega) (by omega), g4 (166 + 20 * i + 6 * k + 5) (by omega) (by omega)]
                  exact a2.2.2 k k1 k2
            · refine PWf.mono (t := t) (by omega) ⟨?_, fun i h1 h2 => ?_, fun i h1 h2 => ?_⟩
              · have hh := hS.1.2.1
                unfold HWf at hh ⊢
                dsimp only [Vw] at hh ⊢
                rw [f2, f3, f4, f5, ze 10 (by omega) (by omega)]
                exact ⟨⟨q1, q2⟩, ⟨q3, q4⟩, ⟨q5, q6⟩, hh.2.2.2⟩
              · replace h2 : i < m 3 0 3 := by rw [← f5]; exact h2
                have w := hS.1.2.2.1 i h1 h2
                unfold SWf at w ⊢
                dsimp only [Vw] at w ⊢
                rw [f2, f3, f4, f6 i h1 h2, ze 4 (by omega) (by omega), ze 5 (by omega) (by omega), ze 6 (by omega) (by omega), ze 7 (by omega) (by omega), ze 8 (by omega) (by omega), ze 10 (by omega) (by omega), ze 11 (by omega) (by omega)]
                exact ⟨w.1, ⟨w.2.1.1, hal i h1 h2⟩, w.2.2.1, w.2.2.2.1, Or.inr rfl, w.2.2.2.2.2.1, fun z => absurd z (by omega), fun _ _ => rfl⟩
              · have w := hS.1.2.2.2 i h1 h2
                unfold EWf at w ⊢
                dsimp only [Vw] at w ⊢
                rw [f5, ze 10 (by omega) (by omega), ze 11 (by omega) (by omega), ze 12 (by omega) (by omega), ze 13 (by omega) (by omega), ze 14 (by omega) (by omega), ze 15 (by omega) (by omega), ze 16 (by omega) (by omega), ze 17 (by omega) (by omega), ze 18 (by omega) (by omega)]
                exact w
          · intro y y1 y2 ih
            obtain ⟨g1, g2, g3⟩ := hhm y y1 y2
            refine b98_34 (by omega) (by rw [e26]; omega) (fun z => absurd y2 (by rw [e26] at z; omega)) (fun _ => b98_45 (r_of (by omega) (by omega) ?_))
            rw [e26, g1]
            exact b98_52 (by omega) ha (fun _ => b98_59 ih) (fun z => absurd (hal y y1 y2) z)
        · refine b57_42 ⟨-2, ir (by omega) (by omega), rfl, go m _ rfl ?_⟩
          have nal : ¬ ∀ j, 0 ≤ j → j < m 3 0 3 → m 5 0 j < a := fun y => z (hra.2 ⟨by omega, y⟩)
          have key := up_ind (P := fun y => (∀ j, 0 ≤ j → j < y → m 5 0 j < a) → AM Γ (d + 5) 98 34 [some (vr 25 0), some (vi a), some (vi b), some (vi v), some (vi y)] [] m n (fun r2 m2 _ => r2 = some (vi (-2)) ∧ Sim (t + 1) m2 m2)) 0 (m 3 0 3) c0 ?_ ?_
          · exact key (fun j j1 j2 => by omega)
          · exact fun y => absurd y nal
          · intro y y1 y2 ih hy
            obtain ⟨g1, g2, g3⟩ := hhm y y1 y2
            refine b98_34 (by omega) (by omega) (fun z => absurd y2 (by omega)) (fun _ => b98_45 (r_of (by omega) (by omega) ?_))
            rw [g1]
            refine b98_52 (by omega) ha (fun z => b98_59 (ih (fun j j1 j2 => ?_))) (fun z => b98_56 ⟨rfl, hS.next⟩)
            rcases (show j < y ∨ j = y by omega) with q | rfl
            · exact hy j j1 q
            · exact z
      · exact b57_26 (by omega) (fun h => absurd rfl h) (fun _ => b57_29 (bad (Or.inr (Or.inr q))))
    · exact b57_15 (by omega) (fun _ => b57_29 (bad (Or.inr (Or.inl q)))) (fun h => absurd rfl h)
  · exact b57_6 (by omega) (fun _ => b57_29 (bad (Or.inl q))) (fun h => absurd rfl h)
