-- the pair of calls: roomFor
/-- the trial paper with one more paragraph of a story -/
def mLn (m1 : MI) (a l : Int) : MI := up (up (up m1 6 1 a (m1 6 1 a + 1)) 7 1 (a * 8 + m1 6 1 a) l) 9 1 a 1
theorem mLn_k {m1 : MI} {a l : Int} {k : Nat} {r : Int} (h : ¬ (r = 1 ∧ (k = 6 ∨ k = 7 ∨ k = 9))) : mLn m1 a l k r = m1 k r := by
  unfold mLn
  rw [up_ne (fun z => h (by omega)), up_ne (fun z => h (by omega)), up_ne (fun z => h (by omega))]
theorem mLn_6 {m1 : MI} {a l i : Int} : mLn m1 a l 6 1 i = if i = a then m1 6 1 a + 1 else m1 6 1 i := by
  unfold mLn
  simp [up_rd]
theorem mLn_7 {m1 : MI} {a l i : Int} : mLn m1 a l 7 1 i = if i = a * 8 + m1 6 1 a then l else m1 7 1 i := by
  unfold mLn
  simp [up_rd]
theorem mLn_9 {m1 : MI} {a l i : Int} : mLn m1 a l 9 1 i = if i = a then 1 else m1 9 1 i := by
  unfold mLn
  simp [up_rd]
theorem mLn_wf {m1 : MI} {a l t : Int} (W1 : PWf (Vw m1 1) t) (hx : 0 ≤ a ∧ a < Vw m1 1 3 3) (h8 : m1 6 1 a < 8) (hl : 1 ≤ l ∧ l ≤ 30) : PWf (Vw (mLn m1 a l) 1) t := by
  have s := W1.2.1 a hx.1 hx.2
  unfold SWf at s
  dsimp only [Vw] at s
  refine W1.story hx (mLn_k (k := 3) (by omega)) (fun k k1 => mLn_k (by omega)) (fun k i k1 k2 k3 k4 => ?_) (fun z z1 => ?_) ?_
  · show mLn m1 a l k 1 i = m1 k 1 i
    by_cases q6 : k = 6
    · subst q6; rw [mLn_6, if_neg k4]
    · by_cases q9 : k = 9
      · subst q9; rw [mLn_9, if_neg k4]
      · rw [mLn_k (by omega)]
  · show mLn m1 a l 7 1 z = m1 7 1 z
    rw [mLn_7, if_neg (by omega)]
  · unfold SWf
    dsimp only [Vw]
    rw [mLn_6, if_pos rfl, mLn_9, if_pos rfl, mLn_k (k := 3) (by omega), mLn_k (k := 4) (by omega), mLn_k (k := 5) (by omega), mLn_k (k := 8) (by omega), mLn_k (k := 10) (by omega), mLn_k (k := 11) (by omega)]
    refine ⟨s.1, s.2.1, by omega, s.2.2.2.1, Or.inr rfl, fun j j0 j1 => ?_, fun z => absurd z (by omega), fun _ _ => rfl⟩
    rw [mLn_7]
    by_cases q : j = m1 6 1 a
    · rw [if_pos (by omega)]; exact hl
    · rw [if_neg (by omega)]; exact s.2.2.2.2.2.1 j j0 (by omega)
theorem mLn_rel {m1 : MI} {s s' : Int → Int} {a l t : Int} (W1 : PWf (Vw m1 1) t) (P1 : PRel (Vw m1 1) s) (hx : 0 ≤ a ∧ a < Vw m1 1 3 3) (h8 : m1 6 1 a < 8) (hs : ∀ j, s' j = if j = 4 + 13 * a + 3 then 1 else if j = 4 + 13 * a + 4 then m1 6 1 a + 1 else if j = 9 + 13 * a + m1 6 1 a then l else s j) : PRel (Vw (mLn m1 a l) 1) s' := by
  have w := (W1.2.1 a hx.1 hx.2).2.2.1
  dsimp only [Vw] at w
  refine P1.story W1 hx (mLn_k (k := 3) (by omega)) (fun k k1 => mLn_k (by omega)) (fun k i k1 k2 k3 k4 => ?_) (fun z z1 => ?_) (fun j z => by rw [hs, if_neg (by omega), if_neg (by omega), if_neg (by omega)]) ?_
  · show mLn m1 a l k 1 i = m1 k 1 i
    by_cases q6 : k = 6
    · subst q6; rw [mLn_6, if_neg k4]
    · by_cases q9 : k = 9
      · subst q9; rw [mLn_9, if_neg k4]
      · rw [mLn_k (by omega)]
  · show mLn m1 a l 7 1 z = m1 7 1 z
    rw [mLn_7, if_neg (by omega)]
  · have q := (P1.2 a hx.1 hx.2).1
    unfold SRel at q ⊢
    dsimp only [Vw] at q ⊢
    rw [mLn_6, if_pos rfl, mLn_9, if_pos rfl, mLn_k (k := 4) (by omega), mLn_k (k := 5) (by omega), mLn_k (k := 8) (by omega), mLn_k (k := 11) (by omega)]
    refine ⟨?_, ?_, ?_, fun _ => ?_, ?_, fun j j0 j1 => ?_⟩
    · rw [hs, if_neg (by omega), if_neg (by omega), if_neg (by omega)]; exact q.1
    · rw [hs, if_neg (by omega), if_neg (by omega), if_neg (by omega)]; exact q.2.1
    · rw [hs, if_neg (by omega), if_neg (by omega), if_neg (by omega)]; exact q.2.2.1
    · rw [hs, if_pos rfl]
    · rw [hs, if_neg (by omega), if_pos rfl]
    · rw [hs, mLn_7, if_neg (by omega), if_neg (by omega)]
      by_cases u : j = m1 6 1 a
      · rw [if_pos (by omega), if_pos (by omega)]
      · rw [if_neg (by omega), if_neg (by omega)]
        exact q.2.2.2.2.2 j j0 (by omega)
/-- a length that lets a story be printed -/
def okL (m1 : MI) (a l : Int) : Prop := 0 < ((rsL (Vw (mLn m1 a l) 1) a).length : Int)
set_option maxHeartbeats 4000000 in
/-- the reference's search -/
theorem r_room {Γ : GG} {d : Nat} {m m1 mm : MI} {n : ML} {t a : Int} (hS : Sim t m m) (ht : t ≤ 1000) (ha : InR a) (hx : 0 ≤ a ∧ a < m 3 0 3) (hV0 : VEq (Vw m1 1) (Vw m 0)) (h8 : m 6 0 a < 8) (a8 : m 8 0 a ≠ 0) (fk : ∀ k, 25 ≤ k → mm k = m k) (fs : ∀ k p, k ≤ 20 → (k < 3 ∨ 19 ≤ k ∨ (p ≠ 8 ∧ p ≠ 1)) → mm k p = m k p) : CM Γ (d + 7) 149 [vr 25 0, vi a] mm n (fun r2 m2 _ => r2 = some (vi (nbF (okL m1 a) 30)) ∧ Sim (t + 1) m2 m2) := by
  obtain ⟨c0, c1, c2, c3, c4, c5⟩ := sim_cnt hS
  have hW := hS.1.2
  have W1 : PWf (Vw m1 1) t := hW.congr hV0
  have P1 : PRel (Vw m1 1) (m 26 0) := hS.1.1.congr hV0 (fun _ _ _ => rfl) hW
  have e33 : Vw m1 1 3 3 = m 3 0 3 := hV0 3 (by omega) (by omega) 3 (by omega) (by decide)
  have e6 : m1 6 1 a = m 6 0 a := hV0 6 (by omega) (by omega) a hx.1 (by show a < 12; omega)
  have e8 : m1 8 1 a = m 8 0 a := hV0 8 (by omega) (by omega) a hx.1 (by show a < 12; omega)
  have hx1 : 0 ≤ a ∧ a < Vw m1 1 3 3 := ⟨hx.1, by omega⟩
  have hR := (hS.1.1.2 a hx.1 hx.2).1
  have s2 : m 26 0 (4 + 13 * a + 2) = m 8 0 a := hR.2.2.1
  have s4 : m 26 0 (4 + 13 * a + 4) = m 6 0 a := hR.2.2.2.2.1
  have a01 : m 8 0 a = 0 ∨ m 8 0 a = 1 := (hW.2.1 a hx.1 hx.2).2.2.2.1
  have a6 : 1 ≤ m 6 0 a ∧ m 6 0 a ≤ 8 := (hW.2.1 a hx.1 hx.2).2.2.1
  have e26 := fk 26 (by omega)
  refine e149 (b149_0 (r_isStory ha (by rw [e26]; omega) (by rw [e26]; omega) (fun _ _ => ?_) (fun z => by rw [e26] at z; omega)))
  refine b149_5 (by omega) (fun _ => b149_10 (r_of ⟨hx.1, by omega⟩ (by omega) ?_)) (fun z => absurd z (by omega))
  rw [e26, s2]
  refine b149_16 (by omega) (fun z => absurd z a8) (fun _ => b149_19 (r_of ⟨hx.1, by omega⟩ (by omega) ?_))
  rw [e26, s4]
  refine b149_25 (by omega) (fun _ => b149_33 (r_keeps (fun m4 k1 k2 => b149_37 ?_))) (fun z => absurd z (by omega))
  have k29 : ∀ j, 0 ≤ j → j < 404 → m4 29 0 j = m 26 0 j := fun j j0 j1 => by rw [k2 j j0 j1, e26]
  -- the end
  have fin : ∀ (mq : MI) (x i : Int) o4, (∀ k, k ≠ 26 → k ≠ 31 → k ≠ 32 → mq k = m4 k) → x = nbF (okL m1 a) 30 → AM Γ (d + 7) 149 99 [some (vr 25 0), some (vi a), some (vi x), some (vi i), o4] [] mq n (fun r2 m2 _ => r2 = some (vi (nbF (okL m1 a) 30)) ∧ Sim (t + 1) m2 m2) := by
    intro mq x i o4 f hx'
    refine b149_99 (r_restores (fun m7 r1 r2 => b149_103 ⟨by rw [hx'], ?_⟩))
    refine (Sim.frame2 (m := m) (fun k p kk kz => ?_) (fun k ka kb kc => ?_) (fun j j0 j1 => ?_) hS).next
    · rw [r1 k (by omega), f k (by omega) (by omega) (by omega), k1 k (by omega), fs k p kk kz]
    · by_cases q : k = 26
      · exact absurd q kc
      · rw [r1 k kc, f k kc (by omega) (by omega), k1 k (by omega), fk k ka]
    · rw [r2 j j0 j1, f 29 (by omega) (by omega) (by omega), k29 j j0 j1]
  have key := down_ind (P := fun y => ∀ (mq : MI) o4, (∀ k, k ≠ 26 → k ≠ 31 → k ≠ 32 → mq k = m4 k) → nbF (okL m1 a) 30 = nbF (okL m1 a) (y - 1).toNat → y ≤ 31 → AM Γ (d + 7) 149 42 [some (vr 25 0), some (vi a), some (vi y), some (vi 0), o4] [] mq n (fun r2 m2 _ => r2 = some (vi (nbF (okL m1 a) 30)) ∧ Sim (t + 1) m2 m2)) 1 31 (by omega) ?_ ?_
  · exact key m4 none (fun _ _ _ _ => rfl) rfl (by omega)
  · intro mq o4 f e0 _
    refine b149_42 (by omega) (fun z => absurd rfl z) (fun _ => b149_46 (by omega) (fun z => absurd z (by omega)) (fun _ => b149_50 (r_restores (fun m5 r1 r2 => b149_54 (by omega) (fun _ => ?_) (fun z => absurd z (by omega))))))
    refine b149_42 (by omega) (fun z => absurd rfl z) (fun _ => b149_46 (by omega) (fun _ => fin m5 _ _ _ (fun k q1 q2 q3 => by rw [r1 k q1, f k q1 q2 q3]) ?_) (fun z => absurd z (by omega)))
    rw [e0]
    rfl
  · intro y y1 y2 ih mq o4 f e0 _
    have ez : (y - 1).toNat = (y - 1 - 1).toNat + 1 := by omega
    have ey : (((y - 1 - 1).toNat : Nat) : Int) + 1 = y - 1 := by omega
    refine b149_42 (by omega) (fun z => absurd rfl z) (fun _ => b149_46 (by omega) (fun z => absurd (show 0 < y by omega) z) (fun _ => b149_50 (r_restores (fun m5 r1 r2 => b149_54 (by omega) (fun z => absurd z (by omega)) (fun _ => b149_61 ?_)))))
    rw [show y + -1 = y - 1 by omega]
    have s5 : ∀ j, 0 ≤ j → j < 404 → m5 26 0 j = m 26 0 j := fun j j0 j1 => by rw [r2 j j0 j1, f 29 (by omega) (by omega) (by omega), k29 j j0 j1]
    have f5 : ∀ k, k ≠ 26 → k ≠ 31 → k ≠ 32 → m5 k = m4 k := fun k q1 q2 q3 => by rw [r1 k q1, f k q1 q2 q3]
    have P5 : PRel (Vw m1 1) (m5 26 0) := hS.1.1.congr hV0 (fun j j0 j1 => s5 j j0 j1) hW
    have e4 : m5 26 0 (4 + 13 * a + 4) = m1 6 1 a := by rw [s5 _ (by omega) (by omega), s4, e6]
    refine r_lengthens ⟨hx.1, by omega⟩ (by omega) (b149_67 ?_)
    rw [e4]
    generalize hm6 : up (up (up m5 26 0 (9 + 13 * a + m1 6 1 a) (y - 1)) 26 0 (4 + 13 * a + 4) (m1 6 1 a + 1)) 26 0 (4 + 13 * a + 3) 1 = m6
    have g26 : ∀ j, m6 26 0 j = if j = 4 + 13 * a + 3 then 1 else if j = 4 + 13 * a + 4 then m1 6 1 a + 1 else if j = 9 + 13 * a + m1 6 1 a then y - 1 else m5 26 0 j := fun j => by rw [← hm6, up26, up26, up26]
    have gk : ∀ k, k ≠ 26 → m6 k = m5 k := fun k z => by rw [← hm6, up_k z, up_k z, up_k z]
    clear hm6
    have P6 := mLn_rel (l := y - 1) W1 P5 hx1 (by omega) g26
    have W6 := mLn_wf (l := y - 1) W1 hx1 (by omega) ⟨by omega, by omega⟩
    refine r_makes P6 W6 ht (fun m8 g1 g2 g3 => ?_)
    have hh := heldN_bd (V := Vw (mLn m1 a (y - 1)) 1) W6.1.2.2.2.1
    have a3' : a < Vw (mLn m1 a (y - 1)) 1 3 3 := by
      show a < mLn m1 a (y - 1) 3 1 3
      rw [mLn_k (by omega)]
      exact hx1.2
    have a8' : Vw (mLn m1 a (y - 1)) 1 8 a ≠ 0 := by
      show mLn m1 a (y - 1) 8 1 a ≠ 0
      rw [mLn_k (by omega)]
      omega
    have rl := ((g2 a hx.1 a3').1 a8').1.1
    have lb := (rs_gd W6 ⟨hx.1, a3'⟩).1
    have f8 : ∀ k, k ≠ 26 → k ≠ 31 → k ≠ 32 → m8 k = m4 k := fun k q1 q2 q3 => by rw [g1 k q2 q3, gk k q1, f5 k q1 q2 q3]
    refine b149_71 (by omega) (fun z => absurd z (by omega)) (fun _ => b149_78 (by omega) (by omega) (fun z => b149_94 (b149_95 (ih m8 _ f8 ?_ (by omega)))) (fun z => b149_90 (b149_95 (b149_42 (by omega) (fun _ => fin m8 _ _ _ f8 ?_) (fun u => absurd u (by omega))))))
    · rw [e0, ez]
      conv => lhs; unfold nbF
      rw [ey, if_neg (fun u => z (by rw [rl]; exact u))]
    · rw [e0, ez]
      conv => rhs; unfold nbF
      rw [ey, if_pos (show okL m1 a (y - 1) by unfold okL; rw [← rl]; exact z)]
set_option maxHeartbeats 4000000 in
theorem op_roomFor {Γ : GG} {d : Nat} {m : MI} {n : ML} {t a : Int} (hS : Sim t m m) (ht : t ≤ 1000) (ha : InR a) : Both Γ (d + 7) 80 149 [vr 1 0, vi a] [vr 25 0, vi a] m n t := by
  obtain ⟨c0, c1, c2, c3, c4, c5⟩ := sim_cnt hS
  have hW := hS.1.2
  refine e80 (b80_0 (c_isStory ha c0 c1 (fun q1 q2 => ?_) (fun q => ?_)))
  · have hR := (hS.1.1.2 a q1 q2).1
    have s2 : m 26 0 (4 + 13 * a + 2) = m 8 0 a := hR.2.2.1
    have s4 : m 26 0 (4 + 13 * a + 4) = m 6 0 a := hR.2.2.2.2.1
    have a01 : m 8 0 a = 0 ∨ m 8 0 a = 1 := (hW.2.1 a q1 q2).2.2.2.1
    have a6 : 1 ≤ m 6 0 a ∧ m 6 0 a ≤ 8 := (hW.2.1 a q1 q2).2.2.1
    have no : (m 8 0 a = 0 ∨ m 6 0 a = 8) → ∃ x, InR x ∧ some (vi (-2)) = some (vi x) ∧ CM Γ (d + 7) 149 [vr 25 0, vi a] m n (fun r2 m2 _ => r2 = some (vi x) ∧ Sim (t + 1) m2 m2) := by
      intro h
      refine ⟨-2, ir (by omega) (by omega), rfl, e149 (b149_0 (r_isStory ha (by omega) (by omega) (fun _ _ => b149_5 (by omega) (fun _ => b149_10 (r_of ⟨q1, by omega⟩ (by omega) ?_)) (fun z => absurd z (by omega))) (fun z => by omega)))⟩
      rw [s2]
      refine b149_16 (by omega) (fun _ => b149_30 ⟨rfl, hS.next⟩) (fun z => b149_19 (r_of ⟨q1, by omega⟩ (by omega) ?_))
      rw [s4]
      exact b149_25 (by omega) (fun z => absurd (show m 6 0 a = 8 by omega) z) (fun _ => b149_30 ⟨rfl, hS.next⟩)
    refine b80_5 (by omega) (fun _ => b80_10 ⟨q1, by omega⟩ (by omega) (fun z => b80_36 (no (Or.inl z))) (fun a8 => b80_22 ⟨q1, by omega⟩ (by omega) (fun h8 => b80_39 (c_papCopy (by omega) (fun m1 o1 q5 => b80_50 ⟨q1, by omega⟩ ?_))) (fun z => b80_36 (no (Or.inr (by omega)))))) (fun z => absurd z (by omega))
    have hV0 : VEq (Vw m1 1) (Vw m 0) := fun k k1 k2 j j1 j2 => q5 k k1 k2 j j1 j2
    have W1 : PWf (Vw m1 1) t := hW.congr hV0
    have e33 : Vw m1 1 3 3 = m 3 0 3 := q5 3 (by omega) (by omega) 3 (by omega) (by decide)
    have e6 : m1 6 1 a = m 6 0 a := q5 6 (by omega) (by omega) a q1 (by show a < 12; omega)
    have e8 : m1 8 1 a = m 8 0 a := q5 8 (by omega) (by omega) a q1 (by show a < 12; omega)
    have hx1 : 0 ≤ a ∧ a < Vw m1 1 3 3 := ⟨q1, by omega⟩
    refine c_appendParagraph ⟨q1, by omega⟩ ⟨by omega, by omega⟩ (b80_70 ?_)
    -- the end
    have fin : ∀ (x : Int) (mm : MI) (nn : ML), (∀ k r, ¬ (r = 1 ∧ 3 ≤ k ∧ k ≤ 18) → ¬ (r = 8 ∧ 10 ≤ k ∧ k ≤ 18) → k ≠ 22 → k ≠ 24 → mm k r = m k r) → x = nbF (okL m1 a) 30 → ∃ x', InR x' ∧ some (vi x) = some (vi x') ∧ CM Γ (d + 7) 149 [vr 25 0, vi a] mm nn (fun r2 m2 _ => r2 = some (vi x') ∧ Sim (t + 1) m2 m2) := by
      intro x mm nn f hx
      have nb := (nbF_bd (ok := okL m1 a) 30).1
      refine ⟨nbF (okL m1 a) 30, ir (by omega) (by omega), by rw [hx], r_room hS ht ha ⟨q1, q2⟩ hV0 h8 a8 (fun k k1 => ?_) (fun k p k1 k2 => f k p (by omega) (by omega) (by omega) (by omega))⟩
      funext r
      exact f k r (by omega) (by omega) (by omega) (by omega)
    have key := down_ind (P := fun y => ∀ (mm : MI) (nn : ML), (∀ k, 3 ≤ k → k ≤ 18 → k ≠ 7 → mm k 1 = mLn m1 a 0 k 1) → (∀ z, z ≠ a * 8 + m1 6 1 a → mm 7 1 z = m1 7 1 z) → (∀ k r, ¬ (r = 1 ∧ 3 ≤ k ∧ k ≤ 18) → ¬ (r = 8 ∧ 10 ≤ k ∧ k ≤ 18) → k ≠ 22 → k ≠ 24 → mm k r = m k r) → nbF (okL m1 a) 30 = nbF (okL m1 a) y.toNat → y ≤ 30 → AM Γ (d + 7) 80 73 [some (vr 1 0), some (vi a), some (vi (m1 6 1 a)), some (vi y)] [] mm nn (fun r1 m1 n1 => ∃ x, InR x ∧ r1 = some (vi x) ∧ CM Γ (d + 7) 149 [vr 25 0, vi a] m1 n1 (fun r2 m2 _ => r2 = some (vi x) ∧ Sim (t + 1) m2 m2))) 0 30 (by omega) ?_ ?_
    · refine key (mLn m1 a 30) n (fun k k1 k2 k3 => ?_) (fun z z1 => by rw [mLn_7, if_neg z1]) (fun k r z1 z2 z3 z4 => by rw [mLn_k (by omega), o1 k r (by omega)]) rfl (by omega)
      funext i
      by_cases q6 : k = 6
      · subst q6; rw [mLn_6, mLn_6]
      · by_cases q9 : k = 9
        · subst q9; rw [mLn_9, mLn_9]
        · rw [mLn_k (by omega), mLn_k (by omega)]
    · intro mm nn g1 g2 g3 e0 _
      exact b80_73 (by omega) (fun _ => b80_122 (fin 0 mm nn g3 (by rw [e0]; rfl))) (fun z => absurd z (by omega))
    · intro y y1 y2 ih mm nn g1 g2 g3 e0 _
      have ez : y.toNat = (y - 1).toNat + 1 := by omega
      have ey : (((y - 1).toNat : Nat) : Int) + 1 = y := by omega
      refine b80_73 (by omega) (fun z => absurd z (by omega)) (fun _ => b80_78 (c_changeParagraph ⟨q1, by omega⟩ ⟨by omega, by omega⟩ (b80_88 ?_)))
      generalize hm2 : up (up mm 7 1 (a * 8 + m1 6 1 a) y) 9 1 a 1 = m2
      have v7 : ∀ z, m2 7 1 z = if z = a * 8 + m1 6 1 a then y else mm 7 1 z := fun z => by rw [← hm2]; simp [up_rd]
      have v9 : ∀ z, m2 9 1 z = if z = a then 1 else mm 9 1 z := fun z => by rw [← hm2]; simp [up_rd]
      have vo : ∀ k r, ¬ (r = 1 ∧ (k = 7 ∨ k = 9)) → m2 k r = mm k r := fun k r z => by rw [← hm2, up_ne (fun u => z (by omega)), up_ne (fun u => z (by omega))]
      clear hm2
      have vK : ∀ k, 3 ≤ k → k ≤ 18 → m2 k 1 = Vw (mLn m1 a y) 1 k := fun k k1 k2 => by
        funext i
        show m2 k 1 i = mLn m1 a y k 1 i
        by_cases q7 : k = 7
        · subst q7
          rw [v7, mLn_7]
          by_cases u : i = a * 8 + m1 6 1 a
          · rw [if_pos u, if_pos u]
          · rw [if_neg u, if_neg u, g2 i u]
        · by_cases q9 : k = 9
          · subst q9
            rw [v9, mLn_9, g1 9 (by omega) (by omega) (by omega), mLn_9]
            by_cases u : i = a
            · rw [if_pos u, if_pos u]
            · rw [if_neg u, if_neg u]
          · rw [vo k 1 (by omega), g1 k k1 k2 q7]
            by_cases q6 : k = 6
            · subst q6; rw [mLn_6, mLn_6]
            · rw [mLn_k (by omega), mLn_k (by omega)]
      have W2 := mLn_wf (l := y) W1 hx1 (by omega) ⟨by omega, y2⟩
      refine c_plan (p := 1) (V := Vw (mLn m1 a y) 1) (by omega) vK W2 (fun m3 n3 f3 ed => b80_103 ?_)
      have a3' : a < Vw (mLn m1 a y) 1 3 3 := by
        show a < mLn m1 a y 3 1 3
        rw [mLn_k (by omega)]
        exact hx1.2
      have a8' : Vw (mLn m1 a y) 1 8 a ≠ 0 := by
        show mLn m1 a y 8 1 a ≠ 0
        rw [mLn_k (by omega)]
        omega
      have el : m3 11 8 a = ((rsL (Vw (mLn m1 a y) 1) a).length : Int) := (ed.2.1 a q1 a3' a8').1.1
      have lb := (rs_gd W2 ⟨q1, a3'⟩).1
      have g3' : ∀ k r, ¬ (r = 1 ∧ 3 ≤ k ∧ k ≤ 18) → ¬ (r = 8 ∧ 10 ≤ k ∧ k ≤ 18) → k ≠ 22 → k ≠ 24 → m3 k r = m k r := fun k r z1 z2 z3 z4 => by rw [f3 k r z2 z3 z4, vo k r (by omega), g3 k r z1 z2 z3 z4]
      refine c_isPrinted ⟨q1, by omega⟩ (ir (by omega) (by omega)) (fun u => b80_111 (by omega) (fun z => absurd z (by omega)) (fun _ => b80_114 (fin y m3 n3 g3' ?_))) (fun u => b80_111 (by omega) (fun _ => b80_116 ?_) (fun z => absurd rfl z))
      · rw [e0, ez]
        conv => rhs; unfold nbF
        rw [ey, if_pos (show okL m1 a y by unfold okL; rw [← el]; exact u)]
      · refine ih m3 n3 (fun k k1 k2 k3 => ?_) (fun z z1 => ?_) g3' ?_ (by omega)
        · rw [f3 k 1 (by omega) (by omega) (by omega), vK k k1 k2]
          funext i
          show mLn m1 a y k 1 i = mLn m1 a 0 k 1 i
          by_cases q6 : k = 6
          · subst q6; rw [mLn_6, mLn_6]
          · by_cases q9 : k = 9
            · subst q9; rw [mLn_9, mLn_9]
            · rw [mLn_k (by omega), mLn_k (by omega)]
        · rw [f3 7 1 (by omega) (by omega) (by omega), v7, if_neg z1, g2 z z1]
        · rw [e0, ez]
          conv => lhs; unfold nbF
          rw [ey, if_neg (fun z => u (by rw [el]; exact z))]
  · refine b80_5 (by omega) (fun z => absurd rfl z) (fun _ => b80_8 ⟨-1, ir (by omega) (by omega), rfl, e149 (b149_0 (r_isStory ha (by omega) (by omega) (fun _ _ => by omega) (fun _ => b149_5 (by omega) (fun z => absurd rfl z) (fun _ => b149_8 ⟨rfl, hS.next⟩))))⟩)
