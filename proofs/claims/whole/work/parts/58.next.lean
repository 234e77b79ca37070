-- the pairs of calls: next, piecesWith
theorem Sim.frame2 {t : Int} {m m' : MI} (h1 : ∀ k p, k ≤ 20 → (k < 3 ∨ 19 ≤ k ∨ (p ≠ 8 ∧ p ≠ 1)) → m' k p = m k p) (h2 : ∀ k, 25 ≤ k → k ≤ 28 → k ≠ 26 → m' k = m k) (h3 : ∀ j, 0 ≤ j → j < 404 → m' 26 0 j = m 26 0 j) (hS : Sim t m m) : Sim t m' m' := by
  have g : Sim t (fun k => if k = 26 then m 26 else m' k) (fun k => if k = 26 then m 26 else m' k) := by
    refine hS.frame (fun k p k1 k2 => ?_) (fun k k1 k2 => ?_)
    · rw [if_neg (by omega)]; exact h1 k p k1 k2
    · by_cases q : k = 26
      · rw [if_pos q, q]
      · rw [if_neg q]; exact h2 k k1 k2 q
  obtain ⟨⟨p1, p2⟩, ⟨s1, s2, s3, s4⟩, x1⟩ := g
  have e : ∀ k, k ≠ 26 → (fun k => if k = 26 then m 26 else m' k) k = m' k := fun k q => by
    show (if k = 26 then m 26 else m' k) = m' k
    rw [if_neg q]
  have hV : ∀ p, VEq (Vw m' p) (Vw (fun k => if k = 26 then m 26 else m' k) p) := fun p k k1 k2 j _ _ => by
    show m' k p j = (if k = 26 then m 26 else m' k) p j
    rw [if_neg (by omega)]
  rw [e 1 (by omega)] at s1 s2 s4
  rw [e 25 (by omega)] at s2
  rw [e 2 (by omega), e 27 (by omega)] at s4
  refine ⟨⟨p1.congr (hV 0) (fun j j0 j1 => ?_) p2, p2.congr (hV 0)⟩, ⟨s1, s2, ?_, fun i q1 q2 => ?_⟩, ?_⟩
  · show m' 26 0 j = (if (26 : Nat) = 26 then m 26 else m' 26) 0 j
    rw [if_pos rfl]
    exact h3 j j0 j1
  · unfold SvOK at s3 ⊢
    rw [e 2 (by omega)] at s3
    exact s3
  · obtain ⟨g1, g2⟩ := s4 i q1 q2
    exact ⟨g1.congr (hV _) (fun _ _ _ => rfl) g2, g2.congr (hV _)⟩
  · unfold Txt at x1 ⊢
    rw [e 19 (by omega), e 20 (by omega), e 25 (by omega), e 28 (by omega)] at x1
    exact x1
theorem heldN_bd {V : Nat → Int → Int} (h : 0 ≤ V 3 3 ∧ V 3 3 ≤ 12) : 0 ≤ heldN V ∧ heldN V ≤ 12 := by
  have b := Sm_bd (f := fun i => if V 8 i = 0 then 0 else if (rsL V i).length = 0 then 1 else 0) (a := 0) (b := V 3 3) (c := 1) h.1 (fun j _ _ => by split; omega; split <;> omega)
  have e : heldN V = Sm (fun i => if V 8 i = 0 then 0 else if (rsL V i).length = 0 then 1 else 0) 0 (V 3 3) := rfl
  rw [← e] at b
  omega
theorem frN_bd {T : Int → Int → Prop} {P K H : Int} (hP : 0 ≤ P ∧ P ≤ 5) (hK : 0 ≤ K ∧ K ≤ 4) (hH : 0 ≤ H ∧ H ≤ 60) : 0 ≤ frN T P K H ∧ frN T P K H ≤ 1200 := by
  have a : ∀ p c, 0 ≤ Sm (fun l => @ite Int (T (p * 4 + c) l) (Classical.propDecidable _) 0 1) 0 H ∧ Sm (fun l => @ite Int (T (p * 4 + c) l) (Classical.propDecidable _) 0 1) 0 H ≤ 60 := fun p c => by
    have := Sm_bd (f := fun l => @ite Int (T (p * 4 + c) l) (Classical.propDecidable _) 0 1) (a := 0) (b := H) (c := 1) hH.1 (fun j _ _ => by split <;> omega)
    omega
  have b : ∀ p, 0 ≤ Sm (fun c => Sm (fun l => @ite Int (T (p * 4 + c) l) (Classical.propDecidable _) 0 1) 0 H) 0 K ∧ Sm (fun c => Sm (fun l => @ite Int (T (p * 4 + c) l) (Classical.propDecidable _) 0 1) 0 H) 0 K ≤ 240 := fun p => by
    have := Sm_bd (f := fun c => Sm (fun l => @ite Int (T (p * 4 + c) l) (Classical.propDecidable _) 0 1) 0 H) (a := 0) (b := K) (c := 60) hK.1 (fun j _ _ => a p j)
    omega
  have c := Sm_bd (f := fun p => Sm (fun c => Sm (fun l => @ite Int (T (p * 4 + c) l) (Classical.propDecidable _) 0 1) 0 H) 0 K) (a := 0) (b := P) (c := 240) hP.1 (fun j _ _ => b j)
  have e : frN T P K H = Sm (fun p => Sm (fun c => Sm (fun l => @ite Int (T (p * 4 + c) l) (Classical.propDecidable _) 0 1) 0 H) 0 K) 0 P := rfl
  rw [← e] at c
  omega
set_option maxHeartbeats 4000000 in
theorem op_next {Γ : GG} {d : Nat} {m : MI} {n : ML} {t a : Int} (hS : Sim t m m) (ht : t ≤ 1000) (ha : InR a) : Both Γ (d + 7) 78 147 [vr 1 0, vi a] [vr 25 0, vi a] m n t := by
  have hW := hS.1.2
  have w := hW.1
  have w0 := w.1
  have w1 := w.2.1
  have w2 := w.2.2.1
  have w3 := w.2.2.2.1
  refine e78 (b78_0 (c_isWithin ha i0 (ir (by omega) (by omega)) (fun p1 p2 => ?_) (fun p => ?_)))
  · refine b78_6 (by omega) (fun _ => b78_11 (c_plan (p := 0) (V := Vw m 0) (by omega) (fun k _ _ => rfl) hW (fun m1 n1 f1 ed => ?_))) (fun z => absurd z (by omega))
    have fk : ∀ k, 25 ≤ k → m1 k = m k := fun k k1 => by
      funext r
      exact f1 k r (by omega) (by omega) (by omega)
    have hS1 : Sim t m1 m1 := hS.frame (fun k p k1 k2 => f1 k p (by omega) (by omega) (by omega)) (fun k k1 k2 => fk k k1)
    have hb : PcOK m1 8 := ed_ok (V := Vw m 0) (E := Vw m1 8) hW ed
    have eh := ed_held (V := Vw m 0) (E := Vw m1 8) hW ed
    rw [show Vw m1 8 11 = m1 11 8 from rfl] at eh
    have ef := ed_free (V := Vw m 0) (E := Vw m1 8) hW ed
    rw [show Vw m1 8 10 1 = m1 10 8 1 from rfl, show Vw m1 8 10 2 = m1 10 8 2 from rfl, show Vw m1 8 10 3 = m1 10 8 3 from rfl, show Vw m1 8 11 = m1 11 8 from rfl, show Vw m1 8 16 = m1 16 8 from rfl] at ef
    have hP1 : PRel (Vw m 0) (m1 26 0) := by rw [fk 26 (by omega)]; exact hS.1.1
    have ref : ∀ x, InR x → (a = 0 → x = heldN (Vw m 0)) → (a = 1 → x = alN (m1 12 8) 12) → (a = 2 → x = frN (tkF (Vw m 0) (alN (Vw m 0 8) (Vw m 0 3 3)).toNat) (Vw m 0 3 0) (Vw m 0 3 1) (Vw m 0 3 2)) → ∃ x', InR x' ∧ some (vi x) = some (vi x') ∧ CM Γ (d + 7) 147 [vr 25 0, vi a] m1 n1 (fun r2 m2 _ => r2 = some (vi x') ∧ Sim (t + 1) m2 m2) := by
      intro x hx x0 x1 x2
      refine ⟨x, hx, rfl, e147 (b147_0 (r_in ha i0 (ir (by omega) (by omega)) (fun _ _ => b147_6 (by omega) (fun _ => b147_11 (r_makes hP1 hW ht (fun m2 g1 g2 g3 => b147_15 ?_))) (fun z => absurd z (by omega))) (fun z => by omega)))⟩
      have e3 : m2 26 0 3 = Vw m 0 3 3 := by rw [g1 26 (by omega) (by omega)]; exact hP1.1.2.2.2.1
      have hP2 : PRel (Vw m 0) (m2 26 0) := by rw [g1 26 (by omega) (by omega)]; exact hP1
      have em := ed_mov (V := Vw m 0) (E := Vw m1 8) (f := m2 32 0) hW ed g2
      rw [show Vw m1 8 12 = m1 12 8 from rfl] at em
      have hS2 : Sim (t + 1) m2 m2 := (hS1.frame (fun k p k1 _ => by rw [g1 k (by omega) (by omega)]) (fun k k1 k2 => g1 k (by omega) (by omega))).next
      have key := up_ind (P := fun y => AM Γ (d + 7) 147 21 [some (vr 25 0), some (vi a), some (vi (heldN (Vw m 0))), some (vi (Sm (fun i => m2 32 0 (20 * i + 1)) 0 y)), some (vi y)] [] m2 n1 (fun r2 m2 _ => r2 = some (vi x) ∧ Sim (t + 1) m2 m2)) 0 (Vw m 0 3 3) w3.1 ?_ ?_
      · rw [Sm_nil (Int.le_refl 0)] at key
        exact key
      · refine b147_21 (by omega) (by omega) (fun _ => b147_53 ha (fun u => b147_61 ha (fun v => b147_70 (r_freeLines hP2 hW g3 (b147_74 ⟨by rw [x2 (by omega)], hS2⟩))) (fun v => b147_66 (b147_74 ⟨by rw [x1 v, ← em], hS2⟩))) (fun u => b147_57 (b147_74 ⟨by rw [x0 u], hS2⟩))) (fun u => absurd u (by omega))
      · intro y y0 y1 ih
        rw [Sm_succ y0] at ih
        exact b147_21 (by omega) (by omega) (fun u => absurd (show y < m2 26 0 3 by omega) u) (fun _ => b147_32 (by omega) ih)
    have hh := heldN_bd (V := Vw m 0) w3
    have hf := frN_bd (T := tkF (Vw m 0) (alN (Vw m 0 8) (Vw m 0 3 3)).toNat) (P := Vw m 0 3 0) (K := Vw m 0 3 1) (H := Vw m 0 3 2) (by omega) (by omega) (by omega)
    have hm := alN_bd (al := m1 12 8) (c := 12) (by omega)
    refine b78_26 ha (fun u v => b78_68 (c_freeLines hb (b78_75 ?_))) (fun u => b78_52 (c_heldOver hb (b78_59 ?_))) (fun u => b78_60 (c_movedStories (b78_67 ?_)))
    · rw [ef]
      exact ref _ (ir (by omega) (by omega)) (fun z => absurd z u) (fun z => absurd z v) (fun _ => rfl)
    · rw [eh]
      exact ref _ (ir (by omega) (by omega)) (fun _ => rfl) (fun z => by omega) (fun z => by omega)
    · exact ref _ (ir (by omega) (by omega)) (fun z => by omega) (fun _ => rfl) (fun z => by omega)
  · exact b78_6 (by omega) (fun z => absurd rfl z) (fun _ => b78_9 ⟨-1, ir (by omega) (by omega), rfl, e147 (b147_0 (r_in ha i0 (ir (by omega) (by omega)) (fun _ _ => by omega) (fun _ => b147_6 (by omega) (fun z => absurd rfl z) (fun _ => b147_9 ⟨rfl, hS.next⟩))))⟩)
/-- what both answer of a story that is alive -/
theorem ed_len {V E : Nat → Int → Int} {f : Int → Int} {a : Int} (h : EdC V E) (g : EdR V f) (a0 : 0 ≤ a) (a1 : a < V 3 3) (a8 : V 8 a ≠ 0) : E 11 a = ((rsL V a).length : Int) ∧ f (20 * a) = ((rsL V a).length : Int) := ⟨(h.2.1 a a0 a1 a8).1.1, ((g a a0 a1).1 a8).1.1⟩
set_option maxHeartbeats 4000000 in
theorem op_piecesWith {Γ : GG} {d : Nat} {m : MI} {n : ML} {t a b : Int} (hS : Sim t m m) (ht : t ≤ 1000) (ha : InR a) (hb : InR b) : Both Γ (d + 7) 79 148 [vr 1 0, vi a, vi b] [vr 25 0, vi a, vi b] m n t := by
  obtain ⟨c0, c1, c2, c3, c4, c5⟩ := sim_cnt hS
  have hW := hS.1.2
  have w3 := hW.1.2.2.2.1
  have bad : (a < 0 ∨ m 3 0 3 ≤ a) ∨ (b < 1 ∨ 99 < b) → ∃ x, InR x ∧ some (vi (-1)) = some (vi x) ∧ CM Γ (d + 7) 148 [vr 25 0, vi a, vi b] m n (fun r2 m2 _ => r2 = some (vi x) ∧ Sim (t + 1) m2 m2) := by
    intro q
    refine ⟨-1, ir (by omega) (by omega), rfl, e148 (b148_0 (r_isStory ha (by omega) (by omega) (fun q1 q2 => ?_) (fun _ => ?_)))⟩
    · refine b148_5 (by omega) (fun h => absurd h (by omega)) (fun _ => b148_8 (r_in hb i1 (ir (by omega) (by omega)) (fun q3 q4 => by omega) (fun _ => ?_)))
      exact b148_15 (by omega) (fun h => absurd rfl h) (fun _ => b148_18 ⟨rfl, hS.next⟩)
    · exact b148_5 (by omega) (fun _ => b148_18 ⟨rfl, hS.next⟩) (fun h => absurd rfl h)
  refine e79 (b79_0 (c_isStory ha c0 c1 (fun q1 q2 => ?_) (fun q => ?_)))
  · refine b79_5 (by omega) (fun h => absurd h (by omega)) (fun _ => b79_8 (c_isRank hb (fun q3 q4 => ?_) (fun q => ?_)))
    · have hR := (hS.1.1.2 a q1 q2).1
      have s2 : m 26 0 (4 + 13 * a + 2) = m 8 0 a := hR.2.2.1
      have a01 : m 8 0 a = 0 ∨ m 8 0 a = 1 := (hW.2.1 a q1 q2).2.2.2.1
      -- the reference, up to the question
      have rpre : ∀ (mm : MI) (nn : ML) (x : Int), (∀ k, 25 ≤ k → mm k = m k) → (m 8 0 a = 0 → x = -2 ∧ Sim (t + 1) mm mm) → (m 8 0 a ≠ 0 → AM Γ (d + 7) 148 32 [some (vr 25 0), some (vi a), some (vi b), none] [] mm nn (fun r2 m2 _ => r2 = some (vi x) ∧ Sim (t + 1) m2 m2)) → CM Γ (d + 7) 148 [vr 25 0, vi a, vi b] mm nn (fun r2 m2 _ => r2 = some (vi x) ∧ Sim (t + 1) m2 m2) := by
        intro mm nn x fk k0 k1
        have e26 := fk 26 (by omega)
        refine e148 (b148_0 (r_isStory ha (by rw [e26]; omega) (by rw [e26]; omega) (fun _ _ => ?_) (fun z => by rw [e26] at z; omega)))
        refine b148_5 (by omega) (fun h => absurd h (by omega)) (fun _ => b148_8 (r_in hb i1 (ir (by omega) (by omega)) (fun _ _ => ?_) (fun z => by omega)))
        refine b148_15 (by omega) (fun _ => b148_20 (r_of ⟨q1, by omega⟩ (by omega) ?_)) (fun h => absurd h (by omega))
        rw [e26, s2]
        refine b148_26 (by omega) (fun u => k1 u) (fun u => b148_29 ⟨?_, (k0 u).2⟩)
        rw [(k0 u).1]
      refine b79_12 (by omega) (fun _ => b79_17 ⟨q1, by omega⟩ (by omega) (fun a8 => ?_) (fun a8 => b79_29 ⟨-2, ir (by omega) (by omega), rfl, rpre m n (-2) (fun _ _ => rfl) (fun _ => ⟨rfl, hS.next⟩) (fun u => absurd a8 u)⟩)) (fun h => absurd h (by omega))
      refine b79_32 (c_papCopy (by omega) (fun m1 o1 q5 => b79_43 ⟨q1, by omega⟩ ?_))
      have hV0 : VEq (Vw m1 1) (Vw m 0) := fun k k1 k2 j j1 j2 => q5 k k1 k2 j j1 j2
      have W1 : PWf (Vw m1 1) t := hW.congr hV0
      have e33 : Vw m1 1 3 3 = m 3 0 3 := q5 3 (by omega) (by omega) 3 (by omega) (by decide)
      have e8 : Vw m1 1 8 a = m 8 0 a := q5 8 (by omega) (by omega) a q1 (by show a < 12; omega)
      generalize hm2 : up m1 4 1 a b = m2
      have u4 : ∀ i, m2 4 1 i = if i = a then b else m1 4 1 i := fun i => by rw [← hm2]; simp [up_rd]
      have uo : ∀ k r, ¬ (k = 4 ∧ r = 1) → m2 k r = m1 k r := fun k r z => by rw [← hm2, up_ne z]
      clear hm2
      have hx : 0 ≤ a ∧ a < Vw m1 1 3 3 := ⟨q1, by omega⟩
      have z3 : Vw m2 1 3 = Vw m1 1 3 := uo 3 1 (by omega)
      have ze : ∀ k, 10 ≤ k → Vw m2 1 k = Vw m1 1 k := fun k k1 => uo k 1 (by omega)
      have zo : ∀ k i, 4 ≤ k → k ≤ 9 → k ≠ 7 → i ≠ a → Vw m2 1 k i = Vw m1 1 k i := fun k i k1 k2 k3 k4 => by
        dsimp only [Vw]
        by_cases q : k = 4
        · subst q; rw [u4, if_neg k4]
        · rw [uo k 1 (by omega)]
      have z7 : ∀ z, ¬ (a * 8 ≤ z ∧ z < a * 8 + 8) → Vw m2 1 7 z = Vw m1 1 7 z := fun z _ => by dsimp only [Vw]; rw [uo 7 1 (by omega)]
      have W2 : PWf (Vw m2 1) t := by
        refine W1.story hx z3 ze zo z7 ?_
        have s := W1.2.1 a hx.1 hx.2
        unfold SWf at s ⊢
        dsimp only [Vw] at s ⊢
        rw [u4, if_pos rfl, uo 3 1 (by omega), uo 5 1 (by omega), uo 6 1 (by omega), uo 7 1 (by omega), uo 8 1 (by omega), uo 9 1 (by omega), uo 10 1 (by omega), uo 11 1 (by omega)]
        exact ⟨⟨q3, q4⟩, s.2⟩
      refine c_plan (p := 1) (V := Vw m2 1) (by omega) (fun k _ _ => rfl) W2 (fun m3 n3 f3 ed => b79_68 ⟨q1, by omega⟩ ?_)
      have fk : ∀ k, 25 ≤ k → m3 k = m k := fun k k1 => by
        funext r
        rw [f3 k r (by omega) (by omega) (by omega), uo k r (by omega), o1 k r (by omega)]
      have a8' : Vw m2 1 8 a ≠ 0 := by
        show m2 8 1 a ≠ 0
        rw [uo 8 1 (by omega)]
        have : m1 8 1 a = m 8 0 a := e8
        omega
      have a3' : a < Vw m2 1 3 3 := by rw [z3]; exact hx.2
      have lb := (rs_gd W2 ⟨q1, a3'⟩).1
      have el : m3 11 8 a = ((rsL (Vw m2 1) a).length : Int) := (ed.2.1 a q1 a3' a8').1.1
      rw [el]
      refine ⟨_, ir (by omega) (by omega), rfl, rpre m3 n3 _ fk (fun u => absurd u a8) (fun _ => b148_32 (r_keeps (fun m4 k1 k2 => b148_36 (r_puts ⟨q1, by omega⟩ (by omega) (b148_43 ?_)))))⟩
      generalize hm5 : up m4 26 0 (4 + 13 * a + 0) b = m5
      have v26 : ∀ j, m5 26 0 j = if j = 4 + 13 * a then b else m 26 0 j := fun j => by
        rw [← hm5, up26, k1 26 (by omega), fk 26 (by omega)]
        by_cases q : j = 4 + 13 * a
        · rw [if_pos (by omega), if_pos q]
        · rw [if_neg (by omega), if_neg q]
      have vk : ∀ k, k ≠ 26 → m5 k = m4 k := fun k z => by rw [← hm5, up_k z]
      clear hm5
      have P0 : PRel (Vw m1 1) (m 26 0) := hS.1.1.congr hV0 (fun _ _ _ => rfl) hW
      have P2 : PRel (Vw m2 1) (m5 26 0) := by
        refine P0.story W1 hx z3 ze zo z7 (fun j z => by rw [v26, if_neg (by omega)]) ?_
        have s := (P0.2 a hx.1 hx.2).1
        unfold SRel at s ⊢
        dsimp only [Vw] at s ⊢
        rw [u4, if_pos rfl, uo 5 1 (by omega), uo 6 1 (by omega), uo 7 1 (by omega), uo 8 1 (by omega), uo 9 1 (by omega), uo 11 1 (by omega)]
        rw [v26, if_pos rfl, v26, if_neg (by omega), v26, if_neg (by omega), v26, if_neg (by omega), v26, if_neg (by omega)]
        refine ⟨rfl, s.2.1, s.2.2.1, s.2.2.2.1, s.2.2.2.2.1, fun j j0 j1 => ?_⟩
        rw [v26, if_neg (by omega)]
        exact s.2.2.2.2.2 j j0 j1
      refine r_makes P2 W2 ht (fun m6 g1 g2 g3 => b148_47 (r_restores (fun m7 r1 r2 => ?_)))
      have hh := heldN_bd (V := Vw m2 1) W2.1.2.2.2.1
      have rl := (ed_len ed g2 q1 a3' a8').2
      refine b148_52 (by omega) (fun _ => b148_60 (by omega) (b148_69 ⟨?_, ?_⟩)) (fun u => absurd u (by omega))
      · rw [r1 32 (by omega), rl]
      · refine (Sim.frame2 (m := m) (fun k p kk kz => ?_) (fun k ka kb kc => ?_) (fun j j0 j1 => ?_) hS).next
        · rw [r1 k (by omega), g1 k (by omega) (by omega), vk k (by omega), k1 k (by omega), f3 k p (by omega) (by omega) (by omega), uo k p (by omega), o1 k p (by omega)]
        · rw [r1 k kc, g1 k (by omega) (by omega), vk k kc, k1 k (by omega), fk k ka]
        · rw [r2 j j0 j1, g1 29 (by omega) (by omega), vk 29 (by omega), k2 j j0 j1, fk 26 (by omega)]
    · exact b79_12 (by omega) (fun h => absurd rfl h) (fun _ => b79_15 (bad (Or.inr q)))
  · exact b79_5 (by omega) (fun _ => b79_15 (bad (Or.inl q))) (fun h => absurd rfl h)
