-- PAIRS OF CALLS: edition, pieces, piece, at, wasMoved
theorem mul_bd {a b A B : Int} (h1 : 0 ≤ a) (h2 : a ≤ A) (h3 : 0 ≤ b) (h4 : b ≤ B) : 0 ≤ a * b ∧ a * b ≤ A * B :=
  ⟨Int.mul_nonneg h1 h3, Int.mul_le_mul h2 h4 h3 (by omega)⟩
/-- what the relation says of a printed story -/
theorem pr_sim {t : Int} {m : MI} (hS : Sim t m m) {i : Int} (h1 : 0 ≤ i) (h2 : i < m 3 0 3) : m 26 0 (164 + 20 * i) = (if m 11 0 i = -1 then -9 else m 11 0 i) ∧ m 26 0 (164 + 20 * i + 1) = m 12 0 i ∧ (-1 ≤ m 11 0 i ∧ m 11 0 i ≤ 3) ∧ (m 12 0 i = 0 ∨ m 12 0 i = 1) := by
  have c := sim_cnt hS
  have a := (hS.1.1.2 i h1 h2).2
  have b := hS.1.2.2.2 i h1 (by omega)
  exact ⟨a.1, a.2.1, b.1, b.2.1⟩
theorem pcok {t : Int} {m : MI} (hS : Sim t m m) : PcOK m 0 := fun i h1 h2 => (hS.1.2.2.2 i h1 h2).1
theorem tl_sim {t : Int} {m : MI} (hS : Sim t m m) {i : Int} (h1 : m 3 0 3 ≤ i) (h2 : i < 12) : m 11 0 i = -1 ∧ m 12 0 i = 0 := by
  have c := sim_cnt hS
  exact (hS.1.2.2.2 i (by omega) h2).2.2.2.1 h1
theorem sum0 {t : Int} {m : MI} (hS : Sim t m m) : Sm (rsF (m 26 0) 0) 0 (m 26 0 3) = prN (m 11 0) 12 := by
  have c := sim_cnt hS
  unfold prN
  rw [Sm_tail (b := m 3 0 3) c.1 c.2.1 (fun j h1 h2 => by rw [(tl_sim hS h1 h2).1]; rfl), c.2.2.1]
  refine Sm_congr (fun j h1 h2 => ?_)
  obtain ⟨a, b, e, f⟩ := pr_sim hS h1 h2
  unfold rsF
  rw [if_pos rfl, a]
  (repeat' split) <;> omega
theorem sum1 {t : Int} {m : MI} (hS : Sim t m m) : Sm (rsF (m 26 0) 1) 0 (m 26 0 3) = hoN (m 11 0) 12 := by
  have c := sim_cnt hS
  unfold hoN
  rw [Sm_tail (b := m 3 0 3) c.1 c.2.1 (fun j h1 h2 => by rw [(tl_sim hS h1 h2).1]; rfl), c.2.2.1]
  refine Sm_congr (fun j h1 h2 => ?_)
  obtain ⟨a, b, e, f⟩ := pr_sim hS h1 h2
  unfold rsF
  rw [if_neg (by omega), if_pos rfl, a]
  (repeat' split) <;> omega
theorem sum2 {t : Int} {m : MI} (hS : Sim t m m) : Sm (rsF (m 26 0) 2) 0 (m 26 0 3) = alN (m 12 0) 12 := by
  have c := sim_cnt hS
  unfold alN
  rw [Sm_tail (b := m 3 0 3) c.1 c.2.1 (fun j h1 h2 => by rw [(tl_sim hS h1 h2).2]; rfl), c.2.2.1]
  refine Sm_congr (fun j h1 h2 => ?_)
  obtain ⟨a, b, e, f⟩ := pr_sim hS h1 h2
  unfold rsF
  rw [if_neg (by omega), if_neg (by omega), if_pos rfl, b]
  (repeat' split) <;> omega
theorem sum3 {t : Int} {m : MI} (hS : Sim t m m) : Sm (rsF (m 26 0) 3) 0 (m 26 0 3) = pcN (m 11 0) 12 := by
  have c := sim_cnt hS
  unfold pcN
  rw [Sm_tail (b := m 3 0 3) c.1 c.2.1 (fun j h1 h2 => by rw [(tl_sim hS h1 h2).1]; rfl), c.2.2.1]
  refine Sm_congr (fun j h1 h2 => ?_)
  obtain ⟨a, b, e, f⟩ := pr_sim hS h1 h2
  unfold rsF
  rw [if_neg (by omega), if_neg (by omega), if_neg (by omega), if_pos rfl, a]
  (repeat' split) <;> omega
theorem sum4 {t : Int} {m : MI} (hS : Sim t m m) : Sm (rsF (m 26 0) 4) 0 (m 26 0 3) = szN (m 11 0) (m 16 0) 12 := by
  have c := sim_cnt hS
  unfold szN
  rw [Sm_tail (b := m 3 0 3) c.1 c.2.1 (fun j h1 h2 => by rw [(tl_sim hS h1 h2).1]; exact Sm_nil (by omega)), c.2.2.1]
  refine Sm_congr (fun j h1 h2 => ?_)
  obtain ⟨a, b, e, f⟩ := pr_sim hS h1 h2
  unfold rsF
  rw [if_neg (by omega), if_neg (by omega), if_neg (by omega), if_neg (by omega), a]
  by_cases hz : m 11 0 j = -1
  · rw [if_pos hz, hz, Sm_nil (by omega), Sm_nil (by omega)]
  · rw [if_neg hz]
    exact Sm_congr (fun k k1 k2 => ((hS.1.1.2 j h1 h2).2.2.2 k k1 k2).2.2.2.1)
theorem szN_bd {t : Int} {m : MI} (hS : Sim t m m) (hn : 0 < m 10 0 0) : 0 ≤ szN (m 11 0) (m 16 0) 12 ∧ szN (m 11 0) (m 16 0) 12 ≤ 180 * 12 := by
  unfold szN
  have hW := hS.1.2.1.2.2.2.2.2 hn
  dsimp only [Vw] at hW
  have := Sm_bd (f := fun i => Sm (fun k => m 16 0 (i * 3 + k)) 0 (m 11 0 i)) (a := 0) (b := 12) (c := 180) (by omega) (fun i h1 h2 => by
    have e := (hS.1.2.2.2 i h1 h2).1
    dsimp only [Vw] at e
    by_cases hz : 0 ≤ m 11 0 i
    · have := Sm_bd (f := fun k => m 16 0 (i * 3 + k)) (a := 0) (b := m 11 0 i) (c := 60) hz (fun k k1 k2 => by
        have := (hS.1.2.2.2 i h1 h2).2.2.2.2 k k1 k2
        dsimp only [Vw] at this
        omega)
      omega
    · rw [Sm_nil (by omega)]; omega)
  omega
set_option maxHeartbeats 4000000 in
theorem op_edition {Γ : GG} {d : Nat} {m : MI} {n : ML} {t a : Int} (hS : Sim t m m) (ht : t ≤ 1000) (ha : InR a) : Both Γ (d + 5) 72 139 [vr 1 0, vi a] [vr 25 0, vi a] m n t := by
  obtain ⟨c0, c1, c2, c3, c4, c5⟩ := sim_cnt hS
  have hP := hS.1.1.1
  have hW := hS.1.2.1
  unfold HWf at hW
  dsimp only [Vw] at hP hW
  have hpr : ∀ i, 0 ≤ i → i < m 26 0 3 → -9 ≤ m 26 0 (164 + 20 * i) ∧ m 26 0 (164 + 20 * i) ≤ 3 := fun i h1 h2 => by
    obtain ⟨e1, -, e3, -⟩ := pr_sim hS h1 (by omega)
    rw [e1]; split <;> omega
  have hpc := pcok hS
  refine e72 (b72_0 (c_isWithin ha i0 (ir (by omega) (by omega)) (fun q1 q2 => ?_) (fun q => ?_)))
  · refine b72_6 (by omega) (fun _ => b72_11 (c_hasEdition (ir (by omega) (by omega)) (fun g => ?_) (fun g => ?_))) (fun h => absurd h (by omega))
    · have go : ∀ (x : Int), AM Γ (d + 5) 139 25 [some (vr 25 0), some (vi a)] [] m n (fun r2 m2 _ => r2 = some (vi x) ∧ Sim (t + 1) m2 m2) → CM Γ (d + 5) 139 [vr 25 0, vi a] m n (fun r2 m2 _ => r2 = some (vi x) ∧ Sim (t + 1) m2 m2) := by
        intro x h
        refine e139 (b139_0 (r_in ha i0 (ir (by omega) (by omega)) (fun _ _ => ?_) (fun _ => by omega)))
        exact b139_6 (by omega) (fun _ => b139_11 (by omega) (fun _ => h) (fun z => by omega)) (fun h => absurd h (by omega))
      refine b72_15 (by omega) (fun _ => b72_21 ha (fun h => ?_) (fun h => ?_) (fun h => ?_) (fun h => ?_) (fun h => ?_) (fun h => ?_)) (fun h => absurd h (by omega))
      · -- 5: the free lines
        have e5 : a = 5 := by omega
        have b1 := szN_bd hS g
        have b2 := hW.2.2.2.2.2 g
        have b3 := mul_bd (a := m 10 0 1) (b := m 10 0 2) (A := 5) (B := 4) (by omega) (by omega) (by omega) (by omega)
        have b4 := mul_bd (a := m 10 0 1 * m 10 0 2) (b := m 10 0 3) (A := 20) (B := 60) (by omega) (by omega) (by omega) (by omega)
        refine b72_111 (c_freeLines hpc (b72_121 ⟨_, ir (by omega) (by omega), rfl, go _ ?_⟩))
        refine b139_25 ha (fun _ => b139_38 ha (fun _ => b139_59 (r_sum (by omega) (by omega) (by omega) hpr (b139_90 (b139_91 ⟨?_, hS.next⟩)))) (fun z => by omega)) (fun z => by omega)
        obtain ⟨f1, f2, f3⟩ := hP.2.2.2.2.2 g
        rw [sum4 hS, f1, f2, f3]
      · have b := Sm_bd (f := fun i => if 0 < m 11 0 i then 1 else 0) (a := 0) (b := 12) (c := 1) (by omega) (fun j _ _ => by split <;> omega)
        refine b72_56 (c_printedStories hpc (b72_66 ⟨_, by unfold prN; exact ir (by omega) (by omega), rfl, go _ ?_⟩))
        subst h
        exact b139_25 ha (fun z => by omega) (fun _ => b139_30 (r_sum (by omega) (by omega) (by omega) hpr (b139_35 (b139_91 ⟨by rw [sum0 hS], hS.next⟩))))
      · have b := Sm_bd (f := fun i => if m 11 0 i = 0 then 1 else 0) (a := 0) (b := 12) (c := 1) (by omega) (fun j _ _ => by split <;> omega)
        refine b72_67 (c_heldOver hpc (b72_77 ⟨_, by unfold hoN; exact ir (by omega) (by omega), rfl, go _ ?_⟩))
        subst h
        exact b139_25 ha (fun z => by omega) (fun _ => b139_30 (r_sum (by omega) (by omega) (by omega) hpr (b139_35 (b139_91 ⟨by rw [sum1 hS], hS.next⟩))))
      · have b := alN_bd (al := m 12 0) (c := 12) (by omega)
        refine b72_78 (c_movedStories (b72_88 ⟨_, ir (by omega) (by omega), rfl, go _ ?_⟩))
        subst h
        exact b139_25 ha (fun z => by omega) (fun _ => b139_30 (r_sum (by omega) (by omega) (by omega) hpr (b139_35 (b139_91 ⟨by rw [sum2 hS], hS.next⟩))))
      · have b := Sm_bd (f := fun i => if 0 < m 11 0 i then m 11 0 i else 0) (a := 0) (b := 12) (c := 3) (by omega) (fun j j1 j2 => by have := hpc j j1 j2; split <;> omega)
        refine b72_89 (c_allPieces hpc (b72_99 ⟨_, by unfold pcN; exact ir (by omega) (by omega), rfl, go _ ?_⟩))
        subst h
        exact b139_25 ha (fun z => by omega) (fun _ => b139_30 (r_sum (by omega) (by omega) (by omega) hpr (b139_35 (b139_91 ⟨by rw [sum3 hS], hS.next⟩))))
      · have b := Sm_bd (f := fun i => if 0 < m 11 0 i then m 11 0 i else 0) (a := 0) (b := 12) (c := 3) (by omega) (fun j j1 j2 => by have := hpc j j1 j2; split <;> omega)
        have b' := Sm_bd (f := fun i => if 0 < m 11 0 i then 1 else 0) (a := 0) (b := 12) (c := 1) (by omega) (fun j _ _ => by split <;> omega)
        refine b72_100 (c_jumpLines hpc (b72_110 ⟨_, by unfold pcN prN; exact ir (by omega) (by omega), rfl, go _ ?_⟩))
        subst h
        refine b139_25 ha (fun _ => b139_38 ha (fun z => absurd rfl z) (fun _ => b139_43 (r_sum (by omega) (by omega) (by omega) hpr (b139_49 (r_sum (by omega) (by omega) (by omega) hpr (b139_54 (b139_91 ⟨?_, hS.next⟩))))))) (fun z => by omega)
        rw [sum3 hS, sum0 hS]
    · refine b72_15 (by omega) (fun h => absurd rfl h) (fun _ => b72_18 ⟨-2, ir (by omega) (by omega), rfl, ?_⟩)
      refine e139 (b139_0 (r_in ha i0 (ir (by omega) (by omega)) (fun _ _ => ?_) (fun _ => by omega)))
      exact b139_6 (by omega) (fun _ => b139_11 (by omega) (fun z => by omega) (fun _ => b139_22 ⟨rfl, hS.next⟩)) (fun h => absurd h (by omega))
  · refine b72_6 (by omega) (fun h => absurd rfl h) (fun _ => b72_9 ⟨-1, ir (by omega) (by omega), rfl, ?_⟩)
    refine e139 (b139_0 (r_in ha i0 (ir (by omega) (by omega)) (fun _ _ => by omega) (fun _ => ?_)))
    exact b139_6 (by omega) (fun h => absurd rfl h) (fun _ => b139_9 ⟨rfl, hS.next⟩)
set_option maxHeartbeats 4000000 in
theorem op_pieces {Γ : GG} {d : Nat} {m : MI} {n : ML} {t a : Int} (hS : Sim t m m) (ht : t ≤ 1000) (ha : InR a) : Both Γ (d + 5) 73 140 [vr 1 0, vi a] [vr 25 0, vi a] m n t := by
  obtain ⟨c0, c1, c2, c3, c4, c5⟩ := sim_cnt hS
  have hP := hS.1.1.1
  have hW := hS.1.2.1
  unfold HWf at hW
  dsimp only [Vw] at hP hW
  refine e73 (b73_0 (c_isStory ha c0 c1 (fun q1 q2 => ?_) (fun q => ?_)))
  · obtain ⟨e1, e2, e3, e4⟩ := pr_sim hS q1 q2
    have go : ∀ (x : Int), AM Γ (d + 5) 140 12 [some (vr 25 0), some (vi a)] [] m n (fun r2 m2 _ => r2 = some (vi x) ∧ Sim (t + 1) m2 m2) → CM Γ (d + 5) 140 [vr 25 0, vi a] m n (fun r2 m2 _ => r2 = some (vi x) ∧ Sim (t + 1) m2 m2) := by
      intro x h
      refine e140 (b140_0 (r_isStory ha (by omega) (by omega) (fun _ _ => ?_) (fun _ => by omega)))
      exact b140_5 (by omega) (fun _ => h) (fun h => absurd h (by omega))
    refine b73_5 (by omega) (fun _ => b73_10 (c_hasEdition (ir (by omega) (by omega)) (fun g => ?_) (fun g => ?_))) (fun h => absurd h (by omega))
    · refine b73_14 (by omega) (fun _ => b73_20 (by omega) (by omega) (fun h => b73_43 (b73_44 ?_)) (fun h => b73_38 (b73_44 ?_))) (fun h => absurd h (by omega))
      · refine ⟨_, ir (by omega) (by omega), rfl, go _ (b140_12 (by omega) (fun _ => b140_28 (r_printed (by omega) (by omega) (b140_34 ⟨?_, hS.next⟩))) (fun z => by omega))⟩
        rw [Int.add_zero, e1, if_neg h]
      · refine ⟨_, ir (by omega) (by omega), rfl, go _ (b140_12 (by omega) (fun _ => b140_28 (r_printed (by omega) (by omega) (b140_34 ⟨?_, hS.next⟩))) (fun z => by omega))⟩
        rw [Int.add_zero, e1, if_pos h]
    · exact b73_14 (by omega) (fun h => absurd rfl h) (fun _ => b73_17 ⟨-2, ir (by omega) (by omega), rfl, go _ (b140_12 (by omega) (fun z => by omega) (fun _ => b140_23 (b140_34 ⟨rfl, hS.next⟩)))⟩)
  · refine b73_5 (by omega) (fun h => absurd rfl h) (fun _ => b73_8 ⟨-1, ir (by omega) (by omega), rfl, ?_⟩)
    refine e140 (b140_0 (r_isStory ha (by omega) (by omega) (fun _ _ => by omega) (fun _ => ?_)))
    exact b140_5 (by omega) (fun h => absurd rfl h) (fun _ => b140_8 (b140_34 ⟨rfl, hS.next⟩))
set_option maxHeartbeats 4000000 in
theorem op_wasMoved {Γ : GG} {d : Nat} {m : MI} {n : ML} {t a : Int} (hS : Sim t m m) (ht : t ≤ 1000) (ha : InR a) : Both Γ (d + 5) 77 145 [vr 1 0, vi a] [vr 25 0, vi a] m n t := by
  obtain ⟨c0, c1, c2, c3, c4, c5⟩ := sim_cnt hS
  have hP := hS.1.1.1
  have hW := hS.1.2.1
  unfold HWf at hW
  dsimp only [Vw] at hP hW
  refine e77 (b77_0 (c_isStory ha c0 c1 (fun q1 q2 => ?_) (fun q => ?_)))
  · obtain ⟨e1, e2, e3, e4⟩ := pr_sim hS q1 q2
    have go : ∀ (x : Int), AM Γ (d + 5) 145 10 [some (vr 25 0), some (vi a)] [] m n (fun r2 m2 _ => r2 = some (vi x) ∧ Sim (t + 1) m2 m2) → CM Γ (d + 5) 145 [vr 25 0, vi a] m n (fun r2 m2 _ => r2 = some (vi x) ∧ Sim (t + 1) m2 m2) := by
      intro x h
      refine e145 (b145_0 (r_isStory ha (by omega) (by omega) (fun _ _ => ?_) (fun _ => by omega)))
      exact b145_5 (by omega) (fun _ => h) (fun h => absurd h (by omega))
    have pc : ∀ x, 0 < m 10 0 0 → AM Γ (d + 5) 145 32 [some (vr 25 0), some (vi a)] [vi (if m 11 0 a = -1 then -9 else m 11 0 a)] m n (fun r2 m2 _ => r2 = some (vi x) ∧ Sim (t + 1) m2 m2) → AM Γ (d + 5) 145 10 [some (vr 25 0), some (vi a)] [] m n (fun r2 m2 _ => r2 = some (vi x) ∧ Sim (t + 1) m2 m2) := by
      intro x g h
      refine b145_10 (by omega) (fun _ => b145_26 (r_printed (by omega) (by omega) ?_)) (fun z => by omega)
      rw [Int.add_zero, e1]
      exact h
    refine b77_5 (by omega) (fun _ => b77_10 (c_hasEdition (ir (by omega) (by omega)) (fun g => ?_) (fun g => ?_))) (fun h => absurd h (by omega))
    · refine b77_14 (by omega) (fun _ => b77_20 (c_isPrinted (by omega) (ir (by omega) (by omega)) (fun f => ?_) (fun f => ?_))) (fun h => absurd h (by omega))
      · have k1 : (if m 11 0 a = -1 then -9 else m 11 0 a) = m 11 0 a := if_neg (by omega)
        refine b77_31 (by omega) (fun _ => b77_37 (by omega) (by omega) (fun h => b77_56 (b77_57 ?_)) (fun h => b77_52 (b77_57 ?_))) (fun h => absurd h (by omega))
        · refine ⟨0, i0, rfl, go _ (pc _ g ?_)⟩
          rw [k1]
          exact b145_32 (by omega) (fun z => absurd f z) (fun _ => b145_35 (r_printed (by omega) (by omega) (b145_41 (b145_46 ⟨by rw [e2, h], hS.next⟩))))
        · refine ⟨1, i1, rfl, go _ (pc _ g ?_)⟩
          rw [k1]
          exact b145_32 (by omega) (fun z => absurd f z) (fun _ => b145_35 (r_printed (by omega) (by omega) (b145_41 (b145_46 ⟨by rw [e2]; congr 2; omega, hS.next⟩))))
      · refine b77_31 (by omega) (fun h => absurd rfl h) (fun _ => b77_34 ⟨-9, ir (by omega) (by omega), rfl, go _ (pc _ g ?_)⟩)
        exact b145_32 (by split <;> omega) (fun _ => b145_44 (b145_46 ⟨rfl, hS.next⟩)) (fun z => absurd z (by split <;> omega))
    · exact b77_14 (by omega) (fun h => absurd rfl h) (fun _ => b77_17 ⟨-2, ir (by omega) (by omega), rfl, go _ (b145_10 (by omega) (fun z => by omega) (fun _ => b145_21 (b145_46 ⟨rfl, hS.next⟩)))⟩)
  · refine b77_5 (by omega) (fun h => absurd rfl h) (fun _ => b77_8 ⟨-1, ir (by omega) (by omega), rfl, ?_⟩)
    refine e145 (b145_0 (r_isStory ha (by omega) (by omega) (fun _ _ => by omega) (fun _ => ?_)))
    exact b145_5 (by omega) (fun h => absurd rfl h) (fun _ => b145_8 ⟨rfl, hS.next⟩)
