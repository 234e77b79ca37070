-- the pair of calls: load
theorem Sim.frame3 {t : Int} {m m' : MI} (h1 : ∀ k p, k ≤ 18 → (k < 3 ∨ (p ≠ 8 ∧ p ≠ 1)) → m' k p = m k p) (h25 : m' 25 0 2 = m 25 0 2) (h27 : m' 27 0 = m 27 0) (h26 : ∀ j, 0 ≤ j → j < 404 → m' 26 0 j = m 26 0 j) (hX : Txt m' m') (hS : Sim t m m) : Sim t m' m' := by
  obtain ⟨⟨p1, p2⟩, ⟨s1, s2, s3, s4⟩, _⟩ := hS
  have a1 : m' 1 0 = m 1 0 := h1 1 0 (by omega) (by omega)
  have a2 : m' 2 0 = m 2 0 := h1 2 0 (by omega) (by omega)
  have hV : ∀ p, p ≠ 8 → p ≠ 1 → VEq (Vw m' p) (Vw m p) := fun p q1 q2 k k1 k2 j _ _ => by
    show m' k p j = m k p j
    rw [h1 k p k2 (by omega)]
  refine ⟨⟨p1.congr (hV 0 (by omega) (by omega)) h26 p2, p2.congr (hV 0 (by omega) (by omega))⟩, ⟨?_, ?_, ?_, fun i q1 q2 => ?_⟩, hX⟩
  · rw [a1]; exact s1
  · rw [a1, h25]; exact s2
  · unfold SvOK
    rw [a2]
    exact s3
  · rw [a1] at q2
    have hsv := s3.1 i q1 (by omega)
    obtain ⟨g1, g2⟩ := s4 i q1 q2
    rw [a2]
    exact ⟨g1.congr (hV _ (by omega) (by omega)) (fun _ _ _ => by rw [h27]) g2, g2.congr (hV _ (by omega) (by omega))⟩
/-- the reference's load up to its reading -/
theorem r_loadPre {Γ : GG} {d : Nat} {mm : MI} {n : ML} {post : PO} (K : ∀ m', (∀ k, k ≠ 25 → k ≠ 30 → m' k = mm k) → (∀ f, f ≠ 6 → m' 25 0 f = mm 25 0 f) → m' 25 0 6 = 0 → (∀ j, 0 ≤ j → j < 404 → m' 30 0 j = mm 26 0 j) → AM Γ d 124 34 [some (vr 25 0), some (vi 1), none] [] m' n post) : CM Γ d 124 [vr 25 0] mm n post := by
  refine e124 (b124_0 ?_)
  have key := up_ind (P := fun y => ∀ m', (∀ k, k ≠ 30 → m' k = mm k) → (∀ j, 0 ≤ j → j < y → m' 30 0 j = mm 26 0 j) → AM Γ d 124 2 [some (vr 25 0), some (vi y), none] [] m' n post) 0 404 (by omega) ?_ ?_
  · exact key mm (fun _ _ => rfl) (fun j j0 j1 => by omega)
  · intro m' h1 h2
    refine b124_2 (by omega) (fun _ => b124_27 (K _ (fun k k1 k2 => by rw [up_k k1, h1 k k2]) (fun f f1 => by rw [up25, if_neg f1, h1 25 (by omega)]) (by rw [up25, if_pos rfl]) (fun j j0 j1 => by rw [up_k (by omega), h2 j j0 j1]))) (fun z => absurd z (by omega))
  · intro y y0 y1 ih m' h1 h2
    refine b124_2 (by omega) (fun z => absurd y1 z) (fun _ => b124_9 (by omega) (by omega) (ih _ (fun k k1 => by rw [up_k k1, h1 k k1]) (fun j j0 j1 => ?_)))
    rw [up_rd]
    by_cases q : j = y
    · rw [if_pos ⟨rfl, rfl, q⟩, h1 26 (by omega), q]
    · rw [if_neg (fun u => q u.2.2), h2 j j0 (by omega)]
set_option maxHeartbeats 4000000 in
theorem op_load {Γ : GG} {d : Nat} {m : MI} {n : ML} {t : Int} (hS : Sim t m m) : Both Γ (d + 7) 70 124 [vr 1 0] [vr 25 0] m n t := by
  obtain ⟨c0, c1, c2, c3, c4, c5⟩ := sim_cnt hS
  have hW := hS.1.2
  have w3 := hW.1.2.2.2.1
  have hX := hS.2.2
  obtain ⟨x1, x2, x3⟩ := hX
  -- the text
  obtain ⟨C, hCd⟩ : ∃ C : Int → Int, C = m 20 0 := ⟨_, rfl⟩
  obtain ⟨N, hNd⟩ : ∃ N : Int, N = m 19 0 0 := ⟨_, rfl⟩
  rw [← hNd] at x1 x2 x3
  rw [← hCd] at x3
  have hC : ∀ i, 0 ≤ i → i < N → 0 ≤ C i ∧ C i ≤ 255 := fun i i0 i1 => (x3 i i0 i1).1
  have TR0 : TxR C N m := ⟨x2, fun i i0 i1 => (x3 i i0 i1).2⟩
  refine e70 (b70_0 (c_papCopy (by omega) (fun m1 o1 q1 => b70_11 (e47 (b47_0 ?_)))))
  generalize hm2 : up (up m1 19 0 2 0) 19 0 3 (-1) = m2
  have k2 : ∀ k, k ≠ 19 → m2 k = m1 k := fun k z => by rw [← hm2, up_k z, up_k z]
  have n2 : m2 19 0 0 = N := by rw [← hm2, up19, if_neg (by omega), up19, if_neg (by omega), o1 19 0 (by omega), hNd]
  have p2 : m2 19 0 2 = 0 := by rw [← hm2, up19, if_neg (by omega), up19, if_pos rfl]
  have w2 : m2 19 0 3 = -1 := by rw [← hm2, up19, if_pos rfl]
  clear hm2
  have T2 : TxC C N m2 := ⟨x1, n2, fun i i0 i1 => ⟨by rw [k2 20 (by omega), o1 20 0 (by omega), ← hCd], hC i i0 i1⟩⟩
  refine c_skipSpaces T2 p2 ⟨by omega, x1.1⟩ (fun q m3 sk f3 p3 w3' => b47_14 ?_)
  have kb := sk.1
  have kc := sk.2.1
  have k3 : ∀ k, k ≠ 19 → m3 k = m1 k := fun k z => by rw [f3.1 k z, k2 k z]
  have T3 := f3.tx T2
  have hV0 : VEq (Vw m3 1) (Vw m 0) := fun k k1 k2 j j1 j2 => by
    show m3 k 1 j = m k 0 j
    rw [k3 k (by omega)]
    exact q1 k k1 k2 j j1 j2
  have W3 : PWf (Vw m3 1) t := hW.congr hV0
  have cnt3 : m3 3 1 3 = m 3 0 3 := hV0 3 (by omega) (by omega) 3 (by omega) (by decide)
  -- what the class has changed
  have frC : ∀ m', FrS m3 m' → (∀ k r, ¬ (r = 1 ∧ 3 ≤ k ∧ k ≤ 18) → k ≠ 19 → m' k r = m k r) ∧ m' 19 0 0 = N := fun m' f => by
    refine ⟨fun k r z1 z2 => ?_, by rw [f.2]; exact T3.2.1⟩
    rw [f.1 k r (by omega) z2, k3 k z2, o1 k r (by omega)]
  -- the reference's reading
  have ref : ∀ (m' : MI) (R : MI → Int → Prop) (b : Int) (nn : ML) (post2 : PO), (∀ k, 20 ≤ k → m' k = m k) → RefL Γ (d + 3) C N m3 q R b → (∀ mm r', (∀ k, k ≠ 25 → k ≠ 26 → k ≠ 30 → mm k = m' k) → (∀ f, f ≠ 6 → f ≠ 7 → mm 25 0 f = m 25 0 f) → (∀ j, 0 ≤ j → j < 404 → mm 30 0 j = m 26 0 j) → mm 25 0 6 = r' → R mm r' → AM Γ (d + 7) 124 53 [some (vr 25 0), some (vi b), none] [] mm nn post2) → CM Γ (d + 7) 124 [vr 25 0] m' nn post2 := by
    intro m' R b nn post2 kk hR K
    refine r_loadPre (fun ma a1 a2 a3 a4 => ?_)
    have Ta : TxR C N ma := ⟨by rw [a2 4 (by omega), kk 25 (by omega)]; exact TR0.1, by rw [a1 28 (by omega) (by omega), kk 28 (by omega)]; exact TR0.2⟩
    have Pa : PRel (Vw m3 1) (ma 26 0) := by
      rw [a1 26 (by omega) (by omega), kk 26 (by omega)]
      exact hS.1.1.congr hV0 (fun _ _ _ => rfl) hW
    exact hR ma 0 nn post2 Ta Pa a3 (by omega) sk (fun mm r' fm gm hm => K mm r' (fun k z1 z2 z3 => by rw [fm.1 k z1 z2, a1 k z1 z3]) (fun f z1 z2 => by rw [fm.2 f z1 z2, a2 f z1, kk 25 (by omega)]) (fun j j0 j1 => by rw [fm.1 30 (by omega) (by omega), a4 j j0 j1, kk 26 (by omega)]) gm hm)
  have go := c_stories (Γ := Γ) (d := d + 1) (d2 := d + 3) (n := n) (C := C) (N := N) (t := t) (c0 := m 3 0 3) (post := fun r m2 n2 => AM Γ (d + 7) 70 22 [some (vr 1 0), none, none] (r.toList ++ []) m2 n2 (fun r1 m1 n1 => ∃ x, InR x ∧ r1 = some (vi x) ∧ CM Γ (d + 7) 124 [vr 25 0] m1 n1 (fun r2 m2 _ => r2 = some (vi x) ∧ Sim (t + 1) m2 m2))) c0 (m 3 0 3) (Int.le_refl _) c1 m3 q T3 W3 cnt3 p3 ⟨by omega, kc⟩ sk.2.2.2 (by rw [w3', w2]) (fun m4 f4 W4 w4 R4 => ?_) (fun m4 w f4 w4 wb R4 => ?_)
  · rw [Int.sub_self] at go
    exact go
  · -- the stories are added
    obtain ⟨g4, n4⟩ := frC m4 f4
    have kk : ∀ k, 20 ≤ k → m4 k = m k := fun k z => by funext r; exact g4 k r (by omega) (by omega)
    have X4 : Txt m4 m4 := by
      unfold Txt
      rw [n4, kk 25 (by omega), kk 20 (by omega), kk 28 (by omega), ← hCd]
      exact ⟨x1, x2, x3⟩
    have S4 : Sim t m4 m4 := hS.frame3 (fun k p z1 z2 => g4 k p (by omega) (by omega)) (by rw [kk 25 (by omega)]) (by rw [kk 27 (by omega)]) (fun j _ _ => by rw [kk 26 (by omega)]) X4
    refine b70_22 (by omega) (fun _ => b70_33 (c_save (d := d + 2) S4.2.1 (fun mA sh hA => b70_37 ?_))) (fun z => absurd rfl z)
    obtain ⟨a0, a1, a2⟩ := hA.now S4.2.1
    have hsb : 0 ≤ m4 1 0 3 - sh ∧ m4 1 0 3 - sh ≤ 5 := by
      have e1 := hA.1
      have := S4.2.1.1
      by_cases q : m4 1 0 3 = 6
      · rw [if_pos q] at e1; omega
      · rw [if_neg q] at e1; omega
    have hsv := hA.2.2.2.1.1 _ hsb.1 (by omega)
    have b1 : ∀ k, 3 ≤ k → mA k 1 = m4 k 1 := fun k z => hA.2.1 k 1 (by omega) (by omega) (fun y => by omega)
    refine c_papCopy (by omega) (fun mB oB qB => b70_64 ?_)
    have eV : VEq (Vw mB 0) (Vw m4 1) := fun k k1 k2 j j1 j2 => by
      show mB k 0 j = m4 k 1 j
      rw [qB k k1 k2 j j1 j2, b1 k k1]
    have WB : PWf (Vw mB 0) t := W4.congr eV
    have cA : mA 3 1 3 - mA 3 0 3 = mB 3 0 3 - m 3 0 3 := by
      have e1 : mB 3 0 3 = mA 3 1 3 := qB 3 (by omega) (by omega) 3 (by omega) (by decide)
      rw [e1, a0 3 (by omega) (by omega), g4 3 0 (by omega) (by omega)]
    rw [cA]
    have cb : 0 ≤ mB 3 0 3 ∧ mB 3 0 3 ≤ 12 := WB.1.2.2.2.1
    generalize hmF : up mB 19 0 0 0 = mF
    have kF : ∀ k, k ≠ 19 → mF k = mB k := fun k z => by rw [← hmF, up_k z]
    have lF : mF 19 0 0 = 0 := by rw [← hmF, up19, if_pos rfl]
    clear hmF
    have fk : ∀ k, 20 ≤ k → mF k = m k := fun k z => by
      rw [kF k (by omega), ← kk k z, ← a1 k (by omega)]
      funext r
      exact oB k r (by omega)
    have fk2 : ∀ k, 20 ≤ k → mB k = m k := fun k z => by rw [← kF k (by omega), fk k z]
    refine ⟨mB 3 0 3 - m 3 0 3, ir (by omega) (by omega), rfl, ?_⟩
    -- the reference
    refine ref mF _ 1 n _ fk R4 (fun mm r' h1 h2 h3 h4 h5 => b124_53 (r_exchanges (fun mx e1 e2 => b124_57 (by omega) (fun _ => b124_69 ?_) (fun z => absurd z (by omega)))))
    have x25 : ∀ f, f ≠ 6 → f ≠ 7 → mx 25 0 f = m 25 0 f := fun f z1 z2 => by rw [e1 25 (by omega) (by omega), h2 f z1 z2]
    have x26 : ∀ j, 0 ≤ j → j < 404 → mx 26 0 j = m 26 0 j := fun j j0 j1 => by rw [(e2 j j0 j1).1, h3 j j0 j1]
    have x30 : ∀ j, 0 ≤ j → j < 404 → mx 30 0 j = mm 26 0 j := fun j j0 j1 => (e2 j j0 j1).2
    have xk : ∀ k, k ≠ 25 → k ≠ 26 → k ≠ 30 → mx k = mF k := fun k z1 z2 z3 => by rw [e1 k z2 z3, h1 k z1 z2 z3]
    refine r_save (by rw [x25 2 (by omega) (by omega)]; omega) (fun mC sh2 hC => b124_73 (r_exchanges (fun my y1 y2 => b124_84 ?_)))
    have s3 : mC 26 0 3 = m 26 0 3 := by rw [hC.2.1 26 (by omega) (by omega), x26 3 (by omega) (by omega)]
    have v26 : ∀ j, 0 ≤ j → j < 404 → my 26 0 j = mm 26 0 j := fun j j0 j1 => by rw [(y2 j j0 j1).1, hC.2.1 30 (by omega) (by omega), x30 j j0 j1]
    generalize hmD : up my 25 0 4 0 = mD
    have dk : ∀ k, k ≠ 25 → mD k = my k := fun k z => by rw [← hmD, up_k z]
    have d25 : ∀ f, mD 25 0 f = if f = 4 then 0 else my 25 0 f := fun f => by rw [← hmD, up25]
    clear hmD
    have mm3 : mm 26 0 3 = mB 3 0 3 := by
      have e3 : mB 3 0 3 = m4 3 1 3 := eV 3 (by omega) (by omega) 3 (by omega) (by decide)
      rw [e3]
      exact h5.1.2.2.2.1
    refine b124_94 (by omega) ⟨by rw [dk 26 (by omega), v26 3 (by omega) (by omega), mm3, s3, c2], ?_⟩
    -- the relation
    obtain ⟨C2, hC2⟩ : ∃ C2 : MI, C2 = fun k r i => if k = 27 then mC 27 r i else if k = 25 ∧ r = 0 ∧ i = 2 then mC 25 0 2 else mB k r i := ⟨_, rfl⟩
    have u27 : C2 27 = mC 27 := by rw [hC2]; funext r i; show (if (27 : Nat) = 27 then mC 27 r i else _) = _; rw [if_pos rfl]
    have u25 : ∀ f, C2 25 0 f = if f = 2 then mC 25 0 2 else mB 25 0 f := fun f => by
      rw [hC2]
      show (if (25 : Nat) = 27 then mC 27 0 f else if (25 : Nat) = 25 ∧ (0 : Int) = 0 ∧ f = 2 then mC 25 0 2 else mB 25 0 f) = _
      rw [if_neg (by omega)]
      by_cases z : f = 2
      · rw [if_pos ⟨rfl, rfl, z⟩, if_pos z]
      · rw [if_neg (fun y => z y.2.2), if_neg z]
    have uo : ∀ k, k ≠ 25 → k ≠ 27 → C2 k = mB k := fun k z1 z2 => by
      rw [hC2]
      funext r i
      show (if k = 27 then mC 27 r i else if k = 25 ∧ r = 0 ∧ i = 2 then mC 25 0 2 else mB k r i) = _
      rw [if_neg z2, if_neg (fun y => z1 y.1)]
    clear hC2
    obtain ⟨D2, hD2⟩ : ∃ D2 : MI, D2 = fun k => if k = 26 then mD 26 else C2 k := ⟨_, rfl⟩
    have t26 : D2 26 = mD 26 := by rw [hD2]; show (if (26 : Nat) = 26 then mD 26 else C2 26) = _; rw [if_pos rfl]
    have to : ∀ k, k ≠ 26 → D2 k = C2 k := fun k z => by rw [hD2]; show (if k = 26 then mD 26 else C2 k) = _; rw [if_neg z]
    clear hD2
    have p26 : PRel (Vw mB 0) (mD 26 0) := h5.congr eV (fun j j0 j1 => by rw [dk 26 (by omega), v26 j j0 j1]) W4
    have SD : Sim (t + 1) D2 D2 := by
      refine sim_stepG S4 hA (mB := mB) (mC := C2) (sh2 := sh2) (fun k r k1 k2 => oB k r (by omega)) (fun k k1 => by rw [fk2 k (by omega), ← kk k (by omega), ← a1 k (by omega)]) ⟨?_, fun k z1 z2 => uo k z1 z2, fun f z => by rw [u25, if_neg z], ?_, fun i i0 i1 => ?_, fun i i0 i1 => ?_⟩ (fun k k1 k2 k3 => to k k3) (fun k k1 => by rw [to k (by omega), uo k (by omega) (by omega)]) (by rw [t26]; exact p26) (WB.mono (by omega))
      · have z := hC.1
        rw [x25 2 (by omega) (by omega)] at z
        rw [fk2 25 (by omega)]
        exact z
      · have z := hC.2.2.2.1
        rw [x25 2 (by omega) (by omega)] at z
        rw [u25, if_pos rfl, fk2 25 (by omega)]
        exact z
      · have z := hC.2.2.2.2.1 i i0 (by rw [x25 2 (by omega) (by omega)]; rw [fk2 25 (by omega)] at i1; exact i1)
        rw [u27, fk2 27 (by omega), z, xk 27 (by omega) (by omega) (by omega), fk 27 (by omega)]
      · have z := hC.2.2.2.2.2 i i0 i1
        rw [x25 2 (by omega) (by omega), x26 i i0 i1] at z
        rw [u27, fk2 25 (by omega), fk2 26 (by omega)]
        exact z
    refine SD.frame3 (fun k p z1 z2 => ?_) ?_ ?_ (fun j _ _ => by rw [t26]) ?_
    · rw [dk k (by omega), y1 k (by omega) (by omega), hC.2.1 k (by omega) (by omega), xk k (by omega) (by omega) (by omega), kF k (by omega), to k (by omega), uo k (by omega) (by omega)]
    · rw [d25, if_neg (by omega), y1 25 (by omega) (by omega), to 25 (by omega), u25, if_pos rfl]
    · rw [dk 27 (by omega), y1 27 (by omega) (by omega), to 27 (by omega), u27]
    · unfold Txt
      rw [d25, if_pos rfl, dk 19 (by omega), y1 19 (by omega) (by omega), hC.2.1 19 (by omega) (by omega), xk 19 (by omega) (by omega) (by omega), lF]
      exact ⟨⟨by omega, by omega⟩, rfl, fun i i0 i1 => by omega⟩
  · -- an error
    obtain ⟨g4, n4⟩ := frC m4 f4
    have kk : ∀ k, 20 ≤ k → m4 k = m k := fun k z => by funext r; exact g4 k r (by omega) (by omega)
    refine b70_22 (by omega) (fun z => absurd z (by omega)) (fun _ => b70_28 ⟨-10 - w, ir (by omega) (by omega), rfl, ref m4 _ 0 n _ kk R4 (fun mm r' h1 h2 h3 h4 h5 => b124_53 (r_exchanges (fun mx e1 e2 => b124_57 (by omega) (fun z => absurd rfl z) (fun _ => b124_61 ⟨?_, ?_⟩))))⟩)
    · rw [e1 25 (by omega) (by omega), h4, h5]
    · refine (hS.frame3 (fun k p z1 z2 => ?_) ?_ ?_ (fun j j0 j1 => ?_) ?_).next
      · rw [e1 k (by omega) (by omega), h1 k (by omega) (by omega) (by omega), g4 k p (by omega) (by omega)]
      · rw [e1 25 (by omega) (by omega), h2 2 (by omega) (by omega)]
      · rw [e1 27 (by omega) (by omega), h1 27 (by omega) (by omega) (by omega), kk 27 (by omega)]
      · rw [(e2 j j0 j1).1, h3 j j0 j1]
      · unfold Txt
        rw [e1 19 (by omega) (by omega), h1 19 (by omega) (by omega) (by omega), e1 25 (by omega) (by omega), h2 4 (by omega) (by omega), e1 20 (by omega) (by omega), h1 20 (by omega) (by omega) (by omega), e1 28 (by omega) (by omega), h1 28 (by omega) (by omega) (by omega), n4, kk 20 (by omega), kk 28 (by omega), ← hCd]
        exact ⟨x1, x2, x3⟩
