-- the pair of calls: make
theorem sim_stepG {t sh sh2 : Int} {m mA mB mC mD : MI} (hS : Sim t m m) (hA : SavC m mA sh) (hB : ∀ k r, k ≤ 20 → (k < 3 ∨ 19 ≤ k ∨ (r ≠ 0 ∧ r ≠ 8 ∧ r ≠ 1)) → mB k r = mA k r) (hB2 : ∀ k, 25 ≤ k → mB k = mA k) (hC : SavR mB mC sh2) (hD : ∀ k, 25 ≤ k → k ≤ 28 → k ≠ 26 → mD k = mC k) (hD2 : ∀ k, k ≤ 20 → mD k = mB k) (hP : PRel (Vw mB 0) (mD 26 0)) (hw : PWf (Vw mB 0) (t + 1)) : Sim (t + 1) mD mD := by
  obtain ⟨B', hB'⟩ : ∃ B' : MI, B' = fun k r => if 3 ≤ k ∧ k ≤ 18 ∧ r = 0 then mB k r else mA k r := ⟨_, rfl⟩
  have b1 : ∀ k r, (3 ≤ k ∧ k ≤ 18 ∧ r = 0) → B' k r = mB k r := fun k r z => by rw [hB']; show (if 3 ≤ k ∧ k ≤ 18 ∧ r = 0 then mB k r else mA k r) = _; rw [if_pos z]
  have b2 : ∀ k r, ¬ (3 ≤ k ∧ k ≤ 18 ∧ r = 0) → B' k r = mA k r := fun k r z => by rw [hB']; show (if 3 ≤ k ∧ k ≤ 18 ∧ r = 0 then mB k r else mA k r) = _; rw [if_neg z]
  have b3 : ∀ k, 25 ≤ k → B' k = mB k := fun k z => by rw [hB2 k z]; funext r; exact b2 k r (by omega)
  obtain ⟨C', hC'⟩ : ∃ C' : MI, C' = fun k => if k = 25 ∨ k = 27 then mC k else B' k := ⟨_, rfl⟩
  have c1 : ∀ k, (k = 25 ∨ k = 27) → C' k = mC k := fun k z => by rw [hC']; show (if k = 25 ∨ k = 27 then mC k else B' k) = _; rw [if_pos z]
  have c2 : ∀ k, ¬ (k = 25 ∨ k = 27) → C' k = B' k := fun k z => by rw [hC']; show (if k = 25 ∨ k = 27 then mC k else B' k) = _; rw [if_neg z]
  obtain ⟨D', hD'⟩ : ∃ D' : MI, D' = fun k => if k = 26 then mD 26 else C' k := ⟨_, rfl⟩
  have d1 : D' 26 = mD 26 := by rw [hD']; show (if (26 : Nat) = 26 then mD 26 else C' 26) = _; rw [if_pos rfl]
  have d2 : ∀ k, k ≠ 26 → D' k = C' k := fun k z => by rw [hD']; show (if k = 26 then mD 26 else C' k) = _; rw [if_neg z]
  have hV : VEq (Vw B' 0) (Vw mB 0) := fun k k1 k2 j _ _ => by show B' k 0 j = mB k 0 j; rw [b1 k 0 ⟨k1, k2, rfl⟩]
  have g : Sim (t + 1) D' D' := by
    refine sim_step hS hA (mB := B') (mC := C') (sh2 := sh2) b2 ⟨?_, fun k q1 q2 => c2 k (by omega), fun f q => ?_, ?_, fun i q1 q2 => ?_, fun i q1 q2 => ?_⟩ d2 ?_ (hw.congr hV)
    · rw [b3 25 (by omega)]; exact hC.1
    · rw [c1 25 (Or.inl rfl), b3 25 (by omega)]; exact hC.2.2.1 f q
    · rw [c1 25 (Or.inl rfl), b3 25 (by omega)]; exact hC.2.2.2.1
    · rw [b3 25 (by omega)] at q2
      rw [c1 27 (Or.inr rfl), b3 27 (by omega)]; exact hC.2.2.2.2.1 i q1 q2
    · rw [c1 27 (Or.inr rfl), b3 25 (by omega), b3 26 (by omega)]; exact hC.2.2.2.2.2 i q1 q2
    · rw [d1]
      exact hP.congr hV (fun _ _ _ => rfl) hw
  refine g.frame (fun k p k1 k2 => ?_) (fun k k1 k2 => ?_)
  · rw [hD2 k k1, d2 k (by omega), c2 k (by omega)]
    by_cases z : 3 ≤ k ∧ k ≤ 18 ∧ p = 0
    · rw [b1 k p z]
    · rw [b2 k p z]
      exact hB k p k1 (by omega)
  · by_cases q : k = 26
    · rw [q, d1]
    · rw [hD k k1 k2 q, d2 k q]
      by_cases z : k = 25 ∨ k = 27
      · rw [c1 k z]
      · rw [c2 k z, b3 k k1, hC.2.1 k (by omega) (by omega)]
theorem made_rel {V V' E : Nat → Int → Int} {s s' f : Int → Int} {t : Int} (hP : PRel V s) (hW : PWf V t) (ed : EdC V E) (er : EdR V f) (h3 : ∀ k, 3 ≤ k → k ≤ 8 → V' k = V k) (h9 : ∀ i, 0 ≤ i → i < V 3 3 → V' 9 i = 0) (h10 : ∀ k, 10 ≤ k → k ≤ 18 → ∀ i, 0 ≤ i → i < lenK k → V' k i = E k i)
    (g0 : s' 160 = s 160 + 1 ∧ s' 161 = s 0 ∧ s' 162 = s 1 ∧ s' 163 = s 2) (g1 : ∀ z, 0 ≤ z → z < 240 → s' (164 + z) = f z) (g2 : ∀ i, 0 ≤ i → i < V 3 3 → s' (4 + 13 * i + 3) = 0) (g3 : ∀ j, j < 160 → (∀ i, 0 ≤ i → i < V 3 3 → j ≠ 4 + 13 * i + 3) → s' j = s j) : PRel V' s' := by
  have w3 := hW.1.2.2.2.1
  obtain ⟨⟨r0, r1, r2, r3, r4, _⟩, rr⟩ := hP
  have e3 := h3 3 (by omega) (by omega)
  have a0 := h10 10 (by omega) (by omega) 0 (by omega) (by decide)
  have a1 := h10 10 (by omega) (by omega) 1 (by omega) (by decide)
  have a2 := h10 10 (by omega) (by omega) 2 (by omega) (by decide)
  have a3 := h10 10 (by omega) (by omega) 3 (by omega) (by decide)
  obtain ⟨n0, n1, n2, n3⟩ := ed.1
  refine ⟨⟨?_, ?_, ?_, ?_, ?_, fun _ => ⟨?_, ?_, ?_⟩⟩, fun i i0 i1 => ?_⟩
  · rw [e3, g3 0 (by omega) (fun i _ _ => by omega), r0]
  · rw [e3, g3 1 (by omega) (fun i _ _ => by omega), r1]
  · rw [e3, g3 2 (by omega) (fun i _ _ => by omega), r2]
  · rw [e3, g3 3 (by omega) (fun i _ _ => by omega), r3]
  · rw [a0, n0, g0.1, r4]
  · rw [a1, n1, g0.2.1, r0]
  · rw [a2, n2, g0.2.2.1, r1]
  · rw [a3, n3, g0.2.2.2, r2]
  · rw [e3] at i1
    obtain ⟨q1, q2, q3, q4, q5, q6⟩ := (rr i i0 i1).1
    have h6 := (hW.2.1 i i0 i1).2.2.1
    have ls : ∀ k : Nat, 11 ≤ k → k ≤ 12 → lenK k = 12 := fun k k1 k2 => by
      rcases (show k = 11 ∨ k = 12 by omega) with rfl | rfl <;> decide
    have lt : ∀ k : Nat, 13 ≤ k → k ≤ 18 → lenK k = 36 := fun k k1 k2 => by
      rcases k13 k1 k2 with rfl | rfl | rfl | rfl | rfl | rfl <;> decide
    have b11 := h10 11 (by omega) (by omega) i i0 (by rw [ls 11 (by omega) (by omega)]; omega)
    have b12 := h10 12 (by omega) (by omega) i i0 (by rw [ls 12 (by omega) (by omega)]; omega)
    refine ⟨⟨?_, ?_, ?_, fun _ => ?_, ?_, fun j j0 j1 => ?_⟩, ?_, ?_, fun k k0 k1 => ?_⟩
    · rw [h3 4 (by omega) (by omega), g3 _ (by omega) (fun x _ _ => by omega), q1]
    · rw [h3 5 (by omega) (by omega), g3 _ (by omega) (fun x _ _ => by omega), q2]
    · rw [h3 8 (by omega) (by omega), g3 _ (by omega) (fun x _ _ => by omega), q3]
    · rw [g2 i i0 i1, h9 i i0 i1]
    · rw [h3 6 (by omega) (by omega), g3 _ (by omega) (fun x _ _ => by omega), q5]
    · rw [h3 6 (by omega) (by omega)] at j1
      rw [h3 7 (by omega) (by omega), g3 _ (by omega) (fun x _ _ => by omega), q6 j j0 j1]
    · rw [show 164 + 20 * i = 164 + (20 * i) from rfl, g1 (20 * i) (by omega) (by omega), b11]
      by_cases q : V 8 i = 0
      · rw [((er i i0 i1).2 q).1, (ed.2.2 i i0 (by omega) (fun u => u.2 q)).1, if_pos rfl]
      · rw [((er i i0 i1).1 q).1.1, (ed.2.1 i i0 i1 q).1.1, if_neg (by omega)]
    · rw [show 164 + 20 * i + 1 = 164 + (20 * i + 1) by omega, g1 (20 * i + 1) (by omega) (by omega), b12]
      by_cases q : V 8 i = 0
      · rw [((er i i0 i1).2 q).2, (ed.2.2 i i0 (by omega) (fun u => u.2 q)).2]
      · rw [((er i i0 i1).1 q).2, (ed.2.1 i i0 i1 q).2]
    · rw [b11] at k1
      have q : V 8 i ≠ 0 := fun q => by
        have := (ed.2.2 i i0 (by omega) (fun u => u.2 q)).1
        omega
      have pe := (ed.2.1 i i0 i1 q).1
      have pr := ((er i i0 i1).1 q).1
      have gl := (rs_gd hW ⟨i0, i1⟩).1
      have e11 := pe.1
      have hl : k.toNat < (rsL V i).length := by omega
      have ek : ((k.toNat : Nat) : Int) = k := by omega
      obtain ⟨x1, x2, x3, x4, x5, x6⟩ := pe.2 k.toNat _ (List.getElem?_eq_getElem hl)
      obtain ⟨y1, y2, y3, y4, y5, y6⟩ := pr.2 k.toNat _ (List.getElem?_eq_getElem hl)
      rw [ek] at x1 x2 x3 x4 x5 x6 y1 y2 y3 y4 y5 y6
      have hz : 0 ≤ i * 3 + k ∧ i * 3 + k < 36 := ⟨by omega, by omega⟩
      have ht : ∀ (k' : Nat), 13 ≤ k' → k' ≤ 18 → V' k' (i * 3 + k) = E k' (i * 3 + k) := fun k' z1 z2 => h10 k' (by omega) z2 _ hz.1 (by rw [lt k' z1 z2]; exact hz.2)
      rw [ht 13 (by omega) (by omega), ht 14 (by omega) (by omega), ht 15 (by omega) (by omega), ht 16 (by omega) (by omega), ht 17 (by omega) (by omega), ht 18 (by omega) (by omega), x1, x2, x3, x4, x5, x6]
      rw [show 166 + 20 * i + 6 * k = 164 + (20 * i + 2 + 6 * k) by omega, show 164 + (20 * i + 2 + 6 * k) + 1 = 164 + (20 * i + 2 + 6 * k + 1) by omega, show 164 + (20 * i + 2 + 6 * k) + 2 = 164 + (20 * i + 2 + 6 * k + 2) by omega, show 164 + (20 * i + 2 + 6 * k) + 3 = 164 + (20 * i + 2 + 6 * k + 3) by omega, show 164 + (20 * i + 2 + 6 * k) + 4 = 164 + (20 * i + 2 + 6 * k + 4) by omega, show 164 + (20 * i + 2 + 6 * k) + 5 = 164 + (20 * i + 2 + 6 * k + 5) by omega]
      rw [g1 _ (by omega) (by omega), g1 _ (by omega) (by omega), g1 _ (by omega) (by omega), g1 _ (by omega) (by omega), g1 _ (by omega) (by omega), g1 _ (by omega) (by omega)]
      exact ⟨y1, y2, y3, y4, y5, y6⟩
theorem made_wf {V V' E : Nat → Int → Int} {t : Int} (hW : PWf V t) (ed : EdC V E) (h3 : ∀ k, 3 ≤ k → k ≤ 8 → V' k = V k) (h9 : ∀ i, 0 ≤ i → i < V 3 3 → V' 9 i = 0) (h10 : ∀ k, 10 ≤ k → k ≤ 18 → ∀ i, 0 ≤ i → i < lenK k → V' k i = E k i) : PWf V' (t + 1) := by
  have w := hW.1
  obtain ⟨w0, w1, w2, w3, w4, w5⟩ := w
  have e3 := h3 3 (by omega) (by omega)
  have a0 := h10 10 (by omega) (by omega) 0 (by omega) (by decide)
  have a1 := h10 10 (by omega) (by omega) 1 (by omega) (by decide)
  have a2 := h10 10 (by omega) (by omega) 2 (by omega) (by decide)
  have a3 := h10 10 (by omega) (by omega) 3 (by omega) (by decide)
  obtain ⟨n0, n1, n2, n3⟩ := ed.1
  rw [n0] at a0
  rw [n1] at a1
  rw [n2] at a2
  rw [n3] at a3
  have ls : ∀ k : Nat, 11 ≤ k → k ≤ 12 → lenK k = 12 := fun k k1 k2 => by
    rcases (show k = 11 ∨ k = 12 by omega) with rfl | rfl <;> decide
  have lt : ∀ k : Nat, 13 ≤ k → k ≤ 18 → lenK k = 36 := fun k k1 k2 => by
    rcases k13 k1 k2 with rfl | rfl | rfl | rfl | rfl | rfl <;> decide
  refine ⟨?_, fun i i0 i1 => ?_, fun i i0 i1 => ?_⟩
  · unfold HWf
    rw [e3, a0, a1, a2, a3]
    exact ⟨w0, w1, w2, w3, by omega, fun _ => ⟨w0, w1, w2⟩⟩
  · rw [e3] at i1
    have s := hW.2.1 i i0 i1
    have b11 := h10 11 (by omega) (by omega) i i0 (by rw [ls 11 (by omega) (by omega)]; omega)
    unfold SWf at s ⊢
    rw [e3, a0, a1, a2, a3, h3 4 (by omega) (by omega), h3 5 (by omega) (by omega), h3 6 (by omega) (by omega), h3 7 (by omega) (by omega), h3 8 (by omega) (by omega), h9 i i0 i1, b11]
    refine ⟨s.1, s.2.1, s.2.2.1, s.2.2.2.1, Or.inl rfl, s.2.2.2.2.2.1, fun _ => ⟨by omega, rfl, rfl, rfl⟩, fun z1 z2 => ?_⟩
    have := (ed.2.2 i i0 (by omega) (fun u => u.2 z1)).1
    omega
  · have b11 := h10 11 (by omega) (by omega) i i0 (by rw [ls 11 (by omega) (by omega)]; omega)
    have b12 := h10 12 (by omega) (by omega) i i0 (by rw [ls 12 (by omega) (by omega)]; omega)
    have ok := ed_ok hW ed i i0 i1
    unfold EWf
    rw [e3, a0, a1, a2, a3, b11, b12]
    refine ⟨ok, ?_, fun z => by omega, fun z => ed.2.2 i i0 i1 (by omega), fun k k0 k1 => ?_⟩
    · by_cases q : i < V 3 3 ∧ V 8 i ≠ 0
      · rw [(ed.2.1 i i0 q.1 q.2).2]; exact mvB_01
      · rw [(ed.2.2 i i0 i1 q).2]; exact Or.inl rfl
    · have q : i < V 3 3 ∧ V 8 i ≠ 0 := by
        by_cases q : i < V 3 3 ∧ V 8 i ≠ 0
        · exact q
        · have := (ed.2.2 i i0 i1 q).1
          omega
      have pe := (ed.2.1 i i0 q.1 q.2).1
      have gd := rs_gd hW ⟨i0, q.1⟩
      have b := put_bd hW.1 gd pe k0 k1
      have hz : 0 ≤ i * 3 + k ∧ i * 3 + k < 36 := ⟨by omega, by omega⟩
      have ht : ∀ (k' : Nat) z, 13 ≤ k' → k' ≤ 18 → 0 ≤ z → z < 36 → V' k' z = E k' z := fun k' z z1 z2 z3 z4 => h10 k' (by omega) z2 _ z3 (by rw [lt k' z1 z2]; exact z4)
      rw [ht 13 _ (by omega) (by omega) hz.1 hz.2, ht 14 _ (by omega) (by omega) hz.1 hz.2, ht 15 _ (by omega) (by omega) hz.1 hz.2, ht 16 _ (by omega) (by omega) hz.1 hz.2, ht 17 _ (by omega) (by omega) hz.1 hz.2, ht 18 _ (by omega) (by omega) hz.1 hz.2]
      refine ⟨b.1, b.2.1, b.2.2.1, b.2.2.2.1, b.2.2.2.2, fun k' k0' k1' kn => ?_⟩
      rw [ht 13 _ (by omega) (by omega) (by omega) (by omega)]
      have e11 := pe.1
      have hl : k.toNat < (rsL V i).length := by omega
      have hl' : k'.toNat < (rsL V i).length := by omega
      have ek : ((k.toNat : Nat) : Int) = k := by omega
      have ek' : ((k'.toNat : Nat) : Int) = k' := by omega
      have x1 := (pe.2 k.toNat _ (List.getElem?_eq_getElem hl)).1
      have x1' := (pe.2 k'.toNat _ (List.getElem?_eq_getElem hl')).1
      rw [ek] at x1
      rw [ek'] at x1'
      rw [x1, x1']
      have pw := List.pairwise_iff_getElem.1 gd.2.2
      rcases (show k.toNat < k'.toNat ∨ k'.toNat < k.toNat by omega) with u | u
      · exact fun e => pw k.toNat k'.toNat hl hl' u e.symm
      · exact pw k'.toNat k.toNat hl' hl u
set_option maxHeartbeats 4000000 in
/-- the reference's make, behind its save -/
theorem r_made {Γ : GG} {d : Nat} {mC : MI} {n : ML} {post : PO} {t : Int} {V : Nat → Int → Int} (hP : PRel V (mC 26 0)) (hW : PWf V t) (ht : t ≤ 1000) (K : ∀ mD f, EdR V f → (∀ k, k ≠ 26 → k ≠ 31 → k ≠ 32 → mD k = mC k) → (mD 26 0 160 = mC 26 0 160 + 1 ∧ mD 26 0 161 = mC 26 0 0 ∧ mD 26 0 162 = mC 26 0 1 ∧ mD 26 0 163 = mC 26 0 2) → (∀ z, 0 ≤ z → z < 240 → mD 26 0 (164 + z) = f z) → (∀ i, 0 ≤ i → i < V 3 3 → mD 26 0 (4 + 13 * i + 3) = 0) → (∀ j, j < 160 → (∀ i, 0 ≤ i → i < V 3 3 → j ≠ 4 + 13 * i + 3) → mD 26 0 j = mC 26 0 j) → post (some (vi (heldN V))) mD n) : AM Γ (d + 6) 136 4 [some (vr 25 0), none, none] [] mC n post := by
  have w3 := hW.1.2.2.2.1
  refine b136_4 (r_makes hP hW ht (fun mE g1 g2 g3 => b136_8 (b136_33 (by omega) (by omega) (b136_47 (by omega) (by omega) (b136_61 (by omega) (by omega) ?_)))))
  have e26 : mE 26 = mC 26 := g1 26 (by omega) (by omega)
  generalize hmF : up (up (up (up mE 26 0 160 (mE 26 0 160 + 1)) 26 0 161 (up mE 26 0 160 (mE 26 0 160 + 1) 26 0 0)) 26 0 162 (up (up mE 26 0 160 (mE 26 0 160 + 1)) 26 0 161 (up mE 26 0 160 (mE 26 0 160 + 1) 26 0 0) 26 0 1)) 26 0 163 (up (up (up mE 26 0 160 (mE 26 0 160 + 1)) 26 0 161 (up mE 26 0 160 (mE 26 0 160 + 1) 26 0 0)) 26 0 162 (up (up mE 26 0 160 (mE 26 0 160 + 1)) 26 0 161 (up mE 26 0 160 (mE 26 0 160 + 1) 26 0 0) 26 0 1) 26 0 2) = mF
  have kF : ∀ k, k ≠ 26 → mF k = mE k := fun k z => by rw [← hmF, up_k z, up_k z, up_k z, up_k z]
  have v160 : mF 26 0 160 = mC 26 0 160 + 1 := by rw [← hmF]; simp [up_rd, e26]
  have v161 : mF 26 0 161 = mC 26 0 0 := by rw [← hmF]; simp [up_rd, e26]
  have v162 : mF 26 0 162 = mC 26 0 1 := by rw [← hmF]; simp [up_rd, e26]
  have v163 : mF 26 0 163 = mC 26 0 2 := by rw [← hmF]; simp [up_rd, e26]
  have vo : ∀ j, j < 160 → mF 26 0 j = mC 26 0 j := fun j j1 => by
    rw [← hmF, up26, if_neg (by omega), up26, if_neg (by omega), up26, if_neg (by omega), up26, if_neg (by omega), e26]
  clear hmF
  have e32 : mF 32 = mE 32 := kF 32 (by omega)
  -- the last loop
  have l2 : ∀ mG, (∀ k, k ≠ 26 → mG k = mF k) → (∀ j, j < 164 → mG 26 0 j = mF 26 0 j) → (∀ z, 0 ≤ z → z < 240 → mG 26 0 (164 + z) = mF 32 0 z) → AM Γ (d + 6) 136 94 [some (vr 25 0), some (vi (heldN V)), some (vi 240)] [] mG n post := by
    intro mG q1 q2 q3
    refine b136_94 ?_
    have key := up_ind (P := fun y => ∀ mm, (∀ k, k ≠ 26 → mm k = mF k) → (∀ j, j < 164 → (∀ i, 0 ≤ i → i < V 3 3 → j ≠ 4 + 13 * i + 3) → mm 26 0 j = mF 26 0 j) → (∀ z, 0 ≤ z → z < 240 → mm 26 0 (164 + z) = mF 32 0 z) → (∀ i, 0 ≤ i → i < y → mm 26 0 (4 + 13 * i + 3) = 0) → AM Γ (d + 6) 136 96 [some (vr 25 0), some (vi (heldN V)), some (vi y)] [] mm n post) 0 (V 3 3) w3.1 ?_ ?_
    · exact key mG q1 (fun j j1 _ => q2 j j1) q3 (fun i i0 i1 => by omega)
    · intro mm h1 h2 h3 h4
      have e3 : mm 26 0 3 = V 3 3 := by rw [h2 3 (by omega) (fun i _ _ => by omega), vo 3 (by omega)]; exact hP.1.2.2.2.1
      refine b136_96 (by omega) (by omega) (fun _ => b136_119 (K mm (mE 32 0) g2 (fun k k1 k2 k3 => by rw [h1 k k1, kF k k1, g1 k k2 k3]) ⟨?_, ?_, ?_, ?_⟩ (fun z z0 z1 => by rw [h3 z z0 z1, e32]) h4 (fun j j1 j2 => by rw [h2 j (by omega) j2, vo j j1]))) (fun z => absurd z (by omega))
      · rw [h2 160 (by omega) (fun i _ _ => by omega), v160]
      · rw [h2 161 (by omega) (fun i _ _ => by omega), v161]
      · rw [h2 162 (by omega) (fun i _ _ => by omega), v162]
      · rw [h2 163 (by omega) (fun i _ _ => by omega), v163]
    · intro y y0 y1 ih mm h1 h2 h3 h4
      have e3 : mm 26 0 3 = V 3 3 := by rw [h2 3 (by omega) (fun i _ _ => by omega), vo 3 (by omega)]; exact hP.1.2.2.2.1
      refine b136_96 (by omega) (by omega) (fun z => absurd (show y < mm 26 0 3 by omega) z) (fun _ => b136_106 (r_puts ⟨y0, by omega⟩ (by omega) (b136_113 (ih _ (fun k k1 => by rw [up_k k1, h1 k k1]) (fun j j1 j2 => ?_) (fun z z0 z1 => ?_) (fun i i0 i1 => ?_)))))
      · rw [up26, if_neg (by have := j2 y y0 y1; omega), h2 j j1 j2]
      · rw [up26, if_neg (by omega), h3 z z0 z1]
      · rw [up26]
        by_cases q : i = y
        · rw [if_pos (by omega)]
        · rw [if_neg (by omega), h4 i i0 (by omega)]
  have key := up_ind (P := fun y => ∀ mm, (∀ k, k ≠ 26 → mm k = mF k) → (∀ j, j < 164 → mm 26 0 j = mF 26 0 j) → (∀ z, 0 ≤ z → z < y → mm 26 0 (164 + z) = mF 32 0 z) → AM Γ (d + 6) 136 65 [some (vr 25 0), some (vi (heldN V)), some (vi y)] [] mm n post) 0 240 (by omega) ?_ ?_
  · exact key mF (fun _ _ => rfl) (fun _ _ => rfl) (fun z z0 z1 => by omega)
  · intro mm h1 h2 h3
    exact b136_65 (by omega) (fun _ => l2 mm h1 h2 h3) (fun z => absurd z (by omega))
  · intro y y0 y1 ih mm h1 h2 h3
    refine b136_65 (by omega) (fun z => absurd y1 z) (fun _ => b136_72 (by omega) (by omega) (ih _ (fun k k1 => by rw [up_k k1, h1 k k1]) (fun j j1 => ?_) (fun z z0 z1 => ?_)))
    · rw [up26, if_neg (by omega), h2 j j1]
    · rw [up26]
      by_cases q : z = y
      · rw [if_pos (by omega), h1 32 (by omega), q]
      · rw [if_neg (by omega), h3 z z0 (by omega)]
set_option maxHeartbeats 4000000 in
theorem op_make {Γ : GG} {d : Nat} {m : MI} {n : ML} {t : Int} (hS : Sim t m m) (ht : t ≤ 1000) : Both Γ (d + 7) 71 136 [vr 1 0] [vr 25 0] m n t := by
  obtain ⟨c0, c1, c2, c3, c4, c5⟩ := sim_cnt hS
  have hW := hS.1.2
  have w3 := hW.1.2.2.2.1
  refine e71 (b71_0 (c_save (d := d + 2) hS.2.1 (fun mA sh hA => b71_4 ?_)))
  obtain ⟨a0, a1, a2⟩ := hA.now hS.2.1
  refine c_plan (p := 0) (V := Vw m 0) (by omega) (fun k k1 k2 => a0 k (by omega) (by omega)) hW (fun m1 n1 f1 ed => b71_19 (c_edCopy (by omega) (fun m2 o2 q2 => b71_33 ?_)))
  have e3 : m2 3 0 = m 3 0 := by rw [o2 3 0 (by omega), f1 3 0 (by omega) (by omega) (by omega), a0 3 (by omega) (by omega)]
  refine c_forgetChanges (by rw [e3]; exact c0) (by rw [e3]; exact c1) (fun m3 o3 q3 => b71_40 ?_)
  rw [e3] at q3
  have e11 : m3 11 8 = m1 11 8 := by rw [o3 11 8 (by omega), o2 11 8 (by omega)]
  have hb : PcOK m3 8 := by
    have := ed_ok (V := Vw m 0) (E := Vw m1 8) hW ed
    unfold PcOK
    rw [e11]
    exact this
  have eh := ed_held (V := Vw m 0) (E := Vw m1 8) hW ed
  rw [show Vw m1 8 11 = m1 11 8 from rfl] at eh
  have hh := heldN_bd (V := Vw m 0) w3
  refine c_heldOver hb (b71_47 ?_)
  rw [e11, eh]
  have fk : ∀ k, 25 ≤ k → m3 k = m k := fun k k1 => by
    rw [← a1 k (by omega)]
    funext r
    rw [o3 k r (by omega), o2 k r (by omega), f1 k r (by omega) (by omega) (by omega)]
  have fa : ∀ k, 25 ≤ k → m3 k = mA k := fun k k1 => by rw [fk k k1, a1 k (by omega)]
  refine ⟨heldN (Vw m 0), ir (by omega) (by omega), rfl, e136 (b136_0 (r_save (by rw [fk 25 (by omega)]; omega) (fun mC sh2 hC => ?_)))⟩
  have hP : PRel (Vw m 0) (mC 26 0) := by rw [hC.2.1 26 (by omega) (by omega), fk 26 (by omega)]; exact hS.1.1
  have sC : mC 26 = m 26 := by rw [hC.2.1 26 (by omega) (by omega), fk 26 (by omega)]
  have h3 : ∀ k, 3 ≤ k → k ≤ 8 → Vw m3 0 k = Vw m 0 k := fun k k1 k2 => by
    show m3 k 0 = m k 0
    rw [o3 k 0 (by omega), o2 k 0 (by omega), f1 k 0 (by omega) (by omega) (by omega), a0 k (by omega) (by omega)]
  have h10 : ∀ k, 10 ≤ k → k ≤ 18 → ∀ i, 0 ≤ i → i < lenK k → Vw m3 0 k i = Vw m1 8 k i := fun k k1 k2 i i0 i1 => by
    show m3 k 0 i = m1 k 8 i
    rw [o3 k 0 (by omega), q2 k k1 k2 i i0 i1]
  refine r_made hP hW ht (fun mD f er g1 g2 g3 g4 g5 => ⟨rfl, ?_⟩)
  refine sim_stepG hS hA (mB := m3) (fun k r k1 k2 => ?_) fa hC (fun k k1 k2 k3 => g1 k k3 (by omega) (by omega)) (fun k k1 => by rw [g1 k (by omega) (by omega) (by omega), hC.2.1 k (by omega) (by omega)]) ?_ ?_
  · rw [o3 k r (by omega), o2 k r (by omega), f1 k r (by omega) (by omega) (by omega)]
  · exact made_rel (V := Vw m 0) (E := Vw m1 8) (f := f) (s := mC 26 0) hP hW ed er h3 q3 h10 g2 g3 g4 g5
  · exact made_wf (V := Vw m 0) (E := Vw m1 8) hW ed h3 q3 h10
