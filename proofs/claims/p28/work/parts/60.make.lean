theorem made_wf {V V' E : Nat → Int → Int} {t : Int} (hW : PWf V t) (ed : EdC V E) (h3 : ∀ k, 3 ≤ k → k ≤ 8 → V' k = V k) (h9 : ∀ i, 0 ≤ i → i < V 3 3 → V' 9 i = 0) (h10 : ∀ k, 10 ≤ k → k ≤ 18 → ∀ i, 0 ≤ i → i < lenK k → V' k i = E k i) : PWf V' (t + 1) := by
  have w := hW.1
  obtain ⟨w0, w1, w2, w3, w4, w5⟩ := w
  have e3 := h3 3 (by omega) (by omega)
  have a0 := h10 10 (by omega) (by omega) 0 (by omega) (by decide)
  have a1 := h10 10 (by omega) (by omega) 1 (by omega) (by decide)
  have a2 := h10 10 (by omega) (by omega) 2 (by omega) (by decide)
  have a3 := h10 10 (by omega) (by omega) 3 (by omega) (by decide)
  obtain ⟨n0, n1, n2, n3⟩ := ed.1
  rw [n0] at a0
  rw [n1] at a1
  rw [n2] at a2
  rw [n3] at a3
  have ls : ∀ k : Nat, 11 ≤ k → k ≤ 12 → lenK k = 12 := fun k k1 k2 => by
    rcases (show k = 11 ∨ k = 12 by omega) with rfl | rfl <;> decide
  have lt : ∀ k : Nat, 13 ≤ k → k ≤ 18 → lenK k = 36 := fun k k1 k2 => by
    rcases k13 k1 k2 with rfl | rfl | rfl | rfl | rfl | rfl <;> decide
  refine ⟨?_, fun i i0 i1 => ?_, fun i i0 i1 => ?_⟩
  · unfold HWf
    rw [e3, a0, a1, a2, a3]
    exact ⟨w0, w1, w2, w3, by omega, fun _ => ⟨w0, w1, w2⟩⟩
  · rw [e3] at i1
    have s := hW.2.1 i i0 i1
    have b11 := h10 11 (by omega) (by omega) i i0 (by rw [ls 11 (by omega) (by omega)]; omega)
    unfold SWf at s ⊢
    rw [e3, a0, a1, a2, a3, h3 4 (by omega) (by omega), h3 5 (by omega) (by omega), h3 6 (by omega) (by omega), h3 7 (by omega) (by omega), h3 8 (by omega) (by omega), h9 i i0 i1, b11]
    refine ⟨s.1, s.2.1, s.2.2.1, s.2.2.2.1, Or.inl rfl, s.2.2.2.2.2.1, fun _ => ⟨by omega, rfl, rfl, rfl⟩, fun z1 z2 => ?_⟩
    have := (ed.2.2 i i0 (by omega) (fun u => u.2 z1)).1
    omega
  · have b11 := h10 11 (by omega) (by omega) i i0 (by rw [ls 11 (by omega) (by omega)]; omega)
    have b12 := h10 12 (by omega) (by omega) i i0 (by rw [ls 12 (by omega) (by omega)]; omega)
    have ok := ed_ok hW ed i i0 i1
    unfold EWf
    rw [e3, a0, a1, a2, a3, b11, b12]
    refine ⟨ok, ?_, fun z => by omega, fun z => ed.2.2 i i0 i1 (by omega), fun k k0 k1 => ?_⟩
    · by_cases q : i < V 3 3 ∧ V 8 i ≠ 0
      · rw [(ed.2.1 i i0 q.1 q.2).2]; exact mvB_01
      · rw [(ed.2.2 i i0 i1 q).2]; exact Or.inl rfl
    · have q : i < V 3 3 ∧ V 8 i ≠ 0 := by
        by_cases q : i < V 3 3 ∧ V 8 i ≠ 0
        · exact q
        · have := (ed.2.2 i i0 i1 q).1
          omega
      have pe := (ed.2.1 i i0 q.1 q.2).1
      have gd := rs_gd hW ⟨i0, q.1⟩
      have b := put_bd hW.1 gd pe k0 k1
      have hz : 0 ≤ i * 3 + k ∧ i * 3 + k < 36 := ⟨by omega, by omega⟩
      have ht : ∀ (k' : Nat) z, 13 ≤ k' → k' ≤ 18 → 0 ≤ z → z < 36 → V' k' z = E k' z := fun k' z z1 z2 z3 z4 => h10 k' (by omega) z2 _ z3 (by rw [lt k' z1 z2]; exact z4)
      rw [ht 13 _ (by omega) (by omega) hz.1 hz.2, ht 14 _ (by omega) (by omega) hz.1 hz.2, ht 15 _ (by omega) (by omega) hz.1 hz.2, ht 16 _ (by omega) (by omega) hz.1 hz.2, ht 17 _ (by omega) (by omega) hz.1 hz.2, ht 18 _ (by omega) (by omega) hz.1 hz.2]
      refine ⟨b.1, b.2.1, b.2.2.1, b.2.2.2.1, b.2.2.2.2, fun k' k0' k1' kn => ?_⟩
      rw [ht 13 _ (by omega) (by omega) (by omega) (by omega)]
      have e11 := pe.1
      have hl : k.toNat < (rsL V i).length := by omega
      have hl' : k'.toNat < (rsL V i).length := by omega
      have ek : ((k.toNat : Nat) : Int) = k := by omega
      have ek' : ((k'.toNat : Nat) : Int) = k' := by omega
      have x1 := (pe.2 k.toNat _ (List.getElem?_eq_getElem hl)).1
      have x1' := (pe.2 k'.toNat _ (List.getElem?_eq_getElem hl')).1
      rw [ek] at x1
      rw [ek'] at x1'
      rw [x1, x1']
      have pw := List.pairwise_iff_getElem.1 gd.2.2
      rcases (show k.toNat < k'.toNat ∨ k'.toNat < k.toNat by omega) with u | u
      · exact fun e => pw k.toNat k'.toNat hl hl' u e.symm
      · exact pw k'.toNat k.toNat hl' hl u
