-- one story's numbers change
theorem PRel.story {V V' : Nat → Int → Int} {s s' : Int → Int} {t x : Int} (hw : PWf V t) (hP : PRel V s) (hx : 0 ≤ x ∧ x < V 3 3) (hV3 : V' 3 = V 3) (hVe : ∀ k, 10 ≤ k → V' k = V k) (hVo : ∀ k i, 4 ≤ k → k ≤ 9 → k ≠ 7 → i ≠ x → V' k i = V k i) (hV7 : ∀ z, ¬ (x * 8 ≤ z ∧ z < x * 8 + 8) → V' 7 z = V 7 z)
    (hs : ∀ j, ¬ (4 + 13 * x ≤ j ∧ j < 17 + 13 * x) → s' j = s j) (hSx : SRel V' s' x) : PRel V' s' := by
  have hc := hw.1.2.2.2.1
  have h10 := hVe 10 (by omega)
  refine ⟨?_, fun i h1 h2 => ?_⟩
  · rw [hV3, h10, hs 0 (by omega), hs 1 (by omega), hs 2 (by omega), hs 3 (by omega), hs 160 (by omega), hs 161 (by omega), hs 162 (by omega), hs 163 (by omega)]
    exact hP.1
  · rw [hV3] at h2
    obtain ⟨a, b⟩ := hP.2 i h1 h2
    have he : ERel V' s' i := by
      unfold ERel at *
      rw [hVe 11 (by omega), hVe 12 (by omega), hVe 13 (by omega), hVe 14 (by omega), hVe 15 (by omega), hVe 16 (by omega), hVe 17 (by omega), hVe 18 (by omega), hs (164 + 20 * i) (by omega), hs (164 + 20 * i + 1) (by omega)]
      refine ⟨b.1, b.2.1, fun k q1 q2 => ?_⟩
      rw [hs (166 + 20 * i + 6 * k) (by omega), hs (166 + 20 * i + 6 * k + 1) (by omega), hs (166 + 20 * i + 6 * k + 2) (by omega), hs (166 + 20 * i + 6 * k + 3) (by omega), hs (166 + 20 * i + 6 * k + 4) (by omega), hs (166 + 20 * i + 6 * k + 5) (by omega)]
      exact b.2.2 k q1 q2
    by_cases hi : i = x
    · rw [hi] at he ⊢
      exact ⟨hSx, he⟩
    · refine ⟨?_, he⟩
      have h8 := (hw.2.1 i h1 h2).2.2.1
      unfold SRel at a ⊢
      rw [hVe 11 (by omega), hVo 4 i (by omega) (by omega) (by omega) hi, hVo 5 i (by omega) (by omega) (by omega) hi, hVo 6 i (by omega) (by omega) (by omega) hi, hVo 8 i (by omega) (by omega) (by omega) hi, hVo 9 i (by omega) (by omega) (by omega) hi, hs (4 + 13 * i) (by omega), hs (4 + 13 * i + 1) (by omega), hs (4 + 13 * i + 2) (by omega), hs (4 + 13 * i + 3) (by omega), hs (4 + 13 * i + 4) (by omega)]
      refine ⟨a.1, a.2.1, a.2.2.1, a.2.2.2.1, a.2.2.2.2.1, fun j q1 q2 => ?_⟩
      rw [hs (9 + 13 * i + j) (by omega), hV7 (i * 8 + j) (by omega)]
      exact a.2.2.2.2.2 j q1 q2
theorem PWf.story {V V' : Nat → Int → Int} {t x : Int} (hw : PWf V t) (hx : 0 ≤ x ∧ x < V 3 3) (hV3 : V' 3 = V 3) (hVe : ∀ k, 10 ≤ k → V' k = V k) (hVo : ∀ k i, 4 ≤ k → k ≤ 9 → k ≠ 7 → i ≠ x → V' k i = V k i) (hV7 : ∀ z, ¬ (x * 8 ≤ z ∧ z < x * 8 + 8) → V' 7 z = V 7 z) (hSx : SWf V' x) : PWf V' t := by
  have h10 := hVe 10 (by omega)
  refine ⟨?_, fun i h1 h2 => ?_, fun i h1 h2 => ?_⟩
  · unfold HWf
    rw [hV3, h10]
    exact hw.1
  · rw [hV3] at h2
    by_cases hi : i = x
    · rw [hi]; exact hSx
    · have a := hw.2.1 i h1 h2
      unfold SWf at a ⊢
      rw [hVe 11 (by omega), hV3, h10, hVo 4 i (by omega) (by omega) (by omega) hi, hVo 5 i (by omega) (by omega) (by omega) hi, hVo 6 i (by omega) (by omega) (by omega) hi, hVo 8 i (by omega) (by omega) (by omega) hi, hVo 9 i (by omega) (by omega) (by omega) hi]
      refine ⟨a.1, a.2.1, a.2.2.1, a.2.2.2.1, a.2.2.2.2.1, fun j q1 q2 => ?_, a.2.2.2.2.2.2⟩
      have h8 := a.2.2.1
      rw [hV7 (i * 8 + j) (by omega)]
      exact a.2.2.2.2.2.1 j q1 q2
  · have a := hw.2.2 i h1 h2
    unfold EWf at a ⊢
    rw [hV3, h10, hVe 11 (by omega), hVe 12 (by omega), hVe 13 (by omega), hVe 14 (by omega), hVe 15 (by omega), hVe 16 (by omega), hVe 17 (by omega), hVe 18 (by omega)]
    exact a
/-- what the class's save says -/
def SavC (m mA : MI) (sh : Int) : Prop := (sh = if m 1 0 3 = 6 then 1 else 0) ∧ (∀ k r, k ≠ 1 → k ≠ 2 → ¬ (3 ≤ k ∧ k ≤ 18 ∧ r = mA 2 0 (m 1 0 3 - sh)) → mA k r = m k r) ∧ mA 1 0 3 = m 1 0 3 - sh + 1 ∧ SvOK mA ∧ (∀ i, 0 ≤ i → i < m 1 0 3 - sh → mA 2 0 i = m 2 0 (i + sh)) ∧ CpEq 3 mA m (mA 2 0 (m 1 0 3 - sh)) 0
/-- what the reference's says -/
def SavR (m mC : MI) (sh : Int) : Prop := (sh = if m 25 0 2 = 6 then 1 else 0) ∧ (∀ k, k ≠ 25 → k ≠ 27 → mC k = m k) ∧ (∀ f, f ≠ 2 → mC 25 0 f = m 25 0 f) ∧ mC 25 0 2 = m 25 0 2 - sh + 1 ∧ (∀ i, 0 ≤ i → i < 404 * (m 25 0 2 - sh) → mC 27 0 i = m 27 0 (i + 404 * sh)) ∧ (∀ i, 0 ≤ i → i < 404 → mC 27 0 (404 * (m 25 0 2 - sh) + i) = m 26 0 i)
theorem c_save {Γ : GG} {d : Nat} {m : MI} {n : ML} {post : PO} {t : Int} {mm : MI} (hs : Stk t m mm) (K : ∀ m' sh, SavC m m' sh → post none m' n) : CM Γ (d + 4) 82 [vr 1 0] m n post :=
  c_saveState hs.1 hs.2.2.1 (fun m' sh h1 h2 h3 h4 h5 h6 => K m' sh ⟨h1, h2, h3, h4, h5, h6⟩)
theorem r_save {Γ : GG} {d : Nat} {m : MI} {n : ML} {post : PO} (hp : 0 ≤ m 25 0 2 ∧ m 25 0 2 ≤ 6) (K : ∀ m' sh, SavR m m' sh → post none m' n) : CM Γ d 90 [vr 25 0] m n post :=
  r_notes hp (fun m' sh h1 h2 h3 h4 h5 h6 => K m' sh ⟨h1, h2, h3, h4, h5, h6⟩)
/-- the class's save leaves the present paper and all else -/
theorem SavC.now {m mA : MI} {sh t : Int} {mm : MI} (h : SavC m mA sh) (hs : Stk t m mm) : (∀ k, k ≠ 1 → k ≠ 2 → mA k 0 = m k 0) ∧ (∀ k, 19 ≤ k → mA k = m k) ∧ mA 0 = m 0 := by
  have hb : 0 ≤ m 1 0 3 - sh ∧ m 1 0 3 - sh ≤ 5 := by
    have e1 := h.1
    have := hs.1
    by_cases q : m 1 0 3 = 6
    · rw [if_pos q] at e1; omega
    · rw [if_neg q] at e1; omega
  have hq := h.2.2.2.1.1 _ hb.1 (by omega)
  refine ⟨fun k k1 k2 => h.2.1 k 0 k1 k2 (fun z => by omega), fun k k1 => ?_, ?_⟩
  · funext r
    exact h.2.1 k r (by omega) (by omega) (fun z => by omega)
  · funext r
    exact h.2.1 0 r (by omega) (by omega) (fun z => by omega)
/-- a turn that saves and then changes numbers of the present paper: the class m -> mA -> mB, the reference mB -> mC -> mD -/
theorem sim_step {t sh sh2 : Int} {m mA mB mC mD : MI} (hS : Sim t m m) (hA : SavC m mA sh) (hB : ∀ k r, ¬ (3 ≤ k ∧ k ≤ 18 ∧ r = 0) → mB k r = mA k r) (hC : SavR mB mC sh2) (hD : ∀ k, k ≠ 26 → mD k = mC k) (hP : PRel (Vw mB 0) (mD 26 0)) (hw : PWf (Vw mB 0) (t + 1)) : Sim (t + 1) mD mD := by
  obtain ⟨⟨p1, p2⟩, s1, x1⟩ := hS
  obtain ⟨a0, a1, a2⟩ := hA.now s1
  have c1 : ∀ k, k ≠ 25 → k ≠ 26 → k ≠ 27 → mD k = mB k := fun k q1 q2 q3 => by rw [hD k q2, hC.2.1 k q1 q3]
  have bk : ∀ k, 19 ≤ k → mB k = m k := fun k q => by
    rw [← a1 k q]; funext r; exact hB k r (fun z => by omega)
  have b25 : mB 25 = m 25 := bk 25 (by omega)
  have b1 : mB 1 = mA 1 := by funext r; exact hB 1 r (fun z => by omega)
  have b2 : mB 2 = mA 2 := by funext r; exact hB 2 r (fun z => by omega)
  have hsh := hA.1
  have hb : 0 ≤ m 1 0 3 - sh ∧ m 1 0 3 - sh ≤ 5 := by
    have := s1.1
    by_cases q : m 1 0 3 = 6
    · rw [if_pos q] at hsh; omega
    · rw [if_neg q] at hsh; omega
  have hVD : Vw mD 0 = fun k i => mD k 0 i := rfl
  have eV : ∀ k, k ≤ 18 → ∀ r, mD k r = mB k r := fun k q r => by rw [c1 k (by omega) (by omega) (by omega)]
  refine ⟨⟨?_, ?_⟩, ?_, ?_⟩
  · exact hP.congr (V' := Vw mD 0) (fun k k1 k2 j _ _ => by show mD k 0 j = mB k 0 j; rw [eV k k2]) (fun _ _ _ => rfl) hw
  · exact hw.congr (V' := Vw mD 0) (fun k k1 k2 j _ _ => by show mD k 0 j = mB k 0 j; rw [eV k k2])
  · -- the saved ones
    have base : Stk t mA mC := by
      refine Stk.save p1 p2 s1 hA.1 hA.2.1 hA.2.2.1 hA.2.2.2.1 hA.2.2.2.2.1 hA.2.2.2.2.2 (sh' := sh2) (by rw [← b25]; exact hC.1) (by rw [← b25]; exact hC.2.2.2.1) (fun i q1 q2 => ?_) (fun i q1 q2 => ?_)
      · rw [hC.2.2.2.2.1 i q1 (by rw [b25]; exact q2), bk 27 (by omega)]
      · rw [← b25, hC.2.2.2.2.2 i q1 q2, bk 26 (by omega)]
    refine Stk.mono (by omega) (Stk.frame (mc := mA) (mm := mC) (fun k p q1 q2 => ?_) (by rw [hD 25 (by omega)]) (hD 27 (by omega)) base)
    rw [eV k q1, hB k p (fun z => by omega)]
  · obtain ⟨y1, y2, y3⟩ := x1
    have d19 : mD 19 = m 19 := by rw [c1 19 (by omega) (by omega) (by omega), bk 19 (by omega)]
    have d20 : mD 20 = m 20 := by rw [c1 20 (by omega) (by omega) (by omega), bk 20 (by omega)]
    have d28 : mD 28 = m 28 := by rw [c1 28 (by omega) (by omega) (by omega), bk 28 (by omega)]
    have d25 : mD 25 0 4 = m 25 0 4 := by rw [hD 25 (by omega), hC.2.2.1 4 (by omega), b25]
    unfold Txt
    rw [d19, d20, d28, d25]
    exact ⟨y1, y2, y3⟩
/-- .. of one story -/
theorem sim_mut1 {t sh sh2 x : Int} {m mA mB mC mD : MI} (hS : Sim t m m) (hx : 0 ≤ x ∧ x < m 3 0 3) (hA : SavC m mA sh) (hB : ∀ k r, ¬ (4 ≤ k ∧ k ≤ 9 ∧ r = 0) → mB k r = mA k r) (hBo : ∀ k i, 4 ≤ k → k ≤ 9 → k ≠ 7 → i ≠ x → mB k 0 i = mA k 0 i) (hB7 : ∀ z, ¬ (x * 8 ≤ z ∧ z < x * 8 + 8) → mB 7 0 z = mA 7 0 z)
    (hC : SavR mB mC sh2) (hD : ∀ k, k ≠ 26 → mD k = mC k) (hDs : ∀ j, ¬ (4 + 13 * x ≤ j ∧ j < 17 + 13 * x) → mD 26 0 j = mC 26 0 j) (hR : SRel (Vw mB 0) (mD 26 0) x) (hW : SWf (Vw mB 0) x) : Sim (t + 1) mD mD := by
  obtain ⟨a0, a1, a2⟩ := hA.now hS.2.1
  have e3 : Vw mB 0 3 = Vw m 0 3 := by show mB 3 0 = m 3 0; rw [hB 3 0 (fun z => by omega), a0 3 (by omega) (by omega)]
  have ee : ∀ k, 10 ≤ k → Vw mB 0 k = Vw m 0 k := fun k q => by show mB k 0 = m k 0; rw [hB k 0 (fun z => by omega), a0 k (by omega) (by omega)]
  have eo : ∀ k i, 4 ≤ k → k ≤ 9 → k ≠ 7 → i ≠ x → Vw mB 0 k i = Vw m 0 k i := fun k i q1 q2 q3 q4 => by show mB k 0 i = m k 0 i; rw [hBo k i q1 q2 q3 q4, a0 k (by omega) (by omega)]
  have e7 : ∀ z, ¬ (x * 8 ≤ z ∧ z < x * 8 + 8) → Vw mB 0 7 z = Vw m 0 7 z := fun z q => by show mB 7 0 z = m 7 0 z; rw [hB7 z q, a0 7 (by omega) (by omega)]
  have e26 : mC 26 0 = m 26 0 := by
    rw [hC.2.1 26 (by omega) (by omega), hB 26 0 (fun z => by omega), a1 26 (by omega)]
  refine sim_step hS hA (fun k r q => hB k r (fun z => q ⟨by omega, by omega, z.2.2⟩)) hC hD ?_ ?_
  · exact hS.1.1.story hS.1.2 hx e3 ee eo e7 (fun j q => by rw [hDs j q, e26]) hR
  · exact (hS.1.2.story hx e3 ee eo e7 hW).mono (by omega)
