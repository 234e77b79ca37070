-- THE INVARIANT OF THE PROPERTY
/-- first paragraphs add up; no line has two stories -/
def XWf (V : Nat → Int → Int) : Prop := (∀ i, 0 ≤ i → i < 12 → ∀ k, 0 ≤ k → k < V 11 i → V 17 (i * 3 + k) = Sm (fun j => V 18 (i * 3 + j)) 0 k) ∧ ∀ i i' c l, 0 ≤ i → i < 12 → 0 ≤ i' → i' < 12 → i ≠ i' → OnP V i c l → OnP V i' c l → False
def Good (t : Int) (V : Nat → Int → Int) : Prop := PWf V t ∧ XWf V
theorem OnP.congr {V V' : Nat → Int → Int} {i c l t : Int} (h : VEq V' V) (hw : PWf V t) (hi : 0 ≤ i ∧ i < 12) (ho : OnP V' i c l) : OnP V i c l := by
  obtain ⟨k, k0, k1, k2, k3, k4⟩ := ho
  have e := h 11 (by omega) (by omega) i hi.1 hi.2
  rw [e] at k1
  have b := (hw.2.2 i hi.1 hi.2).1
  have z0 : 0 ≤ i * 3 + k := by omega
  have z1 : i * 3 + k < 36 := by omega
  rw [ekind h (k := 15) (by omega) (by omega) z0 z1] at k3 k4
  rw [ekind h (k := 16) (by omega) (by omega) z0 z1] at k4
  rw [ekind h (k := 13) (by omega) (by omega) z0 z1, ekind h (k := 14) (by omega) (by omega) z0 z1] at k2
  exact ⟨k, k0, k1, k2, k3, k4⟩
theorem Good.congr {V V' : Nat → Int → Int} {t : Int} (h : VEq V' V) (g : Good t V) : Good t V' := by
  refine ⟨g.1.congr h, fun i i0 i1 k k0 k1 => ?_, fun i i' c l i0 i1 j0 j1 hn a b => g.2.2 i i' c l i0 i1 j0 j1 hn (a.congr h g.1 ⟨i0, i1⟩) (b.congr h g.1 ⟨j0, j1⟩)⟩
  rw [h 11 (by omega) (by omega) i i0 i1] at k1
  have b := (g.1.2.2 i i0 i1).1
  rw [ekind h (k := 17) (by omega) (by omega) (by omega) (by omega), g.2.1 i i0 i1 k k0 k1]
  exact Sm_congr fun j j0 j1 => (ekind h (k := 18) (by omega) (by omega) (by omega) (by omega)).symm
theorem Good.mono {V : Nat → Int → Int} {t t' : Int} (h : t ≤ t') (g : Good t V) : Good t' V := ⟨g.1.mono h, g.2⟩
/-- the edition is as it was -/
theorem XWf.same {V V' : Nat → Int → Int} (h : ∀ k, 10 ≤ k → k ≤ 18 → V' k = V k) (g : XWf V) : XWf V' := by
  unfold XWf OnP at *
  rw [h 11 (by omega) (by omega), h 13 (by omega) (by omega), h 14 (by omega) (by omega), h 15 (by omega) (by omega), h 16 (by omega) (by omega), h 17 (by omega) (by omega), h 18 (by omega) (by omega)]
  exact g
def Inv (t : Int) (m : MI) : Prop := Good t (Vw m 0) ∧ (0 ≤ m 1 0 3 ∧ m 1 0 3 ≤ 6) ∧ SvOK m ∧ (∀ i, 0 ≤ i → i < m 1 0 3 → Good t (Vw m (m 2 0 i))) ∧ (0 ≤ m 19 0 0 ∧ m 19 0 0 ≤ 120)
theorem Inv.mono {t t' : Int} {m : MI} (h : t ≤ t') (g : Inv t m) : Inv t' m := ⟨g.1.mono h, g.2.1, g.2.2.1, fun i i0 i1 => (g.2.2.2.1 i i0 i1).mono h, g.2.2.2.2⟩
theorem inv_cnt {t : Int} {m : MI} (h : Inv t m) : 0 ≤ m 3 0 3 ∧ m 3 0 3 ≤ 12 ∧ 0 ≤ m 1 0 3 ∧ m 1 0 3 ≤ 6 := by
  have h1 := h.1.1.1.2.2.2.1
  exact ⟨h1.1, h1.2, h.2.1.1, h.2.1.2⟩
/-- what questions leave -/
def FrT (m m' : MI) : Prop := (∀ k, k < 3 ∨ (19 ≤ k ∧ k ≤ 20) → m' k = m k) ∧ ∀ r, r ≠ 8 → VEq (Vw m' r) (Vw m r)
theorem FrT.refl {m : MI} : FrT m m := ⟨fun _ _ => rfl, fun _ _ _ _ _ _ _ _ => rfl⟩
theorem FrT.trans {m m1 m2 : MI} (h : FrT m m1) (g : FrT m1 m2) : FrT m m2 := ⟨fun k z => by rw [g.1 k z, h.1 k z], fun r z k k1 k2 i i0 i1 => by rw [g.2 r z k k1 k2 i i0 i1, h.2 r z k k1 k2 i i0 i1]⟩
theorem FrT.nrm (m : MI) : FrT m (nrm m) := ⟨fun k z => nrm_out (by omega), fun r _ k k1 k2 i i0 i1 => nrm_in ⟨i0, i1⟩⟩
theorem Inv.fr {t : Int} {m m' : MI} (h : Inv t m) (f : FrT m m') : Inv t m' := by
  obtain ⟨h1, h2, h3, h4, h5⟩ := h
  have e1 : m' 1 = m 1 := f.1 1 (by omega)
  have e2 : m' 2 = m 2 := f.1 2 (by omega)
  refine ⟨h1.congr (f.2 0 (by omega)), by rw [e1]; exact h2, ?_, fun i i0 i1 => ?_, by rw [f.1 19 (by omega)]; exact h5⟩
  · unfold SvOK
    rw [e2]
    exact h3
  · rw [e1] at i1
    rw [e2]
    have b := h3.1 i i0 (by omega)
    exact (h4 i i0 i1).congr (f.2 _ (by omega))
/-- the class's save leaves the present paper and all else -/
theorem SavC.at {m mA : MI} {sh : Int} (h : SavC m mA sh) (hc : 0 ≤ m 1 0 3 ∧ m 1 0 3 ≤ 6) : (0 ≤ m 1 0 3 - sh ∧ m 1 0 3 - sh ≤ 5) ∧ (∀ k, k ≠ 1 → k ≠ 2 → mA k 0 = m k 0) ∧ (∀ k, 19 ≤ k → mA k = m k) ∧ mA 0 = m 0 := by
  have hb : 0 ≤ m 1 0 3 - sh ∧ m 1 0 3 - sh ≤ 5 := by
    have e1 := h.1
    by_cases q : m 1 0 3 = 6
    · rw [if_pos q] at e1; omega
    · rw [if_neg q] at e1; omega
  have hq := h.2.2.2.1.1 _ hb.1 (by omega)
  refine ⟨hb, fun k k1 k2 => h.2.1 k 0 k1 k2 (fun z => by omega), fun k k1 => ?_, ?_⟩
  · funext r
    exact h.2.1 k r (by omega) (by omega) (fun z => by omega)
  · funext r
    exact h.2.1 0 r (by omega) (by omega) (fun z => by omega)
/-- a change that was saved -/
def Step (t : Int) (m m' : MI) : Prop := ∃ mA sh, SavC m mA sh ∧ (∀ k r, k ≤ 20 → (k < 3 ∨ 19 ≤ k ∨ (r ≠ 0 ∧ r ≠ 8)) → m' k r = mA k r) ∧ Good (t + 1) (Vw m' 0)
/-- what can be undone -/
def Bef (m m' : MI) : Prop := 0 < m' 1 0 3 ∧ VEq (Vw m' (m' 2 0 (m' 1 0 3 - 1))) (Vw m 0) ∧ m' 19 0 0 = m 19 0 0
theorem Step.inv {t : Int} {m m' : MI} (hI : Inv t m) (h : Step t m m') : Inv (t + 1) m' ∧ m' 1 0 3 = (if m 1 0 3 < 6 then m 1 0 3 + 1 else 6) ∧ Bef m m' := by
  obtain ⟨mA, sh, hA, hF, hG⟩ := h
  obtain ⟨i1, i2, i3, i4, i5⟩ := hI
  obtain ⟨hb, a0, a1, a2⟩ := hA.at i2
  obtain ⟨s1, s2, s3, s4, s5, s6⟩ := hA
  have e1 : m' 1 0 3 = m 1 0 3 - sh + 1 := by rw [hF 1 0 (by omega) (by omega), s3]
  have e2 : m' 2 0 = mA 2 0 := hF 2 0 (by omega) (by omega)
  have e19 : m' 19 0 = m 19 0 := by rw [hF 19 0 (by omega) (by omega), a1 19 (by omega)]
  have hp := s4.1 (m 1 0 3 - sh) hb.1 (by omega)
  have hV : VEq (Vw m' (mA 2 0 (m 1 0 3 - sh))) (Vw m 0) := fun k k1 k2 j j0 j1 => by
    show m' k (mA 2 0 (m 1 0 3 - sh)) j = m k 0 j
    rw [hF k _ (by omega) (by omega)]
    exact s6 k k1 k2 j j0 j1
  refine ⟨⟨hG, by omega, ?_, fun i q0 q1 => ?_, by rw [e19]; exact i5⟩, ?_, by omega, ?_, by rw [e19]⟩
  · unfold SvOK
    rw [e2]
    exact s4
  · rw [e2]
    by_cases hi : i = m 1 0 3 - sh
    · rw [hi]
      exact (i1.mono (by omega)).congr hV
    · have hi2 : i < m 1 0 3 - sh := by omega
      have hq := s4.1 i q0 (by omega)
      have hne : mA 2 0 i ≠ mA 2 0 (m 1 0 3 - sh) := fun z => hi (s4.2 i (m 1 0 3 - sh) q0 (by omega) (by omega) (by omega) z)
      have hs : 0 ≤ sh ∧ sh ≤ 1 := by
        rw [s1]
        split <;> omega
      refine ((i4 (i + sh) (by omega) (by omega)).mono (by omega)).congr (fun k k1 k2 j _ _ => ?_)
      show m' k (mA 2 0 i) j = m k (m 2 0 (i + sh)) j
      rw [hF k _ (by omega) (by omega), s2 k _ (by omega) (by omega) (fun z => hne z.2.2), s5 i q0 hi2]
  · rw [e1, s1]
    (repeat' split) <;> omega
  · rw [e1, e2, show m 1 0 3 - sh + 1 - 1 = m 1 0 3 - sh by omega]
    exact hV
theorem Bef.fr {m m' m2 : MI} {t : Int} (hI : Inv t m') (h : Bef m m') (f : FrT m' m2) : Bef m m2 := by
  obtain ⟨h0, h1, h2⟩ := h
  have e1 : m2 1 = m' 1 := f.1 1 (by omega)
  have e2 : m2 2 = m' 2 := f.1 2 (by omega)
  have b := hI.2.2.1.1 (m' 1 0 3 - 1) (by omega) (by have := hI.2.1; omega)
  refine ⟨by rw [e1]; exact h0, fun k k1 k2 j j0 j1 => ?_, by rw [f.1 19 (by omega)]; exact h2⟩
  rw [e1, e2, f.2 _ (by omega) k k1 k2 j j0 j1]
  exact h1 k k1 k2 j j0 j1
/-- undo -/
theorem op_undo {Γ : GG} {d : Nat} {m m' : MI} {n : ML} {post : PO} {t : Int} (hI : Inv t m') (h : Bef m m') (K : ∀ m2 n2, Inv t m2 → m2 1 0 3 = m' 1 0 3 - 1 → VEq (Vw m2 0) (Vw m 0) → m2 19 0 0 = m 19 0 0 → post (some (vi (m' 1 0 3 - 1))) m2 n2) : CM Γ (d + 4) 62 [vr 1 0] m' n post := by
  obtain ⟨h0, h1, h2⟩ := h
  obtain ⟨i1, i2, i3, i4, i5⟩ := hI
  refine c_undo i2 i3 (fun z => absurd z (by omega)) (fun _ m2 q1 q2 q3 => ?_)
  have e2 : m2 2 = m' 2 := by funext r; exact q1 2 r (by omega) (by omega)
  have hb := i3.1 (m' 1 0 3 - 1) (by omega) (by omega)
  have hV : VEq (Vw m2 0) (Vw m' (m' 2 0 (m' 1 0 3 - 1))) := fun k k1 k2 j j0 j1 => q3 k k1 k2 j j0 j1
  refine K m2 n ⟨(i4 _ (by omega) (by omega)).congr hV, by omega, ?_, fun i z0 z1 => ?_, by rw [q1 19 0 (by omega) (by omega)]; exact i5⟩ q2 (fun k k1 k2 j j0 j1 => by rw [hV k k1 k2 j j0 j1, h1 k k1 k2 j j0 j1]) (by rw [q1 19 0 (by omega) (by omega)]; exact h2)
  · unfold SvOK
    rw [e2]
    exact i3
  · rw [e2]
    have b := i3.1 i z0 (by omega)
    refine (i4 i z0 (by omega)).congr (fun k k1 k2 j _ _ => ?_)
    show m2 k (m' 2 0 i) j = m' k (m' 2 0 i) j
    rw [q1 k _ (by omega) (by omega)]
