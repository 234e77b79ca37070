-- THE RELATION of the class's memory and the reference's
def SRel (V : Nat → Int → Int) (s : Int → Int) (i : Int) : Prop :=
  s (4 + 13 * i) = V 4 i ∧ s (4 + 13 * i + 1) = V 5 i ∧ s (4 + 13 * i + 2) = V 8 i ∧ (0 < V 11 i → s (4 + 13 * i + 3) = V 9 i) ∧ s (4 + 13 * i + 4) = V 6 i ∧ ∀ j, 0 ≤ j → j < V 6 i → s (9 + 13 * i + j) = V 7 (i * 8 + j)
def ERel (V : Nat → Int → Int) (s : Int → Int) (i : Int) : Prop :=
  s (164 + 20 * i) = (if V 11 i = -1 then -9 else V 11 i) ∧ s (164 + 20 * i + 1) = V 12 i ∧ ∀ k, 0 ≤ k → k < V 11 i →
    s (166 + 20 * i + 6 * k) = V 13 (i * 3 + k) ∧ s (166 + 20 * i + 6 * k + 1) = V 14 (i * 3 + k) ∧ s (166 + 20 * i + 6 * k + 2) = V 15 (i * 3 + k) ∧ s (166 + 20 * i + 6 * k + 3) = V 16 (i * 3 + k) ∧ s (166 + 20 * i + 6 * k + 4) = V 17 (i * 3 + k) ∧ s (166 + 20 * i + 6 * k + 5) = V 18 (i * 3 + k)
def PRel (V : Nat → Int → Int) (s : Int → Int) : Prop :=
  (s 0 = V 3 0 ∧ s 1 = V 3 1 ∧ s 2 = V 3 2 ∧ s 3 = V 3 3 ∧ s 160 = V 10 0 ∧ (0 < V 10 0 → s 161 = V 10 1 ∧ s 162 = V 10 2 ∧ s 163 = V 10 3)) ∧ ∀ i, 0 ≤ i → i < V 3 3 → SRel V s i ∧ ERel V s i
/-- a story's own numbers are in their ranges -/
def SWf (V : Nat → Int → Int) (i : Int) : Prop :=
  (1 ≤ V 4 i ∧ V 4 i ≤ 99) ∧ (0 ≤ V 5 i ∧ V 5 i < V 3 0) ∧ (1 ≤ V 6 i ∧ V 6 i ≤ 8) ∧ (V 8 i = 0 ∨ V 8 i = 1) ∧ (V 9 i = 0 ∨ V 9 i = 1) ∧ (∀ j, 0 ≤ j → j < V 6 i → 1 ≤ V 7 (i * 8 + j) ∧ V 7 (i * 8 + j) ≤ 30) ∧
  (V 9 i = 0 → 0 < V 10 0 ∧ V 10 1 = V 3 0 ∧ V 10 2 = V 3 1 ∧ V 10 3 = V 3 2) ∧ (V 8 i = 0 → 0 < V 11 i → V 9 i = 1)
def EWf (V : Nat → Int → Int) (i : Int) : Prop :=
  (-1 ≤ V 11 i ∧ V 11 i ≤ 3) ∧ (V 12 i = 0 ∨ V 12 i = 1) ∧ (V 10 0 = 0 → V 11 i = -1) ∧ (V 3 3 ≤ i → V 11 i = -1 ∧ V 12 i = 0) ∧
  ∀ k, 0 ≤ k → k < V 11 i → (0 ≤ V 13 (i * 3 + k) ∧ V 13 (i * 3 + k) < V 10 1) ∧ (0 ≤ V 14 (i * 3 + k) ∧ V 14 (i * 3 + k) < V 10 2) ∧ (0 ≤ V 15 (i * 3 + k) ∧ 1 ≤ V 16 (i * 3 + k) ∧ V 15 (i * 3 + k) + V 16 (i * 3 + k) ≤ V 10 3) ∧ (0 ≤ V 17 (i * 3 + k) ∧ V 17 (i * 3 + k) ≤ 8) ∧ (1 ≤ V 18 (i * 3 + k) ∧ V 18 (i * 3 + k) ≤ 8) ∧ ∀ k', 0 ≤ k' → k' < V 11 i → k' ≠ k → V 13 (i * 3 + k') ≠ V 13 (i * 3 + k)
def HWf (V : Nat → Int → Int) (t : Int) : Prop :=
  (2 ≤ V 3 0 ∧ V 3 0 ≤ 5) ∧ (1 ≤ V 3 1 ∧ V 3 1 ≤ 4) ∧ (10 ≤ V 3 2 ∧ V 3 2 ≤ 60) ∧ (0 ≤ V 3 3 ∧ V 3 3 ≤ 12) ∧ (0 ≤ V 10 0 ∧ V 10 0 ≤ t) ∧ (0 < V 10 0 → (2 ≤ V 10 1 ∧ V 10 1 ≤ 5) ∧ (1 ≤ V 10 2 ∧ V 10 2 ≤ 4) ∧ (10 ≤ V 10 3 ∧ V 10 3 ≤ 60))
def PWf (V : Nat → Int → Int) (t : Int) : Prop := HWf V t ∧ (∀ i, 0 ≤ i → i < V 3 3 → SWf V i) ∧ ∀ i, 0 ≤ i → i < 12 → EWf V i
def VEq (V' V : Nat → Int → Int) : Prop := ∀ k, 3 ≤ k → k ≤ 18 → ∀ i, 0 ≤ i → i < lenK k → V' k i = V k i
theorem lenK_3 : lenK 3 = 4 := by decide
theorem lenK_10 : lenK 10 = 4 := by decide
theorem HWf.congr {V V' : Nat → Int → Int} {t : Int} (h : VEq V' V) (hw : HWf V t) : HWf V' t := by
  unfold HWf at *
  rw [h 3 (by omega) (by omega) 0 (by omega) (by decide), h 3 (by omega) (by omega) 1 (by omega) (by decide), h 3 (by omega) (by omega) 2 (by omega) (by decide), h 3 (by omega) (by omega) 3 (by omega) (by decide), h 10 (by omega) (by omega) 0 (by omega) (by decide), h 10 (by omega) (by omega) 1 (by omega) (by decide), h 10 (by omega) (by omega) 2 (by omega) (by decide), h 10 (by omega) (by omega) 3 (by omega) (by decide)]
  exact hw
theorem SWf.congr {V V' : Nat → Int → Int} {i : Int} (h : VEq V' V) (hi : 0 ≤ i ∧ i < 12) (hw : SWf V i) : SWf V' i := by
  have g : ∀ k, 4 ≤ k → k ≤ 9 → k ≠ 7 → V' k i = V k i := fun k h1 h2 h3 => by
    rcases (show k = 4 ∨ k = 5 ∨ k = 6 ∨ k = 8 ∨ k = 9 by omega) with rfl | rfl | rfl | rfl | rfl <;> exact h _ (by omega) (by omega) i hi.1 hi.2
  unfold SWf at *
  rw [h 11 (by omega) (by omega) i hi.1 hi.2, g 4 (by omega) (by omega) (by omega), g 5 (by omega) (by omega) (by omega), g 6 (by omega) (by omega) (by omega), g 8 (by omega) (by omega) (by omega), g 9 (by omega) (by omega) (by omega), h 3 (by omega) (by omega) 0 (by omega) (by decide), h 3 (by omega) (by omega) 1 (by omega) (by decide), h 3 (by omega) (by omega) 2 (by omega) (by decide), h 10 (by omega) (by omega) 0 (by omega) (by decide), h 10 (by omega) (by omega) 1 (by omega) (by decide), h 10 (by omega) (by omega) 2 (by omega) (by decide), h 10 (by omega) (by omega) 3 (by omega) (by decide)]
  obtain ⟨h1, h2, h3, h4, h5, h6, h7⟩ := hw
  refine ⟨h1, h2, h3, h4, h5, fun j q1 q2 => ?_, h7⟩
  rw [h 7 (by omega) (by omega) (i * 8 + j) (by omega) (show i * 8 + j < 96 by omega)]
  exact h6 j q1 q2
theorem ekind {V V' : Nat → Int → Int} (h : VEq V' V) {k : Nat} (h1 : 13 ≤ k) (h2 : k ≤ 18) {z : Int} (z0 : 0 ≤ z) (z1 : z < 36) : V' k z = V k z := by
  rcases k13 h1 h2 with rfl | rfl | rfl | rfl | rfl | rfl <;> exact h _ (by omega) (by omega) z z0 z1
theorem EWf.congr {V V' : Nat → Int → Int} {i : Int} (h : VEq V' V) (hi : 0 ≤ i ∧ i < 12) (hw : EWf V i) : EWf V' i := by
  unfold EWf at *
  rw [h 11 (by omega) (by omega) i hi.1 hi.2, h 12 (by omega) (by omega) i hi.1 hi.2, h 3 (by omega) (by omega) 3 (by omega) (by decide), h 10 (by omega) (by omega) 0 (by omega) (by decide), h 10 (by omega) (by omega) 1 (by omega) (by decide), h 10 (by omega) (by omega) 2 (by omega) (by decide), h 10 (by omega) (by omega) 3 (by omega) (by decide)]
  obtain ⟨h1, h2, h3, h4, h5⟩ := hw
  refine ⟨h1, h2, h3, h4, fun k q1 q2 => ?_⟩
  have z0 : 0 ≤ i * 3 + k := by omega
  have z1 : i * 3 + k < 36 := by omega
  rw [ekind h (k := 13) (by omega) (by omega) z0 z1, ekind h (k := 14) (by omega) (by omega) z0 z1, ekind h (k := 15) (by omega) (by omega) z0 z1, ekind h (k := 16) (by omega) (by omega) z0 z1, ekind h (k := 17) (by omega) (by omega) z0 z1, ekind h (k := 18) (by omega) (by omega) z0 z1]
  obtain ⟨a1, a2, a3, a4, a5, a6⟩ := h5 k q1 q2
  refine ⟨a1, a2, a3, a4, a5, fun k' r1 r2 r3 => ?_⟩
  rw [ekind h (k := 13) (by omega) (by omega) (show 0 ≤ i * 3 + k' by omega) (by omega)]
  exact a6 k' r1 r2 r3
theorem PWf.congr {V V' : Nat → Int → Int} {t : Int} (h : VEq V' V) (hw : PWf V t) : PWf V' t := by
  have hc := hw.1.2.2.2.1
  have e3 : V' 3 3 = V 3 3 := h 3 (by omega) (by omega) 3 (by omega) (by decide)
  exact ⟨hw.1.congr h, fun i h1 h2 => by rw [e3] at h2; exact (hw.2.1 i h1 h2).congr h ⟨h1, by omega⟩, fun i h1 h2 => (hw.2.2 i h1 h2).congr h ⟨h1, h2⟩⟩
theorem HWf.mono {V : Nat → Int → Int} {t t' : Int} (h : t ≤ t') (hw : HWf V t) : HWf V t' := by
  unfold HWf at *
  omega
theorem PWf.mono {V : Nat → Int → Int} {t t' : Int} (h : t ≤ t') (hw : PWf V t) : PWf V t' := ⟨hw.1.mono h, hw.2⟩
theorem SRel.congr {V V' : Nat → Int → Int} {s s' : Int → Int} {i : Int} (h : VEq V' V) (hs : ∀ j, 0 ≤ j → j < 404 → s' j = s j) (hi : 0 ≤ i ∧ i < 12) (h8 : V 6 i ≤ 8) (hw : SRel V s i) : SRel V' s' i := by
  unfold SRel at *
  rw [h 11 (by omega) (by omega) i hi.1 hi.2, h 4 (by omega) (by omega) i hi.1 hi.2, h 5 (by omega) (by omega) i hi.1 hi.2, h 6 (by omega) (by omega) i hi.1 hi.2, h 8 (by omega) (by omega) i hi.1 hi.2, h 9 (by omega) (by omega) i hi.1 hi.2,
    hs (4 + 13 * i) (by omega) (by omega), hs (4 + 13 * i + 1) (by omega) (by omega), hs (4 + 13 * i + 2) (by omega) (by omega), hs (4 + 13 * i + 3) (by omega) (by omega), hs (4 + 13 * i + 4) (by omega) (by omega)]
  obtain ⟨h1, h2, h3, h4, h5, h6⟩ := hw
  refine ⟨h1, h2, h3, h4, h5, fun j q1 q2 => ?_⟩
  rw [hs (9 + 13 * i + j) (by omega) (by omega), h 7 (by omega) (by omega) (i * 8 + j) (by omega) (show i * 8 + j < 96 by omega)]
  exact h6 j q1 q2
theorem ERel.congr {V V' : Nat → Int → Int} {s s' : Int → Int} {i : Int} (h : VEq V' V) (hs : ∀ j, 0 ≤ j → j < 404 → s' j = s j) (hi : 0 ≤ i ∧ i < 12) (h8 : V 11 i ≤ 3) (hw : ERel V s i) : ERel V' s' i := by
  unfold ERel at *
  rw [h 11 (by omega) (by omega) i hi.1 hi.2, h 12 (by omega) (by omega) i hi.1 hi.2, hs (164 + 20 * i) (by omega) (by omega), hs (164 + 20 * i + 1) (by omega) (by omega)]
  obtain ⟨h1, h2, h3⟩ := hw
  refine ⟨h1, h2, fun k q1 q2 => ?_⟩
  have z0 : 0 ≤ i * 3 + k := by omega
  have z1 : i * 3 + k < 36 := by omega
  rw [ekind h (k := 13) (by omega) (by omega) z0 z1, ekind h (k := 14) (by omega) (by omega) z0 z1, ekind h (k := 15) (by omega) (by omega) z0 z1, ekind h (k := 16) (by omega) (by omega) z0 z1, ekind h (k := 17) (by omega) (by omega) z0 z1, ekind h (k := 18) (by omega) (by omega) z0 z1,
    hs (166 + 20 * i + 6 * k) (by omega) (by omega), hs (166 + 20 * i + 6 * k + 1) (by omega) (by omega), hs (166 + 20 * i + 6 * k + 2) (by omega) (by omega), hs (166 + 20 * i + 6 * k + 3) (by omega) (by omega), hs (166 + 20 * i + 6 * k + 4) (by omega) (by omega), hs (166 + 20 * i + 6 * k + 5) (by omega) (by omega)]
  exact h3 k q1 q2
theorem PRel.congr {V V' : Nat → Int → Int} {s s' : Int → Int} {t : Int} (h : VEq V' V) (hs : ∀ j, 0 ≤ j → j < 404 → s' j = s j) (hw : PWf V t) (hP : PRel V s) : PRel V' s' := by
  have hc := hw.1.2.2.2.1
  have e3 : V' 3 3 = V 3 3 := h 3 (by omega) (by omega) 3 (by omega) (by decide)
  refine ⟨?_, fun i h1 h2 => ?_⟩
  · rw [h 3 (by omega) (by omega) 0 (by omega) (by decide), h 3 (by omega) (by omega) 1 (by omega) (by decide), h 3 (by omega) (by omega) 2 (by omega) (by decide), e3, h 10 (by omega) (by omega) 0 (by omega) (by decide), h 10 (by omega) (by omega) 1 (by omega) (by decide), h 10 (by omega) (by omega) 2 (by omega) (by decide), h 10 (by omega) (by omega) 3 (by omega) (by decide),
      hs 0 (by omega) (by omega), hs 1 (by omega) (by omega), hs 2 (by omega) (by omega), hs 3 (by omega) (by omega), hs 160 (by omega) (by omega), hs 161 (by omega) (by omega), hs 162 (by omega) (by omega), hs 163 (by omega) (by omega)]
    exact hP.1
  · rw [e3] at h2
    have hi : 0 ≤ i ∧ i < 12 := ⟨h1, by omega⟩
    exact ⟨(hP.2 i h1 h2).1.congr h hs hi (hw.2.1 i h1 h2).2.2.1.2, (hP.2 i h1 h2).2.congr h hs hi (hw.2.2 i h1 (by omega)).1.2⟩
abbrev Vw (m : MI) (p : Int) : Nat → Int → Int := fun k i => m k p i
/-- the saved states -/
def Stk (t : Int) (mc mm : MI) : Prop := (0 ≤ mc 1 0 3 ∧ mc 1 0 3 ≤ 6) ∧ mm 25 0 2 = mc 1 0 3 ∧ SvOK mc ∧ ∀ i, 0 ≤ i → i < mc 1 0 3 → PRel (Vw mc (mc 2 0 i)) (fun j => mm 27 0 (404 * i + j)) ∧ PWf (Vw mc (mc 2 0 i)) t
def byt (x : Int) : Int := if x < 128 then x else x - 256
def Txt (mc mm : MI) : Prop := (0 ≤ mc 19 0 0 ∧ mc 19 0 0 ≤ 120) ∧ mm 25 0 4 = mc 19 0 0 ∧ ∀ i, 0 ≤ i → i < mc 19 0 0 → (0 ≤ mc 20 0 i ∧ mc 20 0 i ≤ 255) ∧ mm 28 0 i = byt (mc 20 0 i)
def Sim (t : Int) (mc mm : MI) : Prop := (PRel (Vw mc 0) (mm 26 0) ∧ PWf (Vw mc 0) t) ∧ Stk t mc mm ∧ Txt mc mm
/-- the pair of calls of one turn of the law -/
def Both (Γ : GG) (d kc km : Nat) (as bs : List AV) (m : MI) (n : ML) (t : Int) : Prop := CM Γ d kc as m n (fun r1 m1 n1 => ∃ x, InR x ∧ r1 = some (vi x) ∧ CM Γ d km bs m1 n1 (fun r2 m2 _ => r2 = some (vi x) ∧ Sim (t + 1) m2 m2))
theorem Stk.mono {t t' : Int} {mc mm : MI} (h : t ≤ t') (hs : Stk t mc mm) : Stk t' mc mm := ⟨hs.1, hs.2.1, hs.2.2.1, fun i h1 h2 => ⟨(hs.2.2.2 i h1 h2).1, (hs.2.2.2 i h1 h2).2.mono h⟩⟩
theorem Sim.next {t : Int} {m : MI} (h : Sim t m m) : Sim (t + 1) m m := ⟨⟨h.1.1, h.1.2.mono (by omega)⟩, h.2.1.mono (by omega), h.2.2⟩
/-- the class's kinds, the reference's kinds -/
def FrC (m m' : MI) : Prop := ∀ k, 25 ≤ k → m' k = m k
def FrR (m m' : MI) : Prop := ∀ k, k < 25 → m' k = m k
theorem Stk.frame {t : Int} {mc mm mc' mm' : MI} (h1 : ∀ k p, k ≤ 18 → (k = 1 ∨ k = 2 ∨ (3 ≤ k ∧ p ≠ 0)) → mc' k p = mc k p) (h2 : mm' 25 0 2 = mm 25 0 2) (h3 : mm' 27 = mm 27) (hs : Stk t mc mm) : Stk t mc' mm' := by
  have a1 : mc' 1 0 = mc 1 0 := h1 1 0 (by omega) (by omega)
  have a2 : mc' 2 0 = mc 2 0 := h1 2 0 (by omega) (by omega)
  refine ⟨by rw [a1]; exact hs.1, by rw [a1, h2]; exact hs.2.1, ?_, fun i q1 q2 => ?_⟩
  · unfold SvOK
    rw [a2]
    exact hs.2.2.1
  · rw [a1] at q2
    have hsv := hs.2.2.1.1 i q1 (by have := hs.1; omega)
    have hV : VEq (Vw mc' (mc' 2 0 i)) (Vw mc (mc 2 0 i)) := by
      intro k k1 k2 j _ _
      show mc' k (mc' 2 0 i) j = _
      rw [a2, h1 k (mc 2 0 i) k2 (Or.inr (Or.inr ⟨k1, by omega⟩))]
    obtain ⟨g1, g2⟩ := hs.2.2.2 i q1 q2
    refine ⟨g1.congr hV (fun j _ _ => by rw [h3]) g2, g2.congr hV⟩
/-- behind the class's save and the reference's -/
theorem Stk.save {t : Int} {m mc mm : MI} {sh sh' : Int} (hp : PRel (Vw m 0) (m 26 0)) (hw : PWf (Vw m 0) t) (hs : Stk t m m)
    (e1 : sh = if m 1 0 3 = 6 then 1 else 0) (f1 : ∀ k r, k ≠ 1 → k ≠ 2 → ¬ (3 ≤ k ∧ k ≤ 18 ∧ r = mc 2 0 (m 1 0 3 - sh)) → mc k r = m k r) (f2 : mc 1 0 3 = m 1 0 3 - sh + 1) (f3 : SvOK mc) (f4 : ∀ i, 0 ≤ i → i < m 1 0 3 - sh → mc 2 0 i = m 2 0 (i + sh)) (f5 : CpEq 3 mc m (mc 2 0 (m 1 0 3 - sh)) 0)
    (e2 : sh' = if m 25 0 2 = 6 then 1 else 0) (g1 : mm 25 0 2 = m 25 0 2 - sh' + 1) (g2 : ∀ i, 0 ≤ i → i < 404 * (m 25 0 2 - sh') → mm 27 0 i = m 27 0 (i + 404 * sh')) (g3 : ∀ i, 0 ≤ i → i < 404 → mm 27 0 (404 * (m 25 0 2 - sh') + i) = m 26 0 i) : Stk t mc mm := by
  obtain ⟨hc, hcm, hsv, hst⟩ := hs
  rw [hcm] at e2 g1 g2 g3
  have hsh : sh' = sh := by rw [e1, e2]
  subst hsh
  have hb : 0 ≤ m 1 0 3 - sh' ∧ m 1 0 3 - sh' ≤ 5 ∧ 0 ≤ sh' ∧ sh' ≤ 1 := by
    by_cases q : m 1 0 3 = 6
    · rw [if_pos q] at e1; omega
    · rw [if_neg q] at e1; omega
  refine ⟨by omega, by omega, f3, fun i q1 q2 => ?_⟩
  by_cases hi : i = m 1 0 3 - sh'
  · rw [hi]
    have hV : VEq (Vw mc (mc 2 0 (m 1 0 3 - sh'))) (Vw m 0) := fun k k1 k2 j j1 j2 => f5 k k1 k2 j j1 j2
    exact ⟨hp.congr hV (fun j j1 j2 => g3 j j1 j2) hw, hw.congr hV⟩
  · have hi2 : i < m 1 0 3 - sh' := by omega
    obtain ⟨a1, a2⟩ := hst (i + sh') (by omega) (by omega)
    have hne : mc 2 0 i ≠ mc 2 0 (m 1 0 3 - sh') := fun z => hi (f3.2 i (m 1 0 3 - sh') q1 (by omega) (by omega) (by omega) z)
    have hV : VEq (Vw mc (mc 2 0 i)) (Vw m (m 2 0 (i + sh'))) := by
      intro k k1 k2 j _ _
      show mc k (mc 2 0 i) j = m k (m 2 0 (i + sh')) j
      rw [f1 k (mc 2 0 i) (by omega) (by omega) (fun z => hne z.2.2), f4 i q1 hi2]
    refine ⟨a1.congr hV (fun j j1 j2 => ?_) a2, a2.congr hV⟩
    show mm 27 0 (404 * i + j) = m 27 0 (404 * (i + sh') + j)
    rw [g2 (404 * i + j) (by omega) (by omega)]
    congr 1
    omega
