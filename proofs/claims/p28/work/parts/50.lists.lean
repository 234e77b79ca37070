-- lists of pieces
/-- a piece takes a line of a column -/
def OnX (x : Pc) (c l : Int) : Prop := c = x.1 * 4 + x.2.1 / 60 ∧ x.2.1 % 60 ≤ l ∧ l < x.2.1 % 60 + x.2.2.1
def OnL (L : List Pc) (c l : Int) : Prop := ∃ x, x ∈ L ∧ OnX x c l
def PcV (E : Nat → Int → Int) (i k : Int) (x : Pc) : Prop := E 13 (i * 3 + k) = x.1 ∧ E 14 (i * 3 + k) = x.2.1 / 60 ∧ E 15 (i * 3 + k) = x.2.1 % 60 ∧ E 16 (i * 3 + k) = x.2.2.1 ∧ E 17 (i * 3 + k) = x.2.2.2.1 ∧ E 18 (i * 3 + k) = x.2.2.2.2
/-- the class's edition holds a list of pieces -/
def PutG (E : Nat → Int → Int) (i : Int) (L : List Pc) : Prop := E 11 i = (L.length : Int) ∧ ∀ (k : Nat) (x : Pc), L[k]? = some x → PcV E i k x
theorem PutL.g {m : MI} {e i : Int} : ∀ {L : List Pc}, PutL m e i L → PutG (Vw m e) i L ∧ L.length ≤ 3
  | [], h => ⟨⟨h, fun k x hx => by simp at hx⟩, by simp⟩
  | [x], h => ⟨⟨h.1, fun k y hx => by
      have hk : k = 0 := by
        have := (List.getElem?_eq_some_iff.1 hx).1
        simp at this
        omega
      subst hk
      simp at hx
      subst hx
      exact h.2⟩, by simp⟩
  | [x, y], h => ⟨⟨h.1, fun k z hx => by
      have hk : k < 2 := by
        have := (List.getElem?_eq_some_iff.1 hx).1
        simp at this
        omega
      rcases (show k = 0 ∨ k = 1 by omega) with rfl | rfl
      · simp at hx; subst hx; exact h.2.1
      · simp at hx; subst hx; exact h.2.2⟩, by simp⟩
  | [x, y, w], h => ⟨⟨h.1, fun k z hx => by
      have hk : k < 3 := by
        have := (List.getElem?_eq_some_iff.1 hx).1
        simp at this
        omega
      rcases (show k = 0 ∨ k = 1 ∨ k = 2 by omega) with rfl | rfl | rfl
      · simp at hx; subst hx; exact h.2.1
      · simp at hx; subst hx; exact h.2.2.1
      · simp at hx; subst hx; exact h.2.2.2⟩, by simp⟩
  | _ :: _ :: _ :: _ :: _, h => h.elim
/-- a piece is in its place: a page, a column, free lines -/
def GdP (V : Nat → Int → Int) (T : Int → Int → Prop) (x : Pc) : Prop := (0 ≤ x.1 ∧ x.1 < V 3 0) ∧ (0 ≤ x.2.1 ∧ x.2.1 / 60 < V 3 1) ∧ Room T (V 3 2) (x.1 * 4 + x.2.1 / 60) (x.2.1 % 60) x.2.2.1 ∧ 1 ≤ x.2.2.1 ∧ (0 ≤ x.2.2.2.1 ∧ x.2.2.2.1 ≤ 8) ∧ (1 ≤ x.2.2.2.2 ∧ x.2.2.2.2 ≤ 8)
def GdL (V : Nat → Int → Int) (T : Int → Int → Prop) (L : List Pc) : Prop := L.length ≤ 3 ∧ (∀ x, x ∈ L → GdP V T x) ∧ L.Pairwise (fun x y => x.1 ≠ y.1)
theorem GdL.nil {V : Nat → Int → Int} {T : Int → Int → Prop} : GdL V T [] := ⟨by simp, fun x hx => by simp at hx, List.Pairwise.nil⟩
theorem gapF_gd {T : Int → Int → Prop} {K H p s : Int} (hH : H ≤ 60) (h : gapF T K H p s ≠ -1) : (0 ≤ gapF T K H p s ∧ gapF T K H p s / 60 < K) ∧ Room T H (p * 4 + gapF T K H p s / 60) (gapF T K H p s % 60) s ∧ 1 ≤ s := by
  by_cases q : ∃ r, GapR T K H p s r
  · obtain ⟨r, hr⟩ := q
    have e := gapF_eq hr
    rw [e] at h ⊢
    rcases hr with ⟨a, _⟩ | ⟨a, c, l, c0, c1, e2, w, _⟩
    · exact absurd a h
    · have l0 := w.1
      have l1 := w.2.1
      have d1 : r / 60 = c := by omega
      have d2 : r % 60 = l := by omega
      rw [d1, d2]
      exact ⟨⟨by omega, c1⟩, w, a.1⟩
  · exact absurd (by unfold gapF; rw [dif_neg q]) h
theorem pgF_off {G : Int → Int} {ex : Int → Prop} {P h : Int} (p0 : 2 ≤ P ∧ P ≤ 5) (h0 : 0 ≤ h ∧ h < P) : ∀ (f : Nat) (s : Int), 1 ≤ s → s + f ≤ P → pgF G ex P h f s ≠ h := by
  intro f
  induction f with
  | zero => intro s _ _; unfold pgF; omega
  | succ f ih =>
    intro s s1 s2
    unfold pgF
    split
    · exact emod_ne p0 h0 ⟨s1, by omega⟩
    · exact ih (s + 1) (by omega) (by omega)
theorem plQ_gd {V : Nat → Int → Int} {T : Int → Int → Prop} {i s ex : Int} (p0 : 2 ≤ V 3 0 ∧ V 3 0 ≤ 5) (h0 : 0 ≤ V 5 i ∧ V 5 i < V 3 0) (h : plQ V T i s ex ≠ -1) : (0 ≤ plQ V T i s ex ∧ plQ V T i s ex < V 3 0) ∧ plQ V T i s ex ≠ V 5 i ∧ plQ V T i s ex ≠ ex ∧ plG V T (plQ V T i s ex) s ≠ -1 := by
  have a := pgF_bd (G := fun q => plG V T q s) (ex := fun q => q = ex) (P := V 3 0) (h := V 5 i) (by omega) (V 3 0 - 1).toNat 1
  have b := pgF_off (G := fun q => plG V T q s) (ex := fun q => q = ex) p0 h0 (V 3 0 - 1).toNat 1 (by omega) (by omega)
  rcases a with a | a
  · exact absurd a h
  · exact ⟨a.1, b, a.2.1, a.2.2⟩
theorem pl1_gd {V : Nat → Int → Int} {T : Int → Int → Prop} {i a : Int} (hH : V 3 2 ≤ 60) (h0 : 0 ≤ V 5 i ∧ V 5 i < V 3 0) (ha : 1 ≤ a ∧ a ≤ 8) (h : (pl1 V T i a).2.1 ≠ -1) : GdP V T (pl1 V T i a) := by
  have g := gapF_gd (T := T) (K := V 3 1) (H := V 3 2) (p := V 5 i) (s := lnV V i 0 a + 1) hH h
  exact ⟨h0, g.1, g.2.1, g.2.2, ⟨Int.le_refl 0, show (0 : Int) ≤ 8 by omega⟩, ha⟩
theorem pl2_gd {V : Nat → Int → Int} {T : Int → Int → Prop} {i a b : Int} (p0 : 2 ≤ V 3 0 ∧ V 3 0 ≤ 5) (hH : V 3 2 ≤ 60) (h0 : 0 ≤ V 5 i ∧ V 5 i < V 3 0) (ha : 0 ≤ a ∧ a ≤ 8) (hb : 1 ≤ b ∧ b ≤ 8) (h : (pl2 V T i a b).1 ≠ -1) : GdP V T (pl2 V T i a b) ∧ (pl2 V T i a b).1 ≠ V 5 i := by
  have q := plQ_gd (T := T) (s := lnV V i a b + 2) (ex := -1) p0 h0 h
  have g := gapF_gd (T := T) (K := V 3 1) (H := V 3 2) (p := plQ V T i (lnV V i a b + 2) (-1)) (s := lnV V i a b + 2) hH q.2.2.2
  exact ⟨⟨q.1, g.1, g.2.1, g.2.2, ha, hb⟩, q.2.1⟩
theorem pl3_gd {V : Nat → Int → Int} {T : Int → Int → Prop} {i a ex : Int} (p0 : 2 ≤ V 3 0 ∧ V 3 0 ≤ 5) (hH : V 3 2 ≤ 60) (h0 : 0 ≤ V 5 i ∧ V 5 i < V 3 0) (h6 : V 6 i ≤ 8) (ha : 0 ≤ a ∧ a < V 6 i) (h : (pl3 V T i a ex).1 ≠ -1) : GdP V T (pl3 V T i a ex) ∧ (pl3 V T i a ex).1 ≠ V 5 i ∧ (pl3 V T i a ex).1 ≠ ex := by
  have q := plQ_gd (T := T) (s := lnV V i a (V 6 i - a) + 1) (ex := ex) p0 h0 h
  have g := gapF_gd (T := T) (K := V 3 1) (H := V 3 2) (p := plQ V T i (lnV V i a (V 6 i - a) + 1) ex) (s := lnV V i a (V 6 i - a) + 1) hH q.2.2.2
  exact ⟨⟨q.1, g.1, g.2.1, g.2.2, ⟨ha.1, show a ≤ 8 by omega⟩, ⟨show 1 ≤ V 6 i - a by omega, show V 6 i - a ≤ 8 by omega⟩⟩, q.2.1, q.2.2.1⟩
theorem nb1_bd {V : Nat → Int → Int} {T : Int → Int → Prop} {i : Int} (h6 : 1 ≤ V 6 i) : (0 ≤ nb1 V T i ∧ nb1 V T i ≤ V 6 i - 1) ∧ (nb1 V T i ≠ 0 → (pl1 V T i (nb1 V T i)).2.1 ≠ -1) := by
  have b := nbF_bd (ok := fun a => (pl1 V T i a).2.1 ≠ -1) (V 6 i - 1).toNat
  have e : nb1 V T i = nbF (fun a => (pl1 V T i a).2.1 ≠ -1) (V 6 i - 1).toNat := rfl
  rw [← e] at b
  exact ⟨⟨b.1.1, by omega⟩, fun z => b.2 (by omega)⟩
theorem nb2_bd {V : Nat → Int → Int} {T : Int → Int → Prop} {i a : Int} (h6 : a < V 6 i) : (0 ≤ nb2 V T i a ∧ nb2 V T i a ≤ V 6 i - a - 1) ∧ (nb2 V T i a ≠ 0 → (pl2 V T i a (nb2 V T i a)).1 ≠ -1) := by
  have b := nbF_bd (ok := fun b => (pl2 V T i a b).1 ≠ -1) (V 6 i - a - 1).toNat
  have e : nb2 V T i a = nbF (fun b => (pl2 V T i a b).1 ≠ -1) (V 6 i - a - 1).toNat := rfl
  rw [← e] at b
  exact ⟨⟨b.1.1, by omega⟩, fun z => b.2 (by omega)⟩
theorem placeF_gd {V : Nat → Int → Int} {T : Int → Int → Prop} {i : Int} (p0 : 2 ≤ V 3 0 ∧ V 3 0 ≤ 5) (hH : V 3 2 ≤ 60) (h0 : 0 ≤ V 5 i ∧ V 5 i < V 3 0) (h6 : 1 ≤ V 6 i ∧ V 6 i ≤ 8) : GdL V T (placeF V T i) := by
  unfold placeF
  by_cases z : plG V T (V 5 i) (lnV V i 0 (V 6 i)) = -1
  · rw [if_pos z]
    by_cases n0 : nb1 V T i = 0
    · rw [if_pos n0]; exact GdL.nil
    · rw [if_neg n0]
      obtain ⟨b1, b2⟩ := nb1_bd (V := V) (T := T) (i := i) h6.1
      generalize nb1 V T i = a at b1 b2 n0 ⊢
      have g1 := pl1_gd (T := T) hH h0 ⟨by omega, by omega⟩ (b2 n0)
      unfold placeB
      by_cases u : (pl3 V T i a (-1)).1 = -1
      · rw [if_pos u]
        by_cases n2 : nb2 V T i a = 0
        · rw [if_pos n2]; exact GdL.nil
        · rw [if_neg n2]
          obtain ⟨d1, d2⟩ := nb2_bd (V := V) (T := T) (i := i) (a := a) (by omega)
          generalize nb2 V T i a = b at d1 d2 n2 ⊢
          have g2 := pl2_gd (T := T) p0 hH h0 ⟨by omega, by omega⟩ ⟨by omega, by omega⟩ (d2 n2)
          unfold placeC
          by_cases w : (pl3 V T i (a + b) (pl2 V T i a b).1).1 = -1
          · rw [if_pos w]; exact GdL.nil
          · rw [if_neg w]
            have g3 := pl3_gd (T := T) p0 hH h0 h6.2 ⟨by omega, by omega⟩ w
            refine ⟨by simp, fun x hx => ?_, ?_⟩
            · simp only [List.mem_cons, List.not_mem_nil, or_false] at hx
              rcases hx with rfl | rfl | rfl
              · exact g1
              · exact g2.1
              · exact g3.1
            · refine List.Pairwise.cons (fun y hy => ?_) (List.Pairwise.cons (fun y hy => ?_) (List.Pairwise.cons (fun y hy => by simp at hy) List.Pairwise.nil))
              · simp only [List.mem_cons, List.not_mem_nil, or_false] at hy
                rcases hy with rfl | rfl
                · exact fun e => g2.2 e.symm
                · exact fun e => g3.2.1 e.symm
              · simp only [List.mem_cons, List.not_mem_nil, or_false] at hy
                subst hy
                exact fun e => g3.2.2 e.symm
      · rw [if_neg u]
        have g3 := pl3_gd (T := T) p0 hH h0 h6.2 ⟨by omega, by omega⟩ u
        refine ⟨by simp, fun x hx => ?_, ?_⟩
        · simp only [List.mem_cons, List.not_mem_nil, or_false] at hx
          rcases hx with rfl | rfl
          · exact g1
          · exact g3.1
        · refine List.Pairwise.cons (fun y hy => ?_) (List.Pairwise.cons (fun y hy => by simp at hy) List.Pairwise.nil)
          simp only [List.mem_cons, List.not_mem_nil, or_false] at hy
          subst hy
          exact fun e => g3.2.1 e.symm
  · rw [if_neg z]
    have g := gapF_gd (T := T) (K := V 3 1) (H := V 3 2) (p := V 5 i) (s := lnV V i 0 (V 6 i)) hH z
    refine ⟨by simp, fun x hx => ?_, List.Pairwise.cons (fun y hy => by simp at hy) List.Pairwise.nil⟩
    simp only [List.mem_cons, List.not_mem_nil, or_false] at hx
    subst hx
    exact ⟨h0, g.1, g.2.1, g.2.2, ⟨Int.le_refl 0, show (0 : Int) ≤ 8 by omega⟩, h6⟩
