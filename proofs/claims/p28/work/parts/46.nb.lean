-- the class's searches are the spec's
theorem nb_first {m : MI} {T : Int → Int → Prop} {e p i K H P h : Int} (h3 : m 3 p 1 = K) (h4 : m 3 p 2 = H) (hh : m 5 p i = h) (h0 : 0 ≤ h ∧ h < P) (hc : m 11 e i = 0) (h6 : 1 ≤ m 6 p i) : nbF (fun b => pgN m T e p i 0 K H P h b ≠ -1) (m 6 p i - 0).toNat = if plG (Vw m p) T (Vw m p 5 i) (lnV (Vw m p) i 0 (Vw m p 6 i)) = -1 then nb1 (Vw m p) T i else m 6 p i := by
  have ez : (m 6 p i - 0).toNat = (m 6 p i - 1).toNat + 1 := by omega
  have ey : (((m 6 p i - 1).toNat : Nat) : Int) + 1 = m 6 p i := by omega
  have eg : ∀ s, gapF T K H h s = plG (Vw m p) T (Vw m p 5 i) s := fun s => by
    unfold plG
    dsimp only [Vw]
    rw [h3, h4, hh]
  have hz : ∀ b, 1 ≤ b → b ≤ m 6 p i → (pgN m T e p i 0 K H P h b ≠ -1 ↔ plG (Vw m p) T (Vw m p 5 i) (if b = m 6 p i then lnV (Vw m p) i 0 b else lnV (Vw m p) i 0 b + 1) ≠ -1) := fun b b1 b2 => by
    rw [pgN_0 h0 hc, szP_0 b2, eg]
    generalize (if b = m 6 p i then lnV (Vw m p) i 0 b else lnV (Vw m p) i 0 b + 1) = s
    by_cases w : plG (Vw m p) T (Vw m p 5 i) s = -1
    · rw [if_pos w]
      exact ⟨fun z => absurd rfl z, fun z => absurd w z⟩
    · rw [if_neg w]
      exact ⟨fun _ => w, fun _ => by omega⟩
  rw [ez]
  conv => lhs; unfold nbF
  rw [ey]
  have hA := hz (m 6 p i) h6 (Int.le_refl _)
  rw [if_pos rfl] at hA
  by_cases q : plG (Vw m p) T (Vw m p 5 i) (lnV (Vw m p) i 0 (Vw m p 6 i)) = -1
  · rw [if_pos q, if_neg (fun w => hA.1 w q)]
    unfold nb1
    refine nbF_congr _ (fun j j1 j2 => ?_)
    have := hz j j1 (by omega)
    rw [if_neg (by omega)] at this
    exact this
  · rw [if_neg q, if_pos (hA.2 q)]
theorem pg_next {m : MI} {T : Int → Int → Prop} {e p i K H P h a b ex : Int} (h3 : m 3 p 1 = K) (h4 : m 3 p 2 = H) (hP : m 3 p 0 = P) (hh : m 5 p i = h) (p0 : 2 ≤ P ∧ P ≤ 5) (h0 : 0 ≤ h ∧ h < P) (ha : 0 < a) (hb : a + b ≤ m 6 p i) (hx : ∃ k, 0 ≤ k ∧ k < m 11 e i ∧ m 13 e (i * 3 + k) = h) (hy : ∀ q, 0 ≤ q → q ≠ h → ((∃ k, 0 ≤ k ∧ k < m 11 e i ∧ m 13 e (i * 3 + k) = q) ↔ q = ex)) : pgN m T e p i a K H P h b = plQ (Vw m p) T i (if a + b = m 6 p i then lnV (Vw m p) i a b + 1 else lnV (Vw m p) i a b + 2) ex := by
  rw [pgN_1 p0 h0 ha hx hy, szP_1 ha hb]
  unfold plQ plG
  dsimp only [Vw]
  rw [h3, h4, hP, hh]
theorem nb_second {m : MI} {T : Int → Int → Prop} {e p i K H P h a : Int} (h3 : m 3 p 1 = K) (h4 : m 3 p 2 = H) (hP : m 3 p 0 = P) (hh : m 5 p i = h) (p0 : 2 ≤ P ∧ P ≤ 5) (h0 : 0 ≤ h ∧ h < P) (ha : 0 < a) (h6 : a < m 6 p i) (hc : m 11 e i = 1) (hx : m 13 e (i * 3 + 0) = h) : nbF (fun b => pgN m T e p i a K H P h b ≠ -1) (m 6 p i - a).toNat = if (pl3 (Vw m p) T i a (-1)).1 = -1 then nb2 (Vw m p) T i a else m 6 p i - a := by
  have ez : (m 6 p i - a).toNat = (m 6 p i - a - 1).toNat + 1 := by omega
  have ey : (((m 6 p i - a - 1).toNat : Nat) : Int) + 1 = m 6 p i - a := by omega
  have hg : ∀ b, a + b ≤ m 6 p i → pgN m T e p i a K H P h b = plQ (Vw m p) T i (if a + b = m 6 p i then lnV (Vw m p) i a b + 1 else lnV (Vw m p) i a b + 2) (-1) := fun b hb =>
    pg_next h3 h4 hP hh p0 h0 ha hb ⟨0, by omega, by omega, hx⟩ (fun q q0 qh => ⟨fun ⟨k, k1, k2, k3⟩ => by
      have : k = 0 := by omega
      rw [this, hx] at k3
      omega, fun z => by omega⟩)
  rw [ez]
  conv => lhs; unfold nbF
  rw [ey]
  have hA := hg (m 6 p i - a) (by omega)
  rw [if_pos (by omega)] at hA
  by_cases q : (pl3 (Vw m p) T i a (-1)).1 = -1
  · rw [if_pos q, if_neg (fun w => w (by rw [hA]; exact q))]
    unfold nb2
    refine nbF_congr _ (fun j j1 j2 => ?_)
    have := hg j (by omega)
    rw [if_neg (by omega)] at this
    rw [this]
    exact Iff.rfl
  · rw [if_neg q, if_pos (by rw [hA]; exact q)]
theorem placeF_congr {V V' : Nat → Int → Int} {T : Int → Int → Prop} {i : Int} (h3 : V' 3 = V 3) (h5 : V' 5 = V 5) (h6 : V' 6 = V 6) (h7 : V' 7 = V 7) : placeF V' T i = placeF V T i := by
  have hl : lnV V' = lnV V := by funext a b c; unfold lnV; rw [h7]
  have hg : plG V' = plG V := by funext a b c; unfold plG; rw [h3]
  have hq : plQ V' = plQ V := by funext a b c e; unfold plQ; rw [h3, h5, hg]
  have e1 : pl1 V' = pl1 V := by funext a b c; unfold pl1; rw [h5, hg, hl]
  have e2 : pl2 V' = pl2 V := by funext a b c f; unfold pl2; rw [hq, hg, hl]
  have e3 : pl3 V' = pl3 V := by funext a b c f; unfold pl3; rw [hq, hg, hl, h6]
  have ec : placeC V' = placeC V := by funext a b c f; unfold placeC; rw [e1, e2, e3]
  have n2 : nb2 V' = nb2 V := by funext a b c; unfold nb2; rw [e2, h6]
  have n1 : nb1 V' = nb1 V := by funext a b; unfold nb1; rw [e1, h6]
  have eb : placeB V' = placeB V := by funext a b c; unfold placeB; rw [e1, e3, n2, ec]
  unfold placeF
  rw [hg, h5, hl, h6, n1, eb]
