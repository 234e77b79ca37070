-- the pair of calls: setPages
theorem c_highestHome {Γ : GG} {d : Nat} {m : MI} {n : ML} {post : PO} {p : Int} (h0 : 0 ≤ m 3 p 3) (h1 : m 3 p 3 ≤ 12) (hh : ∀ j, 0 ≤ j → j < m 3 p 3 → InR (m 5 p j)) (K : ∀ r, InR r → (∀ b, r < b ↔ -1 < b ∧ ∀ j, 0 ≤ j → j < m 3 p 3 → m 5 p j < b) → post (some (vi r)) m n) : CM Γ (d + 1) 25 [vr 3 p] m n post := by
  refine e25 (b25_0 ?_)
  have key := up_ind (P := fun y => ∀ r, InR r → (∀ b, r < b ↔ -1 < b ∧ ∀ j, 0 ≤ j → j < y → m 5 p j < b) → AM Γ (d + 1) 25 4 [some (vr 3 p), some (vi r), some (vi y)] [] m n post) 0 (m 3 p 3) h0 ?_ ?_
  · exact key (-1) (ir (by omega) (by omega)) (fun b => ⟨fun z => ⟨z, fun j j1 j2 => by omega⟩, fun z => z.1⟩)
  · intro r hr hb
    exact b25_4 (by omega) (by omega) (fun _ => b25_29 (K r hr hb)) (fun z => absurd z (by omega))
  · intro y y1 y2 ih r hr hb
    have hy := hh y y1 y2
    refine b25_4 (by omega) (by omega) (fun z => absurd y2 z) (fun _ => b25_12 (by omega) ⟨hr, hy⟩ (ih _ ?_ (fun b => ?_)))
    · split
      · exact hy
      · exact hr
    · have hbb := hb b
      constructor
      · intro z
        have z1 : r < b := by split at z <;> omega
        have z2 : m 5 p y < b := by split at z <;> omega
        refine ⟨(hbb.1 z1).1, fun j j1 j2 => ?_⟩
        rcases (show j < y ∨ j = y by omega) with q | rfl
        · exact (hbb.1 z1).2 j j1 q
        · exact z2
      · intro z
        have z1 := hbb.2 ⟨z.1, fun j j1 j2 => z.2 j j1 (by omega)⟩
        have z2 := z.2 y y1 (by omega)
        split <;> omega
theorem c_changePages {Γ : GG} {d : Nat} {m : MI} {n : ML} {post : PO} {p a b v : Int} (h0 : 0 ≤ m 3 p 3) (h1 : m 3 p 3 ≤ 12) (K : ∀ m', (∀ k r, ¬ (r = p ∧ (k = 3 ∨ k = 9)) → m' k r = m k r) → m' 3 p 0 = a → m' 3 p 1 = b → m' 3 p 2 = v → m' 3 p 3 = m 3 p 3 → (∀ j, 0 ≤ j → j < m 3 p 3 → m' 9 p j = 1) → post none m' n) : CM Γ d 24 [vr 3 p, vi a, vi b, vi v] m n post := by
  refine e24 (b24_0 ?_)
  generalize hmB : up (up (up m 3 p 0 a) 3 p 1 b) 3 p 2 v = mB
  have f1 : ∀ k r, ¬ (r = p ∧ (k = 3 ∨ k = 9)) → mB k r = m k r := fun k r z => by rw [← hmB, up_ne (fun y => z (by omega)), up_ne (fun y => z (by omega)), up_ne (fun y => z (by omega))]
  have f2 : mB 3 p 0 = a := by rw [← hmB]; simp [up_rd]
  have f3 : mB 3 p 1 = b := by rw [← hmB]; simp [up_rd]
  have f4 : mB 3 p 2 = v := by rw [← hmB]; simp [up_rd]
  have f5 : mB 3 p 3 = m 3 p 3 := by rw [← hmB]; simp [up_rd]
  clear hmB
  have key := up_ind (P := fun y => ∀ mm : MI, (∀ k r, ¬ (k = 9 ∧ r = p) → mm k r = mB k r) → (∀ j, 0 ≤ j → j < y → mm 9 p j = 1) → AM Γ d 24 18 [some (vr 3 p), some (vi a), some (vi b), some (vi v), some (vi y)] [] mm n post) 0 (m 3 p 3) h0 ?_ ?_
  · exact key mB (fun _ _ _ => rfl) (fun j j1 j2 => by omega)
  · intro mm g1 g2
    have e3 : mm 3 p = mB 3 p := g1 3 p (by omega)
    have e33 : mm 3 p 3 = m 3 p 3 := by rw [e3, f5]
    exact b24_18 (by omega) (by omega) (fun _ => b24_41 (K mm (fun k r z => by rw [g1 k r (fun y => z (by omega)), f1 k r z]) (by rw [e3, f2]) (by rw [e3, f3]) (by rw [e3, f4]) e33 g2)) (fun z => absurd z (by omega))
  · intro y y1 y2 ih mm g1 g2
    have e33 : mm 3 p 3 = m 3 p 3 := by rw [g1 3 p (by omega), f5]
    refine b24_18 (by omega) (by omega) (fun z => absurd y2 (by omega)) (fun _ => b24_27 (by omega) (ih _ (fun k r z => by rw [up_ne (fun q => z (by omega)), g1 k r z]) (fun j j1 j2 => ?_)))
    rw [up_rd]
    by_cases q : j = y
    · rw [if_pos ⟨rfl, rfl, q⟩]
    · rw [if_neg (fun u => q u.2.2), g2 j j1 (by omega)]
