-- the pairs of calls: setParagraph, setPages, addStory
theorem c_removeParagraph {Γ : GG} {d : Nat} {m : MI} {n : ML} {post : PO} {p i j : Int} (hi : 0 ≤ i ∧ i < 12) (hj : 0 ≤ j ∧ j < m 6 p i) (hc : m 6 p i ≤ 8) (K : ∀ m', (∀ k r, ¬ (r = p ∧ (k = 6 ∨ k = 7 ∨ k = 9)) → m' k r = m k r) → (∀ z, z ≠ i → m' 6 p z = m 6 p z ∧ m' 9 p z = m 9 p z) → m' 6 p i = m 6 p i - 1 → m' 9 p i = 1 → (∀ z, ¬ (i * 8 ≤ z ∧ z < i * 8 + 8) → m' 7 p z = m 7 p z) → (∀ k, 0 ≤ k → k < m 6 p i - 1 → m' 7 p (i * 8 + k) = if k < j then m 7 p (i * 8 + k) else m 7 p (i * 8 + (k + 1))) → post none m' n) : CM Γ d 29 [vr 3 p, vi i, vi j] m n post := by
  refine e29 (b29_0 ?_)
  have key := up_ind (P := fun y => ∀ mm : MI, (∀ k r, ¬ (k = 7 ∧ r = p) → mm k r = m k r) → (∀ z, ¬ (i * 8 + j ≤ z ∧ z < i * 8 + y - 1) → mm 7 p z = m 7 p z) → (∀ z, i * 8 + j ≤ z → z < i * 8 + y - 1 → mm 7 p z = m 7 p (z + 1)) → AM Γ d 29 10 [some (vr 3 p), some (vi i), some (vi j), some (vi (i * 8)), some (vi y)] [] mm n post) (j + 1) (m 6 p i) (by omega) ?_ ?_
  · exact key m (fun _ _ _ => rfl) (fun _ _ => rfl) (fun z z1 z2 => by omega)
  · intro mm h1 h2 h3
    have e6 : mm 6 p i = m 6 p i := by rw [h1 6 p (by omega)]
    refine b29_10 hi (by omega) (by omega) (fun _ => b29_47 (by omega) (by omega) (by omega) ?_) (fun z => absurd z (by omega))
    refine K _ (fun k r z => ?_) (fun z z1 => ?_) ?_ ?_ (fun z z1 => ?_) (fun k k1 k2 => ?_)
    · rw [up_ne (fun y => z (by omega)), up_ne (fun y => z (by omega)), h1 k r (fun y => z (by omega))]
    · rw [up_k (by omega), up_rd, if_neg (by omega), up_rd, if_neg (by omega), up_k (by omega), h1 6 p (by omega), h1 9 p (by omega)]
      exact ⟨rfl, rfl⟩
    · rw [up_k (by omega), up_rd, if_pos ⟨rfl, rfl, rfl⟩, e6]
    · rw [up_rd, if_pos ⟨rfl, rfl, rfl⟩]
    · rw [up_k (by omega), up_k (by omega), h2 z (by omega)]
    · rw [up_k (by omega), up_k (by omega)]
      by_cases q : k < j
      · rw [if_pos q, h2 _ (by omega)]
      · rw [if_neg q, h3 _ (by omega) (by omega), Int.add_assoc]
  · intro y y1 y2 ih mm h1 h2 h3
    have e6 : mm 6 p i = m 6 p i := by rw [h1 6 p (by omega)]
    refine b29_10 hi (by omega) (by omega) (fun z => absurd z (by omega)) (fun _ => b29_21 (by omega) (by omega) (ih _ (fun k r z => ?_) (fun z z1 => ?_) (fun z z1 z2 => ?_)))
    · rw [up_ne (fun q => z (by omega)), h1 k r z]
    · rw [up_rd, if_neg (by omega), h2 z (by omega)]
    · rw [up_rd]
      by_cases q : z = i * 8 + y - 1
      · rw [if_pos ⟨rfl, rfl, q⟩, h2 _ (by omega), q]
        congr 1
        omega
      · rw [if_neg (fun u => q u.2.2), h3 z z1 (by omega)]
