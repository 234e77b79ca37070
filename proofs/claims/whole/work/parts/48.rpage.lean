-- the reference's search of a page
theorem r_pageFor {Γ : GG} {d : Nat} {m : MI} {n : ML} {post : PO} {h s w ex P K H : Int} {T : Int → Int → Prop} (hP : m 26 0 0 = P) (hk : m 26 0 1 = K) (hh : m 26 0 2 = H) (p0 : 2 ≤ P ∧ P ≤ 5) (h0 : 0 ≤ h ∧ h < P) (hK : 1 ≤ K ∧ K ≤ 4) (hH : 1 ≤ H ∧ H ≤ 60) (hs : InR s) (s1 : 1 ≤ s) (hw : InR w) (hex : ∀ q, 0 ≤ q → (q = w ↔ q = ex)) (hT : ∀ q, 0 ≤ q → q < P → q ≠ h → q ≠ ex → ∀ c j, 0 ≤ c → c < 4 → 0 ≤ j → j < 60 → (Tm m (q * 4 + c) j ↔ T (q * 4 + c) j)) (Kk : ∀ r, r = pgF (fun q => gapF T K H q s) (fun q => q = ex) P h (P - 1).toNat 1 → post (some (vi (if r = -1 then -9 else r))) m n) : CM Γ (d + 2) 130 [vr 25 0, vi h, vi s, vi w] m n post := by
  refine e130 (b130_0 ?_)
  have key := up_ind (P := fun y => ∀ u, pgF (fun q => gapF T K H q s) (fun q => q = ex) P h (P - 1).toNat 1 = pgF (fun q => gapF T K H q s) (fun q => q = ex) P h (P - y).toNat y → AM Γ (d + 2) 130 3 [some (vr 25 0), some (vi h), some (vi s), some (vi w), some (vi y), u] [] m n post) 1 P (by omega) ?_ ?_
  · exact key none rfl
  · intro u e0
    rw [Int.sub_self] at e0
    have := Kk (-1) (by rw [e0]; rfl)
    rw [if_pos rfl] at this
    exact b130_3 (by omega) (by omega) (fun _ => b130_54 this) (fun z => absurd z (by omega))
  · intro y y1 y2 ih u e0
    have q0 : 0 ≤ (h + y) % P := Int.emod_nonneg _ (by omega)
    have q1 : (h + y) % P < P := Int.emod_lt_of_pos _ (by omega)
    have qn := emod_ne p0 h0 (j := y) ⟨y1, y2⟩
    have fz : (P - y).toNat = (P - (y + 1)).toNat + 1 := by omega
    rw [fz] at e0
    have nx : ∀ v, ¬ (¬ ((h + y) % P = ex) ∧ gapF T K H ((h + y) % P) s ≠ -1) → AM Γ (d + 2) 130 48 [some (vr 25 0), some (vi h), some (vi s), some (vi w), some (vi y), some (vi v)] [] m n post := fun v no => by
      have e1 := e0
      conv at e1 => rhs; unfold pgF
      rw [if_neg no] at e1
      exact b130_48 (ih _ e1)
    have hw' : -2147483648 ≤ w ∧ w ≤ 2147483647 := hw
    refine b130_3 (by omega) (by omega) (fun z => absurd y2 (by omega)) (fun _ => b130_14 (by omega) (by rw [hP]; omega) hw' (fun z => ?_) (fun z => ?_))
    · rw [hP] at z ⊢
      exact nx _ (fun v => v.1 ((hex _ q0).1 z))
    · rw [hP] at z ⊢
      have z' : ¬ (h + y) % P = ex := fun v => z ((hex _ q0).2 v)
      refine b130_33 (r_gap hk hh hK hH (by omega) hs s1 (fun r hr => ?_))
      have rb := hr.bd hK.2 hH.2
      have ge := gapF_eq (hr.congr (U := T) (fun c j c0 c1 j0 j1 => hT _ q0 q1 qn z' c j c0 (by omega) j0 (by omega)))
      refine b130_40 (by split <;> omega) (fun v => nx _ (fun x => x.2 (by rw [ge]; split at v <;> omega))) (fun v => b130_45 ?_)
      have := Kk ((h + y) % P) (by
        rw [e0]
        conv => rhs; unfold pgF
        rw [if_pos ⟨z', by rw [ge]; intro x; rw [if_pos x] at v; exact v rfl⟩])
      rw [if_neg (by omega)] at this
      exact this
