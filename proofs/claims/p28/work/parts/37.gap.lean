-- gaps
/-- so many free lines from a line on -/
def Room (T : Int → Int → Prop) (H c l s : Int) : Prop := 0 ≤ l ∧ l + s ≤ H ∧ ∀ j, l ≤ j → j < l + s → ¬ T c j
/-- the first gap of a page -/
def GapR (T : Int → Int → Prop) (K H p s r : Int) : Prop := (r = -1 ∧ ((s < 1 ∨ H < s) ∨ ∀ c l, 0 ≤ c → c < K → ¬ Room T H (p * 4 + c) l s)) ∨ ((1 ≤ s ∧ s ≤ H) ∧ ∃ c l, 0 ≤ c ∧ c < K ∧ r = c * 60 + l ∧ Room T H (p * 4 + c) l s ∧ (∀ l', 0 ≤ l' → l' < l → ¬ Room T H (p * 4 + c) l' s) ∧ ∀ c' l', 0 ≤ c' → c' < c → ¬ Room T H (p * 4 + c') l' s)
theorem Room.congr {T U : Int → Int → Prop} {H c l s : Int} (h : ∀ j, 0 ≤ j → j < H → (T c j ↔ U c j)) (hr : Room T H c l s) : Room U H c l s :=
  ⟨hr.1, hr.2.1, fun j j1 j2 z => hr.2.2 j j1 j2 ((h j (by have := hr.1; omega) (by have := hr.2.1; omega)).2 z)⟩
theorem GapR.bd {T : Int → Int → Prop} {K H p s r : Int} (hK : K ≤ 4) (hH : H ≤ 60) (h : GapR T K H p s r) : -1 ≤ r ∧ r < 240 := by
  rcases h with ⟨h, _⟩ | ⟨h0, c, l, c0, c1, h, w, _⟩
  · omega
  · have := w.1
    have := w.2.1
    omega
theorem c_firstGapOn {Γ : GG} {d : Nat} {m : MI} {n : ML} {post : PO} {p s K H : Int} (hk : m 22 0 0 = K) (hh : m 22 0 1 = H) (hK : 1 ≤ K ∧ K ≤ 4) (hH : 1 ≤ H ∧ H ≤ 60) (hp : 0 ≤ p ∧ p ≤ 4) (hs : InR s) (hA : AllL n H) (Kk : ∀ r, GapR (fun c l => bt (n 23 c) l) K H p s r → post (some (vi r)) m n) : CM Γ (d + 2) 40 [vr 22 0, vi p, vi s] m n post := by
  refine e40 (b40_0 (c_isWithin hs i1 (ir (by omega) (by omega)) (fun q1 q2 => ?_) (fun q => ?_)))
  · rw [hh] at q2
    refine b40_9 (by omega) (fun _ => b40_14 ?_) (fun z => absurd z (by omega))
    have key := up_ind (P := fun y => ∀ u4 u5, (∀ c l, 0 ≤ c → c < y → ¬ Room (fun c l => bt (n 23 c) l) H (p * 4 + c) l s) → AM Γ (d + 2) 40 16 [some (vr 22 0), some (vi p), some (vi s), some (vi y), u4, u5] [] m n post) 0 K (by omega) ?_ ?_
    · exact key none none (fun c l c0 c1 => by omega)
    · intro u4 u5 h
      exact b40_16 (by omega) (by omega) (fun _ => b40_65 (Kk _ (Or.inl ⟨rfl, Or.inr h⟩))) (fun z => absurd z (by omega))
    · intro y y1 y2 ih u4 u5 h
      refine b40_16 (by omega) (by omega) (fun z => absurd y2 (by omega)) (fun _ => b40_24 (by omega) (c_startsOfRoom (lines := H) hA (by omega) q1 q2 (fun x hx => ?_)))
      have rm : ∀ l, 0 ≤ l → l < 64 → (bt x l ↔ Room (fun c l => bt (n 23 c) l) H (p * 4 + y) l s) := fun l l0 l1 => by
        rw [hx l l0 l1]
        constructor
        · intro a
          have := (a (l + s - 1) (by omega) (by omega)).1
          exact ⟨l0, by omega, fun j j1 j2 => (a j j1 j2).2⟩
        · intro a j j1 j2
          have := a.2.1
          exact ⟨by omega, a.2.2 j j1 j2⟩
      refine b40_39 (i32_bd _) (fun q => ?_) (fun q => ?_)
      · rw [lg_z] at q
        refine b40_59 (ih _ _ (fun c l c0 c1 w => ?_))
        rcases (show c < y ∨ c = y by omega) with u | u
        · exact h c l c0 u w
        · subst u
          have b := (rm l w.1 (by have := w.2.1; omega)).2 w
          rw [q] at b
          exact bt_zero b
      · rw [lg_z] at q
        refine b40_48 (c_ntz64 q (fun r r0 r1 r2 r3 => b40_57 (Kk _ (Or.inr ⟨⟨q1, q2⟩, y, r, y1, y2, rfl, (rm r r0 r1).1 r2, fun l l0 l1 w => r3 l l0 l1 ((rm l l0 (by omega)).2 w), h⟩))))
  · rw [hh] at q
    exact b40_9 (by omega) (fun z => absurd rfl z) (fun _ => b40_12 (Kk _ (Or.inl ⟨rfl, Or.inl (by omega)⟩)))
/-- all pieces of an edition -/
def OccP (V : Nat → Int → Int) (c l : Int) : Prop := ∃ i, 0 ≤ i ∧ i < 12 ∧ OnP V i c l
