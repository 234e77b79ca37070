-- the reference's gaps and marks
theorem r_lineAt {Γ : GG} {d : Nat} {m : MI} {n : ML} {post : PO} {a b c : Int} (K : post (some (vi (60 * (4 * a + b) + c))) m n) : CM Γ d 125 [vi a, vi b, vi c] m n post := e125 (b125_0 K)
abbrev Tm (m : MI) : Int → Int → Prop := fun c l => ¬ m 31 0 (60 * c + l) = 0
theorem r_gap {Γ : GG} {d : Nat} {m : MI} {n : ML} {post : PO} {p s K H : Int} (hk : m 26 0 1 = K) (hh : m 26 0 2 = H) (hK : 1 ≤ K ∧ K ≤ 4) (hH : 1 ≤ H ∧ H ≤ 60) (hp : 0 ≤ p ∧ p ≤ 4) (hs : InR s) (s1 : 1 ≤ s) (Kk : ∀ r, GapR (Tm m) K H p s r → post (some (vi (if r = -1 then -9 else r))) m n) : CM Γ (d + 1) 126 [vr 25 0, vi p, vi s] m n post := by
  refine e126 (AM.w0 fun _ hB _ => b126_0 ?_)
  have key := up_ind (P := fun y => ∀ u4 u5, (∀ c l, 0 ≤ c → c < y → ¬ Room (Tm m) H (p * 4 + c) l s) → AM Γ (d + 1) 126 2 [some (vr 25 0), some (vi p), some (vi s), some (vi y), u4, u5] [] m n post) 0 K (by omega) ?_ ?_
  · exact key none none (fun c l c0 c1 => by omega)
  · intro u4 u5 h
    have := Kk (-1) (Or.inl ⟨rfl, Or.inr h⟩)
    rw [if_pos rfl] at this
    exact b126_2 (by omega) (by omega) (fun _ => b126_97 this) (fun z => absurd z (by omega))
  · intro y y1 y2 ih u4 u5 h
    refine b126_2 (by omega) (by omega) (fun z => absurd y2 (by omega)) (fun _ => b126_12 ?_)
    have inner := up_ind (P := fun l => ∀ t, 0 ≤ t → t ≤ l → (H < l → t = l) → (∀ j, t ≤ j → j < l → ¬ Tm m (p * 4 + y) j) → (∀ i, i < t → ¬ Room (Tm m) H (p * 4 + y) i s) → AM Γ (d + 1) 126 18 [some (vr 25 0), some (vi p), some (vi s), some (vi y), some (vi t), some (vi l)] [] m n post) 0 (H + 1) (by omega) ?_ ?_
    · exact inner 0 (by omega) (by omega) (by omega) (fun j j1 j2 => by omega) (fun i i1 w => by have := w.1; omega)
    · intro t t0 t1 th t2 t3
      refine b126_18 (by omega) (by omega) (fun _ => b126_91 (ih _ _ (fun c l c0 c1 w => ?_))) (fun z => absurd (show m 26 0 2 < H + 1 by omega) z)
      rcases (show c < y ∨ c = y by omega) with u | u
      · exact h c l c0 u w
      · rw [u] at w
        rcases (show l < t ∨ t ≤ l by omega) with v | v
        · exact t3 l v w
        · have a1 := w.2.1
          have := th (by omega)
          omega
    · intro l l1 l2 ihl t t0 t1 th t2 t3
      have hs' : -2147483648 ≤ s ∧ s ≤ 2147483647 := hs
      -- the run ends here
      have stop : (l = H ∨ Tm m (p * 4 + y) l) → AM Γ (d + 1) 126 55 [some (vr 25 0), some (vi p), some (vi s), some (vi y), some (vi t), some (vi l)] [] m n post := by
        intro hst
        have nx : l - t < s → AM Γ (d + 1) 126 79 [some (vr 25 0), some (vi p), some (vi s), some (vi y), some (vi t), some (vi l)] [] m n post := by
          intro lt
          refine b126_79 (b126_85 (ihl (l + 1) (by omega) (by omega) (fun _ => rfl) (fun j j1 j2 => by omega) (fun i i1 w => ?_)))
          rcases (show i < t ∨ t ≤ i by omega) with v | v
          · exact t3 i v w
          · have a2 := w.2.1
            rcases hst with e | e
            · omega
            · exact w.2.2 l (by omega) (by omega) e
        refine b126_55 (by omega) hs (fun lt => nx lt) (fun ge => b126_64 (by omega) (by omega) (fun z => absurd (show t < l by omega) z) (fun _ => b126_71 ?_))
        have g : GapR (Tm m) K H p s (y * 60 + t) := Or.inr ⟨⟨s1, by omega⟩, y, t, y1, y2, rfl, ⟨t0, by omega, fun j j1 j2 => t2 j j1 (by omega)⟩, fun i _ i1 => t3 i i1, h⟩
        have := Kk _ g
        rw [if_neg (by omega), show y * 60 + t = 60 * y + t by omega] at this
        exact this
      refine b126_18 (by omega) (by omega) (fun z => absurd z (by omega)) (fun _ => b126_29 (by omega) (by omega) (fun z => stop (Or.inl (by omega))) (fun z => b126_40 (r_lineAt (b126_51 (by omega) ?_ (fun q => b126_85 (ihl t t0 (by omega) (by omega) (fun j j1 j2 => ?_) t3)) (fun q => stop (Or.inr ?_))))))
      · have := hB 31 0 (60 * (4 * p + y) + l) (by decide)
        omega
      · rcases (show j < l ∨ j = l by omega) with u | u
        · exact t2 j j1 u
        · rw [u]
          show ¬ ¬ m 31 0 (60 * (p * 4 + y) + l) = 0
          rw [show 60 * (p * 4 + y) + l = 60 * (4 * p + y) + l by omega, q]
          simp
      · show ¬ m 31 0 (60 * (p * 4 + y) + l) = 0
        rw [show 60 * (p * 4 + y) + l = 60 * (4 * p + y) + l by omega]
        exact q
theorem r_marks {Γ : GG} {d : Nat} {m : MI} {n : ML} {post : PO} {p c t s v : Int} (hp : 0 ≤ p ∧ p ≤ 4) (hc : 0 ≤ c ∧ c ≤ 3) (ht : 0 ≤ t ∧ 0 ≤ s ∧ t + s ≤ 60) (hv : v = 0 ∨ v = 1) (K : ∀ m', (∀ k, k ≠ 31 → m' k = m k) → (∀ z, m' 31 0 z = if 60 * (4 * p + c) + t ≤ z ∧ z < 60 * (4 * p + c) + t + s then v else m 31 0 z) → post none m' n) : CM Γ (d + 1) 127 [vr 25 0, vi p, vi c, vi t, vi s, vi v] m n post := by
  refine e127 (b127_0 ?_)
  have key := up_ind (P := fun y => ∀ mm : MI, (∀ k, k ≠ 31 → mm k = m k) → (∀ z, mm 31 0 z = if 60 * (4 * p + c) + t ≤ z ∧ z < 60 * (4 * p + c) + t + y then v else m 31 0 z) → AM Γ (d + 1) 127 3 [some (vr 25 0), some (vi p), some (vi c), some (vi t), some (vi s), some (vi v), some (vi y)] [] mm n post) 0 s (by omega) ?_ ?_
  · exact key m (fun _ _ => rfl) (fun z => by rw [if_neg (by omega)])
  · intro mm h1 h2
    exact b127_3 (by omega) (by omega) (fun _ => b127_32 (K mm h1 h2)) (fun z => absurd z (by omega))
  · intro y y1 y2 ih mm h1 h2
    refine b127_3 (by omega) (by omega) (fun z => absurd y2 z) (fun _ => b127_10 (r_lineAt (b127_23 (by omega) hv (ih _ (fun k z => by rw [up_k z, h1 k z]) (fun z => ?_)))))
    rw [up_rd]
    by_cases q : z = 60 * (4 * p + c) + (t + y)
    · rw [if_pos ⟨rfl, rfl, q⟩, if_pos (by omega)]
    · rw [if_neg (fun u => q u.2.2), h2 z]
      by_cases w : 60 * (4 * p + c) + t ≤ z ∧ z < 60 * (4 * p + c) + t + y
      · rw [if_pos w, if_pos (by omega)]
      · rw [if_neg w, if_neg (by omega)]
