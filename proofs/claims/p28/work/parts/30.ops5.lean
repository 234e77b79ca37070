/-- a number of a piece -/
def prpV (V : Nat → Int → Int) (a b w : Int) : Int :=
  if w = 0 then V 13 (a * 3 + b) else if w = 1 then V 14 (a * 3 + b) else if w = 2 then V 15 (a * 3 + b) else if w = 3 then V 16 (a * 3 + b) else if w = 4 then V 17 (a * 3 + b) else if w = 5 then V 18 (a * 3 + b)
  else if w = 6 then (if b + 1 < V 11 a then V 13 (a * 3 + b + 1) else -9) else (if 0 < b then V 13 (a * 3 + b - 1) else -9)
theorem c_propertyOf {Γ : GG} {d : Nat} {m : MI} {n : ML} {post : PO} {e a b w : Int} (ha : 0 ≤ a ∧ a < 12) (hb : 0 ≤ b ∧ b < m 11 e a) (hc : m 11 e a ≤ 3) (hw : 0 ≤ w ∧ w ≤ 7) (K : post (some (vi (prpV (Vw m e) a b w))) m n) : CM Γ d 15 [vr 10 e, vi a, vi b, vi w] m n post := by
  unfold prpV at K
  dsimp only [Vw] at K
  refine e15 (b15_0 (by omega) (fun h => ?_) (fun h => ?_) (fun h => ?_) (fun h => ?_) (fun h => ?_) (fun h => ?_) (fun h => ?_) (fun h => ?_))
  · rw [if_neg (by omega), if_neg (by omega), if_neg (by omega), if_neg (by omega), if_neg (by omega), if_neg (by omega), if_neg (by omega)] at K
    refine b15_127 (by omega) (fun z => b15_143 (b15_145 ?_)) (fun z => b15_131 (by omega) (b15_145 ?_))
    · rw [if_neg z] at K; exact K
    · rw [if_pos z] at K; exact K
  · subst h; exact b15_52 (by omega) K
  · subst h; exact b15_60 (by omega) K
  · subst h; exact b15_68 (by omega) K
  · subst h; exact b15_76 (by omega) K
  · subst h; exact b15_84 (by omega) K
  · subst h; exact b15_92 (by omega) K
  · subst h
    rw [if_neg (by omega), if_neg (by omega), if_neg (by omega), if_neg (by omega), if_neg (by omega), if_neg (by omega), if_pos rfl] at K
    refine b15_100 (by omega) (by omega) (by omega) (fun z => b15_124 (b15_126 ?_)) (fun z => b15_112 (by omega) (b15_126 ?_))
    · rw [if_neg z] at K; exact K
    · rw [if_pos z] at K; exact K
/-- the story whose piece is on a line -/
def Own (V : Nat → Int → Int) (p c l j k : Int) : Prop := V 13 (j * 3 + k) = p ∧ V 14 (j * 3 + k) = c ∧ V 15 (j * 3 + k) ≤ l ∧ l < V 15 (j * 3 + k) + V 16 (j * 3 + k)
def HasOn (V : Nat → Int → Int) (p c l j : Int) : Prop := ∃ k, 0 ≤ k ∧ k < V 11 j ∧ Own V p c l j k
def OwnR (V : Nat → Int → Int) (p c l r : Int) : Prop := (0 ≤ r ∧ r < 12 ∧ HasOn V p c l r ∧ ∀ j, 0 ≤ j → j < r → ¬ HasOn V p c l j) ∨ (r = -9 ∧ ∀ j, 0 ≤ j → j < 12 → ¬ HasOn V p c l j)
theorem OwnR.uniq {V : Nat → Int → Int} {p c l r r' : Int} (h : OwnR V p c l r) (h' : OwnR V p c l r') : r = r' := by
  rcases h with ⟨a1, a2, a3, a4⟩ | ⟨a1, a2⟩ <;> rcases h' with ⟨b1, b2, b3, b4⟩ | ⟨b1, b2⟩
  · rcases (show r < r' ∨ r = r' ∨ r' < r by omega) with z | z | z
    · exact absurd a3 (b4 r a1 z)
    · exact z
    · exact absurd b3 (a4 r' b1 z)
  · exact absurd a3 (b2 r a1 a2)
  · exact absurd b3 (a2 r' b1 b2)
  · omega
theorem OwnR.bd {V : Nat → Int → Int} {p c l r : Int} (h : OwnR V p c l r) : -9 ≤ r ∧ r ≤ 11 := by
  rcases h with h | h <;> omega
def PcB (m : MI) (e : Int) : Prop := ∀ i k, 0 ≤ i → i < 12 → 0 ≤ k → k < m 11 e i → (0 ≤ m 13 e (i * 3 + k) ∧ m 13 e (i * 3 + k) ≤ 4) ∧ (0 ≤ m 14 e (i * 3 + k) ∧ m 14 e (i * 3 + k) ≤ 3) ∧ (0 ≤ m 15 e (i * 3 + k) ∧ 1 ≤ m 16 e (i * 3 + k) ∧ m 15 e (i * 3 + k) + m 16 e (i * 3 + k) ≤ 60)
theorem not_hasOn {V : Nat → Int → Int} {p c l j y : Int} (h : ∀ k, 0 ≤ k → k < y → ¬ Own V p c l j k) (hy : ¬ y < V 11 j) : ¬ HasOn V p c l j := by
  rintro ⟨k, k1, k2, k3⟩
  exact h k k1 (by omega) k3
theorem c_storyOnLine {Γ : GG} {d : Nat} {m : MI} {n : ML} {post : PO} {e p c l : Int} (hb : PcOK m e) (hB : PcB m e) (hp : InR p) (hc : InR c) (hl : InR l) (K : ∀ r, OwnR (Vw m e) p c l r → post (some (vi r)) m n) : CM Γ d 16 [vr 10 e, vi p, vi c, vi l] m n post := by
  refine e16 (b16_0 ?_)
  have key := up_ind (P := fun x => ∀ w5 w6, (∀ j, 0 ≤ j → j < x → ¬ HasOn (Vw m e) p c l j) → AM Γ d 16 3 [some (vr 10 e), some (vi p), some (vi c), some (vi l), some (vi x), w5, w6] [] m n post) 0 12 (by omega) ?_ ?_
  · exact key none none (fun j h1 h2 => by omega)
  · intro w5 w6 h
    exact b16_3 (by omega) (fun _ => b16_102 (K _ (Or.inr ⟨rfl, h⟩))) (fun z => absurd z (by omega))
  · intro x h1 h2 ih w5 w6 h
    refine b16_3 (by omega) (fun z => absurd h2 z) (fun _ => b16_10 ?_)
    have hx := hb x h1 h2
    have inner := up_ind (P := fun y => (∀ k, 0 ≤ k → k < y → ¬ Own (Vw m e) p c l x k) → AM Γ d 16 20 [some (vr 10 e), some (vi p), some (vi c), some (vi l), some (vi x), some (vi (x * 3)), some (vi (x * 3 + y))] [] m n post) 0 3 (by omega) ?_ ?_
    · have := inner (fun k k1 k2 => by omega)
      rw [Int.add_zero] at this
      exact this
    · intro hk
      refine b16_20 (by omega) (by omega) (by omega) (fun z => b16_96 (ih _ _ (fun j j1 j2 => ?_))) (fun z => absurd z (by omega))
      rcases (show j < x ∨ j = x by omega) with q | rfl
      · exact h j j1 q
      · exact not_hasOn hk (by show ¬ 3 < m 11 e j; omega)
    · intro y y1 y2 ihy hk
      have nxt : ¬ Own (Vw m e) p c l x y → AM Γ d 16 90 [some (vr 10 e), some (vi p), some (vi c), some (vi l), some (vi x), some (vi (x * 3)), some (vi (x * 3 + y))] [] m n post := by
        intro no
        refine b16_90 ?_
        rw [Int.add_assoc]
        refine ihy (fun k k1 k2 => ?_)
        rcases (show k < y ∨ k = y by omega) with q | rfl
        · exact hk k k1 q
        · exact no
      refine b16_20 (by omega) (by omega) (by omega) (fun z => b16_96 (ih _ _ (fun j j1 j2 => ?_))) (fun z => ?_)
      · rcases (show j < x ∨ j = x by omega) with q | rfl
        · exact h j j1 q
        · exact not_hasOn hk (by show ¬ y < m 11 e j; omega)
      · have bd := hB x y h1 h2 y1 (by omega)
        have hp' : -2147483648 ≤ p ∧ p ≤ 2147483647 := hp
        have hc' : -2147483648 ≤ c ∧ c ≤ 2147483647 := hc
        have hl' : -2147483648 ≤ l ∧ l ≤ 2147483647 := hl
        refine b16_35 (by omega) (by omega) (by omega) (fun g => nxt (fun o => g o.1)) (fun g1 => b16_46 (by omega) (by omega) (by omega) (fun g => nxt (fun o => g o.2.1)) (fun g2 => b16_57 (by omega) (by omega) (by omega) (fun g => nxt (fun o => absurd o.2.2.1 (by show ¬ m 15 e (x * 3 + y) ≤ l; omega))) (fun g3 => b16_68 (by omega) (by omega) (by omega) (by omega) (fun g => nxt (fun o => g o.2.2.2)) (fun g4 => b16_87 (K x (Or.inl ⟨h1, h2, ⟨y, y1, by show y < m 11 e x; omega, g1, g2, by show m 15 e (x * 3 + y) ≤ l; omega, g4⟩, h⟩))))))
