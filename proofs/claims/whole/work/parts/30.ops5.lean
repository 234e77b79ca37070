-- the pairs of calls: piece, at
theorem pc_bd {t : Int} {m : MI} (hS : Sim t m m) {i k : Int} (h1 : 0 ≤ i) (h2 : i < 12) (k1 : 0 ≤ k) (k2 : k < m 11 0 i) : 0 < m 10 0 0 ∧ k < 3 ∧ (0 ≤ m 13 0 (i * 3 + k) ∧ m 13 0 (i * 3 + k) ≤ 4) ∧ (0 ≤ m 14 0 (i * 3 + k) ∧ m 14 0 (i * 3 + k) ≤ 3) ∧ (0 ≤ m 15 0 (i * 3 + k) ∧ 1 ≤ m 16 0 (i * 3 + k) ∧ m 15 0 (i * 3 + k) + m 16 0 (i * 3 + k) ≤ 60) ∧ (0 ≤ m 17 0 (i * 3 + k) ∧ m 17 0 (i * 3 + k) ≤ 8) ∧ (1 ≤ m 18 0 (i * 3 + k) ∧ m 18 0 (i * 3 + k) ≤ 8) := by
  have hW := hS.1.2.1
  unfold HWf at hW
  have e := hS.1.2.2.2 i h1 h2
  have e5 := e.2.2.2.2 k k1 k2
  have e1 : -1 ≤ m 11 0 i ∧ m 11 0 i ≤ 3 := e.1
  dsimp only [Vw] at hW e5
  have g : 0 < m 10 0 0 := by
    rcases (show m 10 0 0 = 0 ∨ 0 < m 10 0 0 by omega) with z | z
    · have : m 11 0 i = -1 := e.2.2.1 z
      omega
    · exact z
  have w := hW.2.2.2.2.2 g
  omega
theorem pc_sim {t : Int} {m : MI} (hS : Sim t m m) {i k : Int} (h1 : 0 ≤ i) (h2 : i < m 3 0 3) (k1 : 0 ≤ k) (k2 : k < m 11 0 i) : m 26 0 (166 + 20 * i + 6 * k) = m 13 0 (i * 3 + k) ∧ m 26 0 (166 + 20 * i + 6 * k + 1) = m 14 0 (i * 3 + k) ∧ m 26 0 (166 + 20 * i + 6 * k + 2) = m 15 0 (i * 3 + k) ∧ m 26 0 (166 + 20 * i + 6 * k + 3) = m 16 0 (i * 3 + k) ∧ m 26 0 (166 + 20 * i + 6 * k + 4) = m 17 0 (i * 3 + k) ∧ m 26 0 (166 + 20 * i + 6 * k + 5) = m 18 0 (i * 3 + k) :=
  (hS.1.1.2 i h1 h2).2.2.2 k k1 k2
/-- a number of a piece -/
def prpV (V : Nat → Int → Int) (a b w : Int) : Int :=
  if w = 0 then V 13 (a * 3 + b) else if w = 1 then V 14 (a * 3 + b) else if w = 2 then V 15 (a * 3 + b) else if w = 3 then V 16 (a * 3 + b) else if w = 4 then V 17 (a * 3 + b) else if w = 5 then V 18 (a * 3 + b)
  else if w = 6 then (if b + 1 < V 11 a then V 13 (a * 3 + b + 1) else -9) else (if 0 < b then V 13 (a * 3 + b - 1) else -9)
theorem c_propertyOf {Γ : GG} {d : Nat} {m : MI} {n : ML} {post : PO} {e a b w : Int} (ha : 0 ≤ a ∧ a < 12) (hb : 0 ≤ b ∧ b < m 11 e a) (hc : m 11 e a ≤ 3) (hw : 0 ≤ w ∧ w ≤ 7) (K : post (some (vi (prpV (Vw m e) a b w))) m n) : CM Γ d 15 [vr 10 e, vi a, vi b, vi w] m n post := by
  unfold prpV at K
  dsimp only [Vw] at K
  refine e15 (b15_0 (by omega) (fun h => ?_) (fun h => ?_) (fun h => ?_) (fun h => ?_) (fun h => ?_) (fun h => ?_) (fun h => ?_) (fun h => ?_))
  · rw [if_neg (by omega), if_neg (by omega), if_neg (by omega), if_neg (by omega), if_neg (by omega), if_neg (by omega), if_neg (by omega)] at K
    refine b15_127 (by omega) (fun z => b15_143 (b15_145 ?_)) (fun z => b15_131 (by omega) (b15_145 ?_))
    · rw [if_neg z] at K; exact K
    · rw [if_pos z] at K; exact K
  · subst h; exact b15_52 (by omega) K
  · subst h; exact b15_60 (by omega) K
  · subst h; exact b15_68 (by omega) K
  · subst h; exact b15_76 (by omega) K
  · subst h; exact b15_84 (by omega) K
  · subst h; exact b15_92 (by omega) K
  · subst h
    rw [if_neg (by omega), if_neg (by omega), if_neg (by omega), if_neg (by omega), if_neg (by omega), if_neg (by omega), if_pos rfl] at K
    refine b15_100 (by omega) (by omega) (by omega) (fun z => b15_124 (b15_126 ?_)) (fun z => b15_112 (by omega) (b15_126 ?_))
    · rw [if_neg z] at K; exact K
    · rw [if_pos z] at K; exact K
theorem prp_bd {t : Int} {m : MI} (hS : Sim t m m) {a b w : Int} (h1 : 0 ≤ a) (h2 : a < 12) (k1 : 0 ≤ b) (k2 : b < m 11 0 a) : InR (prpV (Vw m 0) a b w) := by
  have e := pc_bd hS h1 h2 k1 k2
  unfold prpV
  dsimp only [Vw]
  split
  · exact ir (by omega) (by omega)
  split
  · exact ir (by omega) (by omega)
  split
  · exact ir (by omega) (by omega)
  split
  · exact ir (by omega) (by omega)
  split
  · exact ir (by omega) (by omega)
  split
  · exact ir (by omega) (by omega)
  split
  · split
    · have e := pc_bd hS (k := b + 1) h1 h2 (by omega) (by assumption)
      rw [← Int.add_assoc] at e
      exact ir (by omega) (by omega)
    · exact ir (by omega) (by omega)
  · split
    · have e := pc_bd hS (k := b - 1) h1 h2 (by omega) (by omega)
      rw [show a * 3 + (b - 1) = a * 3 + b - 1 by omega] at e
      exact ir (by omega) (by omega)
    · exact ir (by omega) (by omega)
set_option maxHeartbeats 4000000 in
theorem op_piece {Γ : GG} {d : Nat} {m : MI} {n : ML} {t a b w : Int} (hS : Sim t m m) (ht : t ≤ 1000) (ha : InR a) (hb : InR b) (hw : InR w) : Both Γ (d + 5) 74 141 [vr 1 0, vi a, vi b, vi w] [vr 25 0, vi a, vi b, vi w] m n t := by
  obtain ⟨c0, c1, c2, c3, c4, c5⟩ := sim_cnt hS
  have hP := hS.1.1.1
  have hW := hS.1.2.1
  unfold HWf at hW
  dsimp only [Vw] at hP hW
  have bad : (a < 0 ∨ m 3 0 3 ≤ a) ∨ b < 0 ∨ (w < 0 ∨ 7 < w) → AM Γ (d + 5) 74 22 [some (vr 1 0), some (vi a), some (vi b), some (vi w)] [] m n (fun r1 m1 n1 => ∃ x, InR x ∧ r1 = some (vi x) ∧ CM Γ (d + 5) 141 [vr 25 0, vi a, vi b, vi w] m1 n1 (fun r2 m2 _ => r2 = some (vi x) ∧ Sim (t + 1) m2 m2)) := by
    intro h
    refine b74_22 ⟨-1, ir (by omega) (by omega), rfl, e141 (b141_0 (r_isStory ha (by omega) (by omega) (fun q1 q2 => ?_) (fun q => ?_)))⟩
    · refine b141_5 (by omega) (fun z => absurd z (by omega)) (fun _ => b141_8 hb (fun z => b141_22 ⟨rfl, hS.next⟩) (fun z => b141_12 (r_in hw i0 (ir (by omega) (by omega)) (fun p1 p2 => by omega) (fun p => ?_))))
      exact b141_19 (by omega) (fun z => absurd rfl z) (fun _ => b141_22 ⟨rfl, hS.next⟩)
    · exact b141_5 (by omega) (fun _ => b141_22 ⟨rfl, hS.next⟩) (fun z => absurd rfl z)
  refine e74 (b74_0 (c_isStory ha c0 c1 (fun q1 q2 => ?_) (fun q => ?_)))
  · refine b74_5 (by omega) (fun z => absurd z (by omega)) (fun _ => b74_8 hb (fun z => bad (Or.inr (Or.inl z))) (fun hb0 => b74_12 (c_isWithin hw i0 (ir (by omega) (by omega)) (fun w1 w2 => ?_) (fun z => ?_))))
    · obtain ⟨e1, e2, e3, e4⟩ := pr_sim hS q1 q2
      have go : ∀ (x : Int), AM Γ (d + 5) 141 24 [some (vr 25 0), some (vi a), some (vi b), some (vi w), none, none] [] m n (fun r2 m2 _ => r2 = some (vi x) ∧ Sim (t + 1) m2 m2) → CM Γ (d + 5) 141 [vr 25 0, vi a, vi b, vi w] m n (fun r2 m2 _ => r2 = some (vi x) ∧ Sim (t + 1) m2 m2) := by
        intro x h
        refine e141 (b141_0 (r_isStory ha (by omega) (by omega) (fun _ _ => ?_) (fun _ => by omega)))
        refine b141_5 (by omega) (fun z => absurd z (by omega)) (fun _ => b141_8 hb (fun z => absurd z hb0) (fun z => b141_12 (r_in hw i0 (ir (by omega) (by omega)) (fun p1 p2 => ?_) (fun p => by omega))))
        exact b141_19 (by omega) (fun _ => h) (fun z => absurd z (by omega))
      refine b74_19 (by omega) (fun _ => b74_24 (c_hasEdition (ir (by omega) (by omega)) (fun g => ?_) (fun g => ?_))) (fun z => absurd z (by omega))
      · refine b74_28 (by omega) (fun _ => b74_34 (by omega) hb (by omega) (fun k2 => ?_) (fun k2 => ?_)) (fun z => absurd z (by omega))
        · have k1 : 0 ≤ b := by omega
          have bd := pc_bd hS q1 (by omega) k1 k2
          have hx := prp_bd hS (w := w) q1 (by omega) k1 k2
          refine b74_53 (c_propertyOf (by omega) (by omega) (by omega) (by omega) (b74_66 ⟨_, hx, rfl, go _ ?_⟩))
          have k3 : (if m 11 0 a = -1 then -9 else m 11 0 a) = m 11 0 a := if_neg (by omega)
          refine b141_24 (by omega) (fun _ => b141_38 (r_printed (by omega) (by omega) ?_)) (fun z => by omega)
          rw [Int.add_zero, e1, k3]
          refine b141_44 hb (by omega) (fun _ => ?_) (fun z => absurd k2 z)
          obtain ⟨s0, s1, s2, s3, s4, s5⟩ := pc_sim hS q1 q2 k1 k2
          refine b141_55 hw (fun w6 => ?_) (fun w6 => ?_)
          · refine b141_79 hw (fun w7 => ?_) (fun w7 => ?_)
            · unfold prpV
              rw [if_neg (by omega), if_neg (by omega), if_neg (by omega), if_neg (by omega), if_neg (by omega), if_neg (by omega), if_neg (by omega)]
              refine b141_111 hb (fun z => b141_128 (b141_130 ⟨by rw [if_neg z], hS.next⟩)) (fun z => b141_115 (r_printed (by omega) (by omega) (b141_125 (b141_130 ⟨?_, hS.next⟩))))
              rw [if_pos z]
              obtain ⟨u0, -⟩ := pc_sim hS (k := b - 1) q1 q2 (by omega) (by omega)
              rw [show 164 + 20 * a + (2 + 6 * b - 6) = 166 + 20 * a + 6 * (b - 1) by omega, u0, show a * 3 + (b - 1) = a * 3 + b - 1 by omega]
            · unfold prpV
              rw [if_neg (by omega), if_neg (by omega), if_neg (by omega), if_neg (by omega), if_neg (by omega), if_neg (by omega), if_pos (by omega)]
              refine b141_85 (by omega) (by omega) (fun z => b141_106 (b141_130 ⟨?_, hS.next⟩)) (fun z => b141_93 (r_printed (by omega) (by omega) (b141_103 (b141_130 ⟨?_, hS.next⟩))))
              · dsimp only [Vw]
                rw [if_neg z]
              · obtain ⟨u0, -⟩ := pc_sim hS (k := b + 1) q1 q2 (by omega) z
                dsimp only [Vw]
                rw [if_pos z, show 164 + 20 * a + (2 + 6 * b + 6) = 166 + 20 * a + 6 * (b + 1) by omega, u0, ← Int.add_assoc]
          · refine b141_69 (r_printed (by omega) (by omega) (b141_78 ⟨?_, hS.next⟩))
            have hw6 : w = 0 ∨ w = 1 ∨ w = 2 ∨ w = 3 ∨ w = 4 ∨ w = 5 := by omega
            rw [show 164 + 20 * a + (2 + 6 * b + w) = 166 + 20 * a + 6 * b + w by omega]
            rcases hw6 with rfl | rfl | rfl | rfl | rfl | rfl
            · rw [Int.add_zero, s0]; rfl
            · rw [s1]; rfl
            · rw [s2]; rfl
            · rw [s3]; rfl
            · rw [s4]; rfl
            · rw [s5]; rfl
        · refine b74_50 ⟨-9, ir (by omega) (by omega), rfl, go _ ?_⟩
          refine b141_24 (by omega) (fun _ => b141_38 (r_printed (by omega) (by omega) ?_)) (fun z => by omega)
          rw [Int.add_zero, e1]
          exact b141_44 hb (by split <;> omega) (fun z => absurd z (by split <;> omega)) (fun _ => b141_52 ⟨rfl, hS.next⟩)
      · exact b74_28 (by omega) (fun h => absurd rfl h) (fun _ => b74_31 ⟨-2, ir (by omega) (by omega), rfl, go _ (b141_24 (by omega) (fun z => by omega) (fun _ => b141_35 ⟨rfl, hS.next⟩))⟩)
    · exact b74_19 (by omega) (fun z => absurd rfl z) (fun _ => bad (Or.inr (Or.inr z)))
  · exact b74_5 (by omega) (fun _ => bad (Or.inl q)) (fun z => absurd rfl z)
/-- the story whose piece is on a line -/
def Own (V : Nat → Int → Int) (p c l j k : Int) : Prop := V 13 (j * 3 + k) = p ∧ V 14 (j * 3 + k) = c ∧ V 15 (j * 3 + k) ≤ l ∧ l < V 15 (j * 3 + k) + V 16 (j * 3 + k)
def HasOn (V : Nat → Int → Int) (p c l j : Int) : Prop := ∃ k, 0 ≤ k ∧ k < V 11 j ∧ Own V p c l j k
def OwnR (V : Nat → Int → Int) (p c l r : Int) : Prop := (0 ≤ r ∧ r < 12 ∧ HasOn V p c l r ∧ ∀ j, 0 ≤ j → j < r → ¬ HasOn V p c l j) ∨ (r = -9 ∧ ∀ j, 0 ≤ j → j < 12 → ¬ HasOn V p c l j)
theorem OwnR.uniq {V : Nat → Int → Int} {p c l r r' : Int} (h : OwnR V p c l r) (h' : OwnR V p c l r') : r = r' := by
  rcases h with ⟨a1, a2, a3, a4⟩ | ⟨a1, a2⟩ <;> rcases h' with ⟨b1, b2, b3, b4⟩ | ⟨b1, b2⟩
  · rcases (show r < r' ∨ r = r' ∨ r' < r by omega) with z | z | z
    · exact absurd a3 (b4 r a1 z)
    · exact z
    · exact absurd b3 (a4 r' b1 z)
  · exact absurd a3 (b2 r a1 a2)
  · exact absurd b3 (a2 r' b1 b2)
  · omega
theorem OwnR.bd {V : Nat → Int → Int} {p c l r : Int} (h : OwnR V p c l r) : -9 ≤ r ∧ r ≤ 11 := by
  rcases h with h | h <;> omega
def PcB (m : MI) (e : Int) : Prop := ∀ i k, 0 ≤ i → i < 12 → 0 ≤ k → k < m 11 e i → (0 ≤ m 13 e (i * 3 + k) ∧ m 13 e (i * 3 + k) ≤ 4) ∧ (0 ≤ m 14 e (i * 3 + k) ∧ m 14 e (i * 3 + k) ≤ 3) ∧ (0 ≤ m 15 e (i * 3 + k) ∧ 1 ≤ m 16 e (i * 3 + k) ∧ m 15 e (i * 3 + k) + m 16 e (i * 3 + k) ≤ 60)
theorem pcB {t : Int} {m : MI} (hS : Sim t m m) : PcB m 0 := fun i k h1 h2 k1 k2 => by
  have := pc_bd hS h1 h2 k1 k2
  exact ⟨this.2.2.1, this.2.2.2.1, this.2.2.2.2.1⟩
theorem not_hasOn {V : Nat → Int → Int} {p c l j y : Int} (h : ∀ k, 0 ≤ k → k < y → ¬ Own V p c l j k) (hy : ¬ y < V 11 j) : ¬ HasOn V p c l j := by
  rintro ⟨k, k1, k2, k3⟩
  exact h k k1 (by omega) k3
theorem c_storyOnLine {Γ : GG} {d : Nat} {m : MI} {n : ML} {post : PO} {e p c l : Int} (hb : PcOK m e) (hB : PcB m e) (hp : InR p) (hc : InR c) (hl : InR l) (K : ∀ r, OwnR (Vw m e) p c l r → post (some (vi r)) m n) : CM Γ d 16 [vr 10 e, vi p, vi c, vi l] m n post := by
  refine e16 (b16_0 ?_)
  have key := up_ind (P := fun x => ∀ w5 w6, (∀ j, 0 ≤ j → j < x → ¬ HasOn (Vw m e) p c l j) → AM Γ d 16 3 [some (vr 10 e), some (vi p), some (vi c), some (vi l), some (vi x), w5, w6] [] m n post) 0 12 (by omega) ?_ ?_
  · exact key none none (fun j h1 h2 => by omega)
  · intro w5 w6 h
    exact b16_3 (by omega) (fun _ => b16_102 (K _ (Or.inr ⟨rfl, h⟩))) (fun z => absurd z (by omega))
  · intro x h1 h2 ih w5 w6 h
    refine b16_3 (by omega) (fun z => absurd h2 z) (fun _ => b16_10 ?_)
    have hx := hb x h1 h2
    have inner := up_ind (P := fun y => (∀ k, 0 ≤ k → k < y → ¬ Own (Vw m e) p c l x k) → AM Γ d 16 20 [some (vr 10 e), some (vi p), some (vi c), some (vi l), some (vi x), some (vi (x * 3)), some (vi (x * 3 + y))] [] m n post) 0 3 (by omega) ?_ ?_
    · have := inner (fun k k1 k2 => by omega)
      rw [Int.add_zero] at this
      exact this
    · intro hk
      refine b16_20 (by omega) (by omega) (by omega) (fun z => b16_96 (ih _ _ (fun j j1 j2 => ?_))) (fun z => absurd z (by omega))
      rcases (show j < x ∨ j = x by omega) with q | rfl
      · exact h j j1 q
      · exact not_hasOn hk (by show ¬ 3 < m 11 e j; omega)
    · intro y y1 y2 ihy hk
      have nxt : ¬ Own (Vw m e) p c l x y → AM Γ d 16 90 [some (vr 10 e), some (vi p), some (vi c), some (vi l), some (vi x), some (vi (x * 3)), some (vi (x * 3 + y))] [] m n post := by
        intro no
        refine b16_90 ?_
        rw [Int.add_assoc]
        refine ihy (fun k k1 k2 => ?_)
        rcases (show k < y ∨ k = y by omega) with q | rfl
        · exact hk k k1 q
        · exact no
      refine b16_20 (by omega) (by omega) (by omega) (fun z => b16_96 (ih _ _ (fun j j1 j2 => ?_))) (fun z => ?_)
      · rcases (show j < x ∨ j = x by omega) with q | rfl
        · exact h j j1 q
        · exact not_hasOn hk (by show ¬ y < m 11 e j; omega)
      · have bd := hB x y h1 h2 y1 (by omega)
        have hp' : -2147483648 ≤ p ∧ p ≤ 2147483647 := hp
        have hc' : -2147483648 ≤ c ∧ c ≤ 2147483647 := hc
        have hl' : -2147483648 ≤ l ∧ l ≤ 2147483647 := hl
        refine b16_35 (by omega) (by omega) (by omega) (fun g => nxt (fun o => g o.1)) (fun g1 => b16_46 (by omega) (by omega) (by omega) (fun g => nxt (fun o => g o.2.1)) (fun g2 => b16_57 (by omega) (by omega) (by omega) (fun g => nxt (fun o => absurd o.2.2.1 (by show ¬ m 15 e (x * 3 + y) ≤ l; omega))) (fun g3 => b16_68 (by omega) (by omega) (by omega) (by omega) (fun g => nxt (fun o => g o.2.2.2)) (fun g4 => b16_87 (K x (Or.inl ⟨h1, h2, ⟨y, y1, by show y < m 11 e x; omega, g1, g2, by show m 15 e (x * 3 + y) ≤ l; omega, g4⟩, h⟩))))))
theorem r_owner {Γ : GG} {d : Nat} {m : MI} {n : ML} {post : PO} {t p c l : Int} (hS : Sim t m m) (hp : InR p) (hc : InR c) (hl : InR l) (K : ∀ r, OwnR (Vw m 0) p c l r → post (some (vi r)) m n) : CM Γ (d + 1) 142 [vr 25 0, vi p, vi c, vi l] m n post := by
  obtain ⟨c0, c1, c2, c3, c4, c5⟩ := sim_cnt hS
  refine e142 (b142_0 ?_)
  have key := up_ind (P := fun x => ∀ w5 w6 w7, (∀ j, 0 ≤ j → j < x → ¬ HasOn (Vw m 0) p c l j) → AM Γ (d + 1) 142 3 [some (vr 25 0), some (vi p), some (vi c), some (vi l), some (vi x), w5, w6, w7] [] m n post) 0 (m 26 0 3) (by omega) ?_ ?_
  · exact key none none none (fun j h1 h2 => by omega)
  · intro w5 w6 w7 h
    refine b142_3 (by omega) (by omega) (fun _ => b142_115 (K _ (Or.inr ⟨rfl, fun j j1 j2 => ?_⟩))) (fun z => absurd z (by omega))
    rcases (show j < m 26 0 3 ∨ m 26 0 3 ≤ j by omega) with q | q
    · exact h j j1 q
    · have := (tl_sim hS (i := j) (by omega) j2).1
      rintro ⟨k, k1, k2, -⟩
      replace k2 : k < m 11 0 j := k2
      omega
  · intro x h1 h2 ih w5 w6 w7 h
    refine b142_3 (by omega) (by omega) (fun z => absurd h2 z) (fun _ => b142_14 ?_)
    obtain ⟨e1, -, e3, -⟩ := pr_sim hS h1 (by omega)
    have e0 : ∀ y, 0 ≤ y → (y < (if m 11 0 x = -1 then -9 else m 11 0 x) ↔ y < m 11 0 x) := fun y hy => by split <;> omega
    have ebd : -9 ≤ (if m 11 0 x = -1 then -9 else m 11 0 x) ∧ (if m 11 0 x = -1 then -9 else m 11 0 x) ≤ 3 := by split <;> omega
    have inner := up_ind (P := fun y => ∀ w6 w7, (∀ k, 0 ≤ k → k < y → ¬ Own (Vw m 0) p c l x k) → AM Γ (d + 1) 142 17 [some (vr 25 0), some (vi p), some (vi c), some (vi l), some (vi x), some (vi y), w6, w7] [] m n post) 0 3 (by omega) ?_ ?_
    · exact inner _ _ (fun k k1 k2 => by omega)
    · intro w6 w7 hk
      refine b142_17 (r_printed (by omega) (by omega) ?_)
      rw [Int.add_zero, e1]
      refine b142_26 (by omega) (by omega) (fun z => b142_109 (ih _ _ _ (fun j j1 j2 => ?_))) (fun z => absurd z (by omega))
      rcases (show j < x ∨ j = x by omega) with q | rfl
      · exact h j j1 q
      · exact not_hasOn hk (by show ¬ 3 < m 11 0 j; omega)
    · intro y y1 y2 ihy w6 w7 hk
      refine b142_17 (r_printed (by omega) (by omega) ?_)
      rw [Int.add_zero, e1]
      refine b142_26 (by omega) (by omega) (fun z => b142_109 (ih _ _ _ (fun j j1 j2 => ?_))) (fun z => ?_)
      · rw [e0 y y1] at z
        rcases (show j < x ∨ j = x by omega) with q | rfl
        · exact h j j1 q
        · exact not_hasOn hk z
      · rw [e0 y y1] at z
        have bd := pc_bd hS h1 (by omega) y1 z
        obtain ⟨s0, s1, s2, s3, -, -⟩ := pc_sim hS h1 (by omega) y1 z
        have nxt : ∀ w6 w7, ¬ Own (Vw m 0) p c l x y → AM Γ (d + 1) 142 103 [some (vr 25 0), some (vi p), some (vi c), some (vi l), some (vi x), some (vi y), some (vi w6), some (vi w7)] [] m n post := by
          intro w6 w7 no
          refine b142_103 (ihy _ _ (fun k k1 k2 => ?_))
          rcases (show k < y ∨ k = y by omega) with q | rfl
          · exact hk k k1 q
          · exact no
        refine b142_29 (r_printed (by omega) (by omega) (b142_48 (r_printed (by omega) (by omega) ?_)))
        rw [show 164 + 20 * x + (2 + 6 * y + 2) = 166 + 20 * x + 6 * y + 2 by omega, show 164 + 20 * x + (2 + 6 * y) = 166 + 20 * x + 6 * y by omega, s0, s2]
        refine b142_58 (by omega) hp (fun g => nxt _ _ (fun o => g o.1)) (fun g1 => b142_62 (r_printed (by omega) (by omega) ?_))
        rw [show 164 + 20 * x + (2 + 6 * y + 1) = 166 + 20 * x + 6 * y + 1 by omega, s1]
        refine b142_72 (by omega) hc (fun g => nxt _ _ (fun o => g o.2.1)) (fun g2 => b142_76 (r_printed (by omega) (by omega) ?_))
        rw [show 164 + 20 * x + (2 + 6 * y + 3) = 166 + 20 * x + 6 * y + 3 by omega, s3]
        refine b142_91 (r_in hl (ir (by omega) (by omega)) (ir (by omega) (by omega)) (fun l1 l2 => ?_) (fun l3 => ?_))
        · exact b142_97 (by omega) (fun z => absurd z (by omega)) (fun _ => b142_100 (K x (Or.inl ⟨h1, by omega, ⟨y, y1, z, g1, g2, l1, by show l < m 15 0 (x * 3 + y) + m 16 0 (x * 3 + y); omega⟩, h⟩)))
        · refine b142_97 (by omega) (fun _ => nxt _ _ (fun o => ?_)) (fun z => absurd rfl z)
          have o1 : m 15 0 (x * 3 + y) ≤ l := o.2.2.1
          have o2 : l < m 15 0 (x * 3 + y) + m 16 0 (x * 3 + y) := o.2.2.2
          omega
set_option maxHeartbeats 4000000 in
theorem op_at {Γ : GG} {d : Nat} {m : MI} {n : ML} {t a b w : Int} (hS : Sim t m m) (ht : t ≤ 1000) (ha : InR a) (hb : InR b) (hw : InR w) : Both Γ (d + 5) 75 143 [vr 1 0, vi a, vi b, vi w] [vr 25 0, vi a, vi b, vi w] m n t := by
  have hP := hS.1.1.1
  have hW := hS.1.2.1
  unfold HWf at hW
  dsimp only [Vw] at hP hW
  refine e75 (b75_0 (c_hasEdition (ir (by omega) (by omega)) (fun g => ?_) (fun g => ?_)))
  · have wb := hW.2.2.2.2.2 g
    obtain ⟨f1, f2, f3⟩ := hP.2.2.2.2.2 g
    have rbad : ∀ (u : Option AV), AM Γ (d + 5) 143 72 [some (vr 25 0), some (vi a), some (vi b), some (vi w), u] [] m n (fun r2 m2 _ => r2 = some (vi (-1)) ∧ Sim (t + 1) m2 m2) := fun u => b143_72 (b143_73 (by omega) (fun _ => b143_90 (b143_91 ⟨rfl, hS.next⟩)) (fun z => absurd rfl z))
    have bad : (a < 0 ∨ m 10 0 1 ≤ a) ∨ (b < 0 ∨ m 10 0 2 ≤ b) ∨ (w < 0 ∨ m 10 0 3 ≤ w) → AM Γ (d + 5) 75 64 [some (vr 1 0), some (vi a), some (vi b), some (vi w), some (vr 10 0)] [] m n (fun r1 m1 n1 => ∃ x, InR x ∧ r1 = some (vi x) ∧ CM Γ (d + 5) 143 [vr 25 0, vi a, vi b, vi w] m1 n1 (fun r2 m2 _ => r2 = some (vi x) ∧ Sim (t + 1) m2 m2)) := by
      intro h
      refine b75_64 ⟨-1, ir (by omega) (by omega), rfl, e143 (b143_0 (by omega) (fun _ => b143_14 (r_in ha i0 (ir (by omega) (by omega)) (fun p1 p2 => ?_) (fun _ => b143_29 (by omega) (fun _ => rbad _) (fun z => absurd rfl z)))) (fun z => by omega))⟩
      refine b143_29 (by omega) (fun z => absurd z (by omega)) (fun _ => b143_32 (r_in hb i0 (ir (by omega) (by omega)) (fun p3 p4 => ?_) (fun _ => b143_47 (by omega) (fun _ => rbad _) (fun z => absurd rfl z))))
      exact b143_47 (by omega) (fun z => absurd z (by omega)) (fun _ => b143_50 (r_in hw i0 (ir (by omega) (by omega)) (fun p5 p6 => by omega) (fun _ => b143_65 (by omega) (fun _ => rbad _) (fun z => absurd rfl z))))
    refine b75_4 (by omega) (fun _ => b75_10 (c_isWithin ha i0 (ir (by omega) (by omega)) (fun p1 p2 => ?_) (fun p => ?_))) (fun z => absurd z (by omega))
    · refine b75_31 (by omega) (fun z => absurd z (by omega)) (fun _ => b75_34 (c_isWithin hb i0 (ir (by omega) (by omega)) (fun p3 p4 => ?_) (fun p => ?_)))
      · refine b75_46 (by omega) (fun z => absurd z (by omega)) (fun _ => b75_49 (c_isWithin hw i0 (ir (by omega) (by omega)) (fun p5 p6 => ?_) (fun p => ?_)))
        · refine b75_61 (by omega) (fun _ => b75_66 (c_storyOnLine (pcok hS) (pcB hS) ha hb hw (fun r hr => b75_74 ⟨r, ir (by have := hr.bd; omega) (by have := hr.bd; omega), rfl, ?_⟩))) (fun z => absurd z (by omega))
          refine e143 (b143_0 (by omega) (fun _ => b143_14 (r_in ha i0 (ir (by omega) (by omega)) (fun _ _ => ?_) (fun _ => by omega))) (fun z => by omega))
          refine b143_29 (by omega) (fun z => absurd z (by omega)) (fun _ => b143_32 (r_in hb i0 (ir (by omega) (by omega)) (fun _ _ => ?_) (fun _ => by omega)))
          refine b143_47 (by omega) (fun z => absurd z (by omega)) (fun _ => b143_50 (r_in hw i0 (ir (by omega) (by omega)) (fun _ _ => ?_) (fun _ => by omega)))
          refine b143_65 (by omega) (fun z => absurd z (by omega)) (fun _ => b143_68 (b143_73 (by omega) (fun z => absurd z (by omega)) (fun _ => b143_80 (r_owner hS ha hb hw (fun r' hr' => b143_87 (b143_91 ⟨?_, hS.next⟩))))))
          rw [hr.uniq hr']
        · exact b75_61 (by omega) (fun z => absurd rfl z) (fun _ => bad (by omega))
      · exact b75_46 (by omega) (fun _ => bad (by omega)) (fun z => absurd rfl z)
    · exact b75_31 (by omega) (fun _ => bad (by omega)) (fun z => absurd rfl z)
  · exact b75_4 (by omega) (fun z => absurd rfl z) (fun _ => b75_7 ⟨-2, ir (by omega) (by omega), rfl, e143 (b143_0 (by omega) (fun z => by omega) (fun _ => b143_11 ⟨rfl, hS.next⟩))⟩)
