-- THE CLASS: copies of papers and editions, the saved ones, small writes
def lenK (k : Nat) : Int := if k = 3 ∨ k = 10 then 4 else alen k
def CpEq (lo : Nat) (m' m : MI) (p q : Int) : Prop := ∀ k, lo ≤ k → k ≤ 18 → ∀ i, 0 ≤ i → i < lenK k → m' k p i = m k q i
def CpOff (lo : Nat) (m' m : MI) (p : Int) : Prop := ∀ k r, ¬ (lo ≤ k ∧ k ≤ 18 ∧ r = p) → m' k r = m k r
theorem cpy_same (m : MI) (ks : Nat) (ps : Int) (kd : Nat) (pd a len : Int) (k : Nat) (p i : Int) : cpy m ks ps a kd pd a len k p i = if k = kd ∧ p = pd ∧ a ≤ i ∧ i < a + len then m ks ps i else m k p i := by
  rw [cpy_rd, show a + (i - a) = i by omega]
theorem k13 {k : Nat} (h1 : 13 ≤ k) (h2 : k ≤ 18) : k = 13 ∨ k = 14 ∨ k = 15 ∨ k = 16 ∨ k = 17 ∨ k = 18 := by omega
theorem c_copyPieces {Γ : GG} {d : Nat} {m : MI} {n : ML} {post : PO} {p q a len : Int} (ha : 0 ≤ a) (hl : 0 ≤ len) (hal : a + len ≤ 36) (K : ∀ m', (∀ k r, ¬ (13 ≤ k ∧ k ≤ 18 ∧ r = p) → m' k r = m k r) → (∀ k, 13 ≤ k → k ≤ 18 → ∀ i, m' k p i = if a ≤ i ∧ i < a + len then m k q i else m k p i) → post none m' n) : CM Γ (d + 1) 2 [vr 10 p, vr 10 q, vi a, vi len] m n post := by
  refine e2 (b2_0 (by omega) (b2_14 (by omega) (b2_28 (by omega) (b2_42 (by omega) (b2_56 (by omega) (b2_70 (by omega) (b2_84 (K _ (fun k r h => ?_) (fun k h1 h2 i => ?_)))))))))
  · have e : ∀ z, 13 ≤ z → z ≤ 18 → ¬ (k = z ∧ r = p) := fun z h1 h2 ⟨e1, e2⟩ => h ⟨by omega, by omega, e2⟩
    rw [cpy_ne (e 18 (by omega) (by omega)), cpy_ne (e 17 (by omega) (by omega)), cpy_ne (e 16 (by omega) (by omega)), cpy_ne (e 15 (by omega) (by omega)), cpy_ne (e 14 (by omega) (by omega)), cpy_ne (e 13 (by omega) (by omega))]
  · rcases k13 h1 h2 with rfl | rfl | rfl | rfl | rfl | rfl <;> simp [cpy_same]
theorem c_edCopy {Γ : GG} {d : Nat} {m : MI} {n : ML} {post : PO} {p q : Int} (hpq : p ≠ q) (K : ∀ m', CpOff 10 m' m p → CpEq 10 m' m p q → post none m' n) : CM Γ (d + 2) 1 [vr 10 p, vr 10 q] m n post := by
  refine e1 (b1_0 (b1_10 (b1_18 (b1_26 (b1_44 (by omega) (b1_47 (b1_62 ?_)))))))
  refine c_copyPieces (by omega) (by omega) (by omega) (fun m' h1 h2 => b1_70 (K m' (fun k r h => ?_) (fun k g1 g2 i g3 g4 => ?_)))
  · rw [h1 k r (fun z => h ⟨by omega, z.2.1, z.2.2⟩)]
    have e : ∀ z, 10 ≤ z → z ≤ 18 → ¬ (k = z ∧ r = p) := fun z h1 h2 ⟨e1, e2⟩ => h ⟨by omega, by omega, e2⟩
    rw [cpy_ne (e 12 (by omega) (by omega)), cpy_ne (e 11 (by omega) (by omega)), up_ne (e 10 (by omega) (by omega)), up_ne (e 10 (by omega) (by omega)), up_ne (e 10 (by omega) (by omega)), up_ne (e 10 (by omega) (by omega))]
  · by_cases hk : 13 ≤ k
    · rw [h2 k hk g2 i]
      have : i < 36 := by rcases k13 hk g2 with rfl | rfl | rfl | rfl | rfl | rfl <;> exact g4
      rw [if_pos ⟨g3, by omega⟩]
      have e : ∀ z, z ≤ 12 → ¬ (k = z ∧ q = p) := fun z h1 ⟨e1, e2⟩ => hpq e2.symm
      rw [cpy_ne (e 12 (by omega)), cpy_ne (e 11 (by omega)), up_ne (e 10 (by omega)), up_ne (e 10 (by omega)), up_ne (e 10 (by omega)), up_ne (e 10 (by omega))]
    · rw [h1 k p (fun z => hk z.1)]
      have hqp : ¬ q = p := fun z => hpq z.symm
      rcases (show k = 10 ∨ k = 11 ∨ k = 12 by omega) with rfl | rfl | rfl
      · have : i < 4 := g4
        rcases (show i = 0 ∨ i = 1 ∨ i = 2 ∨ i = 3 by omega) with rfl | rfl | rfl | rfl <;> simp [cpy_same, up_rd, hqp]
      · have : i < 12 := g4
        simp [cpy_same, up_rd, hqp, g3, this]
      · have : i < 12 := g4
        simp [cpy_same, up_rd, hqp, g3, this]
theorem k3 {k : Nat} (h1 : 3 ≤ k) (h2 : k < 10) : k = 3 ∨ k = 4 ∨ k = 5 ∨ k = 6 ∨ k = 7 ∨ k = 8 ∨ k = 9 := by omega
theorem c_papCopy {Γ : GG} {d : Nat} {m : MI} {n : ML} {post : PO} {p q : Int} (hpq : p ≠ q) (K : ∀ m', CpOff 3 m' m p → CpEq 3 m' m p q → post none m' n) : CM Γ (d + 3) 23 [vr 3 p, vr 3 q] m n post := by
  refine e23 (b23_0 (b23_10 (b23_18 (b23_26 (b23_44 (by omega) (b23_47 (b23_62 (b23_77 (b23_92 (b23_107 (b23_122 ?_)))))))))))
  refine c_edCopy hpq (fun m' h1 h2 => b23_133 (K m' (fun k r h => ?_) (fun k g1 g2 i g3 g4 => ?_)))
  · rw [h1 k r (fun z => h ⟨by omega, z.2.1, z.2.2⟩)]
    have e : ∀ z, 3 ≤ z → z ≤ 18 → ¬ (k = z ∧ r = p) := fun z h1 h2 ⟨e1, e2⟩ => h ⟨by omega, by omega, e2⟩
    rw [cpy_ne (e 9 (by omega) (by omega)), cpy_ne (e 8 (by omega) (by omega)), cpy_ne (e 7 (by omega) (by omega)), cpy_ne (e 6 (by omega) (by omega)), cpy_ne (e 5 (by omega) (by omega)), cpy_ne (e 4 (by omega) (by omega)), up_ne (e 3 (by omega) (by omega)), up_ne (e 3 (by omega) (by omega)), up_ne (e 3 (by omega) (by omega)), up_ne (e 3 (by omega) (by omega))]
  · have hqp : ¬ q = p := fun z => hpq z.symm
    by_cases hk : 10 ≤ k
    · rw [h2 k hk g2 i g3 g4]
      have e : ∀ z, z ≤ 9 → ¬ (k = z ∧ q = p) := fun z h1 ⟨e1, e2⟩ => hqp e2
      rw [cpy_ne (e 9 (by omega)), cpy_ne (e 8 (by omega)), cpy_ne (e 7 (by omega)), cpy_ne (e 6 (by omega)), cpy_ne (e 5 (by omega)), cpy_ne (e 4 (by omega)), up_ne (e 3 (by omega)), up_ne (e 3 (by omega)), up_ne (e 3 (by omega)), up_ne (e 3 (by omega))]
    · rw [h1 k p (fun z => hk z.1)]
      rcases k3 g1 (by omega) with rfl | rfl | rfl | rfl | rfl | rfl | rfl
      · have : i < 4 := g4
        rcases (show i = 0 ∨ i = 1 ∨ i = 2 ∨ i = 3 by omega) with rfl | rfl | rfl | rfl <;> simp [cpy_same, up_rd, hqp]
      · have : i < 12 := g4
        simp [cpy_same, up_rd, hqp, g3, this]
      · have : i < 12 := g4
        simp [cpy_same, up_rd, hqp, g3, this]
      · have : i < 12 := g4
        simp [cpy_same, up_rd, hqp, g3, this]
      · have : i < 96 := g4
        simp [cpy_same, up_rd, hqp, g3, this]
      · have : i < 12 := g4
        simp [cpy_same, up_rd, hqp, g3, this]
      · have : i < 12 := g4
        simp [cpy_same, up_rd, hqp, g3, this]
theorem c_discardOldest {Γ : GG} {d : Nat} {m : MI} {n : ML} {post : PO} (K : ∀ m', (∀ k, k ≠ 1 → k ≠ 2 → m' k = m k) → (∀ i, 0 ≤ i → i < 5 → m' 2 0 i = m 2 0 (i + 1)) → m' 2 0 5 = m 2 0 0 → m' 1 0 3 = 5 → post none m' n) : CM Γ d 64 [vr 1 0] m n post := by
  refine e64 (b64_0 ?_)
  have key : ∀ m', (∀ k, k ≠ 2 → m' k = m k) → (∀ i, 0 ≤ i → i < 0 → m' 2 0 i = m 2 0 (i + 1)) → (∀ i, 0 ≤ i → m' 2 0 i = m 2 0 i) → AM Γ d 64 9 [some (vr 1 0), some (vr 3 (m 2 0 0)), some (vi 1)] [] m' n post := by
    refine up_ind (P := fun x => ∀ m', (∀ k, k ≠ 2 → m' k = m k) → (∀ i, 0 ≤ i → i < x → m' 2 0 i = m 2 0 (i + 1)) → (∀ i, x ≤ i → m' 2 0 i = m 2 0 i) → AM Γ d 64 9 [some (vr 1 0), some (vr 3 (m 2 0 0)), some (vi (x + 1))] [] m' n post) 0 5 (by omega) ?_ (fun x g1 g2 ih m' h1 h2 h3 => ?_)
    · intro m' h1 h2 h3
      refine b64_9 (by omega) (fun _ => b64_35 (K _ (fun k q1 q2 => by rw [up_k q1, up_k q2, h1 k q2]) (fun i q1 q2 => ?_) ?_ ?_)) (fun h => absurd h (by omega))
      · rw [up_k (by omega), up_rd, if_neg (by rintro ⟨-, -, z⟩; omega)]
        exact h2 i q1 (by omega)
      · rw [up_k (by omega), up_rd, if_pos ⟨rfl, rfl, rfl⟩]
      · rw [up_rd, if_pos ⟨rfl, rfl, rfl⟩]
    · refine b64_9 (by omega) (fun h => absurd h (by omega)) (fun _ => b64_15 (by omega) (by omega) ?_)
      refine ih _ (fun k hk => by rw [up_k hk]; exact h1 k hk) (fun i q1 q2 => ?_) (fun i q1 => ?_)
      · rw [up_rd]
        by_cases hx : i = x
        · rw [if_pos ⟨rfl, rfl, by omega⟩, h3 _ (by omega), hx]
        · rw [if_neg (by rintro ⟨-, -, z⟩; omega)]; exact h2 i q1 (by omega)
      · rw [up_rd, if_neg (by rintro ⟨-, -, z⟩; omega)]; exact h3 i (by omega)
  exact key m (fun _ _ => rfl) (fun i q1 q2 => absurd q1 (by omega)) (fun _ _ => rfl)
/-- the saved papers' rows are apart, and none is the present or the trial one -/
def SvOK (m : MI) : Prop := (∀ i, 0 ≤ i → i < 6 → 2 ≤ m 2 0 i ∧ m 2 0 i ≤ 7) ∧ ∀ i j, 0 ≤ i → i < 6 → 0 ≤ j → j < 6 → m 2 0 i = m 2 0 j → i = j
theorem c_saveState {Γ : GG} {d : Nat} {m : MI} {n : ML} {post : PO} (hc : 0 ≤ m 1 0 3 ∧ m 1 0 3 ≤ 6) (hs : SvOK m)
    (K : ∀ m' (sh : Int), (sh = if m 1 0 3 = 6 then 1 else 0) → (∀ k r, k ≠ 1 → k ≠ 2 → ¬ (3 ≤ k ∧ k ≤ 18 ∧ r = m' 2 0 (m 1 0 3 - sh)) → m' k r = m k r) → m' 1 0 3 = m 1 0 3 - sh + 1 → SvOK m' → (∀ i, 0 ≤ i → i < m 1 0 3 - sh → m' 2 0 i = m 2 0 (i + sh)) → CpEq 3 m' m (m' 2 0 (m 1 0 3 - sh)) 0 → post none m' n) : CM Γ (d + 4) 63 [vr 1 0] m n post := by
  refine e63 ?_
  have tail : ∀ (m1 : MI) (sh : Int), (sh = if m 1 0 3 = 6 then 1 else 0) → (∀ k, k ≠ 1 → k ≠ 2 → m1 k = m k) → m1 1 0 3 = m 1 0 3 - sh → SvOK m1 → (∀ i, 0 ≤ i → i < m 1 0 3 - sh → m1 2 0 i = m 2 0 (i + sh)) → AM Γ (d + 4) 63 13 [some (vr 1 0)] [] m1 n post := by
    intro m1 sh hsh f1 f2 f3 f4
    have hsh2 : 0 ≤ m 1 0 3 - sh ∧ m 1 0 3 - sh ≤ 5 := by
      by_cases q : m 1 0 3 = 6
      · rw [if_pos q] at hsh; omega
      · rw [if_neg q] at hsh; omega
    have hq := f3.1 (m 1 0 3 - sh) (by omega) (by omega)
    refine b63_13 (by rw [f2]; omega) ?_
    rw [f2]
    refine c_papCopy (by omega) (fun m' h1 h2 => b63_29 ?_)
    have e1 : m' 1 0 3 = m 1 0 3 - sh := by rw [h1 1 0 (by omega)]; exact f2
    have e2 : ∀ i, m' 2 0 i = m1 2 0 i := fun i => by rw [h1 2 0 (by omega)]
    rw [e1]
    refine K _ sh hsh (fun k r q1 q2 q3 => ?_) (by rw [up_rd, if_pos ⟨rfl, rfl, rfl⟩]) ⟨fun i q1 q2 => ?_, fun i j q1 q2 q3 q4 q5 => ?_⟩ (fun i q1 q2 => ?_) (fun k q1 q2 i q3 q4 => ?_)
    · rw [up_k q1, h1 k r ?_, f1 k q1 q2]
      rintro ⟨z1, z2, z3⟩
      refine q3 ⟨z1, z2, ?_⟩
      rw [up_k (by omega), e2]
      exact z3
    · rw [up_k (by omega), e2]; exact f3.1 i q1 q2
    · rw [up_k (by omega), e2, e2] at q5; exact f3.2 i j q1 q2 q3 q4 q5
    · rw [up_k (by omega), e2]; exact f4 i q1 q2
    · rw [up_k (by omega), up_k (by omega), e2, h2 k q1 q2 i q3 q4, f1 k (by omega) (by omega)]
  refine b63_0 (by omega) (fun h => ?_) (fun h => b63_9 ?_)
  · exact tail m 0 (by rw [if_neg (by omega)]) (fun _ _ _ => rfl) (by omega) hs (fun i _ _ => by simp)
  · refine c_discardOldest (fun m' h1 h2 h3 h4 => tail m' 1 (by rw [if_pos (by omega)]) h1 (by omega) ⟨fun i q1 q2 => ?_, fun i j q1 q2 q3 q4 q5 => ?_⟩ (fun i q1 q2 => h2 i q1 (by omega)))
    · by_cases hi : i = 5
      · rw [hi, h3]; exact hs.1 0 (by omega) (by omega)
      · rw [h2 i q1 (by omega)]; exact hs.1 _ (by omega) (by omega)
    · by_cases hi : i = 5
      · by_cases hj : j = 5
        · omega
        · rw [hi, h3, h2 j q3 (by omega)] at q5
          have := hs.2 0 (j + 1) (by omega) (by omega) (by omega) (by omega) q5
          omega
      · by_cases hj : j = 5
        · rw [hj, h3, h2 i q1 (by omega)] at q5
          have := hs.2 (i + 1) 0 (by omega) (by omega) (by omega) (by omega) q5
          omega
        · rw [h2 i q1 (by omega), h2 j q3 (by omega)] at q5
          have := hs.2 (i + 1) (j + 1) (by omega) (by omega) (by omega) (by omega) q5
          omega
theorem c_undo {Γ : GG} {d : Nat} {m : MI} {n : ML} {post : PO} (hc : 0 ≤ m 1 0 3 ∧ m 1 0 3 ≤ 6) (hs : SvOK m) (K0 : m 1 0 3 = 0 → post (some (vi (-2))) m n)
    (K : 0 < m 1 0 3 → ∀ m', (∀ k r, k ≠ 1 → ¬ (3 ≤ k ∧ k ≤ 18 ∧ r = 0) → m' k r = m k r) → m' 1 0 3 = m 1 0 3 - 1 → CpEq 3 m' m 0 (m 2 0 (m 1 0 3 - 1)) → post (some (vi (m 1 0 3 - 1))) m' n) : CM Γ (d + 4) 62 [vr 1 0] m n post := by
  refine e62 (b62_0 (by omega) (fun h => b62_10 (b62_29 ?_ ?_)) (fun h => b62_7 (K0 (by omega))))
  · rw [up_rd, if_pos ⟨rfl, rfl, rfl⟩]; omega
  · have hq := hs.1 (m 1 0 3 - 1) (by omega) (by omega)
    have e : up m 1 0 3 (m 1 0 3 - 1) 2 0 (up m 1 0 3 (m 1 0 3 - 1) 1 0 3) = m 2 0 (m 1 0 3 - 1) := by
      rw [up_k (by omega), up_rd, if_pos ⟨rfl, rfl, rfl⟩]
    rw [e]
    refine c_papCopy (by omega) (fun m' h1 h2 => b62_36 ?_)
    have e1 : m' 1 0 3 = m 1 0 3 - 1 := by rw [h1 1 0 (by omega), up_rd, if_pos ⟨rfl, rfl, rfl⟩]
    rw [e1]
    refine K h m' (fun k r q1 q2 => by rw [h1 k r q2, up_k q1]) e1 (fun k q1 q2 i q3 q4 => by rw [h2 k q1 q2 i q3 q4, up_k (by omega)])
theorem c_changeParagraph {Γ : GG} {d : Nat} {m : MI} {n : ML} {post : PO} {p i j v : Int} (hi : 0 ≤ i ∧ i < 12) (hj : 0 ≤ j ∧ j < 8) (K : post none (up (up m 7 p (i * 8 + j) v) 9 p i 1) n) : CM Γ d 28 [vr 3 p, vi i, vi j, vi v] m n post :=
  e28 (b28_0 (by omega) hi K)
theorem c_appendParagraph {Γ : GG} {d : Nat} {m : MI} {n : ML} {post : PO} {p i v : Int} (hi : 0 ≤ i ∧ i < 12) (hc : 0 ≤ m 6 p i ∧ m 6 p i < 8) (K : post none (up (up (up m 6 p i (m 6 p i + 1)) 7 p (i * 8 + m 6 p i) v) 9 p i 1) n) : CM Γ (d + 1) 27 [vr 3 p, vi i, vi v] m n post :=
  e27 (b27_0 hi hi (c_changeParagraph hi hc (b27_23 K)))
theorem c_appendStory {Γ : GG} {d : Nat} {m : MI} {n : ML} {post : PO} {p r h : Int} (hc : 0 ≤ m 3 p 3 ∧ m 3 p 3 < 12) (K : post (some (vi (m 3 p 3))) (up (up (up (up (up m 4 p (m 3 p 3) r) 5 p (m 3 p 3) h) 6 p (m 3 p 3) 0) 8 p (m 3 p 3) 1) 3 p 3 (m 3 p 3 + 1)) n) : CM Γ d 26 [vr 3 p, vi r, vi h] m n post := by
  refine e26 (b26_0 hc hc hc hc (b26_35 ?_))
  have e : ∀ (a b c e : Int), up (up (up (up m 4 p (m 3 p 3) a) 5 p (m 3 p 3) b) 6 p (m 3 p 3) c) 8 p (m 3 p 3) e 3 p 3 = m 3 p 3 := fun a b c e => by
    rw [up_k (by omega), up_k (by omega), up_k (by omega), up_k (by omega)]
  rw [e]
  exact K
