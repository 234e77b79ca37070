-- the sheet: which lines are taken
theorem c_bitsOf {Γ : GG} {d : Nat} {m : MI} {n : ML} {post : PO} {t s : Int} (K : post (some (vl (lshlA (lshlA (Int64.ofNat 1) s - Int64.ofNat 1) t))) m n) : CM Γ d 43 [vi t, vi s] m n post := e43 (b43_0 K)
theorem c_columnOf {Γ : GG} {d : Nat} {m : MI} {n : ML} {post : PO} {e i : Int} (hi : 0 ≤ i ∧ i < 36) (K : post (some (vi (m 13 e i * 4 + m 14 e i))) m n) : CM Γ d 42 [vr 10 e, vi i] m n post := e42 (b42_0 hi hi K)
theorem c_fillL {Γ : GG} {d : Nat} {m : MI} {n : ML} {post : PO} {v : Int64} (K : ∀ n', n' 22 = n 22 → (∀ c, 0 ≤ c → c < 20 → n' 23 c = v) → post none m n') : CM Γ d 73 [vr 23 0, vl v] m n post := by
  refine e73 (b73_0 ?_)
  have key := up_ind (P := fun y => ∀ nn : ML, nn 22 = n 22 → (∀ c, 0 ≤ c → c < y → nn 23 c = v) → AM Γ d 73 6 [some (vr 23 0), some (vl v), none, some (vi y), some (vi 20)] [] m nn post) 0 20 (by omega) ?_ ?_
  · exact key n rfl (fun c c1 c2 => by omega)
  · intro nn h1 h2
    exact b73_6 (by omega) (by omega) (fun _ => b73_22 (K nn h1 h2)) (fun z => absurd z (by omega))
  · intro y y1 y2 ih nn h1 h2
    refine b73_6 (by omega) (by omega) (fun z => absurd y2 z) (fun _ => b73_12 (by omega) (ih _ ?_ (fun c c1 c2 => ?_)))
    · rw [← h1]; funext i; rw [ul_rd, if_neg (by omega)]
    · rw [ul_rd]
      by_cases q : c = y
      · rw [if_pos ⟨rfl, q⟩]
      · rw [if_neg (fun u => q u.2), h2 c c1 (by omega)]
def AllL (n : ML) (H : Int) : Prop := ∀ i, 0 ≤ i → i < 64 → (bt (n 22 2) i ↔ i < H)
theorem c_makeBlank {Γ : GG} {d : Nat} {m : MI} {n : ML} {post : PO} {a b : Int} (hb : 0 ≤ b ∧ b ≤ 60) (K : ∀ n', AllL n' b → (∀ c, 0 ≤ c → c < 20 → n' 23 c = Int64.ofNat 0) → post none (up (up m 22 0 0 a) 22 0 1 b) n') : CM Γ (d + 1) 37 [vr 22 0, vi a, vi b] m n post := by
  refine e37 (b37_0 (c_bitsOf (b37_16 (c_fillL (fun n' h1 h2 => b37_27 (K n' (fun i i0 i1 => ?_) h2))))))
  rw [h1, ul_rd, if_pos ⟨rfl, rfl⟩, bt_bits (by omega) hb.1 (by omega) i0 i1]
  omega
/-- a story's pieces take a line of a column -/
def OnP (V : Nat → Int → Int) (i c l : Int) : Prop := ∃ k, 0 ≤ k ∧ k < V 11 i ∧ c = V 13 (i * 3 + k) * 4 + V 14 (i * 3 + k) ∧ V 15 (i * 3 + k) ≤ l ∧ l < V 15 (i * 3 + k) + V 16 (i * 3 + k)
def PcB1 (m : MI) (e i : Int) : Prop := (m 11 e i ≤ 3 ∧ -1 ≤ m 11 e i) ∧ ∀ k, 0 ≤ k → k < m 11 e i → (0 ≤ m 13 e (i * 3 + k) ∧ m 13 e (i * 3 + k) ≤ 4) ∧ (0 ≤ m 14 e (i * 3 + k) ∧ m 14 e (i * 3 + k) ≤ 3) ∧ (0 ≤ m 15 e (i * 3 + k) ∧ 1 ≤ m 16 e (i * 3 + k) ∧ m 15 e (i * 3 + k) + m 16 e (i * 3 + k) ≤ 60)
theorem c_takeLinesOf {Γ : GG} {d : Nat} {m : MI} {n : ML} {post : PO} {e i : Int} (hi : 0 ≤ i ∧ i < 12) (hp : PcB1 m e i) (K : ∀ n', n' 22 = n 22 → (∀ c l, 0 ≤ c → c < 20 → 0 ≤ l → l < 64 → (bt (n' 23 c) l ↔ bt (n 23 c) l ∨ OnP (Vw m e) i c l)) → post none m n') : CM Γ (d + 1) 39 [vr 22 0, vr 10 e, vi i] m n post := by
  refine e39 (b39_0 ?_)
  have key := up_ind (P := fun y => ∀ nn : ML, nn 22 = n 22 → (∀ c l, 0 ≤ c → c < 20 → 0 ≤ l → l < 64 → (bt (nn 23 c) l ↔ bt (n 23 c) l ∨ ∃ k, (0 ≤ k ∧ k < y) ∧ k < m 11 e i ∧ c = m 13 e (i * 3 + k) * 4 + m 14 e (i * 3 + k) ∧ m 15 e (i * 3 + k) ≤ l ∧ l < m 15 e (i * 3 + k) + m 16 e (i * 3 + k))) → AM Γ (d + 1) 39 7 [some (vr 22 0), some (vr 10 e), some (vi i), some (vi (i * 3)), some (vi (i * 3 + y))] [] m nn post) 0 3 (by omega) ?_ ?_
  · have := key n rfl (fun c l _ _ _ _ => ⟨Or.inl, fun z => z.elim id (fun ⟨k, k1, _⟩ => by omega)⟩)
    rw [Int.add_zero] at this
    exact this
  · intro nn h1 h2
    have h11 := hp.1
    refine b39_7 hi (by omega) (by omega) (fun _ => b39_57 (K nn h1 (fun c l c0 c1 l0 l1 => ?_))) (fun z => absurd z (by omega))
    rw [h2 c l c0 c1 l0 l1]
    constructor
    · rintro (z | ⟨k, k1, k2⟩)
      · exact Or.inl z
      · exact Or.inr ⟨k, k1.1, k2⟩
    · rintro (z | ⟨k, k1, k2⟩)
      · exact Or.inl z
      · have k3 : k < m 11 e i := k2.1
        exact Or.inr ⟨k, ⟨k1, by omega⟩, k2⟩
  · intro y y1 y2 ih nn h1 h2
    have h11 := hp.1
    refine b39_7 hi (by omega) (by omega) (fun z => b39_57 (K nn h1 (fun c l c0 c1 l0 l1 => ?_))) (fun z => ?_)
    · rw [h2 c l c0 c1 l0 l1]
      constructor
      · rintro (z | ⟨k, k1, k2⟩)
        · exact Or.inl z
        · exact Or.inr ⟨k, k1.1, k2⟩
      · rintro (z | ⟨k, k1, k2⟩)
        · exact Or.inl z
        · have k3 : k < m 11 e i := k2.1
          exact Or.inr ⟨k, ⟨k1, by omega⟩, k2⟩
    · have b := hp.2 y y1 (by omega)
      refine b39_20 (c_columnOf (by omega) (b39_30 (by omega) (by omega) (by omega) (c_bitsOf (b39_49 (by omega) ?_))))
      have := ih (ul nn 23 (m 13 e (i * 3 + y) * 4 + m 14 e (i * 3 + y)) (nn 23 (m 13 e (i * 3 + y) * 4 + m 14 e (i * 3 + y)) ||| lshlA (lshlA (Int64.ofNat 1) (m 16 e (i * 3 + y)) - Int64.ofNat 1) (m 15 e (i * 3 + y)))) ?_ (fun c l c0 c1 l0 l1 => ?_)
      · rw [Int.add_assoc]; exact this
      · rw [← h1]; funext j; rw [ul_rd, if_neg (by omega)]
      · rw [ul_rd]
        have hh := h2 c l c0 c1 l0 l1
        by_cases q : c = m 13 e (i * 3 + y) * 4 + m 14 e (i * 3 + y)
        · rw [if_pos ⟨rfl, q⟩, bt_or, bt_bits (by omega) (by omega) (by omega) l0 l1, ← q, hh]
          constructor
          · rintro ((z | ⟨k, k1, k2⟩) | z)
            · exact Or.inl z
            · exact Or.inr ⟨k, ⟨k1.1, by omega⟩, k2⟩
            · exact Or.inr ⟨y, ⟨y1, by omega⟩, by omega, q, z⟩
          · rintro (z | ⟨k, k1, k2⟩)
            · exact Or.inl (Or.inl z)
            · rcases (show k < y ∨ k = y by omega) with u | u
              · exact Or.inl (Or.inr ⟨k, ⟨k1.1, u⟩, k2⟩)
              · rw [u] at k2; exact Or.inr k2.2.2
        · rw [if_neg (fun u => q u.2), hh]
          constructor
          · rintro (z | ⟨k, k1, k2⟩)
            · exact Or.inl z
            · exact Or.inr ⟨k, ⟨k1.1, by omega⟩, k2⟩
          · rintro (z | ⟨k, k1, k2⟩)
            · exact Or.inl z
            · rcases (show k < y ∨ k = y by omega) with u | u
              · exact Or.inr ⟨k, ⟨k1.1, u⟩, k2⟩
              · rw [u] at k2; exact absurd k2.2.1 q
theorem c_hasPlaceFor {Γ : GG} {d : Nat} {m : MI} {n : ML} {post : PO} {e i : Int} (hi : 0 ≤ i ∧ i < 12) (hp : PcB1 m e i) (K1 : (∀ c l, 0 ≤ c → c < 20 → 0 ≤ l → l < 64 → OnP (Vw m e) i c l → ¬ bt (n 23 c) l) → post (some (vi 1)) m n) (K0 : (∃ c l, 0 ≤ c ∧ c < 20 ∧ 0 ≤ l ∧ l < 60 ∧ OnP (Vw m e) i c l ∧ bt (n 23 c) l) → post (some (vi 0)) m n) : CM Γ (d + 1) 38 [vr 22 0, vr 10 e, vi i] m n post := by
  refine e38 (b38_0 ?_)
  have fin : ∀ y, ¬ y < m 11 e i → (∀ k, 0 ≤ k → k < y → k < m 11 e i → ∀ l, m 15 e (i * 3 + k) ≤ l → l < m 15 e (i * 3 + k) + m 16 e (i * 3 + k) → ¬ bt (n 23 (m 13 e (i * 3 + k) * 4 + m 14 e (i * 3 + k))) l) → post (some (vi 1)) m n := by
    intro y hy h
    refine K1 (fun c l c0 c1 l0 l1 => ?_)
    rintro ⟨k, k1, k2, k3, k4, k5⟩
    replace k2 : k < m 11 e i := k2
    rw [k3]
    exact h k k1 (by omega) k2 l k4 k5
  have key := up_ind (P := fun y => ∀ u5 u6, (∀ k, 0 ≤ k → k < y → k < m 11 e i → ∀ l, m 15 e (i * 3 + k) ≤ l → l < m 15 e (i * 3 + k) + m 16 e (i * 3 + k) → ¬ bt (n 23 (m 13 e (i * 3 + k) * 4 + m 14 e (i * 3 + k))) l) → AM Γ (d + 1) 38 7 [some (vr 22 0), some (vr 10 e), some (vi i), some (vi (i * 3)), some (vi (i * 3 + y)), u5, u6] [] m n post) 0 3 (by omega) ?_ ?_
  · have := key none none (fun k k1 k2 => by omega)
    rw [Int.add_zero] at this
    exact this
  · intro u5 u6 h
    have h11 := hp.1
    exact b38_7 hi (by omega) (by omega) (fun _ => b38_66 (fin 3 (by omega) h)) (fun z => absurd z (by omega))
  · intro y y1 y2 ih u5 u6 h
    have h11 := hp.1
    refine b38_7 hi (by omega) (by omega) (fun z => b38_66 (fin y (by omega) h)) (fun z => ?_)
    have b := hp.2 y y1 (by omega)
    refine b38_20 (by omega) (by omega) (c_bitsOf (b38_37 (c_columnOf (by omega) (b38_49 (by omega) (i32_bd _) (fun q => ?_) (fun q => ?_)))))
    · rw [lg_z] at q
      refine b38_60 ?_
      rw [Int.add_assoc]
      refine ih _ _ (fun k k1 k2 k3 l l1 l2 => ?_)
      rcases (show k < y ∨ k = y by omega) with u | u
      · exact h k k1 u k3 l l1 l2
      · subst u
        intro w
        have hz : bt (n 23 (m 13 e (i * 3 + k) * 4 + m 14 e (i * 3 + k)) &&& lshlA (lshlA (Int64.ofNat 1) (m 16 e (i * 3 + k)) - Int64.ofNat 1) (m 15 e (i * 3 + k))) l := by
          rw [bt_and, bt_bits (by omega) (by omega) (by omega) (by omega) (by omega)]
          exact ⟨w, l1, l2⟩
        rw [q] at hz
        exact bt_zero hz
    · rw [lg_z] at q
      refine b38_58 (K0 ?_)
      by_cases w : ∃ l, 0 ≤ l ∧ l < 64 ∧ bt (n 23 (m 13 e (i * 3 + y) * 4 + m 14 e (i * 3 + y)) &&& lshlA (lshlA (Int64.ofNat 1) (m 16 e (i * 3 + y)) - Int64.ofNat 1) (m 15 e (i * 3 + y))) l
      · obtain ⟨l, l0, l1, l2⟩ := w
        rw [bt_and, bt_bits (by omega) (by omega) (by omega) l0 l1] at l2
        exact ⟨m 13 e (i * 3 + y) * 4 + m 14 e (i * 3 + y), l, by omega, by omega, l0, by omega, ⟨y, y1, by show y < m 11 e i; omega, rfl, l2.2⟩, l2.1⟩
      · exact absurd (bt_ext0 (fun l l0 l1 z => w ⟨l, l0, l1, z⟩)) q
