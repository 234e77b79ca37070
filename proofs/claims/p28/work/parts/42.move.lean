def MovedV (m : MI) (e p i : Int) : Prop := (0 < m 11 e i ∧ 0 < m 11 p i) ∧ (m 11 e i ≠ m 11 p i ∨ ∃ k, 0 ≤ k ∧ k < m 11 e i ∧ (m 13 e (i * 3 + k) ≠ m 13 p (i * 3 + k) ∨ m 14 e (i * 3 + k) ≠ m 14 p (i * 3 + k) ∨ m 15 e (i * 3 + k) ≠ m 15 p (i * 3 + k) ∨ m 17 e (i * 3 + k) ≠ m 17 p (i * 3 + k)))
def PcI (m : MI) (e i : Int) : Prop := (-1 ≤ m 11 e i ∧ m 11 e i ≤ 3) ∧ ∀ k, 0 ≤ k → k < m 11 e i → InR (m 13 e (i * 3 + k)) ∧ InR (m 14 e (i * 3 + k)) ∧ InR (m 15 e (i * 3 + k)) ∧ InR (m 17 e (i * 3 + k))
theorem c_isMovedSince {Γ : GG} {d : Nat} {m : MI} {n : ML} {post : PO} {e p i : Int} (hi : 0 ≤ i ∧ i < 12) (he : PcI m e i) (hp : PcI m p i) (K1 : MovedV m e p i → post (some (vi 1)) m n) (K0 : ¬ MovedV m e p i → post (some (vi 0)) m n) : CM Γ (d + 1) 8 [vr 10 e, vr 10 p, vi i] m n post := by
  have h1 := he.1
  have h2 := hp.1
  refine e8 (b8_0 (c_isPrinted hi (ir (by omega) (by omega)) (fun a => ?_) (fun a => ?_)))
  · refine b8_5 (by omega) (fun z => absurd z (by omega)) (fun _ => b8_8 (c_isPrinted hi (ir (by omega) (by omega)) (fun b => ?_) (fun b => ?_)))
    · refine b8_13 (by omega) (fun _ => b8_18 hi hi (by omega) (by omega) (fun q => b8_35 ?_) (fun q => b8_33 (K1 ⟨⟨a, b⟩, Or.inl q⟩))) (fun z => absurd z (by omega))
      have key := up_ind (P := fun y => (∀ k, 0 ≤ k → k < y → k < m 11 e i → m 13 e (i * 3 + k) = m 13 p (i * 3 + k) ∧ m 14 e (i * 3 + k) = m 14 p (i * 3 + k) ∧ m 15 e (i * 3 + k) = m 15 p (i * 3 + k) ∧ m 17 e (i * 3 + k) = m 17 p (i * 3 + k)) → AM Γ (d + 1) 8 42 [some (vr 10 e), some (vr 10 p), some (vi i), some (vi (i * 3)), some (vi (i * 3 + y))] [] m n post) 0 3 (by omega) ?_ ?_
      · have := key (fun k k1 k2 => by omega)
        rw [Int.add_zero] at this
        exact this
      · intro h
        refine b8_42 hi (by omega) (by omega) (fun _ => b8_131 (K0 ?_)) (fun z => absurd z (by omega))
        rintro ⟨_, w | ⟨k, k1, k2, w⟩⟩
        · exact w q
        · have := h k k1 (by omega) k2
          omega
      · intro y y1 y2 ih h
        refine b8_42 hi (by omega) (by omega) (fun z => b8_131 (K0 ?_)) (fun z => ?_)
        · rintro ⟨_, w | ⟨k, k1, k2, w⟩⟩
          · exact w q
          · have := h k k1 (by omega) k2
            omega
        · obtain ⟨a1, a2, a3, a4⟩ := he.2 y y1 (by omega)
          obtain ⟨b1, b2, b3, b4⟩ := hp.2 y y1 (by omega)
          have ky : y < m 11 e i := by omega
          refine b8_55 (by omega) (by omega) a1 b1 (fun g => b8_123 (K1 ⟨⟨a, b⟩, Or.inr ⟨y, y1, ky, Or.inl g⟩⟩)) (fun g1 => b8_72 (by omega) (by omega) a2 b2 (fun g => b8_123 (K1 ⟨⟨a, b⟩, Or.inr ⟨y, y1, ky, Or.inr (Or.inl g)⟩⟩)) (fun g2 => b8_89 (by omega) (by omega) a3 b3 (fun g => b8_123 (K1 ⟨⟨a, b⟩, Or.inr ⟨y, y1, ky, Or.inr (Or.inr (Or.inl g))⟩⟩)) (fun g3 => b8_106 (by omega) (by omega) a4 b4 (fun g4 => b8_125 ?_) (fun g => b8_123 (K1 ⟨⟨a, b⟩, Or.inr ⟨y, y1, ky, Or.inr (Or.inr (Or.inr g))⟩⟩)))))
          rw [Int.add_assoc]
          refine ih (fun k k1 k2 k3 => ?_)
          rcases (show k < y ∨ k = y by omega) with u | u
          · exact h k k1 u k3
          · rw [u]; exact ⟨g1, g2, g3, g4⟩
    · exact b8_13 (by omega) (fun z => absurd rfl z) (fun _ => b8_16 (K0 (fun w => b w.1.2)))
  · exact b8_5 (by omega) (fun _ => b8_16 (K0 (fun w => a w.1.1))) (fun z => absurd rfl z)
/-- a story stays where it is -/
def StayV (m : MI) (n : ML) (p i : Int) : Prop := 0 < m 11 p i ∧ m 9 p i = 0 ∧ ∀ c l, 0 ≤ c → c < 20 → 0 ≤ l → l < 60 → OnP (Vw m p) i c l → ¬ bt (n 23 c) l
theorem c_staysInPlace {Γ : GG} {d : Nat} {m : MI} {n : ML} {post : PO} {p i : Int} (hi : 0 ≤ i ∧ i < 12) (hp : PcB1 m p i) (K1 : StayV m n p i → post (some (vi 1)) m n) (K0 : ¬ StayV m n p i → post (some (vi 0)) m n) : CM Γ (d + 2) 19 [vr 21 0, vr 3 p, vi i] m n post := by
  have h1 := hp.1
  refine e19 (AM.w0 fun _ hB _ => b19_0 (c_isPrinted hi (ir (by omega) (by omega)) (fun a => ?_) (fun a => ?_)))
  · have b9 := hB 9 p i (by decide)
    refine b19_8 (by omega) (fun z => absurd z (by omega)) (fun _ => b19_11 hi (by omega) (fun z => b19_39 (b19_40 (by omega) (K0 (fun w => z w.2.1)))) (fun z => b19_20 (c_hasPlaceFor hi hp (fun g => ?_) (fun g => ?_))))
    · exact b19_32 (by omega) (fun z => absurd z (by omega)) (fun _ => b19_35 (b19_40 (by omega) (K1 ⟨a, z, fun c l c0 c1 l0 l1 => g c l c0 c1 l0 (by omega)⟩)))
    · obtain ⟨c, l, c0, c1, l0, l1, g1, g2⟩ := g
      exact b19_32 (by omega) (fun _ => b19_39 (b19_40 (by omega) (K0 (fun w => w.2.2 c l c0 c1 l0 l1 g1 g2)))) (fun z => absurd rfl z)
  · exact b19_8 (by omega) (fun _ => b19_39 (b19_40 (by omega) (K0 (fun w => a w.1)))) (fun z => absurd rfl z)
