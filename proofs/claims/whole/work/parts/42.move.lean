-- the reference's prints; moved; stays
theorem r_prints {Γ : GG} {d : Nat} {m : MI} {n : ML} {post : PO} {i pg gp sz fi pa c : Int} (hi : 0 ≤ i ∧ i < 12) (hc : m 32 0 (20 * i) = c) (c0 : 0 ≤ c ∧ c ≤ 2) (hp : 0 ≤ pg ∧ pg ≤ 4) (hg : 0 ≤ gp ∧ gp < 240) (hs : 0 ≤ sz ∧ gp % 60 + sz ≤ 60)
    (K : ∀ m', (∀ k, k ≠ 31 → k ≠ 32 → m' k = m k) → m' 32 0 (20 * i) = c + 1 → m' 32 0 (20 * i + 2 + 6 * c) = pg → m' 32 0 (20 * i + 2 + 6 * c + 1) = gp / 60 → m' 32 0 (20 * i + 2 + 6 * c + 2) = gp % 60 → m' 32 0 (20 * i + 2 + 6 * c + 3) = sz → m' 32 0 (20 * i + 2 + 6 * c + 4) = fi → m' 32 0 (20 * i + 2 + 6 * c + 5) = pa → (∀ z, z ≠ 20 * i → ¬ (20 * i + 2 + 6 * c ≤ z ∧ z < 20 * i + 2 + 6 * c + 6) → m' 32 0 z = m 32 0 z) → (∀ z, m' 31 0 z = if 60 * (4 * pg + gp / 60) + gp % 60 ≤ z ∧ z < 60 * (4 * pg + gp / 60) + gp % 60 + sz then 1 else m 31 0 z) → post none m' n) : CM Γ (d + 2) 128 [vr 25 0, vi i, vi pg, vi gp, vi sz, vi fi, vi pa] m n post := by
  refine e128 (b128_0 (by omega) (by omega) (by omega) (by omega) (by omega) (by omega) (by omega) (by omega) (by omega) ?_)
  rw [hc]
  generalize hz : 20 * i + 2 + 6 * c = z0 at K ⊢
  generalize hm1 : up (up (up (up (up (up m 32 0 z0 pg) 32 0 (z0 + 1) (gp / 60)) 32 0 (z0 + 2) (gp % 60)) 32 0 (z0 + 3) sz) 32 0 (z0 + 4) fi) 32 0 (z0 + 5) pa = m1
  have u32 : ∀ (mm : MI) (w v j : Int), up mm 32 0 w v 32 0 j = if j = w then v else mm 32 0 j := fun mm w v j => by simp [up_rd]
  have f0 : ∀ k, k ≠ 32 → m1 k = m k := fun k z => by rw [← hm1, up_k z, up_k z, up_k z, up_k z, up_k z, up_k z]
  have f1 : ∀ z, ¬ (z0 ≤ z ∧ z < z0 + 6) → m1 32 0 z = m 32 0 z := fun z w => by
    rw [← hm1, u32, if_neg (by omega), u32, if_neg (by omega), u32, if_neg (by omega), u32, if_neg (by omega), u32, if_neg (by omega), u32, if_neg (by omega)]
  have g0 : m1 32 0 z0 = pg := by rw [← hm1, u32, if_neg (by omega), u32, if_neg (by omega), u32, if_neg (by omega), u32, if_neg (by omega), u32, if_neg (by omega), u32, if_pos rfl]
  have g1 : m1 32 0 (z0 + 1) = gp / 60 := by rw [← hm1, u32, if_neg (by omega), u32, if_neg (by omega), u32, if_neg (by omega), u32, if_neg (by omega), u32, if_pos rfl]
  have g2 : m1 32 0 (z0 + 2) = gp % 60 := by rw [← hm1, u32, if_neg (by omega), u32, if_neg (by omega), u32, if_neg (by omega), u32, if_pos rfl]
  have g3 : m1 32 0 (z0 + 3) = sz := by rw [← hm1, u32, if_neg (by omega), u32, if_neg (by omega), u32, if_pos rfl]
  have g4 : m1 32 0 (z0 + 4) = fi := by rw [← hm1, u32, if_neg (by omega), u32, if_pos rfl]
  have g5 : m1 32 0 (z0 + 5) = pa := by rw [← hm1, u32, if_pos rfl]
  clear hm1
  have hc1 : m1 32 0 (20 * i) = c := by rw [f1 _ (by omega), hc]
  refine b128_97 (by omega) (by omega) (by omega) (by omega) ?_
  rw [hc1]
  refine r_marks hp (by omega) (by omega) (Or.inr rfl) (fun m' h1 h2 => b128_117 (K m' (fun k k1 k2 => ?_) ?_ ?_ ?_ ?_ ?_ ?_ ?_ (fun z z1 z2 => ?_) (fun z => ?_)))
  · rw [h1 k k1, up_k k2, f0 k k2]
  · rw [h1 32 (by omega), u32, if_pos rfl]
  · rw [h1 32 (by omega), u32, if_neg (by omega), g0]
  · rw [h1 32 (by omega), u32, if_neg (by omega), g1]
  · rw [h1 32 (by omega), u32, if_neg (by omega), g2]
  · rw [h1 32 (by omega), u32, if_neg (by omega), g3]
  · rw [h1 32 (by omega), u32, if_neg (by omega), g4]
  · rw [h1 32 (by omega), u32, if_neg (by omega), g5]
  · rw [h1 32 (by omega), u32, if_neg z1, f1 z z2]
  · rw [h2 z, up_k (by omega), f0 31 (by omega)]
def MovedV (m : MI) (e p i : Int) : Prop := (0 < m 11 e i ∧ 0 < m 11 p i) ∧ (m 11 e i ≠ m 11 p i ∨ ∃ k, 0 ≤ k ∧ k < m 11 e i ∧ (m 13 e (i * 3 + k) ≠ m 13 p (i * 3 + k) ∨ m 14 e (i * 3 + k) ≠ m 14 p (i * 3 + k) ∨ m 15 e (i * 3 + k) ≠ m 15 p (i * 3 + k) ∨ m 17 e (i * 3 + k) ≠ m 17 p (i * 3 + k)))
def PcI (m : MI) (e i : Int) : Prop := (-1 ≤ m 11 e i ∧ m 11 e i ≤ 3) ∧ ∀ k, 0 ≤ k → k < m 11 e i → InR (m 13 e (i * 3 + k)) ∧ InR (m 14 e (i * 3 + k)) ∧ InR (m 15 e (i * 3 + k)) ∧ InR (m 17 e (i * 3 + k))
theorem c_isMovedSince {Γ : GG} {d : Nat} {m : MI} {n : ML} {post : PO} {e p i : Int} (hi : 0 ≤ i ∧ i < 12) (he : PcI m e i) (hp : PcI m p i) (K1 : MovedV m e p i → post (some (vi 1)) m n) (K0 : ¬ MovedV m e p i → post (some (vi 0)) m n) : CM Γ (d + 1) 8 [vr 10 e, vr 10 p, vi i] m n post := by
  have h1 := he.1
  have h2 := hp.1
  refine e8 (b8_0 (c_isPrinted hi (ir (by omega) (by omega)) (fun a => ?_) (fun a => ?_)))
  · refine b8_5 (by omega) (fun z => absurd z (by omega)) (fun _ => b8_8 (c_isPrinted hi (ir (by omega) (by omega)) (fun b => ?_) (fun b => ?_)))
    · refine b8_13 (by omega) (fun _ => b8_18 hi hi (by omega) (by omega) (fun q => b8_35 ?_) (fun q => b8_33 (K1 ⟨⟨a, b⟩, Or.inl q⟩))) (fun z => absurd z (by omega))
      have key := up_ind (P := fun y => (∀ k, 0 ≤ k → k < y → k < m 11 e i → m 13 e (i * 3 + k) = m 13 p (i * 3 + k) ∧ m 14 e (i * 3 + k) = m 14 p (i * 3 + k) ∧ m 15 e (i * 3 + k) = m 15 p (i * 3 + k) ∧ m 17 e (i * 3 + k) = m 17 p (i * 3 + k)) → AM Γ (d + 1) 8 42 [some (vr 10 e), some (vr 10 p), some (vi i), some (vi (i * 3)), some (vi (i * 3 + y))] [] m n post) 0 3 (by omega) ?_ ?_
      · have := key (fun k k1 k2 => by omega)
        rw [Int.add_zero] at this
        exact this
      · intro h
        refine b8_42 hi (by omega) (by omega) (fun _ => b8_131 (K0 ?_)) (fun z => absurd z (by omega))
        rintro ⟨_, w | ⟨k, k1, k2, w⟩⟩
        · exact w q
        · have := h k k1 (by omega) k2
          omega
      · intro y y1 y2 ih h
        refine b8_42 hi (by omega) (by omega) (fun z => b8_131 (K0 ?_)) (fun z => ?_)
        · rintro ⟨_, w | ⟨k, k1, k2, w⟩⟩
          · exact w q
          · have := h k k1 (by omega) k2
            omega
        · obtain ⟨a1, a2, a3, a4⟩ := he.2 y y1 (by omega)
          obtain ⟨b1, b2, b3, b4⟩ := hp.2 y y1 (by omega)
          have ky : y < m 11 e i := by omega
          refine b8_55 (by omega) (by omega) a1 b1 (fun g => b8_123 (K1 ⟨⟨a, b⟩, Or.inr ⟨y, y1, ky, Or.inl g⟩⟩)) (fun g1 => b8_72 (by omega) (by omega) a2 b2 (fun g => b8_123 (K1 ⟨⟨a, b⟩, Or.inr ⟨y, y1, ky, Or.inr (Or.inl g)⟩⟩)) (fun g2 => b8_89 (by omega) (by omega) a3 b3 (fun g => b8_123 (K1 ⟨⟨a, b⟩, Or.inr ⟨y, y1, ky, Or.inr (Or.inr (Or.inl g))⟩⟩)) (fun g3 => b8_106 (by omega) (by omega) a4 b4 (fun g4 => b8_125 ?_) (fun g => b8_123 (K1 ⟨⟨a, b⟩, Or.inr ⟨y, y1, ky, Or.inr (Or.inr (Or.inr g))⟩⟩)))))
          rw [Int.add_assoc]
          refine ih (fun k k1 k2 k3 => ?_)
          rcases (show k < y ∨ k = y by omega) with u | u
          · exact h k k1 u k3
          · rw [u]; exact ⟨g1, g2, g3, g4⟩
    · exact b8_13 (by omega) (fun z => absurd rfl z) (fun _ => b8_16 (K0 (fun w => b w.1.2)))
  · exact b8_5 (by omega) (fun _ => b8_16 (K0 (fun w => a w.1.1))) (fun z => absurd rfl z)
/-- a story stays where it is -/
def StayV (m : MI) (n : ML) (p i : Int) : Prop := 0 < m 11 p i ∧ m 9 p i = 0 ∧ ∀ c l, 0 ≤ c → c < 20 → 0 ≤ l → l < 60 → OnP (Vw m p) i c l → ¬ bt (n 23 c) l
theorem c_staysInPlace {Γ : GG} {d : Nat} {m : MI} {n : ML} {post : PO} {p i : Int} (hi : 0 ≤ i ∧ i < 12) (hp : PcB1 m p i) (K1 : StayV m n p i → post (some (vi 1)) m n) (K0 : ¬ StayV m n p i → post (some (vi 0)) m n) : CM Γ (d + 2) 20 [vr 21 0, vr 3 p, vi i] m n post := by
  have h1 := hp.1
  refine e20 (AM.w0 fun _ hB _ => b20_0 (c_isPrinted hi (ir (by omega) (by omega)) (fun a => ?_) (fun a => ?_)))
  · have b9 := hB 9 p i (by decide)
    refine b20_8 (by omega) (fun z => absurd z (by omega)) (fun _ => b20_11 hi (by omega) (fun z => b20_39 (b20_40 (by omega) (K0 (fun w => z w.2.1)))) (fun z => b20_20 (c_hasPlaceFor hi hp (fun g => ?_) (fun g => ?_))))
    · exact b20_32 (by omega) (fun z => absurd z (by omega)) (fun _ => b20_35 (b20_40 (by omega) (K1 ⟨a, z, fun c l c0 c1 l0 l1 => g c l c0 c1 l0 (by omega)⟩)))
    · obtain ⟨c, l, c0, c1, l0, l1, g1, g2⟩ := g
      exact b20_32 (by omega) (fun _ => b20_39 (b20_40 (by omega) (K0 (fun w => w.2.2 c l c0 c1 l0 l1 g1 g2)))) (fun z => absurd rfl z)
  · exact b20_8 (by omega) (fun _ => b20_39 (b20_40 (by omega) (K0 (fun w => a w.1)))) (fun z => absurd rfl z)
