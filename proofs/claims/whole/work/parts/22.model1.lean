-- THE REFERENCE: tests, reads, small writes, copies
theorem r_in {Γ : GG} {d : Nat} {m : MI} {n : ML} {post : PO} {v a b : Int} (hv : InR v) (ha : InR a) (hb : InR b) (K1 : a ≤ v → v ≤ b → post (some (vi 1)) m n) (K0 : v < a ∨ b < v → post (some (vi 0)) m n) : CM Γ d 89 [vi v, vi a, vi b] m n post := by
  refine e89 ?_
  refine b89_0 hv ha (fun h => ?_) (fun h => ?_)
  · exact b89_14 (b89_15 (Or.inl rfl) (K0 (Or.inl h)))
  · refine b89_5 hv hb (fun h2 => ?_) (fun h2 => ?_)
    · exact b89_14 (b89_15 (Or.inl rfl) (K0 (Or.inr h2)))
    · exact b89_10 (b89_15 (Or.inr rfl) (K1 (by omega) (by omega)))
theorem r_isStory {Γ : GG} {d : Nat} {m : MI} {n : ML} {post : PO} {v : Int} (hv : InR v) (h0 : 0 ≤ m 26 0 3) (h1 : m 26 0 3 ≤ 12) (K1 : 0 ≤ v → v < m 26 0 3 → post (some (vi 1)) m n) (K0 : v < 0 ∨ m 26 0 3 ≤ v → post (some (vi 0)) m n) : CM Γ (d + 1) 94 [vr 25 0, vi v] m n post := by
  refine e94 (b94_0 ?_)
  refine r_in hv (ir (by omega) (by omega)) (ir (by omega) (by omega)) (fun h1 h2 => ?_) (fun h => ?_)
  · exact b94_13 (Or.inr rfl) (K1 h1 (by omega))
  · exact b94_13 (Or.inl rfl) (K0 (by omega))
theorem r_isPage {Γ : GG} {d : Nat} {m : MI} {n : ML} {post : PO} {v : Int} (hv : InR v) (h0 : 0 ≤ m 26 0 0) (h1 : m 26 0 0 ≤ 5) (K1 : 0 ≤ v → v < m 26 0 0 → post (some (vi 1)) m n) (K0 : v < 0 ∨ m 26 0 0 ≤ v → post (some (vi 0)) m n) : CM Γ (d + 1) 97 [vr 25 0, vi v] m n post := by
  refine e97 (b97_0 ?_)
  refine r_in hv (ir (by omega) (by omega)) (ir (by omega) (by omega)) (fun h1 h2 => ?_) (fun h => ?_)
  · exact b97_13 (Or.inr rfl) (K1 h1 (by omega))
  · exact b97_13 (Or.inl rfl) (K0 (by omega))
theorem r_of {Γ : GG} {d : Nat} {m : MI} {n : ML} {post : PO} {i w : Int} (hi : 0 ≤ i ∧ i < 12) (hw : 0 ≤ w ∧ w < 13) (K : post (some (vi (m 26 0 (4 + 13 * i + w)))) m n) : CM Γ d 95 [vr 25 0, vi i, vi w] m n post :=
  e95 (b95_0 (by omega) K)
theorem r_puts {Γ : GG} {d : Nat} {m : MI} {n : ML} {post : PO} {i w v : Int} (hi : 0 ≤ i ∧ i < 12) (hw : 0 ≤ w ∧ w < 13) (K : post none (up m 26 0 (4 + 13 * i + w) v) n) : CM Γ d 96 [vr 25 0, vi i, vi w, vi v] m n post :=
  e96 (b96_0 (by omega) K)
theorem r_printed {Γ : GG} {d : Nat} {m : MI} {n : ML} {post : PO} {i w : Int} (hi : 0 ≤ i ∧ i < 12) (hw : 0 ≤ w ∧ w < 20) (K : post (some (vi (m 26 0 (164 + 20 * i + w)))) m n) : CM Γ d 137 [vr 25 0, vi i, vi w] m n post :=
  e137 (b137_0 (by omega) K)
theorem r_lines {Γ : GG} {d : Nat} {m : MI} {n : ML} {post : PO} {i a c : Int} (hi : 0 ≤ i ∧ i < 12) (ha : 0 ≤ a) (hc : 0 ≤ c) (hac : a + c ≤ 8) (K : post (some (vi (Sm (fun j => m 26 0 (9 + 13 * i + j)) a (a + c)))) m n) : CM Γ (d + 1) 112 [vr 25 0, vi i, vi a, vi c] m n post := by
  refine e112 (b112_0 ?_)
  have key : AM Γ (d + 1) 112 6 [some (vr 25 0), some (vi i), some (vi a), some (vi c), some (vi (Sm (fun j => m 26 0 (9 + 13 * i + j)) a a)), some (vi a)] [] m n post := by
    refine up_ind (P := fun x => AM Γ (d + 1) 112 6 [some (vr 25 0), some (vi i), some (vi a), some (vi c), some (vi (Sm (fun j => m 26 0 (9 + 13 * i + j)) a x)), some (vi x)] [] m n post) a (a + c) (by omega) ?_ (fun x h1 h2 ih => ?_)
    · exact b112_6 (by omega) (by omega) (fun _ => b112_34 K) (fun h => absurd h (by omega))
    · refine b112_6 (by omega) (by omega) (fun h => absurd h2 h) (fun _ => b112_14 ?_)
      refine r_of hi (by omega) (b112_25 ?_)
      rw [Sm_succ (f := fun j => m 26 0 (9 + 13 * i + j)) h1] at ih
      rw [show 4 + 13 * i + (5 + x) = 9 + 13 * i + x by omega]
      exact ih
  rw [Sm_nil (Int.le_refl a)] at key
  exact key
theorem r_alive {Γ : GG} {d : Nat} {m : MI} {n : ML} {post : PO} (h0 : 0 ≤ m 26 0 3) (h1 : m 26 0 3 ≤ 12) (K : post (some (vi (Sm (fun j => m 26 0 (4 + 13 * j + 2)) 0 (m 26 0 3)))) m n) : CM Γ (d + 1) 106 [vr 25 0] m n post := by
  refine e106 (b106_0 ?_)
  have key : AM Γ (d + 1) 106 4 [some (vr 25 0), some (vi (Sm (fun j => m 26 0 (4 + 13 * j + 2)) 0 0)), some (vi 0)] [] m n post := by
    refine up_ind (P := fun x => AM Γ (d + 1) 106 4 [some (vr 25 0), some (vi (Sm (fun j => m 26 0 (4 + 13 * j + 2)) 0 x)), some (vi x)] [] m n post) 0 (m 26 0 3) h0 ?_ (fun x g1 g2 ih => ?_)
    · exact b106_4 (by omega) (by omega) (fun _ => b106_29 K) (fun h => absurd h (by omega))
    · refine b106_4 (by omega) (by omega) (fun h => absurd g2 h) (fun _ => b106_14 ?_)
      refine r_of (by omega) (by omega) (b106_21 ?_)
      rw [Sm_succ (f := fun j => m 26 0 (4 + 13 * j + 2)) g1] at ih
      exact ih
  rw [Sm_nil (Int.le_refl 0)] at key
  exact key
theorem r_isAhead {Γ : GG} {d : Nat} {m : MI} {n : ML} {post : PO} {a b : Int} (ha : 0 ≤ a ∧ a < 12) (hb : 0 ≤ b ∧ b < 12) (h1 : InR (m 26 0 (4 + 13 * a))) (h2 : InR (m 26 0 (4 + 13 * b))) (K1 : ahd (fun j => m 26 0 (4 + 13 * j)) a b → post (some (vi 1)) m n) (K0 : ¬ ahd (fun j => m 26 0 (4 + 13 * j)) a b → post (some (vi 0)) m n) : CM Γ (d + 1) 110 [vr 25 0, vi a, vi b] m n post := by
  refine e110 (b110_0 (r_of ha (by omega) (b110_6 (r_of hb (by omega) ?_))))
  rw [Int.add_zero, Int.add_zero]
  refine b110_12 h1 h2 (fun h => ?_) (fun h => ?_)
  · exact b110_35 (b110_40 (Or.inr rfl) (K1 (Or.inl h)))
  · refine b110_15 (r_of ha (by omega) (b110_21 (r_of hb (by omega) ?_)))
    rw [Int.add_zero, Int.add_zero]
    refine b110_27 h1 h2 (fun g => ?_) (fun g => ?_)
    · exact b110_39 (b110_40 (Or.inl rfl) (K0 (by rintro (q | q); exact h q; exact g q.1)))
    · refine b110_30 (by omega) (by omega) (fun f => ?_) (fun f => ?_)
      · exact b110_39 (b110_40 (Or.inl rfl) (K0 (by rintro (q | q); exact h q; exact f q.2)))
      · exact b110_35 (b110_40 (Or.inr rfl) (K1 (Or.inr ⟨g, f⟩)))
theorem r_ahead {Γ : GG} {d : Nat} {m : MI} {n : ML} {post : PO} {i : Int} (hi : 0 ≤ i ∧ i < 12) (h0 : 0 ≤ m 26 0 3) (h1 : m 26 0 3 ≤ 12) (hr : ∀ j, 0 ≤ j → j < m 26 0 3 → InR (m 26 0 (4 + 13 * j))) (hri : InR (m 26 0 (4 + 13 * i))) (ha : ∀ j, 0 ≤ j → j < m 26 0 3 → m 26 0 (4 + 13 * j + 2) = 0 ∨ m 26 0 (4 + 13 * j + 2) = 1)
    (K : post (some (vi (ahN (fun j => m 26 0 (4 + 13 * j)) (fun j => m 26 0 (4 + 13 * j + 2)) (m 26 0 3) i))) m n) : CM Γ (d + 2) 111 [vr 25 0, vi i] m n post := by
  refine e111 (b111_0 ?_)
  have key : AM Γ (d + 2) 111 4 [some (vr 25 0), some (vi i), some (vi (ahN (fun j => m 26 0 (4 + 13 * j)) (fun j => m 26 0 (4 + 13 * j + 2)) 0 i)), some (vi 0)] [] m n post := by
    refine up_ind (P := fun x => AM Γ (d + 2) 111 4 [some (vr 25 0), some (vi i), some (vi (ahN (fun j => m 26 0 (4 + 13 * j)) (fun j => m 26 0 (4 + 13 * j + 2)) x i)), some (vi x)] [] m n post) 0 (m 26 0 3) h0 ?_ (fun x g1 g2 ih => ?_)
    · exact b111_4 (by omega) (by omega) (fun _ => b111_47 K) (fun h => absurd h (by omega))
    · have hb := ha x g1 g2
      refine b111_4 (by omega) (by omega) (fun h => absurd g2 h) (fun _ => b111_14 ?_)
      refine r_of (by omega) (by omega) ?_
      unfold ahN at ih ⊢
      rw [Sm_succ g1] at ih
      dsimp only at ih
      refine b111_21 (by omega) (fun h => ?_) (fun h => b111_25 ?_)
      · rw [if_pos (by omega)] at ih
        exact b111_38 (b111_39 ih)
      · rw [if_neg (by omega)] at ih
        refine r_isAhead (by omega) hi (hr x g1 g2) hri (fun f => ?_) (fun f => ?_)
        · rw [if_pos f] at ih
          exact b111_31 (by omega) (fun q => absurd q (by decide)) (fun _ => b111_34 (b111_39 ih))
        · rw [if_neg f] at ih
          exact b111_31 (by omega) (fun _ => b111_38 (b111_39 ih)) (fun q => absurd rfl q)
  unfold ahN at key
  rw [Sm_nil (Int.le_refl 0)] at key
  exact key
theorem r_lengthens {Γ : GG} {d : Nat} {m : MI} {n : ML} {post : PO} {i v : Int} (hi : 0 ≤ i ∧ i < 12) (hc : 0 ≤ m 26 0 (4 + 13 * i + 4) ∧ m 26 0 (4 + 13 * i + 4) < 8) (K : post none (up (up (up m 26 0 (9 + 13 * i + m 26 0 (4 + 13 * i + 4)) v) 26 0 (4 + 13 * i + 4) (m 26 0 (4 + 13 * i + 4) + 1)) 26 0 (4 + 13 * i + 3) 1) n) : CM Γ (d + 1) 100 [vr 25 0, vi i, vi v] m n post := by
  refine e100 (b100_0 (r_of hi (by omega) (b100_9 (r_puts hi (by omega) (b100_14 (r_of hi (by omega) (b100_23 (r_puts hi (by omega) (b100_28 (r_puts hi (by omega) (b100_35 ?_)))))))))))
  rw [show 4 + 13 * i + (5 + m 26 0 (4 + 13 * i + 4)) = 9 + 13 * i + m 26 0 (4 + 13 * i + 4) by omega]
  rw [up_rd, if_neg (by omega)]
  exact K
theorem r_keeps {Γ : GG} {d : Nat} {m : MI} {n : ML} {post : PO} (K : ∀ m', (∀ k, k ≠ 29 → m' k = m k) → (∀ i, 0 ≤ i → i < 404 → m' 29 0 i = m 26 0 i) → post none m' n) : CM Γ d 92 [vr 25 0] m n post := by
  refine e92 (b92_0 ?_)
  have key : ∀ m', (∀ k, k ≠ 29 → m' k = m k) → (∀ i, 0 ≤ i → i < 0 → m' 29 0 i = m 26 0 i) → AM Γ d 92 2 [some (vr 25 0), some (vi 0)] [] m' n post := by
    refine up_ind (P := fun x => ∀ m', (∀ k, k ≠ 29 → m' k = m k) → (∀ i, 0 ≤ i → i < x → m' 29 0 i = m 26 0 i) → AM Γ d 92 2 [some (vr 25 0), some (vi x)] [] m' n post) 0 404 (by omega) ?_ (fun x g1 g2 ih m' h1 h2 => ?_)
    · intro m' h1 h2
      exact b92_2 (by omega) (fun _ => b92_27 (K m' h1 h2)) (fun h => absurd h (by omega))
    · refine b92_2 (by omega) (fun h => absurd g2 h) (fun _ => b92_9 (by omega) (by omega) ?_)
      refine ih _ (fun k hk => by rw [up_k hk]; exact h1 k hk) (fun i q1 q2 => ?_)
      rw [up_rd]
      by_cases hx : i = x
      · rw [if_pos ⟨rfl, rfl, hx⟩, h1 26 (by omega), hx]
      · rw [if_neg (by rintro ⟨-, -, q⟩; exact hx q)]
        exact h2 i q1 (by omega)
  exact key m (fun _ _ => rfl) (fun i q1 q2 => absurd q1 (by omega))
theorem r_restores {Γ : GG} {d : Nat} {m : MI} {n : ML} {post : PO} (K : ∀ m', (∀ k, k ≠ 26 → m' k = m k) → (∀ i, 0 ≤ i → i < 404 → m' 26 0 i = m 29 0 i) → post none m' n) : CM Γ d 93 [vr 25 0] m n post := by
  refine e93 (b93_0 ?_)
  have key : ∀ m', (∀ k, k ≠ 26 → m' k = m k) → (∀ i, 0 ≤ i → i < 0 → m' 26 0 i = m 29 0 i) → AM Γ d 93 2 [some (vr 25 0), some (vi 0)] [] m' n post := by
    refine up_ind (P := fun x => ∀ m', (∀ k, k ≠ 26 → m' k = m k) → (∀ i, 0 ≤ i → i < x → m' 26 0 i = m 29 0 i) → AM Γ d 93 2 [some (vr 25 0), some (vi x)] [] m' n post) 0 404 (by omega) ?_ (fun x g1 g2 ih m' h1 h2 => ?_)
    · intro m' h1 h2
      exact b93_2 (by omega) (fun _ => b93_27 (K m' h1 h2)) (fun h => absurd h (by omega))
    · refine b93_2 (by omega) (fun h => absurd g2 h) (fun _ => b93_9 (by omega) (by omega) ?_)
      refine ih _ (fun k hk => by rw [up_k hk]; exact h1 k hk) (fun i q1 q2 => ?_)
      rw [up_rd]
      by_cases hx : i = x
      · rw [if_pos ⟨rfl, rfl, hx⟩, h1 29 (by omega), hx]
      · rw [if_neg (by rintro ⟨-, -, q⟩; exact hx q)]
        exact h2 i q1 (by omega)
  exact key m (fun _ _ => rfl) (fun i q1 q2 => absurd q1 (by omega))
theorem r_exchanges {Γ : GG} {d : Nat} {m : MI} {n : ML} {post : PO} (K : ∀ m', (∀ k, k ≠ 26 → k ≠ 30 → m' k = m k) → (∀ i, 0 ≤ i → i < 404 → m' 26 0 i = m 30 0 i ∧ m' 30 0 i = m 26 0 i) → post none m' n) : CM Γ d 123 [vr 25 0] m n post := by
  refine e123 (b123_0 ?_)
  have key : ∀ m' o, (∀ k, k ≠ 26 → k ≠ 30 → m' k = m k) → (∀ i, 0 ≤ i → i < 0 → m' 26 0 i = m 30 0 i ∧ m' 30 0 i = m 26 0 i) → (∀ i, 0 ≤ i → m' 26 0 i = m 26 0 i ∧ m' 30 0 i = m 30 0 i) → AM Γ d 123 2 [some (vr 25 0), some (vi 0), o] [] m' n post := by
    refine up_ind (P := fun x => ∀ m' o, (∀ k, k ≠ 26 → k ≠ 30 → m' k = m k) → (∀ i, 0 ≤ i → i < x → m' 26 0 i = m 30 0 i ∧ m' 30 0 i = m 26 0 i) → (∀ i, x ≤ i → m' 26 0 i = m 26 0 i ∧ m' 30 0 i = m 30 0 i) → AM Γ d 123 2 [some (vr 25 0), some (vi x), o] [] m' n post) 0 404 (by omega) ?_ (fun x g1 g2 ih m' o h1 h2 h3 => ?_)
    · intro m' o h1 h2 h3
      exact b123_2 (by omega) (fun _ => b123_41 (K m' h1 h2)) (fun h => absurd h (by omega))
    · refine b123_2 (by omega) (fun h => absurd g2 h) (fun _ => b123_9 (by omega) (by omega) (by omega) (by omega) ?_)
      refine ih _ _ (fun k hk hk' => by rw [up_k hk', up_k hk]; exact h1 k hk hk') (fun i q1 q2 => ?_) (fun i q1 => ?_)
      · by_cases hx : i = x
        · subst hx
          have := h3 i (Int.le_refl i)
          simp [up_rd, this.1, this.2]
        · have := h2 i q1 (by omega)
          simp [up_rd, hx, this.1, this.2]
      · have hx : ¬ i = x := by omega
        have := h3 i (by omega)
        simp [up_rd, hx, this.1, this.2]
  exact key m _ (fun _ _ _ => rfl) (fun i q1 q2 => absurd q1 (by omega)) (fun _ _ => ⟨rfl, rfl⟩)
/-- what the reference saves: at 6 the oldest goes -/
theorem r_notes {Γ : GG} {d : Nat} {m : MI} {n : ML} {post : PO} (hp : 0 ≤ m 25 0 2 ∧ m 25 0 2 ≤ 6) (K : ∀ m' (sh : Int), (sh = if m 25 0 2 = 6 then 1 else 0) → (∀ k, k ≠ 25 → k ≠ 27 → m' k = m k) → (∀ f, f ≠ 2 → m' 25 0 f = m 25 0 f) → m' 25 0 2 = m 25 0 2 - sh + 1 → (∀ i, 0 ≤ i → i < 404 * (m 25 0 2 - sh) → m' 27 0 i = m 27 0 (i + 404 * sh)) → (∀ i, 0 ≤ i → i < 404 → m' 27 0 (404 * (m 25 0 2 - sh) + i) = m 26 0 i) → post none m' n) : CM Γ d 90 [vr 25 0] m n post := by
  refine e90 ?_
  -- behind the shift
  have tail : ∀ (m1 : MI) (o : Option AV) (sh : Int), (sh = if m 25 0 2 = 6 then 1 else 0) → (∀ k, k ≠ 25 → k ≠ 27 → m1 k = m k) → (∀ f, f ≠ 2 → m1 25 0 f = m 25 0 f) → m1 25 0 2 = m 25 0 2 - sh → (∀ i, 0 ≤ i → i < 404 * (m 25 0 2 - sh) → m1 27 0 i = m 27 0 (i + 404 * sh)) → AM Γ d 90 50 [some (vr 25 0), o] [] m1 n post := by
    intro m1 o sh hsh f1 f2 f3 f4
    have hsh2 : 0 ≤ m 25 0 2 - sh ∧ m 25 0 2 - sh ≤ 5 := by
      by_cases q : m 25 0 2 = 6
      · rw [if_pos q] at hsh; omega
      · rw [if_neg q] at hsh; omega
    refine b90_50 ?_
    have key : ∀ m', (∀ k, k ≠ 27 → m' k = m1 k) → (∀ i, 0 ≤ i → i < 404 * (m 25 0 2 - sh) → m' 27 0 i = m1 27 0 i) → (∀ i, 0 ≤ i → i < 0 → m' 27 0 (404 * (m 25 0 2 - sh) + i) = m 26 0 i) → AM Γ d 90 52 [some (vr 25 0), some (vi 0)] [] m' n post := by
      refine up_ind (P := fun x => ∀ m', (∀ k, k ≠ 27 → m' k = m1 k) → (∀ i, 0 ≤ i → i < 404 * (m 25 0 2 - sh) → m' 27 0 i = m1 27 0 i) → (∀ i, 0 ≤ i → i < x → m' 27 0 (404 * (m 25 0 2 - sh) + i) = m 26 0 i) → AM Γ d 90 52 [some (vr 25 0), some (vi x)] [] m' n post) 0 404 (by omega) ?_ (fun x g1 g2 ih m' h1 h2 h3 => ?_)
      · intro m' h1 h2 h3
        refine b90_52 (by omega) (fun _ => b90_86 ?_) (fun h => absurd h (by omega))
        refine K _ sh hsh (fun k q1 q2 => by rw [up_k q1, h1 k q2, f1 k q1 q2]) (fun f q => ?_) ?_ (fun i q1 q2 => ?_) (fun i q1 q2 => ?_)
        · rw [up_rd, if_neg (by rintro ⟨-, -, z⟩; exact q z), h1 25 (by omega)]; exact f2 f q
        · rw [up_rd, if_pos ⟨rfl, rfl, rfl⟩, h1 25 (by omega), f3]
        · rw [up_k (by omega), h2 i q1 q2]; exact f4 i q1 q2
        · rw [up_k (by omega)]; exact h3 i q1 q2
      · have e25 : m' 25 0 2 = m 25 0 2 - sh := by rw [h1 25 (by omega)]; exact f3
        have e26 : m' 26 0 x = m 26 0 x := by rw [h1 26 (by omega), f1 26 (by omega) (by omega)]
        refine b90_52 (by omega) (fun h => absurd g2 h) (fun _ => b90_59 (by omega) (by rw [e25]; omega) ?_)
        rw [e25, e26]
        refine ih _ (fun k hk => by rw [up_k hk]; exact h1 k hk) (fun i q1 q2 => ?_) (fun i q1 q2 => ?_)
        · rw [up_rd, if_neg (by rintro ⟨-, -, z⟩; omega)]; exact h2 i q1 q2
        · rw [up_rd]
          by_cases hx : i = x
          · rw [if_pos ⟨rfl, rfl, by omega⟩, hx]
          · rw [if_neg (by rintro ⟨-, -, z⟩; omega)]; exact h3 i q1 (by omega)
    exact key m1 (fun _ _ => rfl) (fun _ _ _ => rfl) (fun i q1 q2 => absurd q1 (by omega))
  refine b90_0 (by omega) (fun h => ?_) (fun h => b90_9 ?_)
  · exact tail m _ 0 (by rw [if_neg h]) (fun _ _ _ => rfl) (fun _ _ => rfl) (by omega) (fun i _ _ => by simp)
  · have key : ∀ m', (∀ k, k ≠ 27 → m' k = m k) → (∀ i, 0 ≤ i → i < 0 → m' 27 0 i = m 27 0 (i + 404)) → (∀ i, 0 ≤ i → m' 27 0 i = m 27 0 i) → AM Γ d 90 11 [some (vr 25 0), some (vi 0)] [] m' n post := by
      refine up_ind (P := fun x => ∀ m', (∀ k, k ≠ 27 → m' k = m k) → (∀ i, 0 ≤ i → i < x → m' 27 0 i = m 27 0 (i + 404)) → (∀ i, x ≤ i → m' 27 0 i = m 27 0 i) → AM Γ d 90 11 [some (vr 25 0), some (vi x)] [] m' n post) 0 2020 (by omega) ?_ (fun x g1 g2 ih m' h1 h2 h3 => ?_)
      · intro m' h1 h2 h3
        refine b90_11 (by omega) (fun _ => b90_40 ?_) (fun h => absurd h (by omega))
        refine tail _ _ 1 (by rw [if_pos h]) (fun k q1 q2 => by rw [up_k q1, h1 k q2]) (fun f q => ?_) ?_ (fun i q1 q2 => ?_)
        · rw [up_rd, if_neg (by rintro ⟨-, -, z⟩; exact q z), h1 25 (by omega)]
        · rw [up_rd, if_pos ⟨rfl, rfl, rfl⟩, h1 25 (by omega)]
        · rw [up_k (by omega), h2 i q1 (by omega), Int.mul_one]
      · refine b90_11 (by omega) (fun h => absurd g2 h) (fun _ => b90_18 (by omega) (by omega) ?_)
        refine ih _ (fun k hk => by rw [up_k hk]; exact h1 k hk) (fun i q1 q2 => ?_) (fun i q1 => ?_)
        · rw [up_rd]
          by_cases hx : i = x
          · rw [if_pos ⟨rfl, rfl, hx⟩, h3 _ (by omega), hx]
          · rw [if_neg (by rintro ⟨-, -, z⟩; exact hx z)]; exact h2 i q1 (by omega)
        · rw [up_rd, if_neg (by rintro ⟨-, -, z⟩; omega)]; exact h3 i (by omega)
    exact key m (fun _ _ => rfl) (fun i q1 q2 => absurd q1 (by omega)) (fun _ _ => rfl)
theorem r_undo {Γ : GG} {d : Nat} {m : MI} {n : ML} {post : PO} (hp : 0 ≤ m 25 0 2 ∧ m 25 0 2 ≤ 6) (K0 : m 25 0 2 = 0 → post (some (vi (-2))) m n) (K : 0 < m 25 0 2 → ∀ m', (∀ k, k ≠ 25 → k ≠ 26 → m' k = m k) → (∀ f, f ≠ 2 → m' 25 0 f = m 25 0 f) → m' 25 0 2 = m 25 0 2 - 1 → (∀ i, 0 ≤ i → i < 404 → m' 26 0 i = m 27 0 (404 * (m 25 0 2 - 1) + i)) → post (some (vi (m 25 0 2 - 1))) m' n) : CM Γ d 91 [vr 25 0] m n post := by
  refine e91 (b91_0 (by omega) (fun h => b91_10 ?_) (fun h => b91_7 (K0 h)))
  have key : ∀ m', (∀ k, k ≠ 25 → k ≠ 26 → m' k = m k) → (∀ f, f ≠ 2 → m' 25 0 f = m 25 0 f) → m' 25 0 2 = m 25 0 2 - 1 → (∀ i, 0 ≤ i → i < 0 → m' 26 0 i = m 27 0 (404 * (m 25 0 2 - 1) + i)) → AM Γ d 91 22 [some (vr 25 0), some (vi 0)] [] m' n post := by
    refine up_ind (P := fun x => ∀ m', (∀ k, k ≠ 25 → k ≠ 26 → m' k = m k) → (∀ f, f ≠ 2 → m' 25 0 f = m 25 0 f) → m' 25 0 2 = m 25 0 2 - 1 → (∀ i, 0 ≤ i → i < x → m' 26 0 i = m 27 0 (404 * (m 25 0 2 - 1) + i)) → AM Γ d 91 22 [some (vr 25 0), some (vi x)] [] m' n post) 0 404 (by omega) ?_ (fun x g1 g2 ih m' h1 h2 h3 h4 => ?_)
    · intro m' h1 h2 h3 h4
      refine b91_22 (by omega) (fun _ => b91_56 ?_) (fun h => absurd h (by omega))
      rw [h3]
      exact K (by omega) m' h1 h2 h3 h4
    · refine b91_22 (by omega) (fun h => absurd g2 h) (fun _ => b91_29 (by rw [h3]; omega) (by omega) ?_)
      refine ih _ (fun k q1 q2 => by rw [up_k q2]; exact h1 k q1 q2) (fun f q => by rw [up_k (by omega)]; exact h2 f q) (by rw [up_k (by omega)]; exact h3) (fun i q1 q2 => ?_)
      rw [up_rd]
      by_cases hx : i = x
      · rw [if_pos ⟨rfl, rfl, hx⟩, h3, h1 27 (by omega) (by omega), hx]
      · rw [if_neg (by rintro ⟨-, -, z⟩; exact hx z)]; exact h4 i q1 (by omega)
  exact key _ (fun k q1 q2 => by rw [up_k q1]) (fun f q => by rw [up_rd, if_neg (by rintro ⟨-, -, z⟩; exact q z)]) (by rw [up_rd, if_pos ⟨rfl, rfl, rfl⟩]) (fun i q1 q2 => absurd q1 (by omega))
