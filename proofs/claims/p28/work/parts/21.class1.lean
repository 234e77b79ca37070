-- THE CLASS: tests and reads
theorem c_isWithin {Γ : GG} {d : Nat} {m : MI} {n : ML} {post : PO} {v a b : Int} (hv : InR v) (ha : InR a) (hb : InR b) (K1 : a ≤ v → v ≤ b → post (some (vi 1)) m n) (K0 : v < a ∨ b < v → post (some (vi 0)) m n) : CM Γ d 69 [vi v, vi a, vi b] m n post := by
  refine e69 ?_
  refine b69_0 hv ha (fun h => ?_) (fun h => ?_)
  · exact b69_14 (b69_15 (Or.inl rfl) (K0 (Or.inl h)))
  · refine b69_5 hv hb (fun h2 => ?_) (fun h2 => ?_)
    · exact b69_14 (b69_15 (Or.inl rfl) (K0 (Or.inr h2)))
    · exact b69_10 (b69_15 (Or.inr rfl) (K1 (by omega) (by omega)))
theorem c_isRank {Γ : GG} {d : Nat} {m : MI} {n : ML} {post : PO} {v : Int} (hv : InR v) (K1 : 1 ≤ v → v ≤ 99 → post (some (vi 1)) m n) (K0 : v < 1 ∨ 99 < v → post (some (vi 0)) m n) : CM Γ (d + 1) 68 [vi v] m n post := by
  refine e68 (b68_0 ?_)
  refine c_isWithin hv (ir (by omega) (by omega)) (ir (by omega) (by omega)) (fun h1 h2 => ?_) (fun h => ?_)
  · exact b68_7 (Or.inr rfl) (K1 h1 h2)
  · exact b68_7 (Or.inl rfl) (K0 h)
theorem c_isStory {Γ : GG} {d : Nat} {m : MI} {n : ML} {post : PO} {v : Int} (hv : InR v) (h0 : 0 ≤ m 3 0 3) (h1 : m 3 0 3 ≤ 12) (K1 : 0 ≤ v → v < m 3 0 3 → post (some (vi 1)) m n) (K0 : v < 0 ∨ m 3 0 3 ≤ v → post (some (vi 0)) m n) : CM Γ (d + 1) 65 [vr 1 0, vi v] m n post := by
  refine e65 (b65_0 ?_)
  refine c_isWithin hv (ir (by omega) (by omega)) (ir (by omega) (by omega)) (fun h1 h2 => ?_) (fun h => ?_)
  · exact b65_14 (Or.inr rfl) (K1 h1 (by omega))
  · exact b65_14 (Or.inl rfl) (K0 (by omega))
theorem c_isPage {Γ : GG} {d : Nat} {m : MI} {n : ML} {post : PO} {v : Int} (hv : InR v) (h0 : 0 ≤ m 3 0 0) (h1 : m 3 0 0 ≤ 5) (K1 : 0 ≤ v → v < m 3 0 0 → post (some (vi 1)) m n) (K0 : v < 0 ∨ m 3 0 0 ≤ v → post (some (vi 0)) m n) : CM Γ (d + 1) 66 [vr 1 0, vi v] m n post := by
  refine e66 (b66_0 ?_)
  refine c_isWithin hv (ir (by omega) (by omega)) (ir (by omega) (by omega)) (fun h1 h2 => ?_) (fun h => ?_)
  · exact b66_14 (Or.inr rfl) (K1 h1 (by omega))
  · exact b66_14 (Or.inl rfl) (K0 (by omega))
theorem c_hasEdition {Γ : GG} {d : Nat} {m : MI} {n : ML} {post : PO} (h0 : InR (m 10 0 0)) (K1 : 0 < m 10 0 0 → post (some (vi 1)) m n) (K0 : ¬ 0 < m 10 0 0 → post (some (vi 0)) m n) : CM Γ d 67 [vr 1 0] m n post := by
  refine e67 (b67_0 h0 (fun h => ?_) (fun h => ?_))
  · exact b67_17 (b67_18 (Or.inl rfl) (K0 h))
  · exact b67_13 (b67_18 (Or.inr rfl) (K1 h))
theorem c_linesOf {Γ : GG} {d : Nat} {m : MI} {n : ML} {post : PO} {p i j : Int} (hi : 0 ≤ i ∧ i < 12) (hj : 0 ≤ j ∧ j < 8) (K : post (some (vi (m 7 p (i * 8 + j)))) m n) : CM Γ d 31 [vr 3 p, vi i, vi j] m n post :=
  e31 (b31_0 (by omega) K)
theorem c_linesOfParagraphs {Γ : GG} {d : Nat} {m : MI} {n : ML} {post : PO} {p i a c : Int} (hi : 0 ≤ i ∧ i < 12) (ha : 0 ≤ a) (hc : 0 ≤ c) (hac : a + c ≤ 8) (K : post (some (vi (Sm (fun j => m 7 p (i * 8 + j)) a (a + c)))) m n) : CM Γ d 32 [vr 3 p, vi i, vi a, vi c] m n post := by
  refine e32 (b32_0 ?_)
  have key : AM Γ d 32 12 [some (vr 3 p), some (vi i), some (vi a), some (vi c), some (vi (i * 8)), some (vi (Sm (fun j => m 7 p (i * 8 + j)) a a)), some (vi a)] [] m n post := by
    refine up_ind (P := fun x => AM Γ d 32 12 [some (vr 3 p), some (vi i), some (vi a), some (vi c), some (vi (i * 8)), some (vi (Sm (fun j => m 7 p (i * 8 + j)) a x)), some (vi x)] [] m n post) a (a + c) (by omega) ?_ (fun x h1 h2 ih => ?_)
    · exact b32_12 (by omega) (by omega) (fun _ => b32_41 K) (fun h => absurd h (by omega))
    · refine b32_12 (by omega) (by omega) (fun h => absurd h2 h) (fun _ => b32_20 (by omega) ?_)
      rw [← Sm_succ (f := fun j => m 7 p (i * 8 + j)) h1]
      exact ih
  rw [Sm_nil (Int.le_refl a)] at key
  exact key
/-- the lines of a piece with its jump lines -/
def szP (m : MI) (p i a c : Int) : Int := Sm (fun j => m 7 p (i * 8 + j)) a (a + c) + (if 0 < a then 1 else 0) + (if a + c < m 6 p i then 1 else 0)
theorem c_sizeOfPiece {Γ : GG} {d : Nat} {m : MI} {n : ML} {post : PO} {p i a c : Int} (hi : 0 ≤ i ∧ i < 12) (ha : 0 ≤ a) (hc : 0 ≤ c) (hac : a + c ≤ 8) (h6 : InR (m 6 p i)) (K : post (some (vi (szP m p i a c))) m n) : CM Γ (d + 1) 33 [vr 3 p, vi i, vi a, vi c] m n post := by
  refine e33 (b33_0 ?_)
  refine c_linesOfParagraphs hi ha hc hac ?_
  unfold szP at K
  refine b33_7 (by omega) (fun h => ?_) (fun h => b33_13 ?_)
  · rw [if_neg h] at K
    refine b33_16 hi (by omega) h6 (fun g => ?_) (fun g => b33_28 ?_)
    · rw [if_neg g] at K
      refine b33_31 ?_
      simpa using K
    · rw [if_pos g] at K
      refine b33_31 ?_
      simpa using K
  · rw [if_pos h] at K
    refine b33_16 hi (by omega) h6 (fun g => ?_) (fun g => b33_28 ?_)
    · rw [if_neg g] at K
      refine b33_31 ?_
      simpa using K
    · rw [if_pos g] at K
      exact b33_31 K
/-- how many are alive -/
def alN (al : Int → Int) (c : Int) : Int := Sm (fun j => if al j = 0 then 0 else 1) 0 c
theorem c_aliveCount {Γ : GG} {d : Nat} {m : MI} {n : ML} {post : PO} {p : Int} (h0 : 0 ≤ m 3 p 3) (h1 : m 3 p 3 ≤ 12) (K : post (some (vi (alN (m 8 p) (m 3 p 3)))) m n) : CM Γ d 34 [vr 3 p] m n post := by
  refine e34 (AM.w0 fun _ hB _ => b34_0 ?_)
  have key : AM Γ d 34 4 [some (vr 3 p), some (vi (alN (m 8 p) 0)), some (vi 0)] [] m n post := by
    refine up_ind (P := fun x => AM Γ d 34 4 [some (vr 3 p), some (vi (alN (m 8 p) x)), some (vi x)] [] m n post) 0 (m 3 p 3) h0 ?_ (fun x g1 g2 ih => ?_)
    · exact b34_4 (by omega) (by omega) (fun _ => b34_30 K) (fun h => absurd h (by omega))
    · have hb := hB 8 p x rfl
      refine b34_4 (by omega) (by omega) (fun h => absurd g2 h) (fun _ => ?_)
      unfold alN at ih ⊢
      rw [Sm_succ g1] at ih
      refine b34_12 (by omega) (by omega) (fun h => ?_) (fun h => b34_21 ?_)
      · rw [if_pos h, Int.add_zero] at ih
        exact b34_24 ih
      · rw [if_neg h] at ih
        exact b34_24 ih
  unfold alN at key
  rw [Sm_nil (Int.le_refl 0)] at key
  exact key
/-- a goes ahead of b -/
abbrev ahd (rk : Int → Int) (a b : Int) : Prop := rk a < rk b ∨ (rk a = rk b ∧ a < b)
theorem c_goesAhead {Γ : GG} {d : Nat} {m : MI} {n : ML} {post : PO} {p a b : Int} (ha : 0 ≤ a ∧ a < 12) (hb : 0 ≤ b ∧ b < 12) (h1 : InR (m 4 p a)) (h2 : InR (m 4 p b)) (K1 : ahd (m 4 p) a b → post (some (vi 1)) m n) (K0 : ¬ ahd (m 4 p) a b → post (some (vi 0)) m n) : CM Γ d 36 [vr 3 p, vi a, vi b] m n post := by
  refine e36 (b36_0 ha hb h1 h2 (fun h => ?_) (fun h => ?_))
  · exact b36_35 (b36_40 (Or.inr rfl) (K1 (Or.inl h)))
  · refine b36_15 ha hb h1 h2 (fun g => ?_) (fun g => ?_)
    · exact b36_39 (b36_40 (Or.inl rfl) (K0 (by rintro (q | q); exact h q; exact g q.1)))
    · refine b36_30 (by omega) (by omega) (fun f => ?_) (fun f => ?_)
      · exact b36_39 (b36_40 (Or.inl rfl) (K0 (by rintro (q | q); exact h q; exact f q.2)))
      · exact b36_35 (b36_40 (Or.inr rfl) (K1 (Or.inr ⟨g, f⟩)))
/-- how many stories that are alive go ahead of one -/
def ahN (rk al : Int → Int) (c i : Int) : Int := Sm (fun j => if al j = 0 then 0 else if ahd rk j i then 1 else 0) 0 c
theorem c_aliveAheadOf {Γ : GG} {d : Nat} {m : MI} {n : ML} {post : PO} {p i : Int} (hi : 0 ≤ i ∧ i < 12) (h0 : 0 ≤ m 3 p 3) (h1 : m 3 p 3 ≤ 12) (hr : ∀ j, 0 ≤ j → j < m 3 p 3 → InR (m 4 p j)) (hri : InR (m 4 p i)) (K : post (some (vi (ahN (m 4 p) (m 8 p) (m 3 p 3) i))) m n) : CM Γ (d + 1) 35 [vr 3 p, vi i] m n post := by
  refine e35 (AM.w0 fun _ hB _ => b35_0 ?_)
  have key : AM Γ (d + 1) 35 4 [some (vr 3 p), some (vi i), some (vi (ahN (m 4 p) (m 8 p) 0 i)), some (vi 0)] [] m n post := by
    refine up_ind (P := fun x => AM Γ (d + 1) 35 4 [some (vr 3 p), some (vi i), some (vi (ahN (m 4 p) (m 8 p) x i)), some (vi x)] [] m n post) 0 (m 3 p 3) h0 ?_ (fun x g1 g2 ih => ?_)
    · exact b35_4 (by omega) (by omega) (fun _ => b35_39 K) (fun h => absurd h (by omega))
    · have hb := hB 8 p x rfl
      refine b35_4 (by omega) (by omega) (fun h => absurd g2 h) (fun _ => ?_)
      unfold ahN at ih ⊢
      rw [Sm_succ g1] at ih
      refine b35_12 (by omega) (by omega) (fun h => ?_) (fun h => b35_21 ?_)
      · rw [if_pos h, Int.add_zero] at ih
        exact b35_33 ih
      · rw [if_neg h] at ih
        refine c_goesAhead (by omega) hi (hr x g1 g2) hri (fun f => ?_) (fun f => ?_)
        · rw [if_pos f] at ih
          exact b35_27 (by omega) (fun q => absurd q (by decide)) (fun _ => b35_30 (b35_33 ih))
        · rw [if_neg f, Int.add_zero] at ih
          exact b35_27 (by omega) (fun _ => b35_33 ih) (fun q => absurd rfl q)
  unfold ahN at key
  rw [Sm_nil (Int.le_refl 0)] at key
  exact key
