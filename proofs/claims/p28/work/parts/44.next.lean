-- the class's next piece
noncomputable abbrev pgN (m : MI) (T : Int → Int → Prop) (e p i a K H P h b : Int) : Int := pgF (fun q => gapF T K H q (szP m p i a b)) (fun q => ∃ k, 0 ≤ k ∧ k < m 11 e i ∧ m 13 e (i * 3 + k) = q) P h (if a = 0 then 1 else P.toNat) 0
theorem c_placeNextPiece {Γ : GG} {d : Nat} {m : MI} {n : ML} {post : PO} {p e i a P K H h : Int} {T : Int → Int → Prop} (hi : 0 ≤ i ∧ i < 12) (ha : 0 ≤ a) (h6 : a < m 6 p i ∧ m 6 p i ≤ 8) (hl : ∀ j, 0 ≤ j → j < m 6 p i → 0 ≤ m 7 p (i * 8 + j) ∧ m 7 p (i * 8 + j) ≤ 30) (hc : 0 ≤ m 11 e i ∧ m 11 e i ≤ 2) (hpg : ∀ k, 0 ≤ k → k < m 11 e i → InR (m 13 e (i * 3 + k))) (hP : m 3 p 0 = P) (hh : m 5 p i = h) (p0 : 2 ≤ P ∧ P ≤ 5) (h0 : 0 ≤ h ∧ h < P) (hk : m 22 0 0 = K) (hH : m 22 0 1 = H) (k0 : 1 ≤ K ∧ K ≤ 4) (H0 : 1 ≤ H ∧ H ≤ 60) (hA : AllL n H) (hT : TB n T)
    (K0 : (m 11 e i < 2 → nbF (fun b => pgN m T e p i a K H P h b ≠ -1) (m 6 p i - a).toNat = 0) → (m 11 e i = 2 → pgN m T e p i a K H P h (m 6 p i - a) = -1) → post (some (vi 0)) m n)
    (K1 : ∀ b q m', (m 11 e i < 2 → nbF (fun b => pgN m T e p i a K H P h b ≠ -1) (m 6 p i - a).toNat = b) → (m 11 e i = 2 → b = m 6 p i - a) → 1 ≤ b → b ≤ m 6 p i - a → q = pgN m T e p i a K H P h b → q ≠ -1 → Added m m' e i q (gapF T K H q (szP m p i a b)) (szP m p i a b) a b → post (some (vi b)) m' n) : CM Γ (d + 4) 21 [vr 21 0, vr 3 p, vr 10 e, vi i, vi a] m n post := by
  refine e21 (b21_0 hi hi (by omega) (fun z => b21_25 (b21_26 (by omega) (fun _ => b21_37 (b21_39 ?_)) (fun z => absurd rfl z))) (fun z => b21_21 (b21_26 (by omega) (fun z => absurd z (by omega)) (fun _ => b21_33 (b21_39 ?_)))))
  · -- the last piece takes all
    have c2 : m 11 e i = 2 := by omega
    refine b21_45 (by omega) (by omega) (fun z => absurd z (by omega)) (fun _ => b21_52 (c_placeInFirstGap hi ha (by omega) (by omega) (ir (by omega) (by omega)) (fun j j1 j2 => ?_) hc hpg hP hh p0 h0 hk hH k0 H0 hA hT (fun g => ?_) (fun q m' g1 g2 g3 => ?_)))
    · rcases (show j < m 6 p i ∨ m 6 p i ≤ j by omega) with u | u
      · exact Or.inl (hl j j1 u)
      · exact Or.inr (by omega)
    · exact b21_63 (by omega) (fun _ => b21_69 (b21_45 (by omega) (by omega) (fun _ => b21_75 (K0 (fun z => by omega) (fun _ => g))) (fun z => absurd (show m 6 p i - a + -1 < m 6 p i - a by omega) z))) (fun z => absurd rfl z)
    · exact b21_63 (by omega) (fun z => absurd z (by omega)) (fun _ => b21_66 (K1 _ q m' (fun z => by omega) (fun _ => rfl) (by omega) (Int.le_refl _) g1 g2 g3))
  · have c2 : m 11 e i < 2 := z
    have key := down_ind (P := fun y => nbF (fun b => pgN m T e p i a K H P h b ≠ -1) (m 6 p i - a).toNat = nbF (fun b => pgN m T e p i a K H P h b ≠ -1) y.toNat → y ≤ m 6 p i - a → AM Γ (d + 4) 21 45 [some (vr 21 0), some (vr 3 p), some (vr 10 e), some (vi i), some (vi a), some (vi (m 6 p i - a)), some (vi 1), some (vi 1), some (vi y)] [] m n post) 0 (m 6 p i - a) (by omega) ?_ ?_
    · exact key rfl (Int.le_refl _)
    · intro e0 _
      exact b21_45 (by omega) (by omega) (fun _ => b21_75 (K0 (fun _ => e0) (fun z => by omega))) (fun z => absurd z (by omega))
    · intro y y1 y2 ih e0 _
      have ez : y.toNat = (y - 1).toNat + 1 := by omega
      have ey : (((y - 1).toNat : Nat) : Int) + 1 = y := by omega
      refine b21_45 (by omega) (by omega) (fun z => absurd z (by omega)) (fun _ => b21_52 (c_placeInFirstGap hi ha (by omega) (by omega) (ir (by omega) (by omega)) (fun j j1 j2 => ?_) hc hpg hP hh p0 h0 hk hH k0 H0 hA hT (fun g => ?_) (fun q m' g1 g2 g3 => ?_)))
      · rcases (show j < m 6 p i ∨ m 6 p i ≤ j by omega) with u | u
        · exact Or.inl (hl j j1 u)
        · exact Or.inr (by omega)
      · have st := ih (by
          rw [e0, ez]
          conv => lhs; unfold nbF
          rw [ey, if_neg (fun w => w g)]) (by omega)
        exact b21_63 (by omega) (fun _ => b21_69 st) (fun z => absurd rfl z)
      · refine b21_63 (by omega) (fun z => absurd z (by omega)) (fun _ => b21_66 (K1 y q m' (fun _ => ?_) (fun z => by omega) (by omega) y2 g1 g2 g3))
        rw [e0, ez]
        conv => lhs; unfold nbF
        rw [ey, if_pos (fun w => g2 (by rw [g1]; exact w))]
