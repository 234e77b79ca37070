-- the text: tokens of both readers
def dg (C : Int → Int) (N p : Int) : Prop := p < N ∧ 48 ≤ C p ∧ C p ≤ 57
/-- spaces are skipped -/
def SkR (C : Int → Int) (N r q : Int) : Prop := r ≤ q ∧ q ≤ N ∧ (∀ j, r ≤ j → j < q → C j = 32) ∧ (q < N → C q ≠ 32)
theorem SkR.uniq {C : Int → Int} {N r q q' : Int} (h : SkR C N r q) (h' : SkR C N r q') : q = q' := by
  obtain ⟨a1, a2, a3, a4⟩ := h
  obtain ⟨b1, b2, b3, b4⟩ := h'
  rcases (show q < q' ∨ q = q' ∨ q' < q by omega) with z | z | z
  · exact absurd (b3 q a1 z) (a4 (by omega))
  · exact z
  · exact absurd (a3 q' b1 z) (b4 (by omega))
/-- a good number and the place behind it -/
def NumG (C : Int → Int) (N p lo hi v e : Int) : Prop := dg C N p ∧ ((¬ dg C N (p + 1) ∧ v = C p - 48 ∧ e = p + 1) ∨ (dg C N (p + 1) ∧ C p ≠ 48 ∧ v = (C p - 48) * 10 + C (p + 1) - 48 ∧ e = p + 2)) ∧ lo ≤ v ∧ v ≤ hi
theorem NumG.uniq {C : Int → Int} {N p lo hi v e v' e' : Int} (h : NumG C N p lo hi v e) (h' : NumG C N p lo hi v' e') : v = v' ∧ e = e' := by
  obtain ⟨a1, a2, a3⟩ := h
  obtain ⟨b1, b2, b3⟩ := h'
  rcases a2 with ⟨x1, x2, x3⟩ | ⟨x1, x2, x3, x4⟩ <;> rcases b2 with ⟨y1, y2, y3⟩ | ⟨y1, y2, y3, y4⟩
  · omega
  · exact absurd y1 x1
  · exact absurd x1 y1
  · omega
theorem NumG.bd {C : Int → Int} {N p lo hi v e : Int} (h : NumG C N p lo hi v e) : p < N ∧ p + 1 ≤ e ∧ e ≤ N ∧ 0 ≤ v ∧ v ≤ 99 ∧ lo ≤ v ∧ v ≤ hi := by
  obtain ⟨a1, a2, a3⟩ := h
  obtain ⟨c1, c2, c3⟩ := a1
  rcases a2 with ⟨x1, x2, x3⟩ | ⟨x1, x2, x3, x4⟩
  · omega
  · obtain ⟨d1, d2, d3⟩ := x1
    omega
theorem NumG.no {C : Int → Int} {N p hi v e : Int} : ¬ NumG C N p 100 hi v e := fun h => by
  have := h.bd
  omega
def TxC (C : Int → Int) (N : Int) (m : MI) : Prop := (0 ≤ N ∧ N ≤ 120) ∧ m 19 0 0 = N ∧ ∀ i, 0 ≤ i → i < N → m 20 0 i = C i ∧ 0 ≤ C i ∧ C i ≤ 255
def TxR (C : Int → Int) (N : Int) (m : MI) : Prop := m 25 0 4 = N ∧ ∀ i, 0 ≤ i → i < N → m 28 0 i = byt (C i)
/-- the class moves in its text alone -/
def FrP (m m' : MI) : Prop := (∀ k, k ≠ 19 → m' k = m k) ∧ m' 19 0 0 = m 19 0 0
theorem FrP.refl {m : MI} : FrP m m := ⟨fun _ _ => rfl, rfl⟩
theorem FrP.trans {m m1 m2 : MI} (h : FrP m m1) (g : FrP m1 m2) : FrP m m2 := ⟨fun k z => by rw [g.1 k z, h.1 k z], by rw [g.2, h.2]⟩
theorem FrP.tx {C : Int → Int} {N : Int} {m m' : MI} (h : FrP m m') (t : TxC C N m) : TxC C N m' := ⟨t.1, by rw [h.2]; exact t.2.1, by rw [h.1 20 (by omega)]; exact t.2.2⟩
theorem up19 {m : MI} {w v j : Int} : up m 19 0 w v 19 0 j = if j = w then v else m 19 0 j := by simp [up_rd]
theorem FrP.up {m : MI} {f v : Int} (hf : f ≠ 0) : FrP m (up m 19 0 f v) := ⟨fun k z => up_k z, by rw [up19, if_neg (by omega)]⟩
/-- the reference moves in its text alone -/
def FrQ (m m' : MI) : Prop := (∀ k, k ≠ 25 → m' k = m k) ∧ ∀ f, f ≠ 6 → f ≠ 7 → m' 25 0 f = m 25 0 f
theorem FrQ.refl {m : MI} : FrQ m m := ⟨fun _ _ => rfl, fun _ _ _ => rfl⟩
theorem FrQ.trans {m m1 m2 : MI} (h : FrQ m m1) (g : FrQ m1 m2) : FrQ m m2 := ⟨fun k z => by rw [g.1 k z, h.1 k z], fun f z1 z2 => by rw [g.2 f z1 z2, h.2 f z1 z2]⟩
theorem FrQ.tx {C : Int → Int} {N : Int} {m m' : MI} (h : FrQ m m') (t : TxR C N m) : TxR C N m' := ⟨by rw [h.2 4 (by omega) (by omega)]; exact t.1, by rw [h.1 28 (by omega)]; exact t.2⟩
theorem up25 {m : MI} {w v j : Int} : up m 25 0 w v 25 0 j = if j = w then v else m 25 0 j := by simp [up_rd]
theorem FrQ.up {m : MI} {f v : Int} (hf : f = 6 ∨ f = 7) : FrQ m (up m 25 0 f v) := ⟨fun k z => up_k z, fun g g1 g2 => by rw [up25, if_neg (by omega)]⟩
theorem c_hasFailed {Γ : GG} {d : Nat} {m : MI} {n : ML} {post : PO} (hw : InR (m 19 0 3)) (K1 : m 19 0 3 ≠ -1 → post (some (vi 1)) m n) (K0 : m 19 0 3 = -1 → post (some (vi 0)) m n) : CM Γ d 56 [vr 19 0] m n post :=
  e56 (b56_0 hw (fun h => b56_12 (b56_13 (Or.inl rfl) (K0 h))) (fun h => b56_8 (b56_13 (Or.inr rfl) (K1 h))))
theorem c_isAt {Γ : GG} {d : Nat} {m : MI} {n : ML} {post : PO} {C : Int → Int} {N x c : Int} (hT : TxC C N m) (hx : InR x) (hc : InR c) (K1 : 0 ≤ x → x < N → C x = c → post (some (vi 1)) m n) (K0 : ¬ (0 ≤ x ∧ x < N ∧ C x = c) → post (some (vi 0)) m n) : CM Γ d 53 [vr 19 0, vi x, vi c] m n post := by
  obtain ⟨t1, t2, t3⟩ := hT
  have no : ¬ (0 ≤ x ∧ x < N ∧ C x = c) → AM Γ d 53 26 [some (vr 19 0), some (vi x), some (vi c)] [] m n post := fun q => b53_26 (b53_27 (Or.inl rfl) (K0 q))
  refine e53 (b53_0 hx (fun h => no (by omega)) (fun h => b53_4 hx (by omega) (fun g => no (by omega)) (fun g => ?_)))
  obtain ⟨u1, u2, u3⟩ := t3 x (by omega) (by omega)
  exact b53_12 (by omega) (by omega) hc (fun z => no (fun y => z (by rw [u1]; exact y.2.2))) (fun z => b53_22 (b53_27 (Or.inr rfl) (K1 (by omega) (by omega) (by rw [← u1]; exact z))))
theorem c_isDigitAt {Γ : GG} {d : Nat} {m : MI} {n : ML} {post : PO} {C : Int → Int} {N x : Int} (hT : TxC C N m) (hx : 0 ≤ x ∧ x ≤ 1000) (K1 : dg C N x → post (some (vi 1)) m n) (K0 : ¬ dg C N x → post (some (vi 0)) m n) : CM Γ (d + 1) 54 [vr 19 0, vi x] m n post := by
  obtain ⟨t1, t2, t3⟩ := hT
  have no : ¬ dg C N x → AM Γ (d + 1) 54 32 [some (vr 19 0), some (vi x)] [] m n post := fun q => b54_32 (b54_33 (Or.inl rfl) (K0 q))
  refine e54 (b54_0 (by omega) (fun h => absurd h (by omega)) (fun h => b54_4 (by omega) (by omega) (fun g => no (fun q => by have := q.1; omega)) (fun g => ?_)))
  obtain ⟨u1, u2, u3⟩ := t3 x (by omega) (by omega)
  refine b54_12 (by omega) (c_isWithin (ir (by omega) (by omega)) (ir (by omega) (by omega)) (ir (by omega) (by omega)) (fun z1 z2 => ?_) (fun z => ?_))
  · exact b54_25 (by omega) (fun z => absurd z (by omega)) (fun _ => b54_28 (b54_33 (Or.inr rfl) (K1 ⟨by omega, by omega, by omega⟩)))
  · exact b54_25 (by omega) (fun _ => no (fun q => by have := q.2; omega)) (fun z => absurd rfl z)
theorem c_failAt {Γ : GG} {d : Nat} {m : MI} {n : ML} {post : PO} {x : Int} (hw : InR (m 19 0 3)) (K1 : m 19 0 3 ≠ -1 → post none m n) (K0 : m 19 0 3 = -1 → post none (up m 19 0 3 x) n) : CM Γ (d + 1) 55 [vr 19 0, vi x] m n post :=
  e55 (b55_0 (c_hasFailed hw (fun h => b55_4 (by omega) (fun _ => b55_12 (K1 h)) (fun z => absurd z (by omega))) (fun h => b55_4 (by omega) (fun z => absurd rfl z) (fun _ => b55_7 (b55_12 (K0 h))))))
theorem c_skipSpaces {Γ : GG} {d : Nat} {m : MI} {n : ML} {post : PO} {C : Int → Int} {N p : Int} (hT : TxC C N m) (hp : m 19 0 2 = p) (p0 : 0 ≤ p ∧ p ≤ N) (K : ∀ q m', SkR C N p q → FrP m m' → m' 19 0 2 = q → m' 19 0 3 = m 19 0 3 → post none m' n) : CM Γ (d + 1) 52 [vr 19 0] m n post := by
  have hN := hT.1
  refine e52 ?_
  have key := up_ind (P := fun x => ∀ mm, FrP m mm → mm 19 0 2 = x → mm 19 0 3 = m 19 0 3 → (∀ j, p ≤ j → j < x → C j = 32) → AM Γ (d + 1) 52 0 [some (vr 19 0)] [] mm n post) p N p0.2 ?_ ?_
  · exact key m FrP.refl hp rfl (fun j j1 j2 => by omega)
  · intro mm f1 f2 f3 f4
    have t := f1.tx hT
    have t2 := t.2.1
    exact b52_0 (by omega) (by omega) (fun _ => b52_37 (K N mm ⟨p0.2, Int.le_refl _, f4, fun z => absurd z (by omega)⟩ f1 f2 f3)) (fun z => absurd z (by omega))
  · intro x x1 x2 ih mm f1 f2 f3 f4
    have t := f1.tx hT
    have t2 := t.2.1
    refine b52_0 (by omega) (by omega) (fun z => absurd (show mm 19 0 2 < mm 19 0 0 by omega) z) (fun _ => b52_11 (c_isAt t (ir (by omega) (by omega)) (ir (by omega) (by omega)) (fun z1 z2 z3 => ?_) (fun z => ?_)))
    · rw [f2] at z3
      refine b52_21 (by omega) (fun z => absurd z (by omega)) (fun _ => b52_24 (ih _ (f1.trans (FrP.up (by omega))) (by rw [up19, if_pos rfl, f2]) (by rw [up19, if_neg (by omega), f3]) (fun j j1 j2 => ?_)))
      rcases (show j < x ∨ j = x by omega) with u | u
      · exact f4 j j1 u
      · rw [u]; exact z3
    · rw [f2] at z
      exact b52_21 (by omega) (fun _ => b52_37 (K x mm ⟨x1, by omega, f4, fun _ y => z ⟨by omega, x2, y⟩⟩ f1 f2 f3)) (fun z => absurd rfl z)
theorem c_readSign {Γ : GG} {d : Nat} {m : MI} {n : ML} {post : PO} {C : Int → Int} {N p c : Int} (hT : TxC C N m) (hp : m 19 0 2 = p) (p0 : 0 ≤ p ∧ p ≤ N) (hw : InR (m 19 0 3)) (hc : InR c)
    (Kf : m 19 0 3 ≠ -1 → ∀ m', FrP m m' → m' 19 0 3 = m 19 0 3 → (0 ≤ m' 19 0 2 ∧ m' 19 0 2 ≤ N) → post none m' n)
    (K1 : m 19 0 3 = -1 → p < N → C p = c → ∀ q m', SkR C N (p + 1) q → FrP m m' → m' 19 0 2 = q → m' 19 0 3 = -1 → post none m' n)
    (K0 : m 19 0 3 = -1 → ¬ (p < N ∧ C p = c) → ∀ m', FrP m m' → m' 19 0 3 = p → (0 ≤ m' 19 0 2 ∧ m' 19 0 2 ≤ N) → post none m' n) : CM Γ (d + 2) 51 [vr 19 0, vi c] m n post := by
  have hN := hT.1
  refine e51 (b51_0 ?_)
  rw [hp]
  refine c_isAt hT (ir (by omega) (by omega)) hc (fun z1 z2 z3 => ?_) (fun z => ?_)
  · refine b51_9 (by omega) (fun _ => b51_21 (c_skipSpaces (C := C) (N := N) (p := p + 1) ((FrP.up (by omega)).tx hT) (by rw [up19, if_pos rfl, hp]) ⟨by omega, by omega⟩ (fun q m' s1 s2 s3 s4 => b51_35 ?_))) (fun z => absurd z (by omega))
    rw [up19, if_neg (by omega)] at s4
    have f := (FrP.up (m := m) (f := 2) (v := m 19 0 2 + 1) (by omega)).trans s2
    have sb := s1.1
    have sb2 := s1.2.1
    by_cases w : m 19 0 3 = -1
    · exact K1 w z2 z3 q m' s1 f s3 (by rw [s4, w])
    · exact Kf w m' f s4 (by omega)
  · refine b51_9 (by omega) (fun z => absurd rfl z) (fun _ => b51_12 ?_)
    rw [hp]
    refine c_failAt hw (fun w => b51_20 (Kf w m FrP.refl rfl (by omega))) (fun w => b51_20 (K0 w (fun y => z ⟨by omega, y⟩) _ (FrP.up (by omega)) (by rw [up19, if_pos rfl]) (by rw [up19, if_neg (by omega)]; omega)))
set_option maxHeartbeats 4000000 in
theorem c_readNumber {Γ : GG} {d : Nat} {m : MI} {n : ML} {post : PO} {C : Int → Int} {N p lo hi : Int} (hT : TxC C N m) (hp : m 19 0 2 = p) (p0 : 0 ≤ p ∧ p ≤ N) (hw : InR (m 19 0 3)) (hlo : InR lo) (hhi : InR hi)
    (Kf : m 19 0 3 ≠ -1 → post (some (vi 0)) m n)
    (K1 : m 19 0 3 = -1 → ∀ v e q m', NumG C N p lo hi v e → SkR C N e q → FrP m m' → m' 19 0 2 = q → m' 19 0 3 = -1 → post (some (vi v)) m' n)
    (K0 : m 19 0 3 = -1 → (∀ v e, ¬ NumG C N p lo hi v e) → ∀ x m', FrP m m' → m' 19 0 3 = p → (0 ≤ m' 19 0 2 ∧ m' 19 0 2 ≤ N) → post (some (vi x)) m' n) : CM Γ (d + 2) 50 [vr 19 0, vi lo, vi hi] m n post := by
  have hN := hT.1
  refine e50 (b50_0 ?_)
  rw [hp]
  refine c_hasFailed hw (fun w => b50_9 (by omega) (fun _ => b50_20 (c_failAt hw (fun _ => b50_25 (Kf w)) (fun z => absurd z w))) (fun z => absurd z (by omega))) (fun w => b50_9 (by omega) (fun z => absurd rfl z) (fun _ => b50_12 (c_isDigitAt hT ⟨by omega, by omega⟩ (fun dp => ?_) (fun dp => ?_))))
  · obtain ⟨u1, u2, u3⟩ := hT.2.2 p p0.1 dp.1
    have d1 := dp.1
    have d2 := dp.2
    refine b50_17 (by omega) (fun _ => b50_27 (by omega) (b50_50 ?_)) (fun z => absurd z (by omega))
    rw [hp, u1]
    generalize hm1 : up m 19 0 2 (p + 1) = m1
    have f1 : FrP m m1 := by rw [← hm1]; exact FrP.up (by omega)
    have T1 := f1.tx hT
    have g2 : m1 19 0 2 = p + 1 := by rw [← hm1, up19, if_pos rfl]
    have g3 : m1 19 0 3 = -1 := by rw [← hm1, up19, if_neg (by omega), w]
    clear hm1
    rw [g2]
    -- behind the digits
    have tail : ∀ (v e x5 : Int) (m2 : MI), FrP m m2 → m2 19 0 2 = e → m2 19 0 3 = -1 → (p + 1 ≤ e ∧ e ≤ N) → (-100 ≤ v ∧ v ≤ 1000) → (x5 = 0 ∨ x5 = 1) → ((x5 = 0 ∨ C p ≠ 48) → lo ≤ v → v ≤ hi → NumG C N p lo hi v e) → ((∃ v' e', NumG C N p lo hi v' e') → (x5 = 0 ∨ C p ≠ 48) ∧ lo ≤ v ∧ v ≤ hi) → AM Γ (d + 2) 50 93 [some (vr 19 0), some (vi lo), some (vi hi), some (vi p), some (vi v), some (vi x5)] [] m2 n post := by
      intro v e x5 m2 f2 h2 h3 he hv h5 good only
      have T2 := f2.tx hT
      have bad : ¬ ((x5 = 0 ∨ C p ≠ 48) ∧ lo ≤ v ∧ v ≤ hi) → AM Γ (d + 2) 50 118 [some (vr 19 0), some (vi lo), some (vi hi), some (vi p), some (vi v), some (vi x5)] [] m2 n post := by
        intro nb
        refine b50_118 (c_failAt (by rw [h3]; exact ir (by omega) (by omega)) (fun z => absurd h3 z) (fun _ => b50_123 (c_skipSpaces (C := C) (N := N) (p := e) ((FrP.up (by omega)).tx T2) (by rw [up19, if_neg (by omega), h2]) ⟨by omega, by omega⟩ (fun q m' s1 s2 s3 s4 => b50_127 (K0 w (fun v' e' z => nb (only ⟨v', e', z⟩)) v m' ((f2.trans (FrP.up (by omega))).trans s2) ?_ ?_)))))
        · rw [s4, up19, if_pos rfl]
        · have sb := s1.1
          have sb2 := s1.2.1
          omega
      have ok : (x5 = 0 ∨ C p ≠ 48) → lo ≤ v → v ≤ hi → AM Γ (d + 2) 50 123 [some (vr 19 0), some (vi lo), some (vi hi), some (vi p), some (vi v), some (vi x5)] [] m2 n post := by
        intro q1 q2 q3
        exact b50_123 (c_skipSpaces T2 h2 ⟨by omega, by omega⟩ (fun q m' s1 s2 s3 s4 => b50_127 (K1 w v e q m' (good q1 q2 q3) s1 (f2.trans s2) s3 (by rw [s4, h3]))))
      refine b50_93 (c_isWithin (ir (by omega) (by omega)) hlo hhi (fun q2 q3 => ?_) (fun q => ?_))
      · refine b50_100 (by omega) (fun z => absurd z (by omega)) (fun _ => b50_103 (by omega) (fun z => ok (Or.inl z) q2 q3) (fun z => b50_108 (c_isAt T2 (ir (by omega) (by omega)) (ir (by omega) (by omega)) (fun z1 z2 z3 => ?_) (fun z1 => ?_))))
        · exact b50_115 (by omega) (fun z4 => absurd z4 (by omega)) (fun _ => bad (fun y => y.1.elim z (fun y1 => y1 z3)))
        · exact b50_115 (by omega) (fun _ => ok (Or.inr (fun y => z1 ⟨by omega, by omega, y⟩)) q2 q3) (fun z4 => absurd rfl z4)
      · exact b50_100 (by omega) (fun _ => bad (fun y => by omega)) (fun z => absurd rfl z)
    refine c_isDigitAt T1 ⟨by omega, by omega⟩ (fun dq => ?_) (fun dq => ?_)
    · obtain ⟨y1, y2, y3⟩ := T1.2.2 (p + 1) (by omega) dq.1
      have e1 := dq.1
      have e2 := dq.2
      refine b50_56 (by omega) (fun z => absurd z (by omega)) (fun _ => b50_63 (by omega) ?_)
      rw [g2, y1]
      refine tail _ (p + 1 + 1) 1 _ (f1.trans (FrP.up (by omega))) (by rw [up19, if_pos rfl]) (by rw [up19, if_neg (by omega), g3]) ⟨by omega, by omega⟩ ⟨by omega, by omega⟩ (Or.inr rfl) (fun q1 q2 q3 => ⟨dp, Or.inr ⟨dq, q1.resolve_left (by omega), rfl, by omega⟩, q2, q3⟩) (fun ⟨v', e', a1, a2, a3⟩ => ?_)
      rcases a2 with ⟨x1, x2, x3⟩ | ⟨x1, x2, x3, x4⟩
      · exact absurd dq x1
      · exact ⟨Or.inr x2, by omega, by omega⟩
    · refine b50_56 (by omega) (fun _ => ?_) (fun z => absurd rfl z)
      refine tail _ (p + 1) 0 m1 f1 g2 g3 ⟨by omega, by omega⟩ ⟨by omega, by omega⟩ (Or.inl rfl) (fun q1 q2 q3 => ⟨dp, Or.inl ⟨dq, rfl, rfl⟩, q2, q3⟩) (fun ⟨v', e', a1, a2, a3⟩ => ?_)
      rcases a2 with ⟨x1, x2, x3⟩ | ⟨x1, x2, x3, x4⟩
      · exact ⟨Or.inl rfl, by omega, by omega⟩
      · exact absurd x1 dq
  · refine b50_17 (by omega) (fun z => absurd rfl z) (fun _ => b50_20 (c_failAt hw (fun z => absurd w z) (fun _ => b50_25 (K0 w (fun v e q => dp q.1) 0 _ (FrP.up (by omega)) (by rw [up19, if_pos rfl]) (by rw [up19, if_neg (by omega)]; omega)))))
theorem byt_and : ∀ c : Fin 256, iop (· &&& ·) (byt (c.val : Int)) 255 = (c.val : Int) := by decide +kernel
theorem byt_code {c : Int} (h0 : 0 ≤ c) (h1 : c ≤ 255) : iop (· &&& ·) (byt c) 255 = c := by
  have := byt_and ⟨c.toNat, by omega⟩
  dsimp only at this
  rw [show ((c.toNat : Nat) : Int) = c by omega] at this
  exact this
theorem byt_is {c : Int} (h0 : 0 ≤ c) (h1 : c ≤ 255) : (-128 ≤ byt c ∧ byt c ≤ 127) ∧ (∀ x, 0 ≤ x → x < 128 → (byt c = x ↔ c = x)) ∧ ((48 ≤ byt c ∧ byt c ≤ 57) ↔ (48 ≤ c ∧ c ≤ 57)) ∧ ((48 ≤ c ∧ c ≤ 57) → byt c = c) := by
  unfold byt
  split
  · exact ⟨by omega, fun x x0 x1 => Iff.rfl, Iff.rfl, fun _ => rfl⟩
  · exact ⟨by omega, fun x x0 x1 => ⟨fun z => by omega, fun z => by omega⟩, ⟨fun z => by omega, fun z => by omega⟩, fun z => by omega⟩
theorem r_here {Γ : GG} {d : Nat} {m : MI} {n : ML} {post : PO} {C : Int → Int} {N r p : Int} (hN : 0 ≤ N ∧ N ≤ 120) (hC : ∀ i, 0 ≤ i → i < N → 0 ≤ C i ∧ C i ≤ 255) (hT : TxR C N m) (hr : m 25 0 6 = r) (r0 : 0 ≤ r) (hs : SkR C N r p) (K : ∀ m', FrQ m m' → m' 25 0 6 = p → m' 25 0 7 = m 25 0 7 → post (some (vi (if p < N then C p else -1))) m' n) : CM Γ d 118 [vr 25 0] m n post := by
  obtain ⟨s1, s2, s3, s4⟩ := hs
  refine e118 ?_
  have key := up_ind (P := fun x => ∀ mm, FrQ m mm → mm 25 0 6 = x → mm 25 0 7 = m 25 0 7 → AM Γ d 118 0 [some (vr 25 0)] [] mm n post) r p s1 ?_ ?_
  · exact key m FrQ.refl hr rfl
  · intro mm f1 f2 f3
    have t := f1.tx hT
    have t1 := t.1
    have fin : AM Γ d 118 38 [some (vr 25 0)] [] mm n post := by
      refine b118_38 (by omega) (by omega) (fun z => b118_65 (b118_66 ?_)) (fun z => b118_49 (by omega) (b118_66 ?_))
      · have := K mm f1 f2 f3
        rw [if_neg (by omega)] at this
        exact this
      · have := K mm f1 f2 f3
        rw [if_pos (by omega)] at this
        have c := hC p (by omega) (by omega)
        rw [f2, t.2 p (by omega) (by omega), byt_code c.1 c.2]
        exact this
    refine b118_0 (by omega) (by omega) (fun _ => fin) (fun z => ?_)
    have c := hC p (by omega) (by omega)
    have bb := byt_is c.1 c.2
    have e28 : mm 28 0 (mm 25 0 6) = byt (C p) := by rw [f2, t.2 p (by omega) (by omega)]
    exact b118_11 (by omega) (by omega) (fun _ => fin) (fun y => absurd ((bb.2.1 32 (by omega) (by omega)).1 (by omega)) (s4 (by omega)))
  · intro x x1 x2 ih mm f1 f2 f3
    have t := f1.tx hT
    have t1 := t.1
    have c := hC x (by omega) (by omega)
    have bb := byt_is c.1 c.2
    have e28 : mm 28 0 (mm 25 0 6) = byt (C x) := by rw [f2, t.2 x (by omega) (by omega)]
    have e32 : byt (C x) = 32 := (bb.2.1 32 (by omega) (by omega)).2 (s3 x x1 x2)
    refine b118_0 (by omega) (by omega) (fun z => absurd (show mm 25 0 6 < mm 25 0 4 by omega) z) (fun _ => b118_11 (by omega) (by omega) (fun z => absurd (show mm 28 0 (mm 25 0 6) = 32 by omega) z) (fun _ => b118_25 (ih _ (f1.trans (FrQ.up (Or.inl rfl))) (by rw [up25, if_pos rfl, f2]) (by rw [up25, if_neg (by omega), f3]))))
theorem r_isDigit {Γ : GG} {d : Nat} {m : MI} {n : ML} {post : PO} {C : Int → Int} {N r : Int} (hN : 0 ≤ N ∧ N ≤ 120) (hC : ∀ i, 0 ≤ i → i < N → 0 ≤ C i ∧ C i ≤ 255) (hT : TxR C N m) (hr : m 25 0 6 = r) (r0 : 0 ≤ r ∧ r ≤ 1000) (K1 : dg C N r → post (some (vi 1)) m n) (K0 : ¬ dg C N r → post (some (vi 0)) m n) : CM Γ (d + 1) 119 [vr 25 0] m n post := by
  have t1 := hT.1
  have no : ¬ dg C N r → AM Γ (d + 1) 119 34 [some (vr 25 0)] [] m n post := fun q => b119_34 (b119_35 (Or.inl rfl) (K0 q))
  refine e119 (b119_0 (by omega) (by omega) (fun z => no (fun q => by have := q.1; omega)) (fun z => ?_))
  have c := hC r (by omega) (by omega)
  have bb := byt_is c.1 c.2
  refine b119_11 (by omega) ?_
  rw [hr, hT.2 r (by omega) (by omega)]
  refine r_in (ir (by omega) (by omega)) (ir (by omega) (by omega)) (ir (by omega) (by omega)) (fun z1 z2 => ?_) (fun z1 => ?_)
  · exact b119_27 (by omega) (fun z => absurd z (by omega)) (fun _ => b119_30 (b119_35 (Or.inr rfl) (K1 ⟨by omega, bb.2.2.1.1 ⟨z1, z2⟩⟩)))
  · exact b119_27 (by omega) (fun _ => no (fun q => by have := bb.2.2.1.2 q.2; omega)) (fun z => absurd rfl z)
set_option maxHeartbeats 4000000 in
theorem r_reads {Γ : GG} {d : Nat} {m : MI} {n : ML} {post : PO} {C : Int → Int} {N r p lo hi : Int} (hN : 0 ≤ N ∧ N ≤ 120) (hC : ∀ i, 0 ≤ i → i < N → 0 ≤ C i ∧ C i ≤ 255) (hT : TxR C N m) (hr : m 25 0 6 = r) (r0 : 0 ≤ r) (hs : SkR C N r p) (hlo : InR lo) (hhi : InR hi) (K1 : ∀ v e m', NumG C N p lo hi v e → FrQ m m' → m' 25 0 6 = e → m' 25 0 7 = v → post (some (vi 1)) m' n) (K0 : (∀ v e, ¬ NumG C N p lo hi v e) → ∀ m', FrQ m m' → m' 25 0 6 = p → post (some (vi 0)) m' n) : CM Γ (d + 2) 120 [vr 25 0, vi lo, vi hi] m n post := by
  have s1 := hs.1
  have s2 := hs.2.1
  refine e120 (b120_0 (r_here hN hC hT hr r0 hs (fun m1 f1 g1 _ => b120_4 ?_)))
  rw [g1]
  have T1 := f1.tx hT
  by_cases dp : dg C N p
  · have d1 := dp.1
    have d2 := dp.2
    rw [if_pos d1]
    refine r_in (ir (by omega) (by omega)) (ir (by omega) (by omega)) (ir (by omega) (by omega)) (fun _ _ => b120_19 (by omega) (fun _ => b120_24 (b120_34 ?_)) (fun z => absurd z (by omega))) (fun z => by omega)
    generalize hm2 : up (up m1 25 0 7 (C p - 48)) 25 0 6 (up m1 25 0 7 (C p - 48) 25 0 6 + 1) = m2
    have f2 : FrQ m m2 := by rw [← hm2]; exact (f1.trans (FrQ.up (Or.inr rfl))).trans (FrQ.up (Or.inl rfl))
    have g2 : m2 25 0 6 = p + 1 := by rw [← hm2, up25, if_pos rfl, up25, if_neg (by omega), g1]
    have v2 : m2 25 0 7 = C p - 48 := by rw [← hm2, up25, if_neg (by omega), up25, if_pos rfl]
    clear hm2
    have T2 := f2.tx hT
    have tail : ∀ (v e : Int) (m3 : MI), FrQ m m3 → m3 25 0 6 = e → m3 25 0 7 = v → (p + 1 ≤ e ∧ e ≤ N) → (-100 ≤ v ∧ v ≤ 1000) → ((C p ≠ 48 ∨ e = p + 1) → lo ≤ v → v ≤ hi → NumG C N p lo hi v e) → ((∃ v' e', NumG C N p lo hi v' e') → (C p ≠ 48 ∨ e = p + 1) ∧ lo ≤ v ∧ v ≤ hi) → AM Γ (d + 2) 120 83 [some (vr 25 0), some (vi lo), some (vi hi), some (vi (C p)), some (vi p), none] [] m3 n post := by
      intro v e m3 f3 g3 v3 he hv good only
      have bad : ¬ ((C p ≠ 48 ∨ e = p + 1) ∧ lo ≤ v ∧ v ≤ hi) → AM Γ (d + 2) 120 116 [some (vr 25 0), some (vi lo), some (vi hi), some (vi (C p)), some (vi p), none] [] m3 n post := fun nb =>
        b120_116 (b120_117 (by omega) (fun _ => b120_132 (b120_134 (Or.inl rfl) (K0 (fun v' e' z => nb (only ⟨v', e', z⟩)) _ (f3.trans (FrQ.up (Or.inl rfl))) (by rw [up25, if_pos rfl])))) (fun z => absurd rfl z))
      have next : (C p ≠ 48 ∨ e = p + 1) → AM Γ (d + 2) 120 100 [some (vr 25 0), some (vi lo), some (vi hi), some (vi (C p)), some (vi p), none] [] m3 n post := by
        intro q1
        refine b120_100 ?_
        rw [v3]
        refine r_in (ir (by omega) (by omega)) hlo hhi (fun q2 q3 => ?_) (fun q => ?_)
        · refine b120_109 (by omega) (fun z => absurd z (by omega)) (fun _ => b120_112 (b120_117 (by omega) (fun z => absurd z (by omega)) (fun _ => b120_125 ?_)))
          rw [g3]
          exact b120_134 (Or.inr rfl) (K1 v e _ (good q1 q2 q3) (f3.trans (FrQ.up (Or.inl rfl))) (by rw [up25, if_pos rfl]) (by rw [up25, if_neg (by omega), v3]))
        · exact b120_109 (by omega) (fun _ => bad (fun y => by omega)) (fun z => absurd rfl z)
      refine b120_83 (by omega) (fun z => next (Or.inl z)) (fun z => b120_89 (by omega) (by omega) (fun y => bad (fun x => x.1.elim (fun x1 => x1 z) (fun x1 => y (by omega)))) (fun y => next (Or.inr (by omega))))
    refine r_isDigit hN hC T2 g2 ⟨by omega, by omega⟩ (fun dq => ?_) (fun dq => ?_)
    · have e1 := dq.1
      have e2 := dq.2
      have c := hC (p + 1) (by omega) e1
      have bb := (byt_is c.1 c.2).2.2.2 e2
      refine b120_46 (by omega) (fun z => absurd z (by omega)) (fun _ => b120_49 (by omega) (b120_75 ?_))
      refine tail ((C p - 48) * 10 + C (p + 1) - 48) (p + 1 + 1) _ ((f2.trans (FrQ.up (Or.inr rfl))).trans (FrQ.up (Or.inl rfl))) (by rw [up25, if_pos rfl, up25, if_neg (by omega), g2]) ?_ ⟨by omega, by omega⟩ ⟨by omega, by omega⟩ (fun q1 q2 q3 => ⟨dp, Or.inr ⟨dq, q1.resolve_right (by omega), rfl, by omega⟩, q2, q3⟩) (fun ⟨v', e', a1, a2, a3⟩ => ?_)
      · rw [up25, if_neg (by omega), up25, if_pos rfl, v2, g2, T2.2 (p + 1) (by omega) e1, bb]
        omega
      · rcases a2 with ⟨x1, x2, x3⟩ | ⟨x1, x2, x3, x4⟩
        · exact absurd dq x1
        · exact ⟨Or.inl x2, by omega, by omega⟩
    · refine b120_46 (by omega) (fun _ => ?_) (fun z => absurd rfl z)
      refine tail _ (p + 1) m2 f2 g2 v2 ⟨by omega, by omega⟩ ⟨by omega, by omega⟩ (fun q1 q2 q3 => ⟨dp, Or.inl ⟨dq, rfl, rfl⟩, q2, q3⟩) (fun ⟨v', e', a1, a2, a3⟩ => ?_)
      rcases a2 with ⟨x1, x2, x3⟩ | ⟨x1, x2, x3, x4⟩
      · exact ⟨Or.inr rfl, by omega, by omega⟩
      · exact absurd x1 dq
  · have cb : InR (if p < N then C p else -1) ∧ ((if p < N then C p else -1) < 48 ∨ 57 < (if p < N then C p else -1)) := by
      by_cases q : p < N
      · rw [if_pos q]
        have c := hC p (by omega) q
        refine ⟨ir (by omega) (by omega), ?_⟩
        by_cases y : C p < 48
        · exact Or.inl y
        · exact Or.inr (by
            by_cases x : 57 < C p
            · exact x
            · exact absurd ⟨q, by omega, by omega⟩ dp)
      · rw [if_neg q]
        exact ⟨ir (by omega) (by omega), Or.inl (by omega)⟩
    refine r_in cb.1 (ir (by omega) (by omega)) (ir (by omega) (by omega)) (fun z1 z2 => by have := cb.2; omega) (fun _ => b120_19 (by omega) (fun z => absurd rfl z) (fun _ => b120_22 (K0 (fun v e q => dp q.1) m1 f1 g1)))
theorem r_takes {Γ : GG} {d : Nat} {m : MI} {n : ML} {post : PO} {C : Int → Int} {N r p c : Int} (hN : 0 ≤ N ∧ N ≤ 120) (hC : ∀ i, 0 ≤ i → i < N → 0 ≤ C i ∧ C i ≤ 255) (hT : TxR C N m) (hr : m 25 0 6 = r) (r0 : 0 ≤ r) (hs : SkR C N r p) (hc : 0 ≤ c ∧ c ≤ 255) (K1 : p < N → C p = c → ∀ m', FrQ m m' → m' 25 0 6 = p + 1 → post (some (vi 1)) m' n) (K0 : ¬ (p < N ∧ C p = c) → ∀ m', FrQ m m' → m' 25 0 6 = p → post (some (vi 0)) m' n) : CM Γ (d + 1) 121 [vr 25 0, vi c] m n post := by
  have s1 := hs.1
  refine e121 (b121_0 (r_here hN hC hT hr r0 hs (fun m1 f1 g1 _ => ?_)))
  by_cases q : p < N
  · have cb := hC p (by omega) q
    rw [if_pos q]
    refine b121_4 (by omega) (by omega) (fun z => b121_12 (b121_13 (by omega) (fun _ => b121_27 (b121_28 (Or.inl rfl) ?_)) (fun y => absurd rfl y))) (fun z => b121_8 (b121_13 (by omega) (fun y => absurd y (by omega)) (fun _ => b121_23 (b121_28 (Or.inr rfl) ?_))))
    · exact K0 (fun y => z y.2) _ (f1.trans (FrQ.up (Or.inl rfl))) (by rw [up25, if_pos rfl, g1, Int.add_zero])
    · exact K1 q z _ (f1.trans (FrQ.up (Or.inl rfl))) (by rw [up25, if_pos rfl, g1])
  · rw [if_neg q]
    refine b121_4 (by omega) (by omega) (fun z => b121_12 (b121_13 (by omega) (fun _ => b121_27 (b121_28 (Or.inl rfl) ?_)) (fun y => absurd rfl y))) (fun z => absurd z (by omega))
    exact K0 (fun y => q y.1) _ (f1.trans (FrQ.up (Or.inl rfl))) (by rw [up25, if_pos rfl, g1, Int.add_zero])
